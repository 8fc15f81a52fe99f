theorem dX12_expected_20 : decode cX12_expected 20 = .ok (.iconst 0, 1) := by decide +kernel
theorem dX12_expected_21 : decode cX12_expected 21 = .ok (.putfield 56, 3) := by decide +kernel
theorem dX12_expected_24 : decode cX12_expected 24 = .ok (.aload_n 0, 1) := by decide +kernel
theorem dX12_expected_25 : decode cX12_expected 25 = .ok (.getfield 56, 3) := by decide +kernel
theorem dX12_expected_28 : decode cX12_expected 28 = .ok (.ifCond .le 7, 3) := by decide +kernel
theorem dX12_expected_31 : decode cX12_expected 31 = .ok (.iconst 0, 1) := by decide +kernel
theorem dX12_expected_32 : decode cX12_expected 32 = .ok (.goto 9, 3) := by decide +kernel
theorem dX12_expected_35 : decode cX12_expected 35 = .ok (.aload_n 0, 1) := by decide +kernel
theorem dX12_expected_36 : decode cX12_expected 36 = .ok (.iload_n 1, 1) := by decide +kernel
theorem dX12_expected_37 : decode cX12_expected 37 = .ok (.iload_n 2, 1) := by decide +kernel
theorem dX12_expected_38 : decode cX12_expected 38 = .ok (.invokevirtual 308, 3) := by decide +kernel
theorem dX12_expected_41 : decode cX12_expected 41 = .ok (.ireturn, 1) := by decide +kernel
theorem dX12_bestOf_0 : decode cX12_bestOf 0 = .ok (.iconst 0, 1) := by decide +kernel
theorem dX12_bestOf_1 : decode cX12_bestOf 1 = .ok (.istore_n 2, 1) := by decide +kernel
theorem dX12_bestOf_2 : decode cX12_bestOf 2 = .ok (.iconst 1, 1) := by decide +kernel
theorem dX12_bestOf_3 : decode cX12_bestOf 3 = .ok (.istore_n 3, 1) := by decide +kernel
theorem dX12_bestOf_4 : decode cX12_bestOf 4 = .ok (.iload_n 3, 1) := by decide +kernel
theorem dX12_bestOf_5 : decode cX12_bestOf 5 = .ok (.bipush 32, 2) := by decide +kernel
theorem dX12_bestOf_7 : decode cX12_bestOf 7 = .ok (.if_icmp .ge 26, 3) := by decide +kernel
theorem dX12_bestOf_10 : decode cX12_bestOf 10 = .ok (.aload_n 0, 1) := by decide +kernel
theorem dX12_bestOf_11 : decode cX12_bestOf 11 = .ok (.iload_n 1, 1) := by decide +kernel
theorem dX12_bestOf_12 : decode cX12_bestOf 12 = .ok (.iload_n 3, 1) := by decide +kernel
theorem dX12_bestOf_13 : decode cX12_bestOf 13 = .ok (.invokevirtual 308, 3) := by decide +kernel
theorem dX12_bestOf_16 : decode cX12_bestOf 16 = .ok (.aload_n 0, 1) := by decide +kernel
theorem dX12_bestOf_17 : decode cX12_bestOf 17 = .ok (.iload_n 1, 1) := by decide +kernel
theorem dX12_bestOf_18 : decode cX12_bestOf 18 = .ok (.iload_n 2, 1) := by decide +kernel
theorem dX12_bestOf_19 : decode cX12_bestOf 19 = .ok (.invokevirtual 308, 3) := by decide +kernel
theorem dX12_bestOf_22 : decode cX12_bestOf 22 = .ok (.if_icmp .ge 5, 3) := by decide +kernel
theorem dX12_bestOf_25 : decode cX12_bestOf 25 = .ok (.iload_n 3, 1) := by decide +kernel
theorem dX12_bestOf_26 : decode cX12_bestOf 26 = .ok (.istore_n 2, 1) := by decide +kernel
theorem dX12_bestOf_27 : decode cX12_bestOf 27 = .ok (.iinc 3 1, 3) := by decide +kernel
theorem dX12_bestOf_30 : decode cX12_bestOf 30 = .ok (.goto (-26), 3) := by decide +kernel
theorem dX12_bestOf_33 : decode cX12_bestOf 33 = .ok (.iload_n 2, 1) := by decide +kernel
theorem dX12_bestOf_34 : decode cX12_bestOf 34 = .ok (.ireturn, 1) := by decide +kernel
theorem dX12_best_0 : decode cX12_best 0 = .ok (.aload_n 0, 1) := by decide +kernel
theorem dX12_best_1 : decode cX12_best 1 = .ok (.aload_n 0, 1) := by decide +kernel
theorem dX12_best_2 : decode cX12_best 2 = .ok (.iload_n 1, 1) := by decide +kernel
theorem dX12_best_3 : decode cX12_best 3 = .ok (.invokevirtual 266, 3) := by decide +kernel
theorem dX12_best_6 : decode cX12_best 6 = .ok (.ifCond .ne 7, 3) := by decide +kernel
theorem dX12_best_9 : decode cX12_best 9 = .ok (.iconst 1, 1) := by decide +kernel
theorem dX12_best_10 : decode cX12_best 10 = .ok (.goto 4, 3) := by decide +kernel
theorem dX12_best_13 : decode cX12_best 13 = .ok (.iconst 0, 1) := by decide +kernel
theorem dX12_best_14 : decode cX12_best 14 = .ok (.putfield 56, 3) := by decide +kernel
theorem dX12_best_17 : decode cX12_best 17 = .ok (.aload_n 0, 1) := by decide +kernel
theorem dX12_best_18 : decode cX12_best 18 = .ok (.getfield 56, 3) := by decide +kernel
theorem dX12_best_21 : decode cX12_best 21 = .ok (.ifCond .le 7, 3) := by decide +kernel
theorem dX12_best_24 : decode cX12_best 24 = .ok (.iconst 0, 1) := by decide +kernel
theorem dX12_best_25 : decode cX12_best 25 = .ok (.goto 8, 3) := by decide +kernel
theorem dX12_best_28 : decode cX12_best 28 = .ok (.aload_n 0, 1) := by decide +kernel
theorem dX12_best_29 : decode cX12_best 29 = .ok (.iload_n 1, 1) := by decide +kernel
theorem dX12_best_30 : decode cX12_best 30 = .ok (.invokevirtual 311, 3) := by decide +kernel
theorem dX12_best_33 : decode cX12_best 33 = .ok (.ireturn, 1) := by decide +kernel
theorem dX12_dearest_0 : decode cX12_dearest 0 = .ok (.iconst 0, 1) := by decide +kernel
theorem dX12_dearest_1 : decode cX12_dearest 1 = .ok (.istore_n 2, 1) := by decide +kernel
theorem dX12_dearest_2 : decode cX12_dearest 2 = .ok (.iconst 0, 1) := by decide +kernel
theorem dX12_dearest_3 : decode cX12_dearest 3 = .ok (.istore_n 3, 1) := by decide +kernel
theorem dX12_dearest_4 : decode cX12_dearest 4 = .ok (.iload_n 3, 1) := by decide +kernel
theorem dX12_dearest_5 : decode cX12_dearest 5 = .ok (.aload_n 0, 1) := by decide +kernel
theorem dX12_dearest_6 : decode cX12_dearest 6 = .ok (.getfield 7, 3) := by decide +kernel
theorem dX12_dearest_9 : decode cX12_dearest 9 = .ok (.iconst 4, 1) := by decide +kernel
theorem dX12_dearest_10 : decode cX12_dearest 10 = .ok (.iaload, 1) := by decide +kernel
theorem dX12_dearest_11 : decode cX12_dearest 11 = .ok (.if_icmp .ge 32, 3) := by decide +kernel
theorem dX12_dearest_14 : decode cX12_dearest 14 = .ok (.iload_n 2, 1) := by decide +kernel
theorem dX12_dearest_15 : decode cX12_dearest 15 = .ok (.aload_n 0, 1) := by decide +kernel
theorem dX12_dearest_16 : decode cX12_dearest 16 = .ok (.iload_n 1, 1) := by decide +kernel
theorem dX12_dearest_17 : decode cX12_dearest 17 = .ok (.aload_n 0, 1) := by decide +kernel
theorem dX12_dearest_18 : decode cX12_dearest 18 = .ok (.getfield 7, 3) := by decide +kernel
theorem dX12_dearest_21 : decode cX12_dearest 21 = .ok (.bipush 20, 2) := by decide +kernel
theorem dX12_dearest_23 : decode cX12_dearest 23 = .ok (.iconst 3, 1) := by decide +kernel
theorem dX12_dearest_24 : decode cX12_dearest 24 = .ok (.iload_n 3, 1) := by decide +kernel
theorem dX12_dearest_25 : decode cX12_dearest 25 = .ok (.imul, 1) := by decide +kernel
theorem dX12_dearest_26 : decode cX12_dearest 26 = .ok (.iadd, 1) := by decide +kernel
theorem dX12_dearest_27 : decode cX12_dearest 27 = .ok (.iconst 1, 1) := by decide +kernel
theorem dX12_dearest_28 : decode cX12_dearest 28 = .ok (.iadd, 1) := by decide +kernel
theorem dX12_dearest_29 : decode cX12_dearest 29 = .ok (.iaload, 1) := by decide +kernel
theorem dX12_dearest_30 : decode cX12_dearest 30 = .ok (.invokevirtual 263, 3) := by decide +kernel
theorem dX12_dearest_33 : decode cX12_dearest 33 = .ok (.invokestatic 287, 3) := by decide +kernel
theorem dX12_dearest_36 : decode cX12_dearest 36 = .ok (.istore_n 2, 1) := by decide +kernel
theorem dX12_dearest_37 : decode cX12_dearest 37 = .ok (.iinc 3 1, 3) := by decide +kernel
theorem dX12_dearest_40 : decode cX12_dearest 40 = .ok (.goto (-36), 3) := by decide +kernel
theorem dX12_dearest_43 : decode cX12_dearest 43 = .ok (.iload_n 2, 1) := by decide +kernel
theorem dX12_dearest_44 : decode cX12_dearest 44 = .ok (.ireturn, 1) := by decide +kernel
theorem dX12_safest_0 : decode cX12_safest 0 = .ok (.aload_n 0, 1) := by decide +kernel
theorem dX12_safest_1 : decode cX12_safest 1 = .ok (.iconst 0, 1) := by decide +kernel
theorem dX12_safest_2 : decode cX12_safest 2 = .ok (.putfield 56, 3) := by decide +kernel
theorem dX12_safest_5 : decode cX12_safest 5 = .ok (.iconst 0, 1) := by decide +kernel
theorem dX12_safest_6 : decode cX12_safest 6 = .ok (.istore_n 2, 1) := by decide +kernel
theorem dX12_safest_7 : decode cX12_safest 7 = .ok (.iconst 1, 1) := by decide +kernel
theorem dX12_safest_8 : decode cX12_safest 8 = .ok (.istore_n 3, 1) := by decide +kernel
theorem dX12_safest_9 : decode cX12_safest 9 = .ok (.iload_n 3, 1) := by decide +kernel
theorem dX12_safest_10 : decode cX12_safest 10 = .ok (.bipush 32, 2) := by decide +kernel
theorem dX12_safest_12 : decode cX12_safest 12 = .ok (.if_icmp .ge 24, 3) := by decide +kernel
theorem dX12_safest_15 : decode cX12_safest 15 = .ok (.aload_n 0, 1) := by decide +kernel
theorem dX12_safest_16 : decode cX12_safest 16 = .ok (.iload_n 3, 1) := by decide +kernel
theorem dX12_safest_17 : decode cX12_safest 17 = .ok (.invokevirtual 314, 3) := by decide +kernel
theorem dX12_safest_20 : decode cX12_safest 20 = .ok (.aload_n 0, 1) := by decide +kernel
theorem dX12_safest_21 : decode cX12_safest 21 = .ok (.iload_n 2, 1) := by decide +kernel
theorem dX12_safest_22 : decode cX12_safest 22 = .ok (.invokevirtual 314, 3) := by decide +kernel
theorem dX12_safest_25 : decode cX12_safest 25 = .ok (.if_icmp .ge 5, 3) := by decide +kernel
theorem dX12_safest_28 : decode cX12_safest 28 = .ok (.iload_n 3, 1) := by decide +kernel
theorem dX12_safest_29 : decode cX12_safest 29 = .ok (.istore_n 2, 1) := by decide +kernel
theorem dX12_safest_30 : decode cX12_safest 30 = .ok (.iinc 3 1, 3) := by decide +kernel
theorem dX12_safest_33 : decode cX12_safest 33 = .ok (.goto (-24), 3) := by decide +kernel
theorem dX12_safest_36 : decode cX12_safest 36 = .ok (.iload_n 1, 1) := by decide +kernel
theorem dX12_safest_37 : decode cX12_safest 37 = .ok (.ifCond .eq 11, 3) := by decide +kernel
theorem dX12_safest_40 : decode cX12_safest 40 = .ok (.aload_n 0, 1) := by decide +kernel
theorem dX12_safest_41 : decode cX12_safest 41 = .ok (.iload_n 2, 1) := by decide +kernel
theorem dX12_safest_42 : decode cX12_safest 42 = .ok (.invokevirtual 314, 3) := by decide +kernel
theorem dX12_safest_45 : decode cX12_safest 45 = .ok (.goto 4, 3) := by decide +kernel
theorem dX12_safest_48 : decode cX12_safest 48 = .ok (.iload_n 2, 1) := by decide +kernel
theorem dX12_safest_49 : decode cX12_safest 49 = .ok (.ireturn, 1) := by decide +kernel
theorem dX12_odds_0 : decode cX12_odds 0 = .ok (.aload_n 0, 1) := by decide +kernel
theorem dX12_odds_1 : decode cX12_odds 1 = .ok (.aload_n 0, 1) := by decide +kernel
theorem dX12_odds_2 : decode cX12_odds 2 = .ok (.iload_n 1, 1) := by decide +kernel
theorem dX12_odds_3 : decode cX12_odds 3 = .ok (.invokevirtual 266, 3) := by decide +kernel
theorem dX12_odds_6 : decode cX12_odds 6 = .ok (.ifCond .eq 10, 3) := by decide +kernel
theorem dX12_odds_9 : decode cX12_odds 9 = .ok (.iload_n 2, 1) := by decide +kernel
theorem dX12_odds_10 : decode cX12_odds 10 = .ok (.invokestatic 260, 3) := by decide +kernel
theorem dX12_odds_13 : decode cX12_odds 13 = .ok (.ifCond .ne 7, 3) := by decide +kernel
theorem dX12_odds_16 : decode cX12_odds 16 = .ok (.iconst 1, 1) := by decide +kernel
theorem dX12_odds_17 : decode cX12_odds 17 = .ok (.goto 4, 3) := by decide +kernel
theorem dX12_odds_20 : decode cX12_odds 20 = .ok (.iconst 0, 1) := by decide +kernel
theorem dX12_odds_21 : decode cX12_odds 21 = .ok (.putfield 56, 3) := by decide +kernel
theorem dX12_odds_24 : decode cX12_odds 24 = .ok (.aload_n 0, 1) := by decide +kernel
theorem dX12_odds_25 : decode cX12_odds 25 = .ok (.getfield 56, 3) := by decide +kernel
theorem dX12_odds_28 : decode cX12_odds 28 = .ok (.ifCond .gt 12, 3) := by decide +kernel
theorem dX12_odds_31 : decode cX12_odds 31 = .ok (.aload_n 0, 1) := by decide +kernel
theorem dX12_odds_32 : decode cX12_odds 32 = .ok (.iload_n 1, 1) := by decide +kernel
theorem dX12_odds_33 : decode cX12_odds 33 = .ok (.iconst (-1), 1) := by decide +kernel
theorem dX12_odds_34 : decode cX12_odds 34 = .ok (.invokevirtual 269, 3) := by decide +kernel
theorem dX12_odds_37 : decode cX12_odds 37 = .ok (.ifCond .ne 5, 3) := by decide +kernel
theorem dX12_odds_40 : decode cX12_odds 40 = .ok (.iconst 0, 1) := by decide +kernel
theorem dX12_odds_41 : decode cX12_odds 41 = .ok (.ireturn, 1) := by decide +kernel
theorem dX12_odds_42 : decode cX12_odds 42 = .ok (.sipush 10000, 3) := by decide +kernel
theorem dX12_odds_45 : decode cX12_odds 45 = .ok (.aload_n 0, 1) := by decide +kernel
theorem dX12_odds_46 : decode cX12_odds 46 = .ok (.iload_n 1, 1) := by decide +kernel
theorem dX12_odds_47 : decode cX12_odds 47 = .ok (.iload_n 2, 1) := by decide +kernel
theorem dX12_odds_48 : decode cX12_odds 48 = .ok (.invokevirtual 269, 3) := by decide +kernel
theorem dX12_odds_51 : decode cX12_odds 51 = .ok (.imul, 1) := by decide +kernel
theorem dX12_odds_52 : decode cX12_odds 52 = .ok (.aload_n 0, 1) := by decide +kernel
theorem dX12_odds_53 : decode cX12_odds 53 = .ok (.iload_n 1, 1) := by decide +kernel
theorem dX12_odds_54 : decode cX12_odds 54 = .ok (.iconst (-1), 1) := by decide +kernel
theorem dX12_odds_55 : decode cX12_odds 55 = .ok (.invokevirtual 269, 3) := by decide +kernel
theorem dX12_odds_58 : decode cX12_odds 58 = .ok (.idiv, 1) := by decide +kernel
theorem dX12_odds_59 : decode cX12_odds 59 = .ok (.ireturn, 1) := by decide +kernel
theorem dX12_likely_0 : decode cX12_likely 0 = .ok (.lconst 1, 1) := by decide +kernel
theorem dX12_likely_1 : decode cX12_likely 1 = .ok (.lstore 4, 2) := by decide +kernel
theorem dX12_likely_3 : decode cX12_likely 3 = .ok (.iconst 0, 1) := by decide +kernel
theorem dX12_likely_4 : decode cX12_likely 4 = .ok (.istore 6, 2) := by decide +kernel
theorem dX12_likely_6 : decode cX12_likely 6 = .ok (.iload 6, 2) := by decide +kernel
theorem dX12_likely_8 : decode cX12_likely 8 = .ok (.iload_n 2, 1) := by decide +kernel
theorem dX12_likely_9 : decode cX12_likely 9 = .ok (.if_icmp .ge 35, 3) := by decide +kernel
theorem dX12_likely_12 : decode cX12_likely 12 = .ok (.lload 4, 2) := by decide +kernel
theorem dX12_likely_14 : decode cX12_likely 14 = .ok (.aload_n 0, 1) := by decide +kernel
theorem dX12_likely_15 : decode cX12_likely 15 = .ok (.iload_n 1, 1) := by decide +kernel
theorem dX12_likely_16 : decode cX12_likely 16 = .ok (.iload_n 3, 1) := by decide +kernel
theorem dX12_likely_17 : decode cX12_likely 17 = .ok (.ifCond .eq 7, 3) := by decide +kernel
theorem dX12_likely_20 : decode cX12_likely 20 = .ok (.iconst (-1), 1) := by decide +kernel
theorem dX12_likely_21 : decode cX12_likely 21 = .ok (.goto 10, 3) := by decide +kernel
theorem dX12_likely_24 : decode cX12_likely 24 = .ok (.aload_n 0, 1) := by decide +kernel
theorem dX12_likely_25 : decode cX12_likely 25 = .ok (.getfield 22, 3) := by decide +kernel
theorem dX12_likely_28 : decode cX12_likely 28 = .ok (.iload 6, 2) := by decide +kernel
theorem dX12_likely_30 : decode cX12_likely 30 = .ok (.iaload, 1) := by decide +kernel
theorem dX12_likely_31 : decode cX12_likely 31 = .ok (.invokevirtual 269, 3) := by decide +kernel
theorem dX12_likely_34 : decode cX12_likely 34 = .ok (.i2l, 1) := by decide +kernel
theorem dX12_likely_35 : decode cX12_likely 35 = .ok (.lmul, 1) := by decide +kernel
theorem dX12_likely_36 : decode cX12_likely 36 = .ok (.lstore 4, 2) := by decide +kernel
theorem dX12_likely_38 : decode cX12_likely 38 = .ok (.iinc 6 1, 3) := by decide +kernel
theorem dX12_likely_41 : decode cX12_likely 41 = .ok (.goto (-35), 3) := by decide +kernel
theorem dX12_likely_44 : decode cX12_likely 44 = .ok (.aload_n 0, 1) := by decide +kernel
theorem dX12_likely_45 : decode cX12_likely 45 = .ok (.iload_n 1, 1) := by decide +kernel
theorem dX12_likely_46 : decode cX12_likely 46 = .ok (.iconst (-1), 1) := by decide +kernel
theorem dX12_likely_47 : decode cX12_likely 47 = .ok (.invokevirtual 269, 3) := by decide +kernel
theorem dX12_likely_50 : decode cX12_likely 50 = .ok (.ifCond .ne 11, 3) := by decide +kernel
theorem dX12_likely_53 : decode cX12_likely 53 = .ok (.iload_n 3, 1) := by decide +kernel
theorem dX12_likely_54 : decode cX12_likely 54 = .ok (.ifCond .ne 7, 3) := by decide +kernel
theorem dX12_likely_57 : decode cX12_likely 57 = .ok (.lconst 0, 1) := by decide +kernel
theorem dX12_likely_58 : decode cX12_likely 58 = .ok (.goto 5, 3) := by decide +kernel
theorem dX12_likely_61 : decode cX12_likely 61 = .ok (.lload 4, 2) := by decide +kernel
theorem dX12_likely_63 : decode cX12_likely 63 = .ok (.lreturn, 1) := by decide +kernel
theorem dX12_from_0 : decode cX12_from 0 = .ok (.aload_n 0, 1) := by decide +kernel
theorem dX12_from_1 : decode cX12_from 1 = .ok (.getfield 73, 3) := by decide +kernel
theorem dX12_from_4 : decode cX12_from 4 = .ok (.istore_n 2, 1) := by decide +kernel
theorem dX12_from_5 : decode cX12_from 5 = .ok (.aload_n 0, 1) := by decide +kernel
theorem dX12_from_6 : decode cX12_from 6 = .ok (.iconst 0, 1) := by decide +kernel
theorem dX12_from_7 : decode cX12_from 7 = .ok (.putfield 73, 3) := by decide +kernel
theorem dX12_from_10 : decode cX12_from 10 = .ok (.iload_n 2, 1) := by decide +kernel
theorem dX12_from_11 : decode cX12_from 11 = .ok (.iconst 4, 1) := by decide +kernel
theorem dX12_from_12 : decode cX12_from 12 = .ok (.if_icmp .gt 7, 3) := by decide +kernel
theorem dX12_from_15 : decode cX12_from 15 = .ok (.iconst 1, 1) := by decide +kernel
theorem dX12_from_16 : decode cX12_from 16 = .ok (.goto 4, 3) := by decide +kernel
theorem dX12_from_19 : decode cX12_from 19 = .ok (.iconst 0, 1) := by decide +kernel
theorem dX12_from_20 : decode cX12_from 20 = .ok (.istore_n 3, 1) := by decide +kernel
theorem dX12_from_21 : decode cX12_from 21 = .ok (.iconst 0, 1) := by decide +kernel
theorem dX12_from_22 : decode cX12_from 22 = .ok (.istore 4, 2) := by decide +kernel
theorem dX12_from_24 : decode cX12_from 24 = .ok (.iload 4, 2) := by decide +kernel
theorem dX12_from_26 : decode cX12_from 26 = .ok (.iload_n 2, 1) := by decide +kernel
theorem dX12_from_27 : decode cX12_from 27 = .ok (.if_icmp .ge 24, 3) := by decide +kernel
theorem dX12_from_30 : decode cX12_from 30 = .ok (.iload_n 3, 1) := by decide +kernel
theorem dX12_from_31 : decode cX12_from 31 = .ok (.ifCond .eq 20, 3) := by decide +kernel
theorem dX12_from_34 : decode cX12_from 34 = .ok (.aload_n 0, 1) := by decide +kernel
theorem dX12_from_35 : decode cX12_from 35 = .ok (.getfield 22, 3) := by decide +kernel
theorem dX12_from_38 : decode cX12_from 38 = .ok (.iload 4, 2) := by decide +kernel
theorem dX12_from_40 : decode cX12_from 40 = .ok (.iaload, 1) := by decide +kernel
theorem dX12_from_41 : decode cX12_from 41 = .ok (.invokestatic 260, 3) := by decide +kernel
theorem dX12_from_44 : decode cX12_from 44 = .ok (.istore_n 3, 1) := by decide +kernel
theorem dX12_from_45 : decode cX12_from 45 = .ok (.iinc 4 1, 3) := by decide +kernel
theorem dX12_from_48 : decode cX12_from 48 = .ok (.goto (-24), 3) := by decide +kernel
theorem dX12_from_51 : decode cX12_from 51 = .ok (.aload_n 0, 1) := by decide +kernel
theorem dX12_from_52 : decode cX12_from 52 = .ok (.iload_n 3, 1) := by decide +kernel
theorem dX12_from_53 : decode cX12_from 53 = .ok (.ifCond .eq 7, 3) := by decide +kernel
theorem dX12_from_56 : decode cX12_from 56 = .ok (.iconst 0, 1) := by decide +kernel
theorem dX12_from_57 : decode cX12_from 57 = .ok (.goto 4, 3) := by decide +kernel
theorem dX12_from_60 : decode cX12_from 60 = .ok (.iconst 1, 1) := by decide +kernel
theorem dX12_from_61 : decode cX12_from 61 = .ok (.putfield 56, 3) := by decide +kernel
theorem dX12_from_64 : decode cX12_from 64 = .ok (.aload_n 0, 1) := by decide +kernel
theorem dX12_from_65 : decode cX12_from 65 = .ok (.getfield 56, 3) := by decide +kernel
theorem dX12_from_68 : decode cX12_from 68 = .ok (.ifCond .le 5, 3) := by decide +kernel
theorem dX12_from_71 : decode cX12_from 71 = .ok (.iconst 0, 1) := by decide +kernel
theorem dX12_from_72 : decode cX12_from 72 = .ok (.ireturn, 1) := by decide +kernel
theorem dX12_from_73 : decode cX12_from 73 = .ok (.iconst 0, 1) := by decide +kernel
theorem dX12_from_74 : decode cX12_from 74 = .ok (.istore 4, 2) := by decide +kernel
theorem dX12_from_76 : decode cX12_from 76 = .ok (.iconst (-1), 1) := by decide +kernel
theorem dX12_from_77 : decode cX12_from 77 = .ok (.istore 5, 2) := by decide +kernel
theorem dX12_from_79 : decode cX12_from 79 = .ok (.iconst 0, 1) := by decide +kernel
theorem dX12_from_80 : decode cX12_from 80 = .ok (.istore 6, 2) := by decide +kernel
theorem dX12_from_82 : decode cX12_from 82 = .ok (.iload 6, 2) := by decide +kernel
theorem dX12_from_84 : decode cX12_from 84 = .ok (.aload_n 0, 1) := by decide +kernel
theorem dX12_from_85 : decode cX12_from 85 = .ok (.getfield 7, 3) := by decide +kernel
theorem dX12_from_88 : decode cX12_from 88 = .ok (.iconst 3, 1) := by decide +kernel
theorem dX12_from_89 : decode cX12_from 89 = .ok (.iaload, 1) := by decide +kernel
theorem dX12_from_90 : decode cX12_from 90 = .ok (.if_icmp .ge 82, 3) := by decide +kernel
theorem dX12_from_93 : decode cX12_from 93 = .ok (.aload_n 0, 1) := by decide +kernel
theorem dX12_from_94 : decode cX12_from 94 = .ok (.iload 6, 2) := by decide +kernel
theorem dX12_from_96 : decode cX12_from 96 = .ok (.iload_n 2, 1) := by decide +kernel
theorem dX12_from_97 : decode cX12_from 97 = .ok (.iconst 0, 1) := by decide +kernel
theorem dX12_from_98 : decode cX12_from 98 = .ok (.invokevirtual 317, 3) := by decide +kernel
theorem dX12_from_101 : decode cX12_from 101 = .ok (.lconst 0, 1) := by decide +kernel
theorem dX12_from_102 : decode cX12_from 102 = .ok (.lcmp, 1) := by decide +kernel
theorem dX12_from_103 : decode cX12_from 103 = .ok (.ifCond .ne 6, 3) := by decide +kernel
theorem dX12_from_106 : decode cX12_from 106 = .ok (.goto 60, 3) := by decide +kernel
theorem dX12_from_109 : decode cX12_from 109 = .ok (.iload 4, 2) := by decide +kernel
theorem dX12_from_111 : decode cX12_from 111 = .ok (.iconst 1, 1) := by decide +kernel
theorem dX12_from_112 : decode cX12_from 112 = .ok (.iload 6, 2) := by decide +kernel
theorem dX12_from_114 : decode cX12_from 114 = .ok (.ishl, 1) := by decide +kernel
theorem dX12_from_115 : decode cX12_from 115 = .ok (.ior, 1) := by decide +kernel
theorem dX12_from_116 : decode cX12_from 116 = .ok (.istore 4, 2) := by decide +kernel
theorem dX12_from_118 : decode cX12_from 118 = .ok (.iload 5, 2) := by decide +kernel
theorem dX12_from_120 : decode cX12_from 120 = .ok (.iconst (-1), 1) := by decide +kernel
theorem dX12_from_121 : decode cX12_from 121 = .ok (.if_icmp .eq 41, 3) := by decide +kernel
theorem dX12_from_124 : decode cX12_from 124 = .ok (.aload_n 0, 1) := by decide +kernel
theorem dX12_from_125 : decode cX12_from 125 = .ok (.iload 6, 2) := by decide +kernel
theorem dX12_from_127 : decode cX12_from 127 = .ok (.iload_n 2, 1) := by decide +kernel
theorem dX12_from_128 : decode cX12_from 128 = .ok (.iconst 0, 1) := by decide +kernel
theorem dX12_from_129 : decode cX12_from 129 = .ok (.invokevirtual 317, 3) := by decide +kernel
theorem dX12_from_132 : decode cX12_from 132 = .ok (.aload_n 0, 1) := by decide +kernel
theorem dX12_from_133 : decode cX12_from 133 = .ok (.iload 5, 2) := by decide +kernel
theorem dX12_from_135 : decode cX12_from 135 = .ok (.iload_n 2, 1) := by decide +kernel
theorem dX12_from_136 : decode cX12_from 136 = .ok (.iconst 1, 1) := by decide +kernel
theorem dX12_from_137 : decode cX12_from 137 = .ok (.invokevirtual 317, 3) := by decide +kernel
theorem dX12_from_140 : decode cX12_from 140 = .ok (.lmul, 1) := by decide +kernel
theorem dX12_from_141 : decode cX12_from 141 = .ok (.aload_n 0, 1) := by decide +kernel
theorem dX12_from_142 : decode cX12_from 142 = .ok (.iload 5, 2) := by decide +kernel
theorem dX12_from_144 : decode cX12_from 144 = .ok (.iload_n 2, 1) := by decide +kernel
theorem dX12_from_145 : decode cX12_from 145 = .ok (.iconst 0, 1) := by decide +kernel
theorem dX12_from_146 : decode cX12_from 146 = .ok (.invokevirtual 317, 3) := by decide +kernel
theorem dX12_from_149 : decode cX12_from 149 = .ok (.aload_n 0, 1) := by decide +kernel
theorem dX12_from_150 : decode cX12_from 150 = .ok (.iload 6, 2) := by decide +kernel
theorem dX12_from_152 : decode cX12_from 152 = .ok (.iload_n 2, 1) := by decide +kernel
theorem dX12_from_153 : decode cX12_from 153 = .ok (.iconst 1, 1) := by decide +kernel
theorem dX12_from_154 : decode cX12_from 154 = .ok (.invokevirtual 317, 3) := by decide +kernel
theorem dX12_from_157 : decode cX12_from 157 = .ok (.lmul, 1) := by decide +kernel
theorem dX12_from_158 : decode cX12_from 158 = .ok (.lcmp, 1) := by decide +kernel
theorem dX12_from_159 : decode cX12_from 159 = .ok (.ifCond .le 7, 3) := by decide +kernel
theorem dX12_from_162 : decode cX12_from 162 = .ok (.iload 6, 2) := by decide +kernel
theorem dX12_from_164 : decode cX12_from 164 = .ok (.istore 5, 2) := by decide +kernel
theorem dX12_from_166 : decode cX12_from 166 = .ok (.iinc 6 1, 3) := by decide +kernel
theorem dX12_from_169 : decode cX12_from 169 = .ok (.goto (-87), 3) := by decide +kernel
theorem dX12_from_172 : decode cX12_from 172 = .ok (.iload_n 1, 1) := by decide +kernel
theorem dX12_from_173 : decode cX12_from 173 = .ok (.ifCond .eq 8, 3) := by decide +kernel
theorem dX12_from_176 : decode cX12_from 176 = .ok (.iload 5, 2) := by decide +kernel
theorem dX12_from_178 : decode cX12_from 178 = .ok (.goto 5, 3) := by decide +kernel
theorem dX12_from_181 : decode cX12_from 181 = .ok (.iload 4, 2) := by decide +kernel
theorem dX12_from_183 : decode cX12_from 183 = .ok (.ireturn, 1) := by decide +kernel
theorem dX12_peopleOf_0 : decode cX12_peopleOf 0 = .ok (.iconst 0, 1) := by decide +kernel
theorem dX12_peopleOf_1 : decode cX12_peopleOf 1 = .ok (.istore_n 2, 1) := by decide +kernel
theorem dX12_peopleOf_2 : decode cX12_peopleOf 2 = .ok (.iconst 0, 1) := by decide +kernel
theorem dX12_peopleOf_3 : decode cX12_peopleOf 3 = .ok (.istore_n 3, 1) := by decide +kernel
theorem dX12_peopleOf_4 : decode cX12_peopleOf 4 = .ok (.iload_n 3, 1) := by decide +kernel
theorem dX12_peopleOf_5 : decode cX12_peopleOf 5 = .ok (.aload_n 0, 1) := by decide +kernel
theorem dX12_peopleOf_6 : decode cX12_peopleOf 6 = .ok (.getfield 7, 3) := by decide +kernel
theorem dX12_peopleOf_9 : decode cX12_peopleOf 9 = .ok (.iconst 5, 1) := by decide +kernel
theorem dX12_peopleOf_10 : decode cX12_peopleOf 10 = .ok (.iaload, 1) := by decide +kernel
theorem dX12_peopleOf_11 : decode cX12_peopleOf 11 = .ok (.if_icmp .ge 27, 3) := by decide +kernel
theorem dX12_peopleOf_14 : decode cX12_peopleOf 14 = .ok (.iload_n 2, 1) := by decide +kernel
theorem dX12_peopleOf_15 : decode cX12_peopleOf 15 = .ok (.aload_n 0, 1) := by decide +kernel
theorem dX12_peopleOf_16 : decode cX12_peopleOf 16 = .ok (.iload_n 3, 1) := by decide +kernel
theorem dX12_peopleOf_17 : decode cX12_peopleOf 17 = .ok (.iconst 0, 1) := by decide +kernel
theorem dX12_peopleOf_18 : decode cX12_peopleOf 18 = .ok (.invokevirtual 257, 3) := by decide +kernel
theorem dX12_peopleOf_21 : decode cX12_peopleOf 21 = .ok (.iload_n 1, 1) := by decide +kernel
theorem dX12_peopleOf_22 : decode cX12_peopleOf 22 = .ok (.if_icmp .ne 7, 3) := by decide +kernel
theorem dX12_peopleOf_25 : decode cX12_peopleOf 25 = .ok (.iconst 1, 1) := by decide +kernel
theorem dX12_peopleOf_26 : decode cX12_peopleOf 26 = .ok (.goto 4, 3) := by decide +kernel
theorem dX12_peopleOf_29 : decode cX12_peopleOf 29 = .ok (.iconst 0, 1) := by decide +kernel
theorem dX12_peopleOf_30 : decode cX12_peopleOf 30 = .ok (.iadd, 1) := by decide +kernel
theorem dX12_peopleOf_31 : decode cX12_peopleOf 31 = .ok (.istore_n 2, 1) := by decide +kernel
theorem dX12_peopleOf_32 : decode cX12_peopleOf 32 = .ok (.iinc 3 1, 3) := by decide +kernel
theorem dX12_peopleOf_35 : decode cX12_peopleOf 35 = .ok (.goto (-31), 3) := by decide +kernel
theorem dX12_peopleOf_38 : decode cX12_peopleOf 38 = .ok (.iload_n 2, 1) := by decide +kernel
theorem dX12_peopleOf_39 : decode cX12_peopleOf 39 = .ok (.ireturn, 1) := by decide +kernel
theorem dX12_expectsAll_0 : decode cX12_expectsAll 0 = .ok (.iconst 0, 1) := by decide +kernel
theorem dX12_expectsAll_1 : decode cX12_expectsAll 1 = .ok (.istore_n 2, 1) := by decide +kernel
theorem dX12_expectsAll_2 : decode cX12_expectsAll 2 = .ok (.iconst 0, 1) := by decide +kernel
theorem dX12_expectsAll_3 : decode cX12_expectsAll 3 = .ok (.istore_n 3, 1) := by decide +kernel
theorem dX12_expectsAll_4 : decode cX12_expectsAll 4 = .ok (.iload_n 3, 1) := by decide +kernel
theorem dX12_expectsAll_5 : decode cX12_expectsAll 5 = .ok (.aload_n 0, 1) := by decide +kernel
theorem dX12_expectsAll_6 : decode cX12_expectsAll 6 = .ok (.getfield 7, 3) := by decide +kernel
theorem dX12_expectsAll_9 : decode cX12_expectsAll 9 = .ok (.iconst 3, 1) := by decide +kernel
theorem dX12_expectsAll_10 : decode cX12_expectsAll 10 = .ok (.iaload, 1) := by decide +kernel
theorem dX12_expectsAll_11 : decode cX12_expectsAll 11 = .ok (.if_icmp .ge 37, 3) := by decide +kernel
theorem dX12_expectsAll_14 : decode cX12_expectsAll 14 = .ok (.iload_n 2, 1) := by decide +kernel
theorem dX12_expectsAll_15 : decode cX12_expectsAll 15 = .ok (.aload_n 0, 1) := by decide +kernel
theorem dX12_expectsAll_16 : decode cX12_expectsAll 16 = .ok (.iload_n 3, 1) := by decide +kernel
theorem dX12_expectsAll_17 : decode cX12_expectsAll 17 = .ok (.invokevirtual 321, 3) := by decide +kernel
theorem dX12_expectsAll_20 : decode cX12_expectsAll 20 = .ok (.aload_n 0, 1) := by decide +kernel
theorem dX12_expectsAll_21 : decode cX12_expectsAll 21 = .ok (.iload_n 3, 1) := by decide +kernel
theorem dX12_expectsAll_22 : decode cX12_expectsAll 22 = .ok (.iload_n 1, 1) := by decide +kernel
theorem dX12_expectsAll_23 : decode cX12_expectsAll 23 = .ok (.iconst (-1), 1) := by decide +kernel
theorem dX12_expectsAll_24 : decode cX12_expectsAll 24 = .ok (.if_icmp .ne 11, 3) := by decide +kernel
theorem dX12_expectsAll_27 : decode cX12_expectsAll 27 = .ok (.aload_n 0, 1) := by decide +kernel
theorem dX12_expectsAll_28 : decode cX12_expectsAll 28 = .ok (.iload_n 3, 1) := by decide +kernel
theorem dX12_expectsAll_29 : decode cX12_expectsAll 29 = .ok (.invokevirtual 311, 3) := by decide +kernel
theorem dX12_expectsAll_32 : decode cX12_expectsAll 32 = .ok (.goto 4, 3) := by decide +kernel
theorem dX12_expectsAll_35 : decode cX12_expectsAll 35 = .ok (.iload_n 1, 1) := by decide +kernel
theorem dX12_expectsAll_36 : decode cX12_expectsAll 36 = .ok (.invokevirtual 308, 3) := by decide +kernel
theorem dX12_expectsAll_39 : decode cX12_expectsAll 39 = .ok (.imul, 1) := by decide +kernel
theorem dX12_expectsAll_40 : decode cX12_expectsAll 40 = .ok (.iadd, 1) := by decide +kernel
theorem dX12_expectsAll_41 : decode cX12_expectsAll 41 = .ok (.istore_n 2, 1) := by decide +kernel
theorem dX12_expectsAll_42 : decode cX12_expectsAll 42 = .ok (.iinc 3 1, 3) := by decide +kernel
theorem dX12_expectsAll_45 : decode cX12_expectsAll 45 = .ok (.goto (-41), 3) := by decide +kernel
theorem dX12_expectsAll_48 : decode cX12_expectsAll 48 = .ok (.iload_n 2, 1) := by decide +kernel
theorem dX12_expectsAll_49 : decode cX12_expectsAll 49 = .ok (.ireturn, 1) := by decide +kernel
theorem dX12_worth_0 : decode cX12_worth 0 = .ok (.aload_n 0, 1) := by decide +kernel
theorem dX12_worth_1 : decode cX12_worth 1 = .ok (.iconst 0, 1) := by decide +kernel
theorem dX12_worth_2 : decode cX12_worth 2 = .ok (.putfield 56, 3) := by decide +kernel
theorem dX12_worth_5 : decode cX12_worth 5 = .ok (.aload_n 0, 1) := by decide +kernel
theorem dX12_worth_6 : decode cX12_worth 6 = .ok (.iconst 0, 1) := by decide +kernel
theorem dX12_worth_7 : decode cX12_worth 7 = .ok (.invokevirtual 324, 3) := by decide +kernel
theorem dX12_worth_10 : decode cX12_worth 10 = .ok (.istore_n 1, 1) := by decide +kernel
theorem dX12_worth_11 : decode cX12_worth 11 = .ok (.iconst 1, 1) := by decide +kernel
theorem dX12_worth_12 : decode cX12_worth 12 = .ok (.istore_n 2, 1) := by decide +kernel
theorem dX12_worth_13 : decode cX12_worth 13 = .ok (.iload_n 2, 1) := by decide +kernel
theorem dX12_worth_14 : decode cX12_worth 14 = .ok (.bipush 32, 2) := by decide +kernel
theorem dX12_worth_16 : decode cX12_worth 16 = .ok (.if_icmp .ge 19, 3) := by decide +kernel
theorem dX12_worth_19 : decode cX12_worth 19 = .ok (.iload_n 1, 1) := by decide +kernel
theorem dX12_worth_20 : decode cX12_worth 20 = .ok (.aload_n 0, 1) := by decide +kernel
theorem dX12_worth_21 : decode cX12_worth 21 = .ok (.iload_n 2, 1) := by decide +kernel
theorem dX12_worth_22 : decode cX12_worth 22 = .ok (.invokevirtual 324, 3) := by decide +kernel
theorem dX12_worth_25 : decode cX12_worth 25 = .ok (.invokestatic 284, 3) := by decide +kernel
theorem dX12_worth_28 : decode cX12_worth 28 = .ok (.istore_n 1, 1) := by decide +kernel
theorem dX12_worth_29 : decode cX12_worth 29 = .ok (.iinc 2 1, 3) := by decide +kernel
theorem dX12_worth_32 : decode cX12_worth 32 = .ok (.goto (-19), 3) := by decide +kernel
theorem dX12_worth_35 : decode cX12_worth 35 = .ok (.iload_n 1, 1) := by decide +kernel
theorem dX12_worth_36 : decode cX12_worth 36 = .ok (.aload_n 0, 1) := by decide +kernel
theorem dX12_worth_37 : decode cX12_worth 37 = .ok (.iconst (-1), 1) := by decide +kernel
theorem dX12_worth_38 : decode cX12_worth 38 = .ok (.invokevirtual 324, 3) := by decide +kernel
theorem dX12_worth_41 : decode cX12_worth 41 = .ok (.isub, 1) := by decide +kernel
theorem dX12_worth_42 : decode cX12_worth 42 = .ok (.ireturn, 1) := by decide +kernel
theorem dX12_pays_0 : decode cX12_pays 0 = .ok (.iload_n 3, 1) := by decide +kernel
theorem dX12_pays_1 : decode cX12_pays 1 = .ok (.ifCond .eq 12, 3) := by decide +kernel
theorem dX12_pays_4 : decode cX12_pays 4 = .ok (.aload_n 0, 1) := by decide +kernel
theorem dX12_pays_5 : decode cX12_pays 5 = .ok (.iload_n 2, 1) := by decide +kernel
theorem dX12_pays_6 : decode cX12_pays 6 = .ok (.iconst 1, 1) := by decide +kernel
theorem dX12_pays_7 : decode cX12_pays 7 = .ok (.invokevirtual 257, 3) := by decide +kernel
theorem dX12_pays_10 : decode cX12_pays 10 = .ok (.goto 9, 3) := by decide +kernel
theorem dX12_pays_13 : decode cX12_pays 13 = .ok (.aload_n 0, 1) := by decide +kernel
theorem dX12_pays_14 : decode cX12_pays 14 = .ok (.iload_n 1, 1) := by decide +kernel
theorem dX12_pays_15 : decode cX12_pays 15 = .ok (.iconst 1, 1) := by decide +kernel
theorem dX12_pays_16 : decode cX12_pays 16 = .ok (.invokevirtual 257, 3) := by decide +kernel
theorem dX12_pays_19 : decode cX12_pays 19 = .ok (.istore 5, 2) := by decide +kernel
theorem dX12_pays_21 : decode cX12_pays 21 = .ok (.iload 4, 2) := by decide +kernel
theorem dX12_pays_23 : decode cX12_pays 23 = .ok (.ifCond .eq 12, 3) := by decide +kernel
theorem dX12_pays_26 : decode cX12_pays 26 = .ok (.aload_n 0, 1) := by decide +kernel
theorem dX12_pays_27 : decode cX12_pays 27 = .ok (.iload_n 1, 1) := by decide +kernel
theorem dX12_pays_28 : decode cX12_pays 28 = .ok (.iconst 1, 1) := by decide +kernel
theorem dX12_pays_29 : decode cX12_pays 29 = .ok (.invokevirtual 257, 3) := by decide +kernel
theorem dX12_pays_32 : decode cX12_pays 32 = .ok (.goto 9, 3) := by decide +kernel
theorem dX12_pays_35 : decode cX12_pays 35 = .ok (.aload_n 0, 1) := by decide +kernel
theorem dX12_pays_36 : decode cX12_pays 36 = .ok (.iload_n 2, 1) := by decide +kernel
theorem dX12_pays_37 : decode cX12_pays 37 = .ok (.iconst 1, 1) := by decide +kernel
theorem dX12_pays_38 : decode cX12_pays 38 = .ok (.invokevirtual 257, 3) := by decide +kernel
theorem dX12_pays_41 : decode cX12_pays 41 = .ok (.istore 6, 2) := by decide +kernel
theorem dX12_pays_43 : decode cX12_pays 43 = .ok (.aload_n 0, 1) := by decide +kernel
theorem dX12_pays_44 : decode cX12_pays 44 = .ok (.iload 5, 2) := by decide +kernel
theorem dX12_pays_46 : decode cX12_pays 46 = .ok (.iload 6, 2) := by decide +kernel
theorem dX12_pays_48 : decode cX12_pays 48 = .ok (.invokevirtual 263, 3) := by decide +kernel
theorem dX12_pays_51 : decode cX12_pays 51 = .ok (.iload_n 3, 1) := by decide +kernel
theorem dX12_pays_52 : decode cX12_pays 52 = .ok (.ifCond .eq 7, 3) := by decide +kernel
theorem dX12_pays_55 : decode cX12_pays 55 = .ok (.iconst 1, 1) := by decide +kernel
theorem dX12_pays_56 : decode cX12_pays 56 = .ok (.goto 4, 3) := by decide +kernel
theorem dX12_pays_59 : decode cX12_pays 59 = .ok (.iconst 0, 1) := by decide +kernel
theorem dX12_pays_60 : decode cX12_pays 60 = .ok (.iadd, 1) := by decide +kernel
theorem dX12_pays_61 : decode cX12_pays 61 = .ok (.ireturn, 1) := by decide +kernel
theorem dX12_rests_0 : decode cX12_rests 0 = .ok (.aload_n 0, 1) := by decide +kernel
theorem dX12_rests_1 : decode cX12_rests 1 = .ok (.aload_n 0, 1) := by decide +kernel
theorem dX12_rests_2 : decode cX12_rests 2 = .ok (.iload_n 1, 1) := by decide +kernel
theorem dX12_rests_3 : decode cX12_rests 3 = .ok (.iload_n 2, 1) := by decide +kernel
theorem dX12_rests_4 : decode cX12_rests 4 = .ok (.invokevirtual 277, 3) := by decide +kernel
theorem dX12_rests_7 : decode cX12_rests 7 = .ok (.putfield 56, 3) := by decide +kernel
theorem dX12_rests_10 : decode cX12_rests 10 = .ok (.aload_n 0, 1) := by decide +kernel
theorem dX12_rests_11 : decode cX12_rests 11 = .ok (.getfield 56, 3) := by decide +kernel
theorem dX12_rests_14 : decode cX12_rests 14 = .ok (.ifCond .le 5, 3) := by decide +kernel
theorem dX12_rests_17 : decode cX12_rests 17 = .ok (.iconst 0, 1) := by decide +kernel
theorem dX12_rests_18 : decode cX12_rests 18 = .ok (.ireturn, 1) := by decide +kernel
theorem dX12_rests_19 : decode cX12_rests 19 = .ok (.iconst 0, 1) := by decide +kernel
theorem dX12_rests_20 : decode cX12_rests 20 = .ok (.istore_n 3, 1) := by decide +kernel
theorem dX12_rests_21 : decode cX12_rests 21 = .ok (.iconst 0, 1) := by decide +kernel
theorem dX12_rests_22 : decode cX12_rests 22 = .ok (.istore 4, 2) := by decide +kernel
theorem dX12_rests_24 : decode cX12_rests 24 = .ok (.iload 4, 2) := by decide +kernel
theorem dX12_rests_26 : decode cX12_rests 26 = .ok (.iconst 4, 1) := by decide +kernel
theorem dX12_rests_27 : decode cX12_rests 27 = .ok (.if_icmp .ge 94, 3) := by decide +kernel
theorem dX12_rests_30 : decode cX12_rests 30 = .ok (.iload 4, 2) := by decide +kernel
theorem dX12_rests_32 : decode cX12_rests 32 = .ok (.iconst 0, 1) := by decide +kernel
theorem dX12_rests_33 : decode cX12_rests 33 = .ok (.invokestatic 305, 3) := by decide +kernel
theorem dX12_rests_36 : decode cX12_rests 36 = .ok (.istore 5, 2) := by decide +kernel
theorem dX12_rests_38 : decode cX12_rests 38 = .ok (.iload 4, 2) := by decide +kernel
theorem dX12_rests_40 : decode cX12_rests 40 = .ok (.iconst 1, 1) := by decide +kernel
theorem dX12_rests_41 : decode cX12_rests 41 = .ok (.invokestatic 305, 3) := by decide +kernel
theorem dX12_rests_44 : decode cX12_rests 44 = .ok (.istore 6, 2) := by decide +kernel
theorem dX12_rests_46 : decode cX12_rests 46 = .ok (.aload_n 0, 1) := by decide +kernel
theorem dX12_rests_47 : decode cX12_rests 47 = .ok (.iload_n 1, 1) := by decide +kernel
theorem dX12_rests_48 : decode cX12_rests 48 = .ok (.iload_n 2, 1) := by decide +kernel
theorem dX12_rests_49 : decode cX12_rests 49 = .ok (.iload 5, 2) := by decide +kernel
theorem dX12_rests_51 : decode cX12_rests 51 = .ok (.ifCond .ne 7, 3) := by decide +kernel
theorem dX12_rests_54 : decode cX12_rests 54 = .ok (.iconst 1, 1) := by decide +kernel
theorem dX12_rests_55 : decode cX12_rests 55 = .ok (.goto 4, 3) := by decide +kernel
theorem dX12_rests_58 : decode cX12_rests 58 = .ok (.iconst 0, 1) := by decide +kernel
theorem dX12_rests_59 : decode cX12_rests 59 = .ok (.iload 6, 2) := by decide +kernel
theorem dX12_rests_61 : decode cX12_rests 61 = .ok (.invokevirtual 327, 3) := by decide +kernel
theorem dX12_rests_64 : decode cX12_rests 64 = .ok (.aload_n 0, 1) := by decide +kernel
theorem dX12_rests_65 : decode cX12_rests 65 = .ok (.iload_n 1, 1) := by decide +kernel
theorem dX12_rests_66 : decode cX12_rests 66 = .ok (.iload_n 2, 1) := by decide +kernel
theorem dX12_rests_67 : decode cX12_rests 67 = .ok (.iload 5, 2) := by decide +kernel
theorem dX12_rests_69 : decode cX12_rests 69 = .ok (.iload 6, 2) := by decide +kernel
theorem dX12_rests_71 : decode cX12_rests 71 = .ok (.invokevirtual 327, 3) := by decide +kernel
theorem dX12_rests_74 : decode cX12_rests 74 = .ok (.if_icmp .lt 41, 3) := by decide +kernel
theorem dX12_rests_77 : decode cX12_rests 77 = .ok (.aload_n 0, 1) := by decide +kernel
theorem dX12_rests_78 : decode cX12_rests 78 = .ok (.iload_n 2, 1) := by decide +kernel
theorem dX12_rests_79 : decode cX12_rests 79 = .ok (.iload_n 1, 1) := by decide +kernel
theorem dX12_rests_80 : decode cX12_rests 80 = .ok (.iload 6, 2) := by decide +kernel
theorem dX12_rests_82 : decode cX12_rests 82 = .ok (.ifCond .ne 7, 3) := by decide +kernel
theorem dX12_rests_85 : decode cX12_rests 85 = .ok (.iconst 1, 1) := by decide +kernel
theorem dX12_rests_86 : decode cX12_rests 86 = .ok (.goto 4, 3) := by decide +kernel
theorem dX12_rests_89 : decode cX12_rests 89 = .ok (.iconst 0, 1) := by decide +kernel
theorem dX12_rests_90 : decode cX12_rests 90 = .ok (.iload 5, 2) := by decide +kernel
theorem dX12_rests_92 : decode cX12_rests 92 = .ok (.invokevirtual 327, 3) := by decide +kernel
theorem dX12_rests_95 : decode cX12_rests 95 = .ok (.aload_n 0, 1) := by decide +kernel
theorem dX12_rests_96 : decode cX12_rests 96 = .ok (.iload_n 2, 1) := by decide +kernel
theorem dX12_rests_97 : decode cX12_rests 97 = .ok (.iload_n 1, 1) := by decide +kernel
theorem dX12_rests_98 : decode cX12_rests 98 = .ok (.iload 6, 2) := by decide +kernel
theorem dX12_rests_100 : decode cX12_rests 100 = .ok (.iload 5, 2) := by decide +kernel
theorem dX12_rests_102 : decode cX12_rests 102 = .ok (.invokevirtual 327, 3) := by decide +kernel
theorem dX12_rests_105 : decode cX12_rests 105 = .ok (.if_icmp .lt 10, 3) := by decide +kernel
theorem dX12_rests_108 : decode cX12_rests 108 = .ok (.iload_n 3, 1) := by decide +kernel
theorem dX12_rests_109 : decode cX12_rests 109 = .ok (.iconst 1, 1) := by decide +kernel
theorem dX12_rests_110 : decode cX12_rests 110 = .ok (.iload 4, 2) := by decide +kernel
theorem dX12_rests_112 : decode cX12_rests 112 = .ok (.ishl, 1) := by decide +kernel
theorem dX12_rests_113 : decode cX12_rests 113 = .ok (.ior, 1) := by decide +kernel
theorem dX12_rests_114 : decode cX12_rests 114 = .ok (.istore_n 3, 1) := by decide +kernel
theorem dX12_rests_115 : decode cX12_rests 115 = .ok (.iinc 4 1, 3) := by decide +kernel
theorem dX12_rests_118 : decode cX12_rests 118 = .ok (.goto (-94), 3) := by decide +kernel
theorem dX12_rests_121 : decode cX12_rests 121 = .ok (.iload_n 3, 1) := by decide +kernel
theorem dX12_rests_122 : decode cX12_rests 122 = .ok (.ireturn, 1) := by decide +kernel
theorem dX12_towards_0 : decode cX12_towards 0 = .ok (.iload_n 0, 1) := by decide +kernel
theorem dX12_towards_1 : decode cX12_towards 1 = .ok (.iload_n 1, 1) := by decide +kernel
theorem dX12_towards_2 : decode cX12_towards 2 = .ok (.if_icmp .ge 9, 3) := by decide +kernel
theorem dX12_towards_5 : decode cX12_towards 5 = .ok (.iload_n 0, 1) := by decide +kernel
theorem dX12_towards_6 : decode cX12_towards 6 = .ok (.iconst 1, 1) := by decide +kernel
theorem dX12_towards_7 : decode cX12_towards 7 = .ok (.iadd, 1) := by decide +kernel
theorem dX12_towards_8 : decode cX12_towards 8 = .ok (.goto 15, 3) := by decide +kernel
theorem dX12_towards_11 : decode cX12_towards 11 = .ok (.iload_n 0, 1) := by decide +kernel
theorem dX12_towards_12 : decode cX12_towards 12 = .ok (.iload_n 1, 1) := by decide +kernel
theorem dX12_towards_13 : decode cX12_towards 13 = .ok (.if_icmp .le 9, 3) := by decide +kernel
theorem dX12_towards_16 : decode cX12_towards 16 = .ok (.iload_n 0, 1) := by decide +kernel
theorem dX12_towards_17 : decode cX12_towards 17 = .ok (.iconst 1, 1) := by decide +kernel
theorem dX12_towards_18 : decode cX12_towards 18 = .ok (.isub, 1) := by decide +kernel
theorem dX12_towards_19 : decode cX12_towards 19 = .ok (.goto 4, 3) := by decide +kernel
theorem dX12_towards_22 : decode cX12_towards 22 = .ok (.iload_n 0, 1) := by decide +kernel
theorem dX12_towards_23 : decode cX12_towards 23 = .ok (.ireturn, 1) := by decide +kernel
theorem dX12_sake_0 : decode cX12_sake 0 = .ok (.aload_n 0, 1) := by decide +kernel
theorem dX12_sake_1 : decode cX12_sake 1 = .ok (.aload_n 0, 1) := by decide +kernel
theorem dX12_sake_2 : decode cX12_sake 2 = .ok (.iload_n 1, 1) := by decide +kernel
theorem dX12_sake_3 : decode cX12_sake 3 = .ok (.iload_n 2, 1) := by decide +kernel
theorem dX12_sake_4 : decode cX12_sake 4 = .ok (.invokevirtual 277, 3) := by decide +kernel
theorem dX12_sake_7 : decode cX12_sake 7 = .ok (.putfield 56, 3) := by decide +kernel
theorem dX12_sake_10 : decode cX12_sake 10 = .ok (.aload_n 0, 1) := by decide +kernel
theorem dX12_sake_11 : decode cX12_sake 11 = .ok (.getfield 56, 3) := by decide +kernel
theorem dX12_sake_14 : decode cX12_sake 14 = .ok (.ifCond .le 5, 3) := by decide +kernel
theorem dX12_sake_17 : decode cX12_sake 17 = .ok (.iconst 0, 1) := by decide +kernel
theorem dX12_sake_18 : decode cX12_sake 18 = .ok (.ireturn, 1) := by decide +kernel
theorem dX12_sake_19 : decode cX12_sake 19 = .ok (.aload_n 0, 1) := by decide +kernel
theorem dX12_sake_20 : decode cX12_sake 20 = .ok (.iload_n 1, 1) := by decide +kernel
theorem dX12_sake_21 : decode cX12_sake 21 = .ok (.iconst 1, 1) := by decide +kernel
theorem dX12_sake_22 : decode cX12_sake 22 = .ok (.invokevirtual 257, 3) := by decide +kernel
theorem dX12_sake_25 : decode cX12_sake 25 = .ok (.iconst 3, 1) := by decide +kernel
theorem dX12_sake_26 : decode cX12_sake 26 = .ok (.ishr, 1) := by decide +kernel
theorem dX12_sake_27 : decode cX12_sake 27 = .ok (.iconst 2, 1) := by decide +kernel
theorem dX12_sake_28 : decode cX12_sake 28 = .ok (.if_icmp .ne 15, 3) := by decide +kernel
theorem dX12_sake_31 : decode cX12_sake 31 = .ok (.aload_n 0, 1) := by decide +kernel
theorem dX12_sake_32 : decode cX12_sake 32 = .ok (.iload_n 2, 1) := by decide +kernel
theorem dX12_sake_33 : decode cX12_sake 33 = .ok (.iconst 1, 1) := by decide +kernel
theorem dX12_sake_34 : decode cX12_sake 34 = .ok (.invokevirtual 257, 3) := by decide +kernel
theorem dX12_sake_37 : decode cX12_sake 37 = .ok (.iconst 3, 1) := by decide +kernel
theorem dX12_sake_38 : decode cX12_sake 38 = .ok (.ishr, 1) := by decide +kernel
theorem dX12_sake_39 : decode cX12_sake 39 = .ok (.iconst 2, 1) := by decide +kernel
theorem dX12_sake_40 : decode cX12_sake 40 = .ok (.if_icmp .eq 5, 3) := by decide +kernel
theorem dX12_sake_43 : decode cX12_sake 43 = .ok (.iconst (-1), 1) := by decide +kernel
theorem dX12_sake_44 : decode cX12_sake 44 = .ok (.ireturn, 1) := by decide +kernel
theorem dX12_sake_45 : decode cX12_sake 45 = .ok (.aload_n 0, 1) := by decide +kernel
theorem dX12_sake_46 : decode cX12_sake 46 = .ok (.iload_n 1, 1) := by decide +kernel
theorem dX12_sake_47 : decode cX12_sake 47 = .ok (.iconst 1, 1) := by decide +kernel
theorem dX12_sake_48 : decode cX12_sake 48 = .ok (.invokevirtual 257, 3) := by decide +kernel
theorem dX12_sake_51 : decode cX12_sake 51 = .ok (.invokestatic 70, 3) := by decide +kernel
theorem dX12_sake_54 : decode cX12_sake 54 = .ok (.istore 4, 2) := by decide +kernel
theorem dX12_sake_56 : decode cX12_sake 56 = .ok (.aload_n 0, 1) := by decide +kernel
theorem dX12_sake_57 : decode cX12_sake 57 = .ok (.iload_n 2, 1) := by decide +kernel
theorem dX12_sake_58 : decode cX12_sake 58 = .ok (.iconst 1, 1) := by decide +kernel
theorem dX12_sake_59 : decode cX12_sake 59 = .ok (.invokevirtual 257, 3) := by decide +kernel
theorem dX12_sake_62 : decode cX12_sake 62 = .ok (.invokestatic 70, 3) := by decide +kernel
theorem dX12_sake_65 : decode cX12_sake 65 = .ok (.istore 5, 2) := by decide +kernel
theorem dX12_sake_67 : decode cX12_sake 67 = .ok (.iconst 0, 1) := by decide +kernel
theorem dX12_sake_68 : decode cX12_sake 68 = .ok (.istore 6, 2) := by decide +kernel
theorem dX12_sake_70 : decode cX12_sake 70 = .ok (.iload 6, 2) := by decide +kernel
theorem dX12_sake_72 : decode cX12_sake 72 = .ok (.bipush 8, 2) := by decide +kernel
theorem dX12_sake_74 : decode cX12_sake 74 = .ok (.if_icmp .ge 45, 3) := by decide +kernel
theorem dX12_sake_77 : decode cX12_sake 77 = .ok (.iload 4, 2) := by decide +kernel
theorem dX12_sake_79 : decode cX12_sake 79 = .ok (.iload 5, 2) := by decide +kernel
theorem dX12_sake_81 : decode cX12_sake 81 = .ok (.if_icmp .ne 6, 3) := by decide +kernel
theorem dX12_sake_84 : decode cX12_sake 84 = .ok (.iload 6, 2) := by decide +kernel
theorem dX12_sake_86 : decode cX12_sake 86 = .ok (.ireturn, 1) := by decide +kernel
theorem dX12_sake_87 : decode cX12_sake 87 = .ok (.iload 4, 2) := by decide +kernel
theorem dX12_sake_89 : decode cX12_sake 89 = .ok (.istore 7, 2) := by decide +kernel
theorem dX12_sake_91 : decode cX12_sake 91 = .ok (.iload_n 3, 1) := by decide +kernel
theorem dX12_sake_92 : decode cX12_sake 92 = .ok (.ifCond .ne 12, 3) := by decide +kernel
theorem dX12_sake_95 : decode cX12_sake 95 = .ok (.iload 4, 2) := by decide +kernel
theorem dX12_sake_97 : decode cX12_sake 97 = .ok (.iload 5, 2) := by decide +kernel
theorem dX12_sake_99 : decode cX12_sake 99 = .ok (.invokestatic 331, 3) := by decide +kernel
theorem dX12_sake_102 : decode cX12_sake 102 = .ok (.istore 4, 2) := by decide +kernel
theorem dX12_sake_104 : decode cX12_sake 104 = .ok (.iload 5, 2) := by decide +kernel
theorem dX12_sake_106 : decode cX12_sake 106 = .ok (.iload 7, 2) := by decide +kernel
theorem dX12_sake_108 : decode cX12_sake 108 = .ok (.invokestatic 331, 3) := by decide +kernel
theorem dX12_sake_111 : decode cX12_sake 111 = .ok (.istore 5, 2) := by decide +kernel
theorem dX12_sake_113 : decode cX12_sake 113 = .ok (.iinc 6 1, 3) := by decide +kernel
theorem dX12_sake_116 : decode cX12_sake 116 = .ok (.goto (-46), 3) := by decide +kernel
theorem dX12_sake_119 : decode cX12_sake 119 = .ok (.iconst (-1), 1) := by decide +kernel
theorem dX12_sake_120 : decode cX12_sake 120 = .ok (.ireturn, 1) := by decide +kernel
theorem dX12_sits_0 : decode cX12_sits 0 = .ok (.iload 4, 2) := by decide +kernel
theorem dX12_sits_2 : decode cX12_sits 2 = .ok (.aload_n 0, 1) := by decide +kernel
theorem dX12_sits_3 : decode cX12_sits 3 = .ok (.getfield 334, 3) := by decide +kernel
theorem dX12_sits_6 : decode cX12_sits 6 = .ok (.if_icmp .le 4, 3) := by decide +kernel
theorem dX12_sits_9 : decode cX12_sits 9 = .ok (.return_, 1) := by decide +kernel
theorem dX12_sits_10 : decode cX12_sits 10 = .ok (.iload_n 1, 1) := by decide +kernel
theorem dX12_sits_11 : decode cX12_sits 11 = .ok (.ifCond .ne 91, 3) := by decide +kernel
theorem dX12_sits_14 : decode cX12_sits 14 = .ok (.iload 4, 2) := by decide +kernel
theorem dX12_sits_16 : decode cX12_sits 16 = .ok (.iload_n 3, 1) := by decide +kernel
theorem dX12_sits_17 : decode cX12_sits 17 = .ok (.iconst 2, 1) := by decide +kernel
theorem dX12_sits_18 : decode cX12_sits 18 = .ok (.if_icmp .le 34, 3) := by decide +kernel
theorem dX12_sits_21 : decode cX12_sits 21 = .ok (.aload_n 0, 1) := by decide +kernel
theorem dX12_sits_22 : decode cX12_sits 22 = .ok (.aload_n 0, 1) := by decide +kernel
theorem dX12_sits_23 : decode cX12_sits 23 = .ok (.aload_n 0, 1) := by decide +kernel
theorem dX12_sits_24 : decode cX12_sits 24 = .ok (.getfield 44, 3) := by decide +kernel
theorem dX12_sits_27 : decode cX12_sits 27 = .ok (.iload_n 3, 1) := by decide +kernel
theorem dX12_sits_28 : decode cX12_sits 28 = .ok (.iconst 1, 1) := by decide +kernel
theorem dX12_sits_29 : decode cX12_sits 29 = .ok (.isub, 1) := by decide +kernel
theorem dX12_sits_30 : decode cX12_sits 30 = .ok (.iaload, 1) := by decide +kernel
theorem dX12_sits_31 : decode cX12_sits 31 = .ok (.iconst 1, 1) := by decide +kernel
theorem dX12_sits_32 : decode cX12_sits 32 = .ok (.invokevirtual 257, 3) := by decide +kernel
theorem dX12_sits_35 : decode cX12_sits 35 = .ok (.aload_n 0, 1) := by decide +kernel
theorem dX12_sits_36 : decode cX12_sits 36 = .ok (.aload_n 0, 1) := by decide +kernel
theorem dX12_sits_37 : decode cX12_sits 37 = .ok (.getfield 44, 3) := by decide +kernel
theorem dX12_sits_40 : decode cX12_sits 40 = .ok (.iconst 0, 1) := by decide +kernel
theorem dX12_sits_41 : decode cX12_sits 41 = .ok (.iaload, 1) := by decide +kernel
theorem dX12_sits_42 : decode cX12_sits 42 = .ok (.iconst 1, 1) := by decide +kernel
theorem dX12_sits_43 : decode cX12_sits 43 = .ok (.invokevirtual 257, 3) := by decide +kernel
theorem dX12_sits_46 : decode cX12_sits 46 = .ok (.invokevirtual 263, 3) := by decide +kernel
theorem dX12_sits_49 : decode cX12_sits 49 = .ok (.goto 4, 3) := by decide +kernel
theorem dX12_sits_52 : decode cX12_sits 52 = .ok (.iconst 0, 1) := by decide +kernel
theorem dX12_sits_53 : decode cX12_sits 53 = .ok (.iadd, 1) := by decide +kernel
theorem dX12_sits_54 : decode cX12_sits 54 = .ok (.istore 5, 2) := by decide +kernel
theorem dX12_sits_56 : decode cX12_sits 56 = .ok (.iload 5, 2) := by decide +kernel
theorem dX12_sits_58 : decode cX12_sits 58 = .ok (.aload_n 0, 1) := by decide +kernel
theorem dX12_sits_59 : decode cX12_sits 59 = .ok (.getfield 334, 3) := by decide +kernel
theorem dX12_sits_62 : decode cX12_sits 62 = .ok (.if_icmp .lt 4, 3) := by decide +kernel
theorem dX12_sits_65 : decode cX12_sits 65 = .ok (.return_, 1) := by decide +kernel
theorem dX12_sits_66 : decode cX12_sits 66 = .ok (.aload_n 0, 1) := by decide +kernel
theorem dX12_sits_67 : decode cX12_sits 67 = .ok (.iload 5, 2) := by decide +kernel
theorem dX12_sits_69 : decode cX12_sits 69 = .ok (.putfield 334, 3) := by decide +kernel
theorem dX12_sits_72 : decode cX12_sits 72 = .ok (.iconst 0, 1) := by decide +kernel
theorem dX12_sits_73 : decode cX12_sits 73 = .ok (.istore 6, 2) := by decide +kernel
theorem dX12_sits_75 : decode cX12_sits 75 = .ok (.iload 6, 2) := by decide +kernel
theorem dX12_sits_77 : decode cX12_sits 77 = .ok (.iload_n 3, 1) := by decide +kernel
theorem dX12_sits_78 : decode cX12_sits 78 = .ok (.if_icmp .ge 23, 3) := by decide +kernel
theorem dX12_sits_81 : decode cX12_sits 81 = .ok (.aload_n 0, 1) := by decide +kernel
theorem dX12_sits_82 : decode cX12_sits 82 = .ok (.getfield 47, 3) := by decide +kernel
theorem dX12_sits_85 : decode cX12_sits 85 = .ok (.iload 6, 2) := by decide +kernel
theorem dX12_sits_87 : decode cX12_sits 87 = .ok (.aload_n 0, 1) := by decide +kernel
theorem dX12_sits_88 : decode cX12_sits 88 = .ok (.getfield 44, 3) := by decide +kernel
theorem dX12_sits_91 : decode cX12_sits 91 = .ok (.iload 6, 2) := by decide +kernel
theorem dX12_sits_93 : decode cX12_sits 93 = .ok (.iaload, 1) := by decide +kernel
theorem dX12_sits_94 : decode cX12_sits 94 = .ok (.iastore, 1) := by decide +kernel
theorem dX12_sits_95 : decode cX12_sits 95 = .ok (.iinc 6 1, 3) := by decide +kernel
theorem dX12_sits_98 : decode cX12_sits 98 = .ok (.goto (-23), 3) := by decide +kernel
theorem dX12_sits_101 : decode cX12_sits 101 = .ok (.return_, 1) := by decide +kernel
theorem dX12_sits_102 : decode cX12_sits 102 = .ok (.iconst 0, 1) := by decide +kernel
theorem dX12_sits_103 : decode cX12_sits 103 = .ok (.istore 5, 2) := by decide +kernel
theorem dX12_sits_105 : decode cX12_sits 105 = .ok (.iload 5, 2) := by decide +kernel
theorem dX12_sits_107 : decode cX12_sits 107 = .ok (.aload_n 0, 1) := by decide +kernel
theorem dX12_sits_108 : decode cX12_sits 108 = .ok (.getfield 7, 3) := by decide +kernel
theorem dX12_sits_111 : decode cX12_sits 111 = .ok (.iconst 5, 1) := by decide +kernel
theorem dX12_sits_112 : decode cX12_sits 112 = .ok (.iaload, 1) := by decide +kernel
theorem dX12_sits_113 : decode cX12_sits 113 = .ok (.if_icmp .ge 85, 3) := by decide +kernel
theorem dX12_sits_116 : decode cX12_sits 116 = .ok (.iload_n 1, 1) := by decide +kernel
theorem dX12_sits_117 : decode cX12_sits 117 = .ok (.iload 5, 2) := by decide +kernel
theorem dX12_sits_119 : decode cX12_sits 119 = .ok (.invokestatic 305, 3) := by decide +kernel
theorem dX12_sits_122 : decode cX12_sits 122 = .ok (.ifCond .ne 6, 3) := by decide +kernel
theorem dX12_sits_125 : decode cX12_sits 125 = .ok (.goto 67, 3) := by decide +kernel
theorem dX12_sits_128 : decode cX12_sits 128 = .ok (.aload_n 0, 1) := by decide +kernel
theorem dX12_sits_129 : decode cX12_sits 129 = .ok (.getfield 44, 3) := by decide +kernel
theorem dX12_sits_132 : decode cX12_sits 132 = .ok (.iload_n 2, 1) := by decide +kernel
theorem dX12_sits_133 : decode cX12_sits 133 = .ok (.iload 5, 2) := by decide +kernel
theorem dX12_sits_135 : decode cX12_sits 135 = .ok (.iastore, 1) := by decide +kernel
theorem dX12_sits_136 : decode cX12_sits 136 = .ok (.aload_n 0, 1) := by decide +kernel
theorem dX12_sits_137 : decode cX12_sits 137 = .ok (.iload_n 1, 1) := by decide +kernel
theorem dX12_sits_138 : decode cX12_sits 138 = .ok (.iconst 1, 1) := by decide +kernel
theorem dX12_sits_139 : decode cX12_sits 139 = .ok (.iload 5, 2) := by decide +kernel
theorem dX12_sits_141 : decode cX12_sits 141 = .ok (.ishl, 1) := by decide +kernel
theorem dX12_sits_142 : decode cX12_sits 142 = .ok (.iconst (-1), 1) := by decide +kernel
theorem dX12_sits_143 : decode cX12_sits 143 = .ok (.ixor, 1) := by decide +kernel
theorem dX12_sits_144 : decode cX12_sits 144 = .ok (.iand, 1) := by decide +kernel
theorem dX12_sits_145 : decode cX12_sits 145 = .ok (.iload_n 2, 1) := by decide +kernel
theorem dX12_sits_146 : decode cX12_sits 146 = .ok (.iconst 1, 1) := by decide +kernel
theorem dX12_sits_147 : decode cX12_sits 147 = .ok (.iadd, 1) := by decide +kernel
theorem dX12_sits_148 : decode cX12_sits 148 = .ok (.iload_n 3, 1) := by decide +kernel
theorem dX12_sits_149 : decode cX12_sits 149 = .ok (.iload 4, 2) := by decide +kernel
theorem dX12_sits_151 : decode cX12_sits 151 = .ok (.iload_n 2, 1) := by decide +kernel
theorem dX12_sits_152 : decode cX12_sits 152 = .ok (.ifCond .le 30, 3) := by decide +kernel
theorem dX12_sits_155 : decode cX12_sits 155 = .ok (.aload_n 0, 1) := by decide +kernel
theorem dX12_sits_156 : decode cX12_sits 156 = .ok (.aload_n 0, 1) := by decide +kernel
theorem dX12_sits_157 : decode cX12_sits 157 = .ok (.aload_n 0, 1) := by decide +kernel
theorem dX12_sits_158 : decode cX12_sits 158 = .ok (.getfield 44, 3) := by decide +kernel
theorem dX12_sits_161 : decode cX12_sits 161 = .ok (.iload_n 2, 1) := by decide +kernel
theorem dX12_sits_162 : decode cX12_sits 162 = .ok (.iconst 1, 1) := by decide +kernel
theorem dX12_sits_163 : decode cX12_sits 163 = .ok (.isub, 1) := by decide +kernel
theorem dX12_sits_164 : decode cX12_sits 164 = .ok (.iaload, 1) := by decide +kernel
theorem dX12_sits_165 : decode cX12_sits 165 = .ok (.iconst 1, 1) := by decide +kernel
theorem dX12_sits_166 : decode cX12_sits 166 = .ok (.invokevirtual 257, 3) := by decide +kernel
theorem dX12_sits_169 : decode cX12_sits 169 = .ok (.aload_n 0, 1) := by decide +kernel
theorem dX12_sits_170 : decode cX12_sits 170 = .ok (.iload 5, 2) := by decide +kernel
theorem dX12_sits_172 : decode cX12_sits 172 = .ok (.iconst 1, 1) := by decide +kernel
theorem dX12_sits_173 : decode cX12_sits 173 = .ok (.invokevirtual 257, 3) := by decide +kernel
theorem dX12_sits_176 : decode cX12_sits 176 = .ok (.invokevirtual 263, 3) := by decide +kernel
theorem dX12_sits_179 : decode cX12_sits 179 = .ok (.goto 4, 3) := by decide +kernel
theorem dX12_sits_182 : decode cX12_sits 182 = .ok (.iconst 0, 1) := by decide +kernel
theorem dX12_sits_183 : decode cX12_sits 183 = .ok (.iadd, 1) := by decide +kernel
theorem dX12_sits_184 : decode cX12_sits 184 = .ok (.invokevirtual 337, 3) := by decide +kernel
theorem dX12_sits_187 : decode cX12_sits 187 = .ok (.iload_n 2, 1) := by decide +kernel
theorem dX12_sits_188 : decode cX12_sits 188 = .ok (.ifCond .ne 4, 3) := by decide +kernel
theorem dX12_sits_191 : decode cX12_sits 191 = .ok (.return_, 1) := by decide +kernel
theorem dX12_sits_192 : decode cX12_sits 192 = .ok (.iinc 5 1, 3) := by decide +kernel
theorem dX12_sits_195 : decode cX12_sits 195 = .ok (.goto (-90), 3) := by decide +kernel
theorem dX12_sits_198 : decode cX12_sits 198 = .ok (.return_, 1) := by decide +kernel
theorem dX12_table_0 : decode cX12_table 0 = .ok (.aload_n 0, 1) := by decide +kernel
theorem dX12_table_1 : decode cX12_table 1 = .ok (.iconst 0, 1) := by decide +kernel
theorem dX12_table_2 : decode cX12_table 2 = .ok (.putfield 56, 3) := by decide +kernel
theorem dX12_table_5 : decode cX12_table 5 = .ok (.iload_n 1, 1) := by decide +kernel
theorem dX12_table_6 : decode cX12_table 6 = .ok (.iconst 1, 1) := by decide +kernel
theorem dX12_table_7 : decode cX12_table 7 = .ok (.aload_n 0, 1) := by decide +kernel
theorem dX12_table_8 : decode cX12_table 8 = .ok (.getfield 7, 3) := by decide +kernel
theorem dX12_table_11 : decode cX12_table 11 = .ok (.iconst 5, 1) := by decide +kernel
theorem dX12_table_12 : decode cX12_table 12 = .ok (.iaload, 1) := by decide +kernel
theorem dX12_table_13 : decode cX12_table 13 = .ok (.ishl, 1) := by decide +kernel
theorem dX12_table_14 : decode cX12_table 14 = .ok (.iconst 1, 1) := by decide +kernel
theorem dX12_table_15 : decode cX12_table 15 = .ok (.isub, 1) := by decide +kernel
theorem dX12_table_16 : decode cX12_table 16 = .ok (.iand, 1) := by decide +kernel
theorem dX12_table_17 : decode cX12_table 17 = .ok (.istore_n 3, 1) := by decide +kernel
theorem dX12_table_18 : decode cX12_table 18 = .ok (.iload_n 3, 1) := by decide +kernel
theorem dX12_table_19 : decode cX12_table 19 = .ok (.invokestatic 340, 3) := by decide +kernel
theorem dX12_table_22 : decode cX12_table 22 = .ok (.istore 4, 2) := by decide +kernel
theorem dX12_table_24 : decode cX12_table 24 = .ok (.iload 4, 2) := by decide +kernel
theorem dX12_table_26 : decode cX12_table 26 = .ok (.bipush 8, 2) := by decide +kernel
theorem dX12_table_28 : decode cX12_table 28 = .ok (.if_icmp .le 6, 3) := by decide +kernel
theorem dX12_table_31 : decode cX12_table 31 = .ok (.bipush (-3), 2) := by decide +kernel
theorem dX12_table_33 : decode cX12_table 33 = .ok (.ireturn, 1) := by decide +kernel
theorem dX12_table_34 : decode cX12_table 34 = .ok (.aload_n 0, 1) := by decide +kernel
theorem dX12_table_35 : decode cX12_table 35 = .ok (.ldc_w 343, 3) := by decide +kernel
theorem dX12_table_38 : decode cX12_table 38 = .ok (.putfield 334, 3) := by decide +kernel
theorem dX12_table_41 : decode cX12_table 41 = .ok (.iload 4, 2) := by decide +kernel
theorem dX12_table_43 : decode cX12_table 43 = .ok (.ifCond .le 12, 3) := by decide +kernel
theorem dX12_table_46 : decode cX12_table 46 = .ok (.aload_n 0, 1) := by decide +kernel
theorem dX12_table_47 : decode cX12_table 47 = .ok (.iload_n 3, 1) := by decide +kernel
theorem dX12_table_48 : decode cX12_table 48 = .ok (.iconst 0, 1) := by decide +kernel
theorem dX12_table_49 : decode cX12_table 49 = .ok (.iload 4, 2) := by decide +kernel
theorem dX12_table_51 : decode cX12_table 51 = .ok (.iconst 0, 1) := by decide +kernel
theorem dX12_table_52 : decode cX12_table 52 = .ok (.invokevirtual 337, 3) := by decide +kernel
theorem dX12_table_55 : decode cX12_table 55 = .ok (.iload_n 2, 1) := by decide +kernel
theorem dX12_table_56 : decode cX12_table 56 = .ok (.iconst (-1), 1) := by decide +kernel
theorem dX12_table_57 : decode cX12_table 57 = .ok (.if_icmp .ne 17, 3) := by decide +kernel
theorem dX12_table_60 : decode cX12_table 60 = .ok (.iload 4, 2) := by decide +kernel
theorem dX12_table_62 : decode cX12_table 62 = .ok (.ifCond .ne 7, 3) := by decide +kernel
theorem dX12_table_65 : decode cX12_table 65 = .ok (.iconst 0, 1) := by decide +kernel
theorem dX12_table_66 : decode cX12_table 66 = .ok (.goto 7, 3) := by decide +kernel
theorem dX12_table_69 : decode cX12_table 69 = .ok (.aload_n 0, 1) := by decide +kernel
theorem dX12_table_70 : decode cX12_table 70 = .ok (.getfield 334, 3) := by decide +kernel
theorem dX12_table_73 : decode cX12_table 73 = .ok (.ireturn, 1) := by decide +kernel
theorem dX12_table_74 : decode cX12_table 74 = .ok (.iload_n 2, 1) := by decide +kernel
theorem dX12_table_75 : decode cX12_table 75 = .ok (.iconst 0, 1) := by decide +kernel
theorem dX12_table_76 : decode cX12_table 76 = .ok (.iload 4, 2) := by decide +kernel
theorem dX12_table_78 : decode cX12_table 78 = .ok (.iconst 1, 1) := by decide +kernel
theorem dX12_table_79 : decode cX12_table 79 = .ok (.isub, 1) := by decide +kernel
theorem dX12_table_80 : decode cX12_table 80 = .ok (.invokestatic 59, 3) := by decide +kernel
theorem dX12_table_83 : decode cX12_table 83 = .ok (.ifCond .eq 12, 3) := by decide +kernel
theorem dX12_table_86 : decode cX12_table 86 = .ok (.aload_n 0, 1) := by decide +kernel
theorem dX12_table_87 : decode cX12_table 87 = .ok (.getfield 47, 3) := by decide +kernel
theorem dX12_table_90 : decode cX12_table 90 = .ok (.iload_n 2, 1) := by decide +kernel
theorem dX12_table_91 : decode cX12_table 91 = .ok (.iaload, 1) := by decide +kernel
theorem dX12_table_92 : decode cX12_table 92 = .ok (.goto 4, 3) := by decide +kernel
theorem dX12_table_95 : decode cX12_table 95 = .ok (.iconst (-1), 1) := by decide +kernel
theorem dX12_table_96 : decode cX12_table 96 = .ok (.ireturn, 1) := by decide +kernel
theorem dX12_pairsOf_0 : decode cX12_pairsOf 0 = .ok (.iload_n 1, 1) := by decide +kernel
theorem dX12_pairsOf_1 : decode cX12_pairsOf 1 = .ok (.ifCond .ne 5, 3) := by decide +kernel
theorem dX12_pairsOf_4 : decode cX12_pairsOf 4 = .ok (.iconst 0, 1) := by decide +kernel
theorem dX12_pairsOf_5 : decode cX12_pairsOf 5 = .ok (.ireturn, 1) := by decide +kernel
theorem dX12_pairsOf_6 : decode cX12_pairsOf 6 = .ok (.aload_n 0, 1) := by decide +kernel
theorem dX12_pairsOf_7 : decode cX12_pairsOf 7 = .ok (.getfield 50, 3) := by decide +kernel
theorem dX12_pairsOf_10 : decode cX12_pairsOf 10 = .ok (.iload_n 1, 1) := by decide +kernel
theorem dX12_pairsOf_11 : decode cX12_pairsOf 11 = .ok (.iaload, 1) := by decide +kernel
theorem dX12_pairsOf_12 : decode cX12_pairsOf 12 = .ok (.iconst (-1), 1) := by decide +kernel
theorem dX12_pairsOf_13 : decode cX12_pairsOf 13 = .ok (.if_icmp .eq 10, 3) := by decide +kernel
theorem dX12_pairsOf_16 : decode cX12_pairsOf 16 = .ok (.aload_n 0, 1) := by decide +kernel
theorem dX12_pairsOf_17 : decode cX12_pairsOf 17 = .ok (.getfield 50, 3) := by decide +kernel
theorem dX12_pairsOf_20 : decode cX12_pairsOf 20 = .ok (.iload_n 1, 1) := by decide +kernel
theorem dX12_pairsOf_21 : decode cX12_pairsOf 21 = .ok (.iaload, 1) := by decide +kernel
theorem dX12_pairsOf_22 : decode cX12_pairsOf 22 = .ok (.ireturn, 1) := by decide +kernel
theorem dX12_pairsOf_23 : decode cX12_pairsOf 23 = .ok (.iconst 0, 1) := by decide +kernel
theorem dX12_pairsOf_24 : decode cX12_pairsOf 24 = .ok (.istore_n 2, 1) := by decide +kernel
theorem dX12_pairsOf_25 : decode cX12_pairsOf 25 = .ok (.iload_n 1, 1) := by decide +kernel
theorem dX12_pairsOf_26 : decode cX12_pairsOf 26 = .ok (.iload_n 2, 1) := by decide +kernel
theorem dX12_pairsOf_27 : decode cX12_pairsOf 27 = .ok (.invokestatic 305, 3) := by decide +kernel
theorem dX12_pairsOf_30 : decode cX12_pairsOf 30 = .ok (.ifCond .ne 9, 3) := by decide +kernel
theorem dX12_pairsOf_33 : decode cX12_pairsOf 33 = .ok (.iinc 2 1, 3) := by decide +kernel
theorem dX12_pairsOf_36 : decode cX12_pairsOf 36 = .ok (.goto (-11), 3) := by decide +kernel
theorem dX12_pairsOf_39 : decode cX12_pairsOf 39 = .ok (.iload_n 1, 1) := by decide +kernel
theorem dX12_pairsOf_40 : decode cX12_pairsOf 40 = .ok (.iconst 1, 1) := by decide +kernel
theorem dX12_pairsOf_41 : decode cX12_pairsOf 41 = .ok (.iload_n 2, 1) := by decide +kernel
theorem dX12_pairsOf_42 : decode cX12_pairsOf 42 = .ok (.ishl, 1) := by decide +kernel
theorem dX12_pairsOf_43 : decode cX12_pairsOf 43 = .ok (.iconst (-1), 1) := by decide +kernel
theorem dX12_pairsOf_44 : decode cX12_pairsOf 44 = .ok (.ixor, 1) := by decide +kernel
theorem dX12_pairsOf_45 : decode cX12_pairsOf 45 = .ok (.iand, 1) := by decide +kernel
theorem dX12_pairsOf_46 : decode cX12_pairsOf 46 = .ok (.istore_n 3, 1) := by decide +kernel
theorem dX12_pairsOf_47 : decode cX12_pairsOf 47 = .ok (.aload_n 0, 1) := by decide +kernel
theorem dX12_pairsOf_48 : decode cX12_pairsOf 48 = .ok (.iload_n 3, 1) := by decide +kernel
theorem dX12_pairsOf_49 : decode cX12_pairsOf 49 = .ok (.invokevirtual 344, 3) := by decide +kernel
theorem dX12_pairsOf_52 : decode cX12_pairsOf 52 = .ok (.istore 4, 2) := by decide +kernel
theorem dX12_pairsOf_54 : decode cX12_pairsOf 54 = .ok (.iload_n 2, 1) := by decide +kernel
theorem dX12_pairsOf_55 : decode cX12_pairsOf 55 = .ok (.iconst 1, 1) := by decide +kernel
theorem dX12_pairsOf_56 : decode cX12_pairsOf 56 = .ok (.iadd, 1) := by decide +kernel
theorem dX12_pairsOf_57 : decode cX12_pairsOf 57 = .ok (.istore 5, 2) := by decide +kernel
theorem dX12_pairsOf_59 : decode cX12_pairsOf 59 = .ok (.iload 5, 2) := by decide +kernel
theorem dX12_pairsOf_61 : decode cX12_pairsOf 61 = .ok (.aload_n 0, 1) := by decide +kernel
theorem dX12_pairsOf_62 : decode cX12_pairsOf 62 = .ok (.getfield 7, 3) := by decide +kernel
theorem dX12_pairsOf_65 : decode cX12_pairsOf 65 = .ok (.iconst 5, 1) := by decide +kernel
theorem dX12_pairsOf_66 : decode cX12_pairsOf 66 = .ok (.iaload, 1) := by decide +kernel
theorem dX12_pairsOf_67 : decode cX12_pairsOf 67 = .ok (.if_icmp .ge 49, 3) := by decide +kernel
theorem dX12_pairsOf_70 : decode cX12_pairsOf 70 = .ok (.iload_n 3, 1) := by decide +kernel
theorem dX12_pairsOf_71 : decode cX12_pairsOf 71 = .ok (.iload 5, 2) := by decide +kernel
theorem dX12_pairsOf_73 : decode cX12_pairsOf 73 = .ok (.invokestatic 305, 3) := by decide +kernel
theorem dX12_pairsOf_76 : decode cX12_pairsOf 76 = .ok (.ifCond .eq 34, 3) := by decide +kernel
theorem dX12_pairsOf_79 : decode cX12_pairsOf 79 = .ok (.aload_n 0, 1) := by decide +kernel
theorem dX12_pairsOf_80 : decode cX12_pairsOf 80 = .ok (.iload_n 2, 1) := by decide +kernel
theorem dX12_pairsOf_81 : decode cX12_pairsOf 81 = .ok (.iload 5, 2) := by decide +kernel
theorem dX12_pairsOf_83 : decode cX12_pairsOf 83 = .ok (.invokevirtual 148, 3) := by decide +kernel
theorem dX12_pairsOf_86 : decode cX12_pairsOf 86 = .ok (.ifCond .eq 24, 3) := by decide +kernel
theorem dX12_pairsOf_89 : decode cX12_pairsOf 89 = .ok (.iload 4, 2) := by decide +kernel
theorem dX12_pairsOf_91 : decode cX12_pairsOf 91 = .ok (.iconst 1, 1) := by decide +kernel
theorem dX12_pairsOf_92 : decode cX12_pairsOf 92 = .ok (.aload_n 0, 1) := by decide +kernel
theorem dX12_pairsOf_93 : decode cX12_pairsOf 93 = .ok (.iload_n 3, 1) := by decide +kernel
theorem dX12_pairsOf_94 : decode cX12_pairsOf 94 = .ok (.iconst 1, 1) := by decide +kernel
theorem dX12_pairsOf_95 : decode cX12_pairsOf 95 = .ok (.iload 5, 2) := by decide +kernel
theorem dX12_pairsOf_97 : decode cX12_pairsOf 97 = .ok (.ishl, 1) := by decide +kernel
theorem dX12_pairsOf_98 : decode cX12_pairsOf 98 = .ok (.iconst (-1), 1) := by decide +kernel
theorem dX12_pairsOf_99 : decode cX12_pairsOf 99 = .ok (.ixor, 1) := by decide +kernel
theorem dX12_pairsOf_100 : decode cX12_pairsOf 100 = .ok (.iand, 1) := by decide +kernel
theorem dX12_pairsOf_101 : decode cX12_pairsOf 101 = .ok (.invokevirtual 344, 3) := by decide +kernel
theorem dX12_pairsOf_104 : decode cX12_pairsOf 104 = .ok (.iadd, 1) := by decide +kernel
theorem dX12_pairsOf_105 : decode cX12_pairsOf 105 = .ok (.invokestatic 287, 3) := by decide +kernel
theorem dX12_pairsOf_108 : decode cX12_pairsOf 108 = .ok (.istore 4, 2) := by decide +kernel
theorem dX12_pairsOf_110 : decode cX12_pairsOf 110 = .ok (.iinc 5 1, 3) := by decide +kernel
theorem dX12_pairsOf_113 : decode cX12_pairsOf 113 = .ok (.goto (-54), 3) := by decide +kernel
theorem dX12_pairsOf_116 : decode cX12_pairsOf 116 = .ok (.aload_n 0, 1) := by decide +kernel
theorem dX12_pairsOf_117 : decode cX12_pairsOf 117 = .ok (.getfield 50, 3) := by decide +kernel
theorem dX12_pairsOf_120 : decode cX12_pairsOf 120 = .ok (.iload_n 1, 1) := by decide +kernel
theorem dX12_pairsOf_121 : decode cX12_pairsOf 121 = .ok (.iload 4, 2) := by decide +kernel
theorem dX12_pairsOf_123 : decode cX12_pairsOf 123 = .ok (.iastore, 1) := by decide +kernel
theorem dX12_pairsOf_124 : decode cX12_pairsOf 124 = .ok (.iload 4, 2) := by decide +kernel
theorem dX12_pairsOf_126 : decode cX12_pairsOf 126 = .ok (.ireturn, 1) := by decide +kernel
theorem dX12_pairs_0 : decode cX12_pairs 0 = .ok (.aload_n 0, 1) := by decide +kernel
theorem dX12_pairs_1 : decode cX12_pairs 1 = .ok (.iconst 0, 1) := by decide +kernel
theorem dX12_pairs_2 : decode cX12_pairs 2 = .ok (.putfield 56, 3) := by decide +kernel
theorem dX12_pairs_5 : decode cX12_pairs 5 = .ok (.iconst 0, 1) := by decide +kernel
theorem dX12_pairs_6 : decode cX12_pairs 6 = .ok (.istore_n 2, 1) := by decide +kernel
theorem dX12_pairs_7 : decode cX12_pairs 7 = .ok (.iload_n 2, 1) := by decide +kernel
theorem dX12_pairs_8 : decode cX12_pairs 8 = .ok (.sipush 1024, 3) := by decide +kernel
theorem dX12_pairs_11 : decode cX12_pairs 11 = .ok (.if_icmp .ge 16, 3) := by decide +kernel
theorem dX12_pairs_14 : decode cX12_pairs 14 = .ok (.aload_n 0, 1) := by decide +kernel
theorem dX12_pairs_15 : decode cX12_pairs 15 = .ok (.getfield 50, 3) := by decide +kernel
theorem dX12_pairs_18 : decode cX12_pairs 18 = .ok (.iload_n 2, 1) := by decide +kernel
theorem dX12_pairs_19 : decode cX12_pairs 19 = .ok (.iconst (-1), 1) := by decide +kernel
theorem dX12_pairs_20 : decode cX12_pairs 20 = .ok (.iastore, 1) := by decide +kernel
theorem dX12_pairs_21 : decode cX12_pairs 21 = .ok (.iinc 2 1, 3) := by decide +kernel
theorem dX12_pairs_24 : decode cX12_pairs 24 = .ok (.goto (-17), 3) := by decide +kernel
theorem dX12_pairs_27 : decode cX12_pairs 27 = .ok (.iconst 1, 1) := by decide +kernel
theorem dX12_pairs_28 : decode cX12_pairs 28 = .ok (.aload_n 0, 1) := by decide +kernel
theorem dX12_pairs_29 : decode cX12_pairs 29 = .ok (.getfield 7, 3) := by decide +kernel
theorem dX12_pairs_32 : decode cX12_pairs 32 = .ok (.iconst 5, 1) := by decide +kernel
theorem dX12_pairs_33 : decode cX12_pairs 33 = .ok (.iaload, 1) := by decide +kernel
theorem dX12_pairs_34 : decode cX12_pairs 34 = .ok (.ishl, 1) := by decide +kernel
theorem dX12_pairs_35 : decode cX12_pairs 35 = .ok (.iconst 1, 1) := by decide +kernel
theorem dX12_pairs_36 : decode cX12_pairs 36 = .ok (.isub, 1) := by decide +kernel
theorem dX12_pairs_37 : decode cX12_pairs 37 = .ok (.istore_n 2, 1) := by decide +kernel
theorem dX12_pairs_38 : decode cX12_pairs 38 = .ok (.iload_n 1, 1) := by decide +kernel
theorem dX12_pairs_39 : decode cX12_pairs 39 = .ok (.ifCond .ne 9, 3) := by decide +kernel
theorem dX12_pairs_42 : decode cX12_pairs 42 = .ok (.aload_n 0, 1) := by decide +kernel
theorem dX12_pairs_43 : decode cX12_pairs 43 = .ok (.iload_n 2, 1) := by decide +kernel
theorem dX12_pairs_44 : decode cX12_pairs 44 = .ok (.invokevirtual 344, 3) := by decide +kernel
theorem dX12_pairs_47 : decode cX12_pairs 47 = .ok (.ireturn, 1) := by decide +kernel
theorem dX12_pairs_48 : decode cX12_pairs 48 = .ok (.iconst 0, 1) := by decide +kernel
theorem dX12_pairs_49 : decode cX12_pairs 49 = .ok (.istore_n 3, 1) := by decide +kernel
theorem dX12_pairs_50 : decode cX12_pairs 50 = .ok (.iconst 0, 1) := by decide +kernel
theorem dX12_pairs_51 : decode cX12_pairs 51 = .ok (.istore 4, 2) := by decide +kernel
theorem dX12_pairs_53 : decode cX12_pairs 53 = .ok (.iload 4, 2) := by decide +kernel
theorem dX12_pairs_55 : decode cX12_pairs 55 = .ok (.aload_n 0, 1) := by decide +kernel
theorem dX12_pairs_56 : decode cX12_pairs 56 = .ok (.getfield 7, 3) := by decide +kernel
theorem dX12_pairs_59 : decode cX12_pairs 59 = .ok (.bipush 6, 2) := by decide +kernel
theorem dX12_pairs_61 : decode cX12_pairs 61 = .ok (.iaload, 1) := by decide +kernel
theorem dX12_pairs_62 : decode cX12_pairs 62 = .ok (.if_icmp .ge 69, 3) := by decide +kernel
theorem dX12_pairs_65 : decode cX12_pairs 65 = .ok (.iconst 1, 1) := by decide +kernel
theorem dX12_pairs_66 : decode cX12_pairs 66 = .ok (.aload_n 0, 1) := by decide +kernel
theorem dX12_pairs_67 : decode cX12_pairs 67 = .ok (.iload 4, 2) := by decide +kernel
theorem dX12_pairs_69 : decode cX12_pairs 69 = .ok (.invokevirtual 63, 3) := by decide +kernel
theorem dX12_pairs_72 : decode cX12_pairs 72 = .ok (.ishl, 1) := by decide +kernel
theorem dX12_pairs_73 : decode cX12_pairs 73 = .ok (.iconst 1, 1) := by decide +kernel
theorem dX12_pairs_74 : decode cX12_pairs 74 = .ok (.aload_n 0, 1) := by decide +kernel
theorem dX12_pairs_75 : decode cX12_pairs 75 = .ok (.iload 4, 2) := by decide +kernel
theorem dX12_pairs_77 : decode cX12_pairs 77 = .ok (.invokevirtual 67, 3) := by decide +kernel
theorem dX12_pairs_80 : decode cX12_pairs 80 = .ok (.ishl, 1) := by decide +kernel
theorem dX12_pairs_81 : decode cX12_pairs 81 = .ok (.ior, 1) := by decide +kernel
theorem dX12_pairs_82 : decode cX12_pairs 82 = .ok (.istore 5, 2) := by decide +kernel
theorem dX12_pairs_84 : decode cX12_pairs 84 = .ok (.iload_n 3, 1) := by decide +kernel
theorem dX12_pairs_85 : decode cX12_pairs 85 = .ok (.iload 5, 2) := by decide +kernel
theorem dX12_pairs_87 : decode cX12_pairs 87 = .ok (.ior, 1) := by decide +kernel
theorem dX12_pairs_88 : decode cX12_pairs 88 = .ok (.istore_n 3, 1) := by decide +kernel
theorem dX12_pairs_89 : decode cX12_pairs 89 = .ok (.iload_n 2, 1) := by decide +kernel
theorem dX12_pairs_90 : decode cX12_pairs 90 = .ok (.iload 5, 2) := by decide +kernel
theorem dX12_pairs_92 : decode cX12_pairs 92 = .ok (.iand, 1) := by decide +kernel
theorem dX12_pairs_93 : decode cX12_pairs 93 = .ok (.iload 5, 2) := by decide +kernel
theorem dX12_pairs_95 : decode cX12_pairs 95 = .ok (.if_icmp .ne 30, 3) := by decide +kernel
theorem dX12_pairs_98 : decode cX12_pairs 98 = .ok (.iconst 1, 1) := by decide +kernel
theorem dX12_pairs_99 : decode cX12_pairs 99 = .ok (.aload_n 0, 1) := by decide +kernel
theorem dX12_pairs_100 : decode cX12_pairs 100 = .ok (.iload_n 2, 1) := by decide +kernel
theorem dX12_pairs_101 : decode cX12_pairs 101 = .ok (.iload 5, 2) := by decide +kernel
theorem dX12_pairs_103 : decode cX12_pairs 103 = .ok (.iconst (-1), 1) := by decide +kernel
theorem dX12_pairs_104 : decode cX12_pairs 104 = .ok (.ixor, 1) := by decide +kernel
theorem dX12_pairs_105 : decode cX12_pairs 105 = .ok (.iand, 1) := by decide +kernel
theorem dX12_pairs_106 : decode cX12_pairs 106 = .ok (.invokevirtual 344, 3) := by decide +kernel
theorem dX12_pairs_109 : decode cX12_pairs 109 = .ok (.iadd, 1) := by decide +kernel
theorem dX12_pairs_110 : decode cX12_pairs 110 = .ok (.aload_n 0, 1) := by decide +kernel
theorem dX12_pairs_111 : decode cX12_pairs 111 = .ok (.iload_n 2, 1) := by decide +kernel
theorem dX12_pairs_112 : decode cX12_pairs 112 = .ok (.invokevirtual 344, 3) := by decide +kernel
theorem dX12_pairs_115 : decode cX12_pairs 115 = .ok (.if_icmp .ne 10, 3) := by decide +kernel
theorem dX12_pairs_118 : decode cX12_pairs 118 = .ok (.iload_n 2, 1) := by decide +kernel
theorem dX12_pairs_119 : decode cX12_pairs 119 = .ok (.iload 5, 2) := by decide +kernel
theorem dX12_pairs_121 : decode cX12_pairs 121 = .ok (.iconst (-1), 1) := by decide +kernel
theorem dX12_pairs_122 : decode cX12_pairs 122 = .ok (.ixor, 1) := by decide +kernel
theorem dX12_pairs_123 : decode cX12_pairs 123 = .ok (.iand, 1) := by decide +kernel
theorem dX12_pairs_124 : decode cX12_pairs 124 = .ok (.istore_n 2, 1) := by decide +kernel
theorem dX12_pairs_125 : decode cX12_pairs 125 = .ok (.iinc 4 1, 3) := by decide +kernel
theorem dX12_pairs_128 : decode cX12_pairs 128 = .ok (.goto (-75), 3) := by decide +kernel
theorem dX12_pairs_131 : decode cX12_pairs 131 = .ok (.iload_n 2, 1) := by decide +kernel
theorem dX12_pairs_132 : decode cX12_pairs 132 = .ok (.iload_n 3, 1) := by decide +kernel
theorem dX12_pairs_133 : decode cX12_pairs 133 = .ok (.iand, 1) := by decide +kernel
theorem dX12_pairs_134 : decode cX12_pairs 134 = .ok (.ireturn, 1) := by decide +kernel
theorem dX12_beginner_0 : decode cX12_beginner 0 = .ok (.iload_n 1, 1) := by decide +kernel
theorem dX12_beginner_1 : decode cX12_beginner 1 = .ok (.iload_n 2, 1) := by decide +kernel
theorem dX12_beginner_2 : decode cX12_beginner 2 = .ok (.invokestatic 284, 3) := by decide +kernel
theorem dX12_beginner_5 : decode cX12_beginner 5 = .ok (.istore 4, 2) := by decide +kernel
theorem dX12_beginner_7 : decode cX12_beginner 7 = .ok (.iload_n 1, 1) := by decide +kernel
theorem dX12_beginner_8 : decode cX12_beginner 8 = .ok (.iload_n 2, 1) := by decide +kernel
theorem dX12_beginner_9 : decode cX12_beginner 9 = .ok (.invokestatic 287, 3) := by decide +kernel
theorem dX12_beginner_12 : decode cX12_beginner 12 = .ok (.istore 5, 2) := by decide +kernel
theorem dX12_beginner_14 : decode cX12_beginner 14 = .ok (.iload_n 3, 1) := by decide +kernel
theorem dX12_beginner_15 : decode cX12_beginner 15 = .ok (.ifCond .ne 28, 3) := by decide +kernel
theorem dX12_beginner_18 : decode cX12_beginner 18 = .ok (.aload_n 0, 1) := by decide +kernel
theorem dX12_beginner_19 : decode cX12_beginner 19 = .ok (.iload 5, 2) := by decide +kernel
theorem dX12_beginner_21 : decode cX12_beginner 21 = .ok (.iconst 2, 1) := by decide +kernel
theorem dX12_beginner_22 : decode cX12_beginner 22 = .ok (.invokevirtual 257, 3) := by decide +kernel
theorem dX12_beginner_25 : decode cX12_beginner 25 = .ok (.aload_n 0, 1) := by decide +kernel
theorem dX12_beginner_26 : decode cX12_beginner 26 = .ok (.iload 4, 2) := by decide +kernel
theorem dX12_beginner_28 : decode cX12_beginner 28 = .ok (.iconst 2, 1) := by decide +kernel
theorem dX12_beginner_29 : decode cX12_beginner 29 = .ok (.invokevirtual 257, 3) := by decide +kernel
theorem dX12_beginner_32 : decode cX12_beginner 32 = .ok (.if_icmp .le 8, 3) := by decide +kernel
theorem dX12_beginner_35 : decode cX12_beginner 35 = .ok (.iload 5, 2) := by decide +kernel
theorem dX12_beginner_37 : decode cX12_beginner 37 = .ok (.goto 5, 3) := by decide +kernel
theorem dX12_beginner_40 : decode cX12_beginner 40 = .ok (.iload 4, 2) := by decide +kernel
theorem dX12_beginner_42 : decode cX12_beginner 42 = .ok (.ireturn, 1) := by decide +kernel
theorem dX12_beginner_43 : decode cX12_beginner 43 = .ok (.iload_n 3, 1) := by decide +kernel
theorem dX12_beginner_44 : decode cX12_beginner 44 = .ok (.iconst 1, 1) := by decide +kernel
theorem dX12_beginner_45 : decode cX12_beginner 45 = .ok (.if_icmp .ne 25, 3) := by decide +kernel
theorem dX12_beginner_48 : decode cX12_beginner 48 = .ok (.aload_n 0, 1) := by decide +kernel
theorem dX12_beginner_49 : decode cX12_beginner 49 = .ok (.iload 5, 2) := by decide +kernel
theorem dX12_beginner_51 : decode cX12_beginner 51 = .ok (.iconst 2, 1) := by decide +kernel
theorem dX12_beginner_52 : decode cX12_beginner 52 = .ok (.invokevirtual 257, 3) := by decide +kernel
theorem dX12_beginner_55 : decode cX12_beginner 55 = .ok (.aload_n 0, 1) := by decide +kernel
theorem dX12_beginner_56 : decode cX12_beginner 56 = .ok (.iload 4, 2) := by decide +kernel
theorem dX12_beginner_58 : decode cX12_beginner 58 = .ok (.iconst 2, 1) := by decide +kernel
theorem dX12_beginner_59 : decode cX12_beginner 59 = .ok (.invokevirtual 257, 3) := by decide +kernel
theorem dX12_beginner_62 : decode cX12_beginner 62 = .ok (.if_icmp .ge 8, 3) := by decide +kernel
theorem dX12_beginner_65 : decode cX12_beginner 65 = .ok (.iload 5, 2) := by decide +kernel
theorem dX12_beginner_67 : decode cX12_beginner 67 = .ok (.goto 5, 3) := by decide +kernel
theorem dX12_beginner_70 : decode cX12_beginner 70 = .ok (.iload 4, 2) := by decide +kernel
theorem dX12_beginner_72 : decode cX12_beginner 72 = .ok (.ireturn, 1) := by decide +kernel
theorem dX12_byRule_0 : decode cX12_byRule 0 = .ok (.iconst 0, 1) := by decide +kernel
theorem dX12_byRule_1 : decode cX12_byRule 1 = .ok (.istore_n 2, 1) := by decide +kernel
theorem dX12_byRule_2 : decode cX12_byRule 2 = .ok (.iconst 0, 1) := by decide +kernel
theorem dX12_byRule_3 : decode cX12_byRule 3 = .ok (.istore_n 3, 1) := by decide +kernel
theorem dX12_byRule_4 : decode cX12_byRule 4 = .ok (.iload_n 3, 1) := by decide +kernel
theorem dX12_byRule_5 : decode cX12_byRule 5 = .ok (.aload_n 0, 1) := by decide +kernel
theorem dX12_byRule_6 : decode cX12_byRule 6 = .ok (.getfield 7, 3) := by decide +kernel
theorem dX12_byRule_9 : decode cX12_byRule 9 = .ok (.bipush 6, 2) := by decide +kernel
theorem dX12_byRule_11 : decode cX12_byRule 11 = .ok (.iaload, 1) := by decide +kernel
theorem dX12_byRule_12 : decode cX12_byRule 12 = .ok (.if_icmp .ge 76, 3) := by decide +kernel
theorem dX12_byRule_15 : decode cX12_byRule 15 = .ok (.aload_n 0, 1) := by decide +kernel
theorem dX12_byRule_16 : decode cX12_byRule 16 = .ok (.aload_n 0, 1) := by decide +kernel
theorem dX12_byRule_17 : decode cX12_byRule 17 = .ok (.iload_n 3, 1) := by decide +kernel
theorem dX12_byRule_18 : decode cX12_byRule 18 = .ok (.invokevirtual 63, 3) := by decide +kernel
theorem dX12_byRule_21 : decode cX12_byRule 21 = .ok (.aload_n 0, 1) := by decide +kernel
theorem dX12_byRule_22 : decode cX12_byRule 22 = .ok (.iload_n 3, 1) := by decide +kernel
theorem dX12_byRule_23 : decode cX12_byRule 23 = .ok (.invokevirtual 67, 3) := by decide +kernel
theorem dX12_byRule_26 : decode cX12_byRule 26 = .ok (.iload_n 1, 1) := by decide +kernel
theorem dX12_byRule_27 : decode cX12_byRule 27 = .ok (.invokevirtual 347, 3) := by decide +kernel
theorem dX12_byRule_30 : decode cX12_byRule 30 = .ok (.istore 4, 2) := by decide +kernel
theorem dX12_byRule_32 : decode cX12_byRule 32 = .ok (.aload_n 0, 1) := by decide +kernel
theorem dX12_byRule_33 : decode cX12_byRule 33 = .ok (.iload_n 3, 1) := by decide +kernel
theorem dX12_byRule_34 : decode cX12_byRule 34 = .ok (.invokevirtual 63, 3) := by decide +kernel
theorem dX12_byRule_37 : decode cX12_byRule 37 = .ok (.aload_n 0, 1) := by decide +kernel
theorem dX12_byRule_38 : decode cX12_byRule 38 = .ok (.iload_n 3, 1) := by decide +kernel
theorem dX12_byRule_39 : decode cX12_byRule 39 = .ok (.invokevirtual 67, 3) := by decide +kernel
theorem dX12_byRule_42 : decode cX12_byRule 42 = .ok (.iadd, 1) := by decide +kernel
theorem dX12_byRule_43 : decode cX12_byRule 43 = .ok (.iload 4, 2) := by decide +kernel
theorem dX12_byRule_45 : decode cX12_byRule 45 = .ok (.isub, 1) := by decide +kernel
theorem dX12_byRule_46 : decode cX12_byRule 46 = .ok (.istore 5, 2) := by decide +kernel
theorem dX12_byRule_48 : decode cX12_byRule 48 = .ok (.iload_n 2, 1) := by decide +kernel
theorem dX12_byRule_49 : decode cX12_byRule 49 = .ok (.aload_n 0, 1) := by decide +kernel
theorem dX12_byRule_50 : decode cX12_byRule 50 = .ok (.aload_n 0, 1) := by decide +kernel
theorem dX12_byRule_51 : decode cX12_byRule 51 = .ok (.iload 4, 2) := by decide +kernel
theorem dX12_byRule_53 : decode cX12_byRule 53 = .ok (.iload 5, 2) := by decide +kernel
theorem dX12_byRule_55 : decode cX12_byRule 55 = .ok (.invokevirtual 280, 3) := by decide +kernel
theorem dX12_byRule_58 : decode cX12_byRule 58 = .ok (.aload_n 0, 1) := by decide +kernel
theorem dX12_byRule_59 : decode cX12_byRule 59 = .ok (.iload 5, 2) := by decide +kernel
theorem dX12_byRule_61 : decode cX12_byRule 61 = .ok (.iload 4, 2) := by decide +kernel
theorem dX12_byRule_63 : decode cX12_byRule 63 = .ok (.invokevirtual 280, 3) := by decide +kernel
theorem dX12_byRule_66 : decode cX12_byRule 66 = .ok (.invokevirtual 263, 3) := by decide +kernel
theorem dX12_byRule_69 : decode cX12_byRule 69 = .ok (.bipush 100, 2) := by decide +kernel
theorem dX12_byRule_71 : decode cX12_byRule 71 = .ok (.aload_n 0, 1) := by decide +kernel
theorem dX12_byRule_72 : decode cX12_byRule 72 = .ok (.iload 5, 2) := by decide +kernel
theorem dX12_byRule_74 : decode cX12_byRule 74 = .ok (.iconst 3, 1) := by decide +kernel
theorem dX12_byRule_75 : decode cX12_byRule 75 = .ok (.invokevirtual 257, 3) := by decide +kernel
theorem dX12_byRule_78 : decode cX12_byRule 78 = .ok (.isub, 1) := by decide +kernel
theorem dX12_byRule_79 : decode cX12_byRule 79 = .ok (.imul, 1) := by decide +kernel
theorem dX12_byRule_80 : decode cX12_byRule 80 = .ok (.iadd, 1) := by decide +kernel
theorem dX12_byRule_81 : decode cX12_byRule 81 = .ok (.istore_n 2, 1) := by decide +kernel
theorem dX12_byRule_82 : decode cX12_byRule 82 = .ok (.iinc 3 1, 3) := by decide +kernel
theorem dX12_byRule_85 : decode cX12_byRule 85 = .ok (.goto (-81), 3) := by decide +kernel
theorem dX12_byRule_88 : decode cX12_byRule 88 = .ok (.iload_n 2, 1) := by decide +kernel
theorem dX12_byRule_89 : decode cX12_byRule 89 = .ok (.ireturn, 1) := by decide +kernel
theorem dX12_begins__0 : decode cX12_begins_ 0 = .ok (.aload_n 0, 1) := by decide +kernel
theorem dX12_begins__1 : decode cX12_begins_ 1 = .ok (.iload_n 1, 1) := by decide +kernel
theorem dX12_begins__2 : decode cX12_begins_ 2 = .ok (.iconst (-1), 1) := by decide +kernel
theorem dX12_begins__3 : decode cX12_begins_ 3 = .ok (.iconst 2, 1) := by decide +kernel
theorem dX12_begins__4 : decode cX12_begins_ 4 = .ok (.invokestatic 59, 3) := by decide +kernel
theorem dX12_begins__7 : decode cX12_begins_ 7 = .ok (.ifCond .ne 7, 3) := by decide +kernel
theorem dX12_begins__10 : decode cX12_begins_ 10 = .ok (.iconst 1, 1) := by decide +kernel
theorem dX12_begins__11 : decode cX12_begins_ 11 = .ok (.goto 4, 3) := by decide +kernel
theorem dX12_begins__14 : decode cX12_begins_ 14 = .ok (.iconst 0, 1) := by decide +kernel
theorem dX12_begins__15 : decode cX12_begins_ 15 = .ok (.putfield 56, 3) := by decide +kernel
theorem dX12_begins__18 : decode cX12_begins_ 18 = .ok (.aload_n 0, 1) := by decide +kernel
theorem dX12_begins__19 : decode cX12_begins_ 19 = .ok (.getfield 56, 3) := by decide +kernel
theorem dX12_begins__22 : decode cX12_begins_ 22 = .ok (.ifCond .le 5, 3) := by decide +kernel
theorem dX12_begins__25 : decode cX12_begins_ 25 = .ok (.iconst 0, 1) := by decide +kernel
theorem dX12_begins__26 : decode cX12_begins_ 26 = .ok (.ireturn, 1) := by decide +kernel
theorem dX12_begins__27 : decode cX12_begins_ 27 = .ok (.iload_n 1, 1) := by decide +kernel
theorem dX12_begins__28 : decode cX12_begins_ 28 = .ok (.iconst (-1), 1) := by decide +kernel
theorem dX12_begins__29 : decode cX12_begins_ 29 = .ok (.if_icmp .eq 9, 3) := by decide +kernel
theorem dX12_begins__32 : decode cX12_begins_ 32 = .ok (.aload_n 0, 1) := by decide +kernel
theorem dX12_begins__33 : decode cX12_begins_ 33 = .ok (.iload_n 1, 1) := by decide +kernel
theorem dX12_begins__34 : decode cX12_begins_ 34 = .ok (.invokevirtual 351, 3) := by decide +kernel
theorem dX12_begins__37 : decode cX12_begins_ 37 = .ok (.ireturn, 1) := by decide +kernel
theorem dX12_begins__38 : decode cX12_begins_ 38 = .ok (.iconst 0, 1) := by decide +kernel
theorem dX12_begins__39 : decode cX12_begins_ 39 = .ok (.istore_n 2, 1) := by decide +kernel
theorem dX12_begins__40 : decode cX12_begins_ 40 = .ok (.iconst 1, 1) := by decide +kernel
theorem dX12_begins__41 : decode cX12_begins_ 41 = .ok (.istore_n 3, 1) := by decide +kernel
theorem dX12_begins__42 : decode cX12_begins_ 42 = .ok (.iload_n 3, 1) := by decide +kernel
theorem dX12_begins__43 : decode cX12_begins_ 43 = .ok (.iconst 3, 1) := by decide +kernel
theorem dX12_begins__44 : decode cX12_begins_ 44 = .ok (.if_icmp .ge 24, 3) := by decide +kernel
theorem dX12_begins__47 : decode cX12_begins_ 47 = .ok (.aload_n 0, 1) := by decide +kernel
theorem dX12_begins__48 : decode cX12_begins_ 48 = .ok (.iload_n 3, 1) := by decide +kernel
theorem dX12_begins__49 : decode cX12_begins_ 49 = .ok (.invokevirtual 351, 3) := by decide +kernel
theorem dX12_begins__52 : decode cX12_begins_ 52 = .ok (.aload_n 0, 1) := by decide +kernel
theorem dX12_begins__53 : decode cX12_begins_ 53 = .ok (.iload_n 2, 1) := by decide +kernel
theorem dX12_begins__54 : decode cX12_begins_ 54 = .ok (.invokevirtual 351, 3) := by decide +kernel
theorem dX12_begins__57 : decode cX12_begins_ 57 = .ok (.if_icmp .ge 5, 3) := by decide +kernel
theorem dX12_begins__60 : decode cX12_begins_ 60 = .ok (.iload_n 3, 1) := by decide +kernel
theorem dX12_begins__61 : decode cX12_begins_ 61 = .ok (.istore_n 2, 1) := by decide +kernel
theorem dX12_begins__62 : decode cX12_begins_ 62 = .ok (.iinc 3 1, 3) := by decide +kernel
theorem dX12_begins__65 : decode cX12_begins_ 65 = .ok (.goto (-23), 3) := by decide +kernel
theorem dX12_begins__68 : decode cX12_begins_ 68 = .ok (.iload_n 2, 1) := by decide +kernel
theorem dX12_begins__69 : decode cX12_begins_ 69 = .ok (.ireturn, 1) := by decide +kernel
theorem dX12_takes_0 : decode cX12_takes 0 = .ok (.iconst 0, 1) := by decide +kernel
theorem dX12_takes_1 : decode cX12_takes 1 = .ok (.istore_n 2, 1) := by decide +kernel
theorem dX12_takes_2 : decode cX12_takes 2 = .ok (.iload_n 2, 1) := by decide +kernel
theorem dX12_takes_3 : decode cX12_takes 3 = .ok (.bipush 32, 2) := by decide +kernel
theorem dX12_takes_5 : decode cX12_takes 5 = .ok (.if_icmp .ge 16, 3) := by decide +kernel
theorem dX12_takes_8 : decode cX12_takes 8 = .ok (.aload_n 0, 1) := by decide +kernel
theorem dX12_takes_9 : decode cX12_takes 9 = .ok (.getfield 41, 3) := by decide +kernel
theorem dX12_takes_12 : decode cX12_takes 12 = .ok (.iload_n 2, 1) := by decide +kernel
theorem dX12_takes_13 : decode cX12_takes 13 = .ok (.iconst 0, 1) := by decide +kernel
theorem dX12_takes_14 : decode cX12_takes 14 = .ok (.iastore, 1) := by decide +kernel
theorem dX12_takes_15 : decode cX12_takes 15 = .ok (.iinc 2 1, 3) := by decide +kernel
theorem dX12_takes_18 : decode cX12_takes 18 = .ok (.goto (-16), 3) := by decide +kernel
theorem dX12_takes_21 : decode cX12_takes 21 = .ok (.iconst 0, 1) := by decide +kernel
theorem dX12_takes_22 : decode cX12_takes 22 = .ok (.istore_n 2, 1) := by decide +kernel
theorem dX12_takes_23 : decode cX12_takes 23 = .ok (.iload_n 2, 1) := by decide +kernel
theorem dX12_takes_24 : decode cX12_takes 24 = .ok (.aload_n 0, 1) := by decide +kernel
theorem dX12_takes_25 : decode cX12_takes 25 = .ok (.getfield 7, 3) := by decide +kernel
theorem dX12_takes_28 : decode cX12_takes 28 = .ok (.iconst 5, 1) := by decide +kernel
theorem dX12_takes_29 : decode cX12_takes 29 = .ok (.iaload, 1) := by decide +kernel
theorem dX12_takes_30 : decode cX12_takes 30 = .ok (.if_icmp .ge 33, 3) := by decide +kernel
theorem dX12_takes_33 : decode cX12_takes 33 = .ok (.aload_n 0, 1) := by decide +kernel
theorem dX12_takes_34 : decode cX12_takes 34 = .ok (.getfield 41, 3) := by decide +kernel
theorem dX12_takes_37 : decode cX12_takes 37 = .ok (.aload_n 0, 1) := by decide +kernel
theorem dX12_takes_38 : decode cX12_takes 38 = .ok (.getfield 32, 3) := by decide +kernel
theorem dX12_takes_41 : decode cX12_takes 41 = .ok (.iload_n 2, 1) := by decide +kernel
theorem dX12_takes_42 : decode cX12_takes 42 = .ok (.iaload, 1) := by decide +kernel
theorem dX12_takes_43 : decode cX12_takes 43 = .ok (.dup2, 1) := by decide +kernel
theorem dX12_takes_44 : decode cX12_takes 44 = .ok (.iaload, 1) := by decide +kernel
theorem dX12_takes_45 : decode cX12_takes 45 = .ok (.aload_n 0, 1) := by decide +kernel
theorem dX12_takes_46 : decode cX12_takes 46 = .ok (.getfield 38, 3) := by decide +kernel
theorem dX12_takes_49 : decode cX12_takes 49 = .ok (.iload_n 1, 1) := by decide +kernel
theorem dX12_takes_50 : decode cX12_takes 50 = .ok (.iaload, 1) := by decide +kernel
theorem dX12_takes_51 : decode cX12_takes 51 = .ok (.iload_n 2, 1) := by decide +kernel
theorem dX12_takes_52 : decode cX12_takes 52 = .ok (.ishr, 1) := by decide +kernel
theorem dX12_takes_53 : decode cX12_takes 53 = .ok (.iconst 1, 1) := by decide +kernel
theorem dX12_takes_54 : decode cX12_takes 54 = .ok (.iand, 1) := by decide +kernel
theorem dX12_takes_55 : decode cX12_takes 55 = .ok (.iadd, 1) := by decide +kernel
theorem dX12_takes_56 : decode cX12_takes 56 = .ok (.iastore, 1) := by decide +kernel
theorem dX12_takes_57 : decode cX12_takes 57 = .ok (.iinc 2 1, 3) := by decide +kernel
theorem dX12_takes_60 : decode cX12_takes 60 = .ok (.goto (-37), 3) := by decide +kernel
theorem dX12_takes_63 : decode cX12_takes 63 = .ok (.aload_n 0, 1) := by decide +kernel
theorem dX12_takes_64 : decode cX12_takes 64 = .ok (.getfield 32, 3) := by decide +kernel
theorem dX12_takes_67 : decode cX12_takes 67 = .ok (.iload_n 1, 1) := by decide +kernel
theorem dX12_takes_68 : decode cX12_takes 68 = .ok (.iaload, 1) := by decide +kernel
theorem dX12_takes_69 : decode cX12_takes 69 = .ok (.istore_n 2, 1) := by decide +kernel
theorem dX12_takes_70 : decode cX12_takes 70 = .ok (.iconst 0, 1) := by decide +kernel
theorem dX12_takes_71 : decode cX12_takes 71 = .ok (.istore_n 3, 1) := by decide +kernel
theorem dX12_takes_72 : decode cX12_takes 72 = .ok (.iload_n 3, 1) := by decide +kernel
theorem dX12_takes_73 : decode cX12_takes 73 = .ok (.bipush 32, 2) := by decide +kernel
theorem dX12_takes_75 : decode cX12_takes 75 = .ok (.if_icmp .ge 26, 3) := by decide +kernel
theorem dX12_takes_78 : decode cX12_takes 78 = .ok (.aload_n 0, 1) := by decide +kernel
theorem dX12_takes_79 : decode cX12_takes 79 = .ok (.getfield 41, 3) := by decide +kernel
theorem dX12_takes_82 : decode cX12_takes 82 = .ok (.iload_n 3, 1) := by decide +kernel
theorem dX12_takes_83 : decode cX12_takes 83 = .ok (.iaload, 1) := by decide +kernel
theorem dX12_takes_84 : decode cX12_takes 84 = .ok (.aload_n 0, 1) := by decide +kernel
theorem dX12_takes_85 : decode cX12_takes 85 = .ok (.getfield 41, 3) := by decide +kernel
theorem dX12_takes_88 : decode cX12_takes 88 = .ok (.iload_n 2, 1) := by decide +kernel
theorem dX12_takes_89 : decode cX12_takes 89 = .ok (.iaload, 1) := by decide +kernel
theorem dX12_takes_90 : decode cX12_takes 90 = .ok (.if_icmp .le 5, 3) := by decide +kernel
theorem dX12_takes_93 : decode cX12_takes 93 = .ok (.iload_n 3, 1) := by decide +kernel
theorem dX12_takes_94 : decode cX12_takes 94 = .ok (.istore_n 2, 1) := by decide +kernel
theorem dX12_takes_95 : decode cX12_takes 95 = .ok (.iinc 3 1, 3) := by decide +kernel
theorem dX12_takes_98 : decode cX12_takes 98 = .ok (.goto (-26), 3) := by decide +kernel
theorem dX12_takes_101 : decode cX12_takes 101 = .ok (.iload_n 2, 1) := by decide +kernel
theorem dX12_takes_102 : decode cX12_takes 102 = .ok (.ireturn, 1) := by decide +kernel
theorem dX12_year_0 : decode cX12_year 0 = .ok (.iconst 0, 1) := by decide +kernel
theorem dX12_year_1 : decode cX12_year 1 = .ok (.istore_n 1, 1) := by decide +kernel
theorem dX12_year_2 : decode cX12_year 2 = .ok (.iconst 0, 1) := by decide +kernel
theorem dX12_year_3 : decode cX12_year 3 = .ok (.istore_n 2, 1) := by decide +kernel
theorem dX12_year_4 : decode cX12_year 4 = .ok (.iload_n 2, 1) := by decide +kernel
theorem dX12_year_5 : decode cX12_year 5 = .ok (.aload_n 0, 1) := by decide +kernel
theorem dX12_year_6 : decode cX12_year 6 = .ok (.getfield 7, 3) := by decide +kernel
theorem dX12_year_9 : decode cX12_year 9 = .ok (.iconst 5, 1) := by decide +kernel
theorem dX12_year_10 : decode cX12_year 10 = .ok (.iaload, 1) := by decide +kernel
theorem dX12_year_11 : decode cX12_year 11 = .ok (.if_icmp .ge 20, 3) := by decide +kernel
theorem dX12_year_14 : decode cX12_year 14 = .ok (.aload_n 0, 1) := by decide +kernel
theorem dX12_year_15 : decode cX12_year 15 = .ok (.getfield 35, 3) := by decide +kernel
theorem dX12_year_18 : decode cX12_year 18 = .ok (.iload_n 2, 1) := by decide +kernel
theorem dX12_year_19 : decode cX12_year 19 = .ok (.aload_n 0, 1) := by decide +kernel
theorem dX12_year_20 : decode cX12_year 20 = .ok (.iload_n 2, 1) := by decide +kernel
theorem dX12_year_21 : decode cX12_year 21 = .ok (.invokevirtual 354, 3) := by decide +kernel
theorem dX12_year_24 : decode cX12_year 24 = .ok (.iastore, 1) := by decide +kernel
theorem dX12_year_25 : decode cX12_year 25 = .ok (.iinc 2 1, 3) := by decide +kernel
theorem dX12_year_28 : decode cX12_year 28 = .ok (.goto (-24), 3) := by decide +kernel
theorem dX12_year_31 : decode cX12_year 31 = .ok (.iconst 0, 1) := by decide +kernel
theorem dX12_year_32 : decode cX12_year 32 = .ok (.istore_n 2, 1) := by decide +kernel
theorem dX12_year_33 : decode cX12_year 33 = .ok (.iload_n 2, 1) := by decide +kernel
theorem dX12_year_34 : decode cX12_year 34 = .ok (.aload_n 0, 1) := by decide +kernel
theorem dX12_year_35 : decode cX12_year 35 = .ok (.getfield 7, 3) := by decide +kernel
theorem dX12_year_38 : decode cX12_year 38 = .ok (.iconst 5, 1) := by decide +kernel
theorem dX12_year_39 : decode cX12_year 39 = .ok (.iaload, 1) := by decide +kernel
theorem dX12_year_40 : decode cX12_year 40 = .ok (.if_icmp .ge 46, 3) := by decide +kernel
theorem dX12_year_43 : decode cX12_year 43 = .ok (.iload_n 1, 1) := by decide +kernel
theorem dX12_year_44 : decode cX12_year 44 = .ok (.ifCond .ne 18, 3) := by decide +kernel
theorem dX12_year_47 : decode cX12_year 47 = .ok (.aload_n 0, 1) := by decide +kernel
theorem dX12_year_48 : decode cX12_year 48 = .ok (.getfield 32, 3) := by decide +kernel
theorem dX12_year_51 : decode cX12_year 51 = .ok (.iload_n 2, 1) := by decide +kernel
theorem dX12_year_52 : decode cX12_year 52 = .ok (.iaload, 1) := by decide +kernel
theorem dX12_year_53 : decode cX12_year 53 = .ok (.aload_n 0, 1) := by decide +kernel
theorem dX12_year_54 : decode cX12_year 54 = .ok (.getfield 35, 3) := by decide +kernel
theorem dX12_year_57 : decode cX12_year 57 = .ok (.iload_n 2, 1) := by decide +kernel
theorem dX12_year_58 : decode cX12_year 58 = .ok (.iaload, 1) := by decide +kernel
theorem dX12_year_59 : decode cX12_year 59 = .ok (.if_icmp .eq 7, 3) := by decide +kernel
theorem dX12_year_62 : decode cX12_year 62 = .ok (.iconst 1, 1) := by decide +kernel
theorem dX12_year_63 : decode cX12_year 63 = .ok (.goto 4, 3) := by decide +kernel
theorem dX12_year_66 : decode cX12_year 66 = .ok (.iconst 0, 1) := by decide +kernel
theorem dX12_year_67 : decode cX12_year 67 = .ok (.istore_n 1, 1) := by decide +kernel
theorem dX12_year_68 : decode cX12_year 68 = .ok (.aload_n 0, 1) := by decide +kernel
theorem dX12_year_69 : decode cX12_year 69 = .ok (.getfield 32, 3) := by decide +kernel
theorem dX12_year_72 : decode cX12_year 72 = .ok (.iload_n 2, 1) := by decide +kernel
theorem dX12_year_73 : decode cX12_year 73 = .ok (.aload_n 0, 1) := by decide +kernel
theorem dX12_year_74 : decode cX12_year 74 = .ok (.getfield 35, 3) := by decide +kernel
theorem dX12_year_77 : decode cX12_year 77 = .ok (.iload_n 2, 1) := by decide +kernel
theorem dX12_year_78 : decode cX12_year 78 = .ok (.iaload, 1) := by decide +kernel
theorem dX12_year_79 : decode cX12_year 79 = .ok (.iastore, 1) := by decide +kernel
theorem dX12_year_80 : decode cX12_year 80 = .ok (.iinc 2 1, 3) := by decide +kernel
theorem dX12_year_83 : decode cX12_year 83 = .ok (.goto (-50), 3) := by decide +kernel
theorem dX12_year_86 : decode cX12_year 86 = .ok (.iload_n 1, 1) := by decide +kernel
theorem dX12_year_87 : decode cX12_year 87 = .ok (.ireturn, 1) := by decide +kernel
theorem dX12_starts_0 : decode cX12_starts 0 = .ok (.iconst 0, 1) := by decide +kernel
theorem dX12_starts_1 : decode cX12_starts 1 = .ok (.istore_n 3, 1) := by decide +kernel
theorem dX12_starts_2 : decode cX12_starts 2 = .ok (.iload_n 3, 1) := by decide +kernel
theorem dX12_starts_3 : decode cX12_starts 3 = .ok (.aload_n 0, 1) := by decide +kernel
theorem dX12_starts_4 : decode cX12_starts 4 = .ok (.getfield 7, 3) := by decide +kernel
theorem dX12_starts_7 : decode cX12_starts 7 = .ok (.iconst 5, 1) := by decide +kernel
theorem dX12_starts_8 : decode cX12_starts 8 = .ok (.iaload, 1) := by decide +kernel
theorem dX12_starts_9 : decode cX12_starts 9 = .ok (.if_icmp .ge 48, 3) := by decide +kernel
theorem dX12_starts_12 : decode cX12_starts 12 = .ok (.aload_n 0, 1) := by decide +kernel
theorem dX12_starts_13 : decode cX12_starts 13 = .ok (.getfield 32, 3) := by decide +kernel
theorem dX12_starts_16 : decode cX12_starts 16 = .ok (.iload_n 3, 1) := by decide +kernel
theorem dX12_starts_17 : decode cX12_starts 17 = .ok (.iload_n 1, 1) := by decide +kernel
theorem dX12_starts_18 : decode cX12_starts 18 = .ok (.iload_n 3, 1) := by decide +kernel
theorem dX12_starts_19 : decode cX12_starts 19 = .ok (.invokestatic 305, 3) := by decide +kernel
theorem dX12_starts_22 : decode cX12_starts 22 = .ok (.ifCond .eq 7, 3) := by decide +kernel
theorem dX12_starts_25 : decode cX12_starts 25 = .ok (.iload_n 2, 1) := by decide +kernel
theorem dX12_starts_26 : decode cX12_starts 26 = .ok (.goto 9, 3) := by decide +kernel
theorem dX12_starts_29 : decode cX12_starts 29 = .ok (.aload_n 0, 1) := by decide +kernel
theorem dX12_starts_30 : decode cX12_starts 30 = .ok (.iload_n 3, 1) := by decide +kernel
theorem dX12_starts_31 : decode cX12_starts 31 = .ok (.iconst 1, 1) := by decide +kernel
theorem dX12_starts_32 : decode cX12_starts 32 = .ok (.invokevirtual 257, 3) := by decide +kernel
theorem dX12_starts_35 : decode cX12_starts 35 = .ok (.iastore, 1) := by decide +kernel
theorem dX12_starts_36 : decode cX12_starts 36 = .ok (.aload_n 0, 1) := by decide +kernel
theorem dX12_starts_37 : decode cX12_starts 37 = .ok (.getfield 38, 3) := by decide +kernel
theorem dX12_starts_40 : decode cX12_starts 40 = .ok (.iload_n 3, 1) := by decide +kernel
theorem dX12_starts_41 : decode cX12_starts 41 = .ok (.aload_n 0, 1) := by decide +kernel
theorem dX12_starts_42 : decode cX12_starts 42 = .ok (.iload_n 3, 1) := by decide +kernel
theorem dX12_starts_43 : decode cX12_starts 43 = .ok (.invokevirtual 274, 3) := by decide +kernel
theorem dX12_starts_46 : decode cX12_starts 46 = .ok (.iconst 1, 1) := by decide +kernel
theorem dX12_starts_47 : decode cX12_starts 47 = .ok (.iload_n 3, 1) := by decide +kernel
theorem dX12_starts_48 : decode cX12_starts 48 = .ok (.ishl, 1) := by decide +kernel
theorem dX12_starts_49 : decode cX12_starts 49 = .ok (.ior, 1) := by decide +kernel
theorem dX12_starts_50 : decode cX12_starts 50 = .ok (.iastore, 1) := by decide +kernel
theorem dX12_starts_51 : decode cX12_starts 51 = .ok (.iinc 3 1, 3) := by decide +kernel
theorem dX12_starts_54 : decode cX12_starts 54 = .ok (.goto (-52), 3) := by decide +kernel
theorem dX12_starts_57 : decode cX12_starts 57 = .ok (.return_, 1) := by decide +kernel
theorem dX12_years_0 : decode cX12_years 0 = .ok (.iconst 1, 1) := by decide +kernel
theorem dX12_years_1 : decode cX12_years 1 = .ok (.istore_n 2, 1) := by decide +kernel
theorem dX12_years_2 : decode cX12_years 2 = .ok (.iconst 0, 1) := by decide +kernel
theorem dX12_years_3 : decode cX12_years 3 = .ok (.istore_n 3, 1) := by decide +kernel
theorem dX12_years_4 : decode cX12_years 4 = .ok (.iload_n 3, 1) := by decide +kernel
theorem dX12_years_5 : decode cX12_years 5 = .ok (.iload_n 1, 1) := by decide +kernel
theorem dX12_years_6 : decode cX12_years 6 = .ok (.if_icmp .ge 18, 3) := by decide +kernel
theorem dX12_years_9 : decode cX12_years 9 = .ok (.iload_n 2, 1) := by decide +kernel
theorem dX12_years_10 : decode cX12_years 10 = .ok (.ifCond .eq 14, 3) := by decide +kernel
theorem dX12_years_13 : decode cX12_years 13 = .ok (.aload_n 0, 1) := by decide +kernel
theorem dX12_years_14 : decode cX12_years 14 = .ok (.invokevirtual 357, 3) := by decide +kernel
theorem dX12_years_17 : decode cX12_years 17 = .ok (.istore_n 2, 1) := by decide +kernel
theorem dX12_years_18 : decode cX12_years 18 = .ok (.iinc 3 1, 3) := by decide +kernel
theorem dX12_years_21 : decode cX12_years 21 = .ok (.goto (-17), 3) := by decide +kernel
theorem dX12_years_24 : decode cX12_years 24 = .ok (.return_, 1) := by decide +kernel
theorem dX12_counts_0 : decode cX12_counts 0 = .ok (.iconst 0, 1) := by decide +kernel
theorem dX12_counts_1 : decode cX12_counts 1 = .ok (.istore_n 1, 1) := by decide +kernel
theorem dX12_counts_2 : decode cX12_counts 2 = .ok (.iconst 0, 1) := by decide +kernel
theorem dX12_counts_3 : decode cX12_counts 3 = .ok (.istore_n 2, 1) := by decide +kernel
theorem dX12_counts_4 : decode cX12_counts 4 = .ok (.iload_n 2, 1) := by decide +kernel
theorem dX12_counts_5 : decode cX12_counts 5 = .ok (.bipush 32, 2) := by decide +kernel
theorem dX12_counts_7 : decode cX12_counts 7 = .ok (.if_icmp .ge 16, 3) := by decide +kernel
theorem dX12_counts_10 : decode cX12_counts 10 = .ok (.aload_n 0, 1) := by decide +kernel
theorem dX12_counts_11 : decode cX12_counts 11 = .ok (.getfield 41, 3) := by decide +kernel
theorem dX12_counts_14 : decode cX12_counts 14 = .ok (.iload_n 2, 1) := by decide +kernel
theorem dX12_counts_15 : decode cX12_counts 15 = .ok (.iconst 0, 1) := by decide +kernel
theorem dX12_counts_16 : decode cX12_counts 16 = .ok (.iastore, 1) := by decide +kernel
theorem dX12_counts_17 : decode cX12_counts 17 = .ok (.iinc 2 1, 3) := by decide +kernel
theorem dX12_counts_20 : decode cX12_counts 20 = .ok (.goto (-16), 3) := by decide +kernel
theorem dX12_counts_23 : decode cX12_counts 23 = .ok (.iconst 0, 1) := by decide +kernel
theorem dX12_counts_24 : decode cX12_counts 24 = .ok (.istore_n 2, 1) := by decide +kernel
theorem dX12_counts_25 : decode cX12_counts 25 = .ok (.iload_n 2, 1) := by decide +kernel
theorem dX12_counts_26 : decode cX12_counts 26 = .ok (.aload_n 0, 1) := by decide +kernel
theorem dX12_counts_27 : decode cX12_counts 27 = .ok (.getfield 7, 3) := by decide +kernel
theorem dX12_counts_30 : decode cX12_counts 30 = .ok (.iconst 5, 1) := by decide +kernel
theorem dX12_counts_31 : decode cX12_counts 31 = .ok (.iaload, 1) := by decide +kernel
theorem dX12_counts_32 : decode cX12_counts 32 = .ok (.if_icmp .ge 46, 3) := by decide +kernel
theorem dX12_counts_35 : decode cX12_counts 35 = .ok (.iload_n 1, 1) := by decide +kernel
theorem dX12_counts_36 : decode cX12_counts 36 = .ok (.aload_n 0, 1) := by decide +kernel
theorem dX12_counts_37 : decode cX12_counts 37 = .ok (.getfield 41, 3) := by decide +kernel
theorem dX12_counts_40 : decode cX12_counts 40 = .ok (.aload_n 0, 1) := by decide +kernel
theorem dX12_counts_41 : decode cX12_counts 41 = .ok (.getfield 32, 3) := by decide +kernel
theorem dX12_counts_44 : decode cX12_counts 44 = .ok (.iload_n 2, 1) := by decide +kernel
theorem dX12_counts_45 : decode cX12_counts 45 = .ok (.iaload, 1) := by decide +kernel
theorem dX12_counts_46 : decode cX12_counts 46 = .ok (.iaload, 1) := by decide +kernel
theorem dX12_counts_47 : decode cX12_counts 47 = .ok (.ifCond .ne 7, 3) := by decide +kernel
theorem dX12_counts_50 : decode cX12_counts 50 = .ok (.iconst 1, 1) := by decide +kernel
theorem dX12_counts_51 : decode cX12_counts 51 = .ok (.goto 4, 3) := by decide +kernel
theorem dX12_counts_54 : decode cX12_counts 54 = .ok (.iconst 0, 1) := by decide +kernel
theorem dX12_counts_55 : decode cX12_counts 55 = .ok (.iadd, 1) := by decide +kernel
theorem dX12_counts_56 : decode cX12_counts 56 = .ok (.istore_n 1, 1) := by decide +kernel
theorem dX12_counts_57 : decode cX12_counts 57 = .ok (.aload_n 0, 1) := by decide +kernel
theorem dX12_counts_58 : decode cX12_counts 58 = .ok (.getfield 41, 3) := by decide +kernel
theorem dX12_counts_61 : decode cX12_counts 61 = .ok (.aload_n 0, 1) := by decide +kernel
theorem dX12_counts_62 : decode cX12_counts 62 = .ok (.getfield 32, 3) := by decide +kernel
theorem dX12_counts_65 : decode cX12_counts 65 = .ok (.iload_n 2, 1) := by decide +kernel
theorem dX12_counts_66 : decode cX12_counts 66 = .ok (.iaload, 1) := by decide +kernel
theorem dX12_counts_67 : decode cX12_counts 67 = .ok (.dup2, 1) := by decide +kernel
theorem dX12_counts_68 : decode cX12_counts 68 = .ok (.iaload, 1) := by decide +kernel
theorem dX12_counts_69 : decode cX12_counts 69 = .ok (.iconst 1, 1) := by decide +kernel
theorem dX12_counts_70 : decode cX12_counts 70 = .ok (.iadd, 1) := by decide +kernel
theorem dX12_counts_71 : decode cX12_counts 71 = .ok (.iastore, 1) := by decide +kernel
theorem dX12_counts_72 : decode cX12_counts 72 = .ok (.iinc 2 1, 3) := by decide +kernel
theorem dX12_counts_75 : decode cX12_counts 75 = .ok (.goto (-50), 3) := by decide +kernel
theorem dX12_counts_78 : decode cX12_counts 78 = .ok (.iload_n 1, 1) := by decide +kernel
theorem dX12_counts_79 : decode cX12_counts 79 = .ok (.ireturn, 1) := by decide +kernel
theorem dX12_after_0 : decode cX12_after 0 = .ok (.aload_n 0, 1) := by decide +kernel
theorem dX12_after_1 : decode cX12_after 1 = .ok (.iload_n 1, 1) := by decide +kernel
theorem dX12_after_2 : decode cX12_after 2 = .ok (.iconst 0, 1) := by decide +kernel
theorem dX12_after_3 : decode cX12_after 3 = .ok (.bipush 60, 2) := by decide +kernel
theorem dX12_after_5 : decode cX12_after 5 = .ok (.invokestatic 59, 3) := by decide +kernel
theorem dX12_after_8 : decode cX12_after 8 = .ok (.ifCond .ne 7, 3) := by decide +kernel
theorem dX12_after_11 : decode cX12_after 11 = .ok (.iconst 1, 1) := by decide +kernel
theorem dX12_after_12 : decode cX12_after 12 = .ok (.goto 17, 3) := by decide +kernel
theorem dX12_after_15 : decode cX12_after 15 = .ok (.iload_n 2, 1) := by decide +kernel
theorem dX12_after_16 : decode cX12_after 16 = .ok (.iconst 0, 1) := by decide +kernel
theorem dX12_after_17 : decode cX12_after 17 = .ok (.iconst 2, 1) := by decide +kernel
theorem dX12_after_18 : decode cX12_after 18 = .ok (.invokestatic 59, 3) := by decide +kernel
theorem dX12_after_21 : decode cX12_after 21 = .ok (.ifCond .ne 7, 3) := by decide +kernel
theorem dX12_after_24 : decode cX12_after 24 = .ok (.iconst 2, 1) := by decide +kernel
theorem dX12_after_25 : decode cX12_after 25 = .ok (.goto 4, 3) := by decide +kernel
theorem dX12_after_28 : decode cX12_after 28 = .ok (.iconst 0, 1) := by decide +kernel
theorem dX12_after_29 : decode cX12_after 29 = .ok (.putfield 56, 3) := by decide +kernel
theorem dX12_after_32 : decode cX12_after 32 = .ok (.aload_n 0, 1) := by decide +kernel
theorem dX12_after_33 : decode cX12_after 33 = .ok (.getfield 56, 3) := by decide +kernel
theorem dX12_after_36 : decode cX12_after 36 = .ok (.ifCond .le 5, 3) := by decide +kernel
theorem dX12_after_39 : decode cX12_after 39 = .ok (.iconst 0, 1) := by decide +kernel
theorem dX12_after_40 : decode cX12_after 40 = .ok (.ireturn, 1) := by decide +kernel
theorem dX12_after_41 : decode cX12_after 41 = .ok (.aload_n 0, 1) := by decide +kernel
theorem dX12_after_42 : decode cX12_after 42 = .ok (.iconst 0, 1) := by decide +kernel
theorem dX12_after_43 : decode cX12_after 43 = .ok (.iconst 0, 1) := by decide +kernel
theorem dX12_after_44 : decode cX12_after 44 = .ok (.invokevirtual 360, 3) := by decide +kernel
theorem dX12_after_47 : decode cX12_after 47 = .ok (.aload_n 0, 1) := by decide +kernel
theorem dX12_after_48 : decode cX12_after 48 = .ok (.iload_n 1, 1) := by decide +kernel
theorem dX12_after_49 : decode cX12_after 49 = .ok (.invokevirtual 363, 3) := by decide +kernel
theorem dX12_after_52 : decode cX12_after 52 = .ok (.aload_n 0, 1) := by decide +kernel
theorem dX12_after_53 : decode cX12_after 53 = .ok (.invokevirtual 366, 3) := by decide +kernel
theorem dX12_after_56 : decode cX12_after 56 = .ok (.istore_n 3, 1) := by decide +kernel
theorem dX12_after_57 : decode cX12_after 57 = .ok (.iload_n 2, 1) := by decide +kernel
theorem dX12_after_58 : decode cX12_after 58 = .ok (.ifCond .ne 5, 3) := by decide +kernel
theorem dX12_after_61 : decode cX12_after 61 = .ok (.iload_n 3, 1) := by decide +kernel
theorem dX12_after_62 : decode cX12_after 62 = .ok (.ireturn, 1) := by decide +kernel
theorem dX12_after_63 : decode cX12_after 63 = .ok (.iconst 0, 1) := by decide +kernel
theorem dX12_after_64 : decode cX12_after 64 = .ok (.istore 4, 2) := by decide +kernel
theorem dX12_after_66 : decode cX12_after 66 = .ok (.iconst 1, 1) := by decide +kernel
theorem dX12_after_67 : decode cX12_after 67 = .ok (.istore 5, 2) := by decide +kernel
theorem dX12_after_69 : decode cX12_after 69 = .ok (.iload 5, 2) := by decide +kernel
theorem dX12_after_71 : decode cX12_after 71 = .ok (.bipush 32, 2) := by decide +kernel
theorem dX12_after_73 : decode cX12_after 73 = .ok (.if_icmp .ge 30, 3) := by decide +kernel
theorem dX12_after_76 : decode cX12_after 76 = .ok (.aload_n 0, 1) := by decide +kernel
theorem dX12_after_77 : decode cX12_after 77 = .ok (.getfield 41, 3) := by decide +kernel
theorem dX12_after_80 : decode cX12_after 80 = .ok (.iload 5, 2) := by decide +kernel
theorem dX12_after_82 : decode cX12_after 82 = .ok (.iaload, 1) := by decide +kernel
theorem dX12_after_83 : decode cX12_after 83 = .ok (.aload_n 0, 1) := by decide +kernel
theorem dX12_after_84 : decode cX12_after 84 = .ok (.getfield 41, 3) := by decide +kernel
theorem dX12_after_87 : decode cX12_after 87 = .ok (.iload 4, 2) := by decide +kernel
theorem dX12_after_89 : decode cX12_after 89 = .ok (.iaload, 1) := by decide +kernel
theorem dX12_after_90 : decode cX12_after 90 = .ok (.if_icmp .le 7, 3) := by decide +kernel
theorem dX12_after_93 : decode cX12_after 93 = .ok (.iload 5, 2) := by decide +kernel
theorem dX12_after_95 : decode cX12_after 95 = .ok (.istore 4, 2) := by decide +kernel
theorem dX12_after_97 : decode cX12_after 97 = .ok (.iinc 5 1, 3) := by decide +kernel
theorem dX12_after_100 : decode cX12_after 100 = .ok (.goto (-31), 3) := by decide +kernel
theorem dX12_after_103 : decode cX12_after 103 = .ok (.iload_n 2, 1) := by decide +kernel
theorem dX12_after_104 : decode cX12_after 104 = .ok (.iconst 2, 1) := by decide +kernel
theorem dX12_after_105 : decode cX12_after 105 = .ok (.if_icmp .ne 13, 3) := by decide +kernel
theorem dX12_after_108 : decode cX12_after 108 = .ok (.aload_n 0, 1) := by decide +kernel
theorem dX12_after_109 : decode cX12_after 109 = .ok (.getfield 41, 3) := by decide +kernel
theorem dX12_after_112 : decode cX12_after 112 = .ok (.iload 4, 2) := by decide +kernel
theorem dX12_after_114 : decode cX12_after 114 = .ok (.iaload, 1) := by decide +kernel
theorem dX12_after_115 : decode cX12_after 115 = .ok (.goto 13, 3) := by decide +kernel
theorem dX12_after_118 : decode cX12_after 118 = .ok (.iload_n 3, 1) := by decide +kernel
theorem dX12_after_119 : decode cX12_after 119 = .ok (.ifCond .ne 7, 3) := by decide +kernel
theorem dX12_after_122 : decode cX12_after 122 = .ok (.iconst (-1), 1) := by decide +kernel
theorem dX12_after_123 : decode cX12_after 123 = .ok (.goto 5, 3) := by decide +kernel
theorem dX12_after_126 : decode cX12_after 126 = .ok (.iload 4, 2) := by decide +kernel
theorem dX12_after_128 : decode cX12_after 128 = .ok (.ireturn, 1) := by decide +kernel
theorem dX12_custom_0 : decode cX12_custom 0 = .ok (.aload_n 0, 1) := by decide +kernel
theorem dX12_custom_1 : decode cX12_custom 1 = .ok (.aload_n 0, 1) := by decide +kernel
theorem dX12_custom_2 : decode cX12_custom 2 = .ok (.iload_n 1, 1) := by decide +kernel
theorem dX12_custom_3 : decode cX12_custom 3 = .ok (.invokevirtual 271, 3) := by decide +kernel
theorem dX12_custom_6 : decode cX12_custom 6 = .ok (.ifCond .ne 7, 3) := by decide +kernel
theorem dX12_custom_9 : decode cX12_custom 9 = .ok (.iconst 1, 1) := by decide +kernel
theorem dX12_custom_10 : decode cX12_custom 10 = .ok (.goto 18, 3) := by decide +kernel
theorem dX12_custom_13 : decode cX12_custom 13 = .ok (.iload_n 2, 1) := by decide +kernel
theorem dX12_custom_14 : decode cX12_custom 14 = .ok (.iconst 0, 1) := by decide +kernel
theorem dX12_custom_15 : decode cX12_custom 15 = .ok (.bipush 60, 2) := by decide +kernel
theorem dX12_custom_17 : decode cX12_custom 17 = .ok (.invokestatic 59, 3) := by decide +kernel
theorem dX12_custom_20 : decode cX12_custom 20 = .ok (.ifCond .ne 7, 3) := by decide +kernel
theorem dX12_custom_23 : decode cX12_custom 23 = .ok (.iconst 2, 1) := by decide +kernel
theorem dX12_custom_24 : decode cX12_custom 24 = .ok (.goto 4, 3) := by decide +kernel
theorem dX12_custom_27 : decode cX12_custom 27 = .ok (.iconst 0, 1) := by decide +kernel
theorem dX12_custom_28 : decode cX12_custom 28 = .ok (.putfield 56, 3) := by decide +kernel
theorem dX12_custom_31 : decode cX12_custom 31 = .ok (.aload_n 0, 1) := by decide +kernel
theorem dX12_custom_32 : decode cX12_custom 32 = .ok (.getfield 56, 3) := by decide +kernel
theorem dX12_custom_35 : decode cX12_custom 35 = .ok (.ifCond .le 5, 3) := by decide +kernel
theorem dX12_custom_38 : decode cX12_custom 38 = .ok (.iconst 0, 1) := by decide +kernel
theorem dX12_custom_39 : decode cX12_custom 39 = .ok (.ireturn, 1) := by decide +kernel
theorem dX12_custom_40 : decode cX12_custom 40 = .ok (.aload_n 0, 1) := by decide +kernel
theorem dX12_custom_41 : decode cX12_custom 41 = .ok (.iconst 0, 1) := by decide +kernel
theorem dX12_custom_42 : decode cX12_custom 42 = .ok (.iconst 0, 1) := by decide +kernel
theorem dX12_custom_43 : decode cX12_custom 43 = .ok (.invokevirtual 360, 3) := by decide +kernel
theorem dX12_custom_46 : decode cX12_custom 46 = .ok (.aload_n 0, 1) := by decide +kernel
theorem dX12_custom_47 : decode cX12_custom 47 = .ok (.iload_n 2, 1) := by decide +kernel
theorem dX12_custom_48 : decode cX12_custom 48 = .ok (.invokevirtual 363, 3) := by decide +kernel
theorem dX12_custom_51 : decode cX12_custom 51 = .ok (.aload_n 0, 1) := by decide +kernel
theorem dX12_custom_52 : decode cX12_custom 52 = .ok (.getfield 32, 3) := by decide +kernel
theorem dX12_custom_55 : decode cX12_custom 55 = .ok (.iload_n 1, 1) := by decide +kernel
theorem dX12_custom_56 : decode cX12_custom 56 = .ok (.iaload, 1) := by decide +kernel
theorem dX12_custom_57 : decode cX12_custom 57 = .ok (.ireturn, 1) := by decide +kernel
theorem dX12_still_0 : decode cX12_still 0 = .ok (.aload_n 0, 1) := by decide +kernel
theorem dX12_still_1 : decode cX12_still 1 = .ok (.iconst 0, 1) := by decide +kernel
theorem dX12_still_2 : decode cX12_still 2 = .ok (.putfield 56, 3) := by decide +kernel
theorem dX12_still_5 : decode cX12_still 5 = .ok (.aload_n 0, 1) := by decide +kernel
theorem dX12_still_6 : decode cX12_still 6 = .ok (.iconst 0, 1) := by decide +kernel
theorem dX12_still_7 : decode cX12_still 7 = .ok (.iconst 0, 1) := by decide +kernel
theorem dX12_still_8 : decode cX12_still 8 = .ok (.invokevirtual 360, 3) := by decide +kernel
theorem dX12_still_11 : decode cX12_still 11 = .ok (.iconst 0, 1) := by decide +kernel
theorem dX12_still_12 : decode cX12_still 12 = .ok (.istore_n 1, 1) := by decide +kernel
theorem dX12_still_13 : decode cX12_still 13 = .ok (.iload_n 1, 1) := by decide +kernel
theorem dX12_still_14 : decode cX12_still 14 = .ok (.bipush 60, 2) := by decide +kernel
theorem dX12_still_16 : decode cX12_still 16 = .ok (.if_icmp .gt 18, 3) := by decide +kernel
theorem dX12_still_19 : decode cX12_still 19 = .ok (.aload_n 0, 1) := by decide +kernel
theorem dX12_still_20 : decode cX12_still 20 = .ok (.invokevirtual 357, 3) := by decide +kernel
theorem dX12_still_23 : decode cX12_still 23 = .ok (.ifCond .ne 5, 3) := by decide +kernel
theorem dX12_still_26 : decode cX12_still 26 = .ok (.iload_n 1, 1) := by decide +kernel
theorem dX12_still_27 : decode cX12_still 27 = .ok (.ireturn, 1) := by decide +kernel
theorem dX12_still_28 : decode cX12_still 28 = .ok (.iinc 1 1, 3) := by decide +kernel
theorem dX12_still_31 : decode cX12_still 31 = .ok (.goto (-18), 3) := by decide +kernel
theorem dX12_still_34 : decode cX12_still 34 = .ok (.iconst (-1), 1) := by decide +kernel
theorem dX12_still_35 : decode cX12_still 35 = .ok (.ireturn, 1) := by decide +kernel
theorem dX12_wins_0 : decode cX12_wins 0 = .ok (.aload_n 0, 1) := by decide +kernel
theorem dX12_wins_1 : decode cX12_wins 1 = .ok (.iload_n 1, 1) := by decide +kernel
theorem dX12_wins_2 : decode cX12_wins 2 = .ok (.iload_n 2, 1) := by decide +kernel
theorem dX12_wins_3 : decode cX12_wins 3 = .ok (.invokevirtual 360, 3) := by decide +kernel
theorem dX12_wins_6 : decode cX12_wins 6 = .ok (.aload_n 0, 1) := by decide +kernel
theorem dX12_wins_7 : decode cX12_wins 7 = .ok (.iload_n 3, 1) := by decide +kernel
theorem dX12_wins_8 : decode cX12_wins 8 = .ok (.invokevirtual 363, 3) := by decide +kernel
theorem dX12_wins_11 : decode cX12_wins 11 = .ok (.iconst 0, 1) := by decide +kernel
theorem dX12_wins_12 : decode cX12_wins 12 = .ok (.istore 4, 2) := by decide +kernel
theorem dX12_wins_14 : decode cX12_wins 14 = .ok (.iload 4, 2) := by decide +kernel
theorem dX12_wins_16 : decode cX12_wins 16 = .ok (.aload_n 0, 1) := by decide +kernel
theorem dX12_wins_17 : decode cX12_wins 17 = .ok (.getfield 7, 3) := by decide +kernel
theorem dX12_wins_20 : decode cX12_wins 20 = .ok (.iconst 5, 1) := by decide +kernel
theorem dX12_wins_21 : decode cX12_wins 21 = .ok (.iaload, 1) := by decide +kernel
theorem dX12_wins_22 : decode cX12_wins 22 = .ok (.if_icmp .ge 22, 3) := by decide +kernel
theorem dX12_wins_25 : decode cX12_wins 25 = .ok (.aload_n 0, 1) := by decide +kernel
theorem dX12_wins_26 : decode cX12_wins 26 = .ok (.getfield 32, 3) := by decide +kernel
theorem dX12_wins_29 : decode cX12_wins 29 = .ok (.iload 4, 2) := by decide +kernel
theorem dX12_wins_31 : decode cX12_wins 31 = .ok (.iaload, 1) := by decide +kernel
theorem dX12_wins_32 : decode cX12_wins 32 = .ok (.iload_n 2, 1) := by decide +kernel
theorem dX12_wins_33 : decode cX12_wins 33 = .ok (.if_icmp .eq 5, 3) := by decide +kernel
theorem dX12_wins_36 : decode cX12_wins 36 = .ok (.iconst 0, 1) := by decide +kernel
theorem dX12_wins_37 : decode cX12_wins 37 = .ok (.ireturn, 1) := by decide +kernel
theorem dX12_wins_38 : decode cX12_wins 38 = .ok (.iinc 4 1, 3) := by decide +kernel
theorem dX12_wins_41 : decode cX12_wins 41 = .ok (.goto (-27), 3) := by decide +kernel
theorem dX12_wins_44 : decode cX12_wins 44 = .ok (.iconst 1, 1) := by decide +kernel
theorem dX12_wins_45 : decode cX12_wins 45 = .ok (.ireturn, 1) := by decide +kernel
theorem dX12_told_0 : decode cX12_told 0 = .ok (.aload_n 0, 1) := by decide +kernel
theorem dX12_told_1 : decode cX12_told 1 = .ok (.iload_n 1, 1) := by decide +kernel
theorem dX12_told_2 : decode cX12_told 2 = .ok (.invokestatic 260, 3) := by decide +kernel
theorem dX12_told_5 : decode cX12_told 5 = .ok (.ifCond .ne 7, 3) := by decide +kernel
theorem dX12_told_8 : decode cX12_told 8 = .ok (.iconst 1, 1) := by decide +kernel
theorem dX12_told_9 : decode cX12_told 9 = .ok (.goto 18, 3) := by decide +kernel
theorem dX12_told_12 : decode cX12_told 12 = .ok (.iload_n 2, 1) := by decide +kernel
theorem dX12_told_13 : decode cX12_told 13 = .ok (.iconst 0, 1) := by decide +kernel
theorem dX12_told_14 : decode cX12_told 14 = .ok (.bipush 60, 2) := by decide +kernel
theorem dX12_told_16 : decode cX12_told 16 = .ok (.invokestatic 59, 3) := by decide +kernel
theorem dX12_told_19 : decode cX12_told 19 = .ok (.ifCond .ne 7, 3) := by decide +kernel
theorem dX12_told_22 : decode cX12_told 22 = .ok (.iconst 2, 1) := by decide +kernel
theorem dX12_told_23 : decode cX12_told 23 = .ok (.goto 4, 3) := by decide +kernel
theorem dX12_told_26 : decode cX12_told 26 = .ok (.iconst 0, 1) := by decide +kernel
theorem dX12_told_27 : decode cX12_told 27 = .ok (.putfield 56, 3) := by decide +kernel
theorem dX12_told_30 : decode cX12_told 30 = .ok (.aload_n 0, 1) := by decide +kernel
theorem dX12_told_31 : decode cX12_told 31 = .ok (.getfield 56, 3) := by decide +kernel
theorem dX12_told_34 : decode cX12_told 34 = .ok (.ifCond .le 5, 3) := by decide +kernel
theorem dX12_told_37 : decode cX12_told 37 = .ok (.iconst 0, 1) := by decide +kernel
theorem dX12_told_38 : decode cX12_told 38 = .ok (.ireturn, 1) := by decide +kernel
theorem dX12_told_39 : decode cX12_told 39 = .ok (.iconst (-1), 1) := by decide +kernel
theorem dX12_told_40 : decode cX12_told 40 = .ok (.istore_n 3, 1) := by decide +kernel
theorem dX12_told_41 : decode cX12_told 41 = .ok (.iconst 0, 1) := by decide +kernel
theorem dX12_told_42 : decode cX12_told 42 = .ok (.istore 4, 2) := by decide +kernel
theorem dX12_told_44 : decode cX12_told 44 = .ok (.iload 4, 2) := by decide +kernel
theorem dX12_told_46 : decode cX12_told 46 = .ok (.iconst 1, 1) := by decide +kernel
theorem dX12_told_47 : decode cX12_told 47 = .ok (.aload_n 0, 1) := by decide +kernel
theorem dX12_told_48 : decode cX12_told 48 = .ok (.getfield 7, 3) := by decide +kernel
theorem dX12_told_51 : decode cX12_told 51 = .ok (.iconst 5, 1) := by decide +kernel
theorem dX12_told_52 : decode cX12_told 52 = .ok (.iaload, 1) := by decide +kernel
theorem dX12_told_53 : decode cX12_told 53 = .ok (.ishl, 1) := by decide +kernel
theorem dX12_told_54 : decode cX12_told 54 = .ok (.if_icmp .ge 43, 3) := by decide +kernel
theorem dX12_told_57 : decode cX12_told 57 = .ok (.iload_n 3, 1) := by decide +kernel
theorem dX12_told_58 : decode cX12_told 58 = .ok (.iconst (-1), 1) := by decide +kernel
theorem dX12_told_59 : decode cX12_told 59 = .ok (.if_icmp .eq 18, 3) := by decide +kernel
theorem dX12_told_62 : decode cX12_told 62 = .ok (.iload 4, 2) := by decide +kernel
theorem dX12_told_64 : decode cX12_told 64 = .ok (.invokestatic 340, 3) := by decide +kernel
theorem dX12_told_67 : decode cX12_told 67 = .ok (.iload_n 3, 1) := by decide +kernel
theorem dX12_told_68 : decode cX12_told 68 = .ok (.invokestatic 340, 3) := by decide +kernel
theorem dX12_told_71 : decode cX12_told 71 = .ok (.if_icmp .lt 6, 3) := by decide +kernel
theorem dX12_told_74 : decode cX12_told 74 = .ok (.goto 17, 3) := by decide +kernel
theorem dX12_told_77 : decode cX12_told 77 = .ok (.aload_n 0, 1) := by decide +kernel
theorem dX12_told_78 : decode cX12_told 78 = .ok (.iload 4, 2) := by decide +kernel
theorem dX12_told_80 : decode cX12_told 80 = .ok (.iload_n 1, 1) := by decide +kernel
theorem dX12_told_81 : decode cX12_told 81 = .ok (.iload_n 2, 1) := by decide +kernel
theorem dX12_told_82 : decode cX12_told 82 = .ok (.invokevirtual 369, 3) := by decide +kernel
theorem dX12_told_85 : decode cX12_told 85 = .ok (.ifCond .eq 6, 3) := by decide +kernel
theorem dX12_told_88 : decode cX12_told 88 = .ok (.iload 4, 2) := by decide +kernel
theorem dX12_told_90 : decode cX12_told 90 = .ok (.istore_n 3, 1) := by decide +kernel
theorem dX12_told_91 : decode cX12_told 91 = .ok (.iinc 4 1, 3) := by decide +kernel
theorem dX12_told_94 : decode cX12_told 94 = .ok (.goto (-50), 3) := by decide +kernel
theorem dX12_told_97 : decode cX12_told 97 = .ok (.iload_n 3, 1) := by decide +kernel
theorem dX12_told_98 : decode cX12_told 98 = .ok (.ireturn, 1) := by decide +kernel
theorem dX12_coldsNow_0 : decode cX12_coldsNow 0 = .ok (.iconst 0, 1) := by decide +kernel
theorem dX12_coldsNow_1 : decode cX12_coldsNow 1 = .ok (.istore_n 1, 1) := by decide +kernel
theorem dX12_coldsNow_2 : decode cX12_coldsNow 2 = .ok (.iconst 0, 1) := by decide +kernel
theorem dX12_coldsNow_3 : decode cX12_coldsNow 3 = .ok (.istore_n 2, 1) := by decide +kernel
theorem dX12_coldsNow_4 : decode cX12_coldsNow 4 = .ok (.iload_n 2, 1) := by decide +kernel
theorem dX12_coldsNow_5 : decode cX12_coldsNow 5 = .ok (.aload_n 0, 1) := by decide +kernel
theorem dX12_coldsNow_6 : decode cX12_coldsNow 6 = .ok (.getfield 7, 3) := by decide +kernel
theorem dX12_coldsNow_9 : decode cX12_coldsNow 9 = .ok (.iconst 5, 1) := by decide +kernel
theorem dX12_coldsNow_10 : decode cX12_coldsNow 10 = .ok (.iaload, 1) := by decide +kernel
theorem dX12_coldsNow_11 : decode cX12_coldsNow 11 = .ok (.if_icmp .ge 20, 3) := by decide +kernel
theorem dX12_coldsNow_14 : decode cX12_coldsNow 14 = .ok (.iload_n 1, 1) := by decide +kernel
theorem dX12_coldsNow_15 : decode cX12_coldsNow 15 = .ok (.aload_n 0, 1) := by decide +kernel
theorem dX12_coldsNow_16 : decode cX12_coldsNow 16 = .ok (.iload_n 2, 1) := by decide +kernel
theorem dX12_coldsNow_17 : decode cX12_coldsNow 17 = .ok (.iconst 4, 1) := by decide +kernel
theorem dX12_coldsNow_18 : decode cX12_coldsNow 18 = .ok (.invokevirtual 257, 3) := by decide +kernel
theorem dX12_coldsNow_21 : decode cX12_coldsNow 21 = .ok (.iload_n 2, 1) := by decide +kernel
theorem dX12_coldsNow_22 : decode cX12_coldsNow 22 = .ok (.ishl, 1) := by decide +kernel
theorem dX12_coldsNow_23 : decode cX12_coldsNow 23 = .ok (.ior, 1) := by decide +kernel
theorem dX12_coldsNow_24 : decode cX12_coldsNow 24 = .ok (.istore_n 1, 1) := by decide +kernel
theorem dX12_coldsNow_25 : decode cX12_coldsNow 25 = .ok (.iinc 2 1, 3) := by decide +kernel
theorem dX12_coldsNow_28 : decode cX12_coldsNow 28 = .ok (.goto (-24), 3) := by decide +kernel
theorem dX12_coldsNow_31 : decode cX12_coldsNow 31 = .ok (.iload_n 1, 1) := by decide +kernel
theorem dX12_coldsNow_32 : decode cX12_coldsNow 32 = .ok (.ireturn, 1) := by decide +kernel
theorem dX12_passes_0 : decode cX12_passes 0 = .ok (.aload_n 0, 1) := by decide +kernel
theorem dX12_passes_1 : decode cX12_passes 1 = .ok (.invokevirtual 372, 3) := by decide +kernel
theorem dX12_passes_4 : decode cX12_passes 4 = .ok (.istore_n 3, 1) := by decide +kernel
theorem dX12_passes_5 : decode cX12_passes 5 = .ok (.iconst 0, 1) := by decide +kernel
theorem dX12_passes_6 : decode cX12_passes 6 = .ok (.istore 4, 2) := by decide +kernel
theorem dX12_passes_8 : decode cX12_passes 8 = .ok (.iload 4, 2) := by decide +kernel
theorem dX12_passes_10 : decode cX12_passes 10 = .ok (.iload_n 2, 1) := by decide +kernel
theorem dX12_passes_11 : decode cX12_passes 11 = .ok (.if_icmp .ge 68, 3) := by decide +kernel
theorem dX12_passes_14 : decode cX12_passes 14 = .ok (.iconst 0, 1) := by decide +kernel
theorem dX12_passes_15 : decode cX12_passes 15 = .ok (.istore 5, 2) := by decide +kernel
theorem dX12_passes_17 : decode cX12_passes 17 = .ok (.iload 5, 2) := by decide +kernel
theorem dX12_passes_19 : decode cX12_passes 19 = .ok (.aload_n 0, 1) := by decide +kernel
theorem dX12_passes_20 : decode cX12_passes 20 = .ok (.getfield 7, 3) := by decide +kernel
theorem dX12_passes_23 : decode cX12_passes 23 = .ok (.bipush 6, 2) := by decide +kernel
theorem dX12_passes_25 : decode cX12_passes 25 = .ok (.iaload, 1) := by decide +kernel
theorem dX12_passes_26 : decode cX12_passes 26 = .ok (.if_icmp .ge 47, 3) := by decide +kernel
theorem dX12_passes_29 : decode cX12_passes 29 = .ok (.iconst 1, 1) := by decide +kernel
theorem dX12_passes_30 : decode cX12_passes 30 = .ok (.aload_n 0, 1) := by decide +kernel
theorem dX12_passes_31 : decode cX12_passes 31 = .ok (.iload 5, 2) := by decide +kernel
theorem dX12_passes_33 : decode cX12_passes 33 = .ok (.invokevirtual 63, 3) := by decide +kernel
theorem dX12_passes_36 : decode cX12_passes 36 = .ok (.ishl, 1) := by decide +kernel
theorem dX12_passes_37 : decode cX12_passes 37 = .ok (.iconst 1, 1) := by decide +kernel
theorem dX12_passes_38 : decode cX12_passes 38 = .ok (.aload_n 0, 1) := by decide +kernel
theorem dX12_passes_39 : decode cX12_passes 39 = .ok (.iload 5, 2) := by decide +kernel
theorem dX12_passes_41 : decode cX12_passes 41 = .ok (.invokevirtual 67, 3) := by decide +kernel
theorem dX12_passes_44 : decode cX12_passes 44 = .ok (.ishl, 1) := by decide +kernel
theorem dX12_passes_45 : decode cX12_passes 45 = .ok (.ior, 1) := by decide +kernel
theorem dX12_passes_46 : decode cX12_passes 46 = .ok (.istore 6, 2) := by decide +kernel
theorem dX12_passes_48 : decode cX12_passes 48 = .ok (.iload_n 1, 1) := by decide +kernel
theorem dX12_passes_49 : decode cX12_passes 49 = .ok (.iload 6, 2) := by decide +kernel
theorem dX12_passes_51 : decode cX12_passes 51 = .ok (.iand, 1) := by decide +kernel
theorem dX12_passes_52 : decode cX12_passes 52 = .ok (.ifCond .ne 15, 3) := by decide +kernel
theorem dX12_passes_55 : decode cX12_passes 55 = .ok (.iload_n 3, 1) := by decide +kernel
theorem dX12_passes_56 : decode cX12_passes 56 = .ok (.iload 6, 2) := by decide +kernel
theorem dX12_passes_58 : decode cX12_passes 58 = .ok (.iand, 1) := by decide +kernel
theorem dX12_passes_59 : decode cX12_passes 59 = .ok (.ifCond .eq 8, 3) := by decide +kernel
theorem dX12_passes_62 : decode cX12_passes 62 = .ok (.iload_n 3, 1) := by decide +kernel
theorem dX12_passes_63 : decode cX12_passes 63 = .ok (.iload 6, 2) := by decide +kernel
theorem dX12_passes_65 : decode cX12_passes 65 = .ok (.ior, 1) := by decide +kernel
theorem dX12_passes_66 : decode cX12_passes 66 = .ok (.istore_n 3, 1) := by decide +kernel
theorem dX12_passes_67 : decode cX12_passes 67 = .ok (.iinc 5 1, 3) := by decide +kernel
theorem dX12_passes_70 : decode cX12_passes 70 = .ok (.goto (-53), 3) := by decide +kernel
theorem dX12_passes_73 : decode cX12_passes 73 = .ok (.iinc 4 1, 3) := by decide +kernel
theorem dX12_passes_76 : decode cX12_passes 76 = .ok (.goto (-68), 3) := by decide +kernel
theorem dX12_passes_79 : decode cX12_passes 79 = .ok (.iload_n 3, 1) := by decide +kernel
theorem dX12_passes_80 : decode cX12_passes 80 = .ok (.ireturn, 1) := by decide +kernel
theorem dX12_colds_0 : decode cX12_colds 0 = .ok (.aload_n 0, 1) := by decide +kernel
theorem dX12_colds_1 : decode cX12_colds 1 = .ok (.iload_n 2, 1) := by decide +kernel
theorem dX12_colds_2 : decode cX12_colds 2 = .ok (.iconst 0, 1) := by decide +kernel
theorem dX12_colds_3 : decode cX12_colds 3 = .ok (.bipush 20, 2) := by decide +kernel
theorem dX12_colds_5 : decode cX12_colds 5 = .ok (.invokestatic 59, 3) := by decide +kernel
theorem dX12_colds_8 : decode cX12_colds 8 = .ok (.ifCond .ne 7, 3) := by decide +kernel
theorem dX12_colds_11 : decode cX12_colds 11 = .ok (.iconst 1, 1) := by decide +kernel
theorem dX12_colds_12 : decode cX12_colds 12 = .ok (.goto 4, 3) := by decide +kernel
theorem dX12_colds_15 : decode cX12_colds 15 = .ok (.iconst 0, 1) := by decide +kernel
theorem dX12_colds_16 : decode cX12_colds 16 = .ok (.putfield 56, 3) := by decide +kernel
theorem dX12_colds_19 : decode cX12_colds 19 = .ok (.aload_n 0, 1) := by decide +kernel
theorem dX12_colds_20 : decode cX12_colds 20 = .ok (.getfield 56, 3) := by decide +kernel
theorem dX12_colds_23 : decode cX12_colds 23 = .ok (.ifCond .le 7, 3) := by decide +kernel
theorem dX12_colds_26 : decode cX12_colds 26 = .ok (.iconst 0, 1) := by decide +kernel
theorem dX12_colds_27 : decode cX12_colds 27 = .ok (.goto 9, 3) := by decide +kernel
theorem dX12_colds_30 : decode cX12_colds 30 = .ok (.aload_n 0, 1) := by decide +kernel
theorem dX12_colds_31 : decode cX12_colds 31 = .ok (.iload_n 1, 1) := by decide +kernel
theorem dX12_colds_32 : decode cX12_colds 32 = .ok (.iload_n 2, 1) := by decide +kernel
theorem dX12_colds_33 : decode cX12_colds 33 = .ok (.invokevirtual 375, 3) := by decide +kernel
theorem dX12_colds_36 : decode cX12_colds 36 = .ok (.ireturn, 1) := by decide +kernel
theorem dX12_spared_0 : decode cX12_spared 0 = .ok (.aload_n 0, 1) := by decide +kernel
theorem dX12_spared_1 : decode cX12_spared 1 = .ok (.aload_n 0, 1) := by decide +kernel
theorem dX12_spared_2 : decode cX12_spared 2 = .ok (.iload_n 1, 1) := by decide +kernel
theorem dX12_spared_3 : decode cX12_spared 3 = .ok (.invokevirtual 271, 3) := by decide +kernel
theorem dX12_spared_6 : decode cX12_spared 6 = .ok (.ifCond .ne 7, 3) := by decide +kernel
theorem dX12_spared_9 : decode cX12_spared 9 = .ok (.iconst 1, 1) := by decide +kernel
theorem dX12_spared_10 : decode cX12_spared 10 = .ok (.goto 18, 3) := by decide +kernel
theorem dX12_spared_13 : decode cX12_spared 13 = .ok (.iload_n 2, 1) := by decide +kernel
theorem dX12_spared_14 : decode cX12_spared 14 = .ok (.iconst 0, 1) := by decide +kernel
theorem dX12_spared_15 : decode cX12_spared 15 = .ok (.bipush 20, 2) := by decide +kernel
theorem dX12_spared_17 : decode cX12_spared 17 = .ok (.invokestatic 59, 3) := by decide +kernel
theorem dX12_spared_20 : decode cX12_spared 20 = .ok (.ifCond .ne 7, 3) := by decide +kernel
theorem dX12_spared_23 : decode cX12_spared 23 = .ok (.iconst 2, 1) := by decide +kernel
theorem dX12_spared_24 : decode cX12_spared 24 = .ok (.goto 4, 3) := by decide +kernel
theorem dX12_spared_27 : decode cX12_spared 27 = .ok (.iconst 0, 1) := by decide +kernel
theorem dX12_spared_28 : decode cX12_spared 28 = .ok (.putfield 56, 3) := by decide +kernel
theorem dX12_spared_31 : decode cX12_spared 31 = .ok (.aload_n 0, 1) := by decide +kernel
theorem dX12_spared_32 : decode cX12_spared 32 = .ok (.getfield 56, 3) := by decide +kernel
theorem dX12_spared_35 : decode cX12_spared 35 = .ok (.ifCond .le 5, 3) := by decide +kernel
theorem dX12_spared_38 : decode cX12_spared 38 = .ok (.iconst 0, 1) := by decide +kernel
theorem dX12_spared_39 : decode cX12_spared 39 = .ok (.ireturn, 1) := by decide +kernel
theorem dX12_spared_40 : decode cX12_spared 40 = .ok (.aload_n 0, 1) := by decide +kernel
theorem dX12_spared_41 : decode cX12_spared 41 = .ok (.iload_n 1, 1) := by decide +kernel
theorem dX12_spared_42 : decode cX12_spared 42 = .ok (.iconst 4, 1) := by decide +kernel
theorem dX12_spared_43 : decode cX12_spared 43 = .ok (.invokevirtual 257, 3) := by decide +kernel
theorem dX12_spared_46 : decode cX12_spared 46 = .ok (.iconst 1, 1) := by decide +kernel
theorem dX12_spared_47 : decode cX12_spared 47 = .ok (.if_icmp .ne 6, 3) := by decide +kernel
theorem dX12_spared_50 : decode cX12_spared 50 = .ok (.bipush (-2), 2) := by decide +kernel
theorem dX12_spared_52 : decode cX12_spared 52 = .ok (.ireturn, 1) := by decide +kernel
theorem dX12_spared_53 : decode cX12_spared 53 = .ok (.bipush (-2), 2) := by decide +kernel
theorem dX12_spared_55 : decode cX12_spared 55 = .ok (.istore_n 3, 1) := by decide +kernel
theorem dX12_spared_56 : decode cX12_spared 56 = .ok (.iconst 0, 1) := by decide +kernel
theorem dX12_spared_57 : decode cX12_spared 57 = .ok (.istore 4, 2) := by decide +kernel
theorem dX12_spared_59 : decode cX12_spared 59 = .ok (.iload 4, 2) := by decide +kernel
theorem dX12_spared_61 : decode cX12_spared 61 = .ok (.iconst 1, 1) := by decide +kernel
theorem dX12_spared_62 : decode cX12_spared 62 = .ok (.aload_n 0, 1) := by decide +kernel
theorem dX12_spared_63 : decode cX12_spared 63 = .ok (.getfield 7, 3) := by decide +kernel
theorem dX12_spared_66 : decode cX12_spared 66 = .ok (.iconst 5, 1) := by decide +kernel
theorem dX12_spared_67 : decode cX12_spared 67 = .ok (.iaload, 1) := by decide +kernel
theorem dX12_spared_68 : decode cX12_spared 68 = .ok (.ishl, 1) := by decide +kernel
theorem dX12_spared_69 : decode cX12_spared 69 = .ok (.if_icmp .ge 56, 3) := by decide +kernel
theorem dX12_spared_72 : decode cX12_spared 72 = .ok (.iload 4, 2) := by decide +kernel
theorem dX12_spared_74 : decode cX12_spared 74 = .ok (.iload_n 1, 1) := by decide +kernel
theorem dX12_spared_75 : decode cX12_spared 75 = .ok (.invokestatic 305, 3) := by decide +kernel
theorem dX12_spared_78 : decode cX12_spared 78 = .ok (.ifCond .ne 41, 3) := by decide +kernel
theorem dX12_spared_81 : decode cX12_spared 81 = .ok (.iload_n 3, 1) := by decide +kernel
theorem dX12_spared_82 : decode cX12_spared 82 = .ok (.bipush (-2), 2) := by decide +kernel
theorem dX12_spared_84 : decode cX12_spared 84 = .ok (.if_icmp .eq 18, 3) := by decide +kernel
theorem dX12_spared_87 : decode cX12_spared 87 = .ok (.iload 4, 2) := by decide +kernel
theorem dX12_spared_89 : decode cX12_spared 89 = .ok (.invokestatic 340, 3) := by decide +kernel
theorem dX12_spared_92 : decode cX12_spared 92 = .ok (.iload_n 3, 1) := by decide +kernel
theorem dX12_spared_93 : decode cX12_spared 93 = .ok (.invokestatic 340, 3) := by decide +kernel
theorem dX12_spared_96 : decode cX12_spared 96 = .ok (.if_icmp .lt 6, 3) := by decide +kernel
theorem dX12_spared_99 : decode cX12_spared 99 = .ok (.goto 20, 3) := by decide +kernel
theorem dX12_spared_102 : decode cX12_spared 102 = .ok (.aload_n 0, 1) := by decide +kernel
theorem dX12_spared_103 : decode cX12_spared 103 = .ok (.iload 4, 2) := by decide +kernel
theorem dX12_spared_105 : decode cX12_spared 105 = .ok (.iload_n 2, 1) := by decide +kernel
theorem dX12_spared_106 : decode cX12_spared 106 = .ok (.invokevirtual 375, 3) := by decide +kernel
theorem dX12_spared_109 : decode cX12_spared 109 = .ok (.iload_n 1, 1) := by decide +kernel
theorem dX12_spared_110 : decode cX12_spared 110 = .ok (.invokestatic 305, 3) := by decide +kernel
theorem dX12_spared_113 : decode cX12_spared 113 = .ok (.ifCond .ne 6, 3) := by decide +kernel
theorem dX12_spared_116 : decode cX12_spared 116 = .ok (.iload 4, 2) := by decide +kernel
theorem dX12_spared_118 : decode cX12_spared 118 = .ok (.istore_n 3, 1) := by decide +kernel
theorem dX12_spared_119 : decode cX12_spared 119 = .ok (.iinc 4 1, 3) := by decide +kernel
theorem dX12_spared_122 : decode cX12_spared 122 = .ok (.goto (-63), 3) := by decide +kernel
theorem dX12_spared_125 : decode cX12_spared 125 = .ok (.iload_n 3, 1) := by decide +kernel
theorem dX12_spared_126 : decode cX12_spared 126 = .ok (.ireturn, 1) := by decide +kernel
theorem dX12_logged_0 : decode cX12_logged 0 = .ok (.aload_n 0, 1) := by decide +kernel
theorem dX12_logged_1 : decode cX12_logged 1 = .ok (.getfield 7, 3) := by decide +kernel
theorem dX12_logged_4 : decode cX12_logged 4 = .ok (.sipush 420, 3) := by decide +kernel
theorem dX12_logged_7 : decode cX12_logged 7 = .ok (.bipush 8, 2) := by decide +kernel
theorem dX12_logged_9 : decode cX12_logged 9 = .ok (.iload_n 1, 1) := by decide +kernel
theorem dX12_logged_10 : decode cX12_logged 10 = .ok (.imul, 1) := by decide +kernel
theorem dX12_logged_11 : decode cX12_logged 11 = .ok (.iadd, 1) := by decide +kernel
theorem dX12_logged_12 : decode cX12_logged 12 = .ok (.iload_n 2, 1) := by decide +kernel
theorem dX12_logged_13 : decode cX12_logged 13 = .ok (.iadd, 1) := by decide +kernel
theorem dX12_logged_14 : decode cX12_logged 14 = .ok (.iaload, 1) := by decide +kernel
theorem dX12_logged_15 : decode cX12_logged 15 = .ok (.ireturn, 1) := by decide +kernel
theorem dX12_changed_0 : decode cX12_changed 0 = .ok (.aload_n 0, 1) := by decide +kernel
theorem dX12_changed_1 : decode cX12_changed 1 = .ok (.iconst 0, 1) := by decide +kernel
theorem dX12_changed_2 : decode cX12_changed 2 = .ok (.putfield 56, 3) := by decide +kernel
theorem dX12_changed_5 : decode cX12_changed 5 = .ok (.iconst 0, 1) := by decide +kernel
theorem dX12_changed_6 : decode cX12_changed 6 = .ok (.istore_n 2, 1) := by decide +kernel
theorem dX12_changed_7 : decode cX12_changed 7 = .ok (.iload_n 2, 1) := by decide +kernel
theorem dX12_changed_8 : decode cX12_changed 8 = .ok (.bipush 100, 2) := by decide +kernel
theorem dX12_changed_10 : decode cX12_changed 10 = .ok (.if_icmp .ge 16, 3) := by decide +kernel
theorem dX12_changed_13 : decode cX12_changed 13 = .ok (.aload_n 0, 1) := by decide +kernel
theorem dX12_changed_14 : decode cX12_changed 14 = .ok (.getfield 53, 3) := by decide +kernel
theorem dX12_changed_17 : decode cX12_changed 17 = .ok (.iload_n 2, 1) := by decide +kernel
theorem dX12_changed_18 : decode cX12_changed 18 = .ok (.iconst (-1), 1) := by decide +kernel
theorem dX12_changed_19 : decode cX12_changed 19 = .ok (.iastore, 1) := by decide +kernel
theorem dX12_changed_20 : decode cX12_changed 20 = .ok (.iinc 2 1, 3) := by decide +kernel
theorem dX12_changed_23 : decode cX12_changed 23 = .ok (.goto (-16), 3) := by decide +kernel
theorem dX12_changed_26 : decode cX12_changed 26 = .ok (.iconst 0, 1) := by decide +kernel
theorem dX12_changed_27 : decode cX12_changed 27 = .ok (.istore_n 2, 1) := by decide +kernel
theorem dX12_changed_28 : decode cX12_changed 28 = .ok (.iconst 0, 1) := by decide +kernel
theorem dX12_changed_29 : decode cX12_changed 29 = .ok (.istore_n 3, 1) := by decide +kernel
theorem dX12_changed_30 : decode cX12_changed 30 = .ok (.aload_n 0, 1) := by decide +kernel
theorem dX12_changed_31 : decode cX12_changed 31 = .ok (.getfield 7, 3) := by decide +kernel
theorem dX12_changed_34 : decode cX12_changed 34 = .ok (.bipush 12, 2) := by decide +kernel
theorem dX12_changed_36 : decode cX12_changed 36 = .ok (.iaload, 1) := by decide +kernel
theorem dX12_changed_37 : decode cX12_changed 37 = .ok (.iconst 1, 1) := by decide +kernel
theorem dX12_changed_38 : decode cX12_changed 38 = .ok (.isub, 1) := by decide +kernel
theorem dX12_changed_39 : decode cX12_changed 39 = .ok (.istore 4, 2) := by decide +kernel
theorem dX12_changed_41 : decode cX12_changed 41 = .ok (.iload 4, 2) := by decide +kernel
theorem dX12_changed_43 : decode cX12_changed 43 = .ok (.ifCond .lt 108, 3) := by decide +kernel
theorem dX12_changed_46 : decode cX12_changed 46 = .ok (.iconst 0, 1) := by decide +kernel
theorem dX12_changed_47 : decode cX12_changed 47 = .ok (.istore 5, 2) := by decide +kernel
theorem dX12_changed_49 : decode cX12_changed 49 = .ok (.iload 5, 2) := by decide +kernel
theorem dX12_changed_51 : decode cX12_changed 51 = .ok (.iconst 2, 1) := by decide +kernel
theorem dX12_changed_52 : decode cX12_changed 52 = .ok (.if_icmp .ge 93, 3) := by decide +kernel
theorem dX12_changed_55 : decode cX12_changed 55 = .ok (.aload_n 0, 1) := by decide +kernel
theorem dX12_changed_56 : decode cX12_changed 56 = .ok (.iload 4, 2) := by decide +kernel
theorem dX12_changed_58 : decode cX12_changed 58 = .ok (.iconst 1, 1) := by decide +kernel
theorem dX12_changed_59 : decode cX12_changed 59 = .ok (.iload 5, 2) := by decide +kernel
theorem dX12_changed_61 : decode cX12_changed 61 = .ok (.iadd, 1) := by decide +kernel
theorem dX12_changed_62 : decode cX12_changed 62 = .ok (.invokevirtual 378, 3) := by decide +kernel
theorem dX12_changed_65 : decode cX12_changed 65 = .ok (.istore 6, 2) := by decide +kernel
theorem dX12_changed_67 : decode cX12_changed 67 = .ok (.bipush 10, 2) := by decide +kernel
theorem dX12_changed_69 : decode cX12_changed 69 = .ok (.iload 6, 2) := by decide +kernel
theorem dX12_changed_71 : decode cX12_changed 71 = .ok (.imul, 1) := by decide +kernel
theorem dX12_changed_72 : decode cX12_changed 72 = .ok (.aload_n 0, 1) := by decide +kernel
theorem dX12_changed_73 : decode cX12_changed 73 = .ok (.iload 4, 2) := by decide +kernel
theorem dX12_changed_75 : decode cX12_changed 75 = .ok (.iconst 2, 1) := by decide +kernel
theorem dX12_changed_76 : decode cX12_changed 76 = .ok (.iload 5, 2) := by decide +kernel
theorem dX12_changed_78 : decode cX12_changed 78 = .ok (.isub, 1) := by decide +kernel
theorem dX12_changed_79 : decode cX12_changed 79 = .ok (.invokevirtual 378, 3) := by decide +kernel
theorem dX12_changed_82 : decode cX12_changed 82 = .ok (.iadd, 1) := by decide +kernel
theorem dX12_changed_83 : decode cX12_changed 83 = .ok (.istore 7, 2) := by decide +kernel
theorem dX12_changed_85 : decode cX12_changed 85 = .ok (.aload_n 0, 1) := by decide +kernel
theorem dX12_changed_86 : decode cX12_changed 86 = .ok (.iload 4, 2) := by decide +kernel
theorem dX12_changed_88 : decode cX12_changed 88 = .ok (.iconst 3, 1) := by decide +kernel
theorem dX12_changed_89 : decode cX12_changed 89 = .ok (.iload 5, 2) := by decide +kernel
theorem dX12_changed_91 : decode cX12_changed 91 = .ok (.iadd, 1) := by decide +kernel
theorem dX12_changed_92 : decode cX12_changed 92 = .ok (.invokevirtual 378, 3) := by decide +kernel
theorem dX12_changed_95 : decode cX12_changed 95 = .ok (.istore 8, 2) := by decide +kernel
theorem dX12_changed_97 : decode cX12_changed 97 = .ok (.aload_n 0, 1) := by decide +kernel
theorem dX12_changed_98 : decode cX12_changed 98 = .ok (.getfield 53, 3) := by decide +kernel
theorem dX12_changed_101 : decode cX12_changed 101 = .ok (.iload 7, 2) := by decide +kernel
theorem dX12_changed_103 : decode cX12_changed 103 = .ok (.iaload, 1) := by decide +kernel
theorem dX12_changed_104 : decode cX12_changed 104 = .ok (.iconst (-1), 1) := by decide +kernel
theorem dX12_changed_105 : decode cX12_changed 105 = .ok (.if_icmp .eq 25, 3) := by decide +kernel
theorem dX12_changed_108 : decode cX12_changed 108 = .ok (.aload_n 0, 1) := by decide +kernel
theorem dX12_changed_109 : decode cX12_changed 109 = .ok (.getfield 53, 3) := by decide +kernel
theorem dX12_changed_112 : decode cX12_changed 112 = .ok (.iload 7, 2) := by decide +kernel
theorem dX12_changed_114 : decode cX12_changed 114 = .ok (.iaload, 1) := by decide +kernel
theorem dX12_changed_115 : decode cX12_changed 115 = .ok (.iload 8, 2) := by decide +kernel
theorem dX12_changed_117 : decode cX12_changed 117 = .ok (.if_icmp .eq 13, 3) := by decide +kernel
theorem dX12_changed_120 : decode cX12_changed 120 = .ok (.iload_n 2, 1) := by decide +kernel
theorem dX12_changed_121 : decode cX12_changed 121 = .ok (.iconst 1, 1) := by decide +kernel
theorem dX12_changed_122 : decode cX12_changed 122 = .ok (.iload 6, 2) := by decide +kernel
theorem dX12_changed_124 : decode cX12_changed 124 = .ok (.ishl, 1) := by decide +kernel
theorem dX12_changed_125 : decode cX12_changed 125 = .ok (.ior, 1) := by decide +kernel
theorem dX12_changed_126 : decode cX12_changed 126 = .ok (.istore_n 2, 1) := by decide +kernel
theorem dX12_changed_127 : decode cX12_changed 127 = .ok (.iinc 3 1, 3) := by decide +kernel
theorem dX12_changed_130 : decode cX12_changed 130 = .ok (.aload_n 0, 1) := by decide +kernel
theorem dX12_changed_131 : decode cX12_changed 131 = .ok (.getfield 53, 3) := by decide +kernel
theorem dX12_changed_134 : decode cX12_changed 134 = .ok (.iload 7, 2) := by decide +kernel
theorem dX12_changed_136 : decode cX12_changed 136 = .ok (.iload 8, 2) := by decide +kernel
theorem dX12_changed_138 : decode cX12_changed 138 = .ok (.iastore, 1) := by decide +kernel
theorem dX12_changed_139 : decode cX12_changed 139 = .ok (.iinc 5 1, 3) := by decide +kernel
theorem dX12_changed_142 : decode cX12_changed 142 = .ok (.goto (-93), 3) := by decide +kernel
theorem dX12_changed_145 : decode cX12_changed 145 = .ok (.iinc 4 (-1), 3) := by decide +kernel
theorem dX12_changed_148 : decode cX12_changed 148 = .ok (.goto (-107), 3) := by decide +kernel
theorem dX12_changed_151 : decode cX12_changed 151 = .ok (.iload_n 1, 1) := by decide +kernel
theorem dX12_changed_152 : decode cX12_changed 152 = .ok (.ifCond .eq 7, 3) := by decide +kernel
theorem dX12_changed_155 : decode cX12_changed 155 = .ok (.iload_n 3, 1) := by decide +kernel
theorem dX12_changed_156 : decode cX12_changed 156 = .ok (.goto 4, 3) := by decide +kernel
theorem dX12_changed_159 : decode cX12_changed 159 = .ok (.iload_n 2, 1) := by decide +kernel
theorem dX12_changed_160 : decode cX12_changed 160 = .ok (.ireturn, 1) := by decide +kernel
theorem dX12_tries_0 : decode cX12_tries 0 = .ok (.aload_n 0, 1) := by decide +kernel
theorem dX12_tries_1 : decode cX12_tries 1 = .ok (.getfield 7, 3) := by decide +kernel
theorem dX12_tries_4 : decode cX12_tries 4 = .ok (.bipush 10, 2) := by decide +kernel
theorem dX12_tries_6 : decode cX12_tries 6 = .ok (.iaload, 1) := by decide +kernel
theorem dX12_tries_7 : decode cX12_tries 7 = .ok (.istore_n 3, 1) := by decide +kernel
theorem dX12_tries_8 : decode cX12_tries 8 = .ok (.aload_n 0, 1) := by decide +kernel
theorem dX12_tries_9 : decode cX12_tries 9 = .ok (.iload_n 1, 1) := by decide +kernel
theorem dX12_tries_10 : decode cX12_tries 10 = .ok (.invokevirtual 302, 3) := by decide +kernel
theorem dX12_tries_13 : decode cX12_tries 13 = .ok (.istore 4, 2) := by decide +kernel
theorem dX12_tries_15 : decode cX12_tries 15 = .ok (.iload_n 2, 1) := by decide +kernel
theorem dX12_tries_16 : decode cX12_tries 16 = .ok (.ifCond .ne 8, 3) := by decide +kernel
theorem dX12_tries_19 : decode cX12_tries 19 = .ok (.iload 4, 2) := by decide +kernel
theorem dX12_tries_21 : decode cX12_tries 21 = .ok (.goto 24, 3) := by decide +kernel
theorem dX12_tries_24 : decode cX12_tries 24 = .ok (.iload_n 2, 1) := by decide +kernel
theorem dX12_tries_25 : decode cX12_tries 25 = .ok (.iconst 1, 1) := by decide +kernel
theorem dX12_tries_26 : decode cX12_tries 26 = .ok (.if_icmp .ne 15, 3) := by decide +kernel
theorem dX12_tries_29 : decode cX12_tries 29 = .ok (.aload_n 0, 1) := by decide +kernel
theorem dX12_tries_30 : decode cX12_tries 30 = .ok (.getfield 7, 3) := by decide +kernel
theorem dX12_tries_33 : decode cX12_tries 33 = .ok (.bipush 10, 2) := by decide +kernel
theorem dX12_tries_35 : decode cX12_tries 35 = .ok (.iaload, 1) := by decide +kernel
theorem dX12_tries_36 : decode cX12_tries 36 = .ok (.iload_n 3, 1) := by decide +kernel
theorem dX12_tries_37 : decode cX12_tries 37 = .ok (.isub, 1) := by decide +kernel
theorem dX12_tries_38 : decode cX12_tries 38 = .ok (.goto 7, 3) := by decide +kernel
theorem dX12_tries_41 : decode cX12_tries 41 = .ok (.aload_n 0, 1) := by decide +kernel
theorem dX12_tries_42 : decode cX12_tries 42 = .ok (.invokevirtual 372, 3) := by decide +kernel
theorem dX12_tries_45 : decode cX12_tries 45 = .ok (.istore 5, 2) := by decide +kernel
theorem dX12_tries_47 : decode cX12_tries 47 = .ok (.iload_n 2, 1) := by decide +kernel
theorem dX12_tries_48 : decode cX12_tries 48 = .ok (.iconst 2, 1) := by decide +kernel
theorem dX12_tries_49 : decode cX12_tries 49 = .ok (.if_icmp .ne 15, 3) := by decide +kernel
theorem dX12_tries_52 : decode cX12_tries 52 = .ok (.aload_n 0, 1) := by decide +kernel
theorem dX12_tries_53 : decode cX12_tries 53 = .ok (.iconst 0, 1) := by decide +kernel
theorem dX12_tries_54 : decode cX12_tries 54 = .ok (.iconst 0, 1) := by decide +kernel
theorem dX12_tries_55 : decode cX12_tries 55 = .ok (.invokevirtual 360, 3) := by decide +kernel
theorem dX12_tries_58 : decode cX12_tries 58 = .ok (.aload_n 0, 1) := by decide +kernel
theorem dX12_tries_59 : decode cX12_tries 59 = .ok (.invokevirtual 366, 3) := by decide +kernel
theorem dX12_tries_62 : decode cX12_tries 62 = .ok (.istore 5, 2) := by decide +kernel
theorem dX12_tries_64 : decode cX12_tries 64 = .ok (.aload_n 0, 1) := by decide +kernel
theorem dX12_tries_65 : decode cX12_tries 65 = .ok (.invokevirtual 204, 3) := by decide +kernel
theorem dX12_tries_68 : decode cX12_tries 68 = .ok (.iload 5, 2) := by decide +kernel
theorem dX12_tries_70 : decode cX12_tries 70 = .ok (.ireturn, 1) := by decide +kernel
theorem dX12_trial_0 : decode cX12_trial 0 = .ok (.aload_n 0, 1) := by decide +kernel
theorem dX12_trial_1 : decode cX12_trial 1 = .ok (.iload_n 1, 1) := by decide +kernel
theorem dX12_trial_2 : decode cX12_trial 2 = .ok (.iconst 0, 1) := by decide +kernel
theorem dX12_trial_3 : decode cX12_trial 3 = .ok (.bipush 20, 2) := by decide +kernel
theorem dX12_trial_5 : decode cX12_trial 5 = .ok (.invokestatic 59, 3) := by decide +kernel
theorem dX12_trial_8 : decode cX12_trial 8 = .ok (.ifCond .ne 7, 3) := by decide +kernel
theorem dX12_trial_11 : decode cX12_trial 11 = .ok (.iconst 1, 1) := by decide +kernel
theorem dX12_trial_12 : decode cX12_trial 12 = .ok (.goto 17, 3) := by decide +kernel
theorem dX12_trial_15 : decode cX12_trial 15 = .ok (.iload_n 2, 1) := by decide +kernel
theorem dX12_trial_16 : decode cX12_trial 16 = .ok (.iconst 0, 1) := by decide +kernel
theorem dX12_trial_17 : decode cX12_trial 17 = .ok (.iconst 3, 1) := by decide +kernel
theorem dX12_trial_18 : decode cX12_trial 18 = .ok (.invokestatic 59, 3) := by decide +kernel
theorem dX12_trial_21 : decode cX12_trial 21 = .ok (.ifCond .ne 7, 3) := by decide +kernel
theorem dX12_trial_24 : decode cX12_trial 24 = .ok (.iconst 2, 1) := by decide +kernel
theorem dX12_trial_25 : decode cX12_trial 25 = .ok (.goto 4, 3) := by decide +kernel
theorem dX12_trial_28 : decode cX12_trial 28 = .ok (.iconst 0, 1) := by decide +kernel
theorem dX12_trial_29 : decode cX12_trial 29 = .ok (.putfield 56, 3) := by decide +kernel
theorem dX12_trial_32 : decode cX12_trial 32 = .ok (.aload_n 0, 1) := by decide +kernel
theorem dX12_trial_33 : decode cX12_trial 33 = .ok (.getfield 56, 3) := by decide +kernel
theorem dX12_trial_36 : decode cX12_trial 36 = .ok (.ifCond .le 5, 3) := by decide +kernel
theorem dX12_trial_39 : decode cX12_trial 39 = .ok (.iconst 0, 1) := by decide +kernel
theorem dX12_trial_40 : decode cX12_trial 40 = .ok (.ireturn, 1) := by decide +kernel
theorem dX12_trial_41 : decode cX12_trial 41 = .ok (.iconst 0, 1) := by decide +kernel
theorem dX12_trial_42 : decode cX12_trial 42 = .ok (.istore_n 3, 1) := by decide +kernel
theorem dX12_trial_43 : decode cX12_trial 43 = .ok (.iload_n 3, 1) := by decide +kernel
theorem dX12_trial_44 : decode cX12_trial 44 = .ok (.sipush 900, 3) := by decide +kernel
theorem dX12_trial_47 : decode cX12_trial 47 = .ok (.if_icmp .ge 21, 3) := by decide +kernel
theorem dX12_trial_50 : decode cX12_trial 50 = .ok (.aload_n 0, 1) := by decide +kernel
theorem dX12_trial_51 : decode cX12_trial 51 = .ok (.getfield 16, 3) := by decide +kernel
theorem dX12_trial_54 : decode cX12_trial 54 = .ok (.iload_n 3, 1) := by decide +kernel
theorem dX12_trial_55 : decode cX12_trial 55 = .ok (.aload_n 0, 1) := by decide +kernel
theorem dX12_trial_56 : decode cX12_trial 56 = .ok (.getfield 7, 3) := by decide +kernel
theorem dX12_trial_59 : decode cX12_trial 59 = .ok (.iload_n 3, 1) := by decide +kernel
theorem dX12_trial_60 : decode cX12_trial 60 = .ok (.iaload, 1) := by decide +kernel
theorem dX12_trial_61 : decode cX12_trial 61 = .ok (.iastore, 1) := by decide +kernel
theorem dX12_trial_62 : decode cX12_trial 62 = .ok (.iinc 3 1, 3) := by decide +kernel
theorem dX12_trial_65 : decode cX12_trial 65 = .ok (.goto (-22), 3) := by decide +kernel
theorem dX12_trial_68 : decode cX12_trial 68 = .ok (.aload_n 0, 1) := by decide +kernel
theorem dX12_trial_69 : decode cX12_trial 69 = .ok (.iload_n 1, 1) := by decide +kernel
theorem dX12_trial_70 : decode cX12_trial 70 = .ok (.iload_n 2, 1) := by decide +kernel
theorem dX12_trial_71 : decode cX12_trial 71 = .ok (.invokevirtual 381, 3) := by decide +kernel
theorem dX12_trial_74 : decode cX12_trial 74 = .ok (.ireturn, 1) := by decide +kernel
theorem dX12_span_0 : decode cX12_span 0 = .ok (.aload_n 0, 1) := by decide +kernel
theorem dX12_span_1 : decode cX12_span 1 = .ok (.iload_n 1, 1) := by decide +kernel
theorem dX12_span_2 : decode cX12_span 2 = .ok (.iconst 0, 1) := by decide +kernel
theorem dX12_span_3 : decode cX12_span 3 = .ok (.bipush 20, 2) := by decide +kernel
theorem dX12_span_5 : decode cX12_span 5 = .ok (.invokestatic 59, 3) := by decide +kernel
theorem dX12_span_8 : decode cX12_span 8 = .ok (.ifCond .ne 7, 3) := by decide +kernel
theorem dX12_span_11 : decode cX12_span 11 = .ok (.iconst 1, 1) := by decide +kernel
theorem dX12_span_12 : decode cX12_span 12 = .ok (.goto 4, 3) := by decide +kernel
theorem dX12_span_15 : decode cX12_span 15 = .ok (.iconst 0, 1) := by decide +kernel
theorem dX12_span_16 : decode cX12_span 16 = .ok (.putfield 56, 3) := by decide +kernel
theorem dX12_span_19 : decode cX12_span 19 = .ok (.aload_n 0, 1) := by decide +kernel
theorem dX12_span_20 : decode cX12_span 20 = .ok (.getfield 56, 3) := by decide +kernel
theorem dX12_span_23 : decode cX12_span 23 = .ok (.ifCond .le 5, 3) := by decide +kernel
theorem dX12_span_26 : decode cX12_span 26 = .ok (.iconst 0, 1) := by decide +kernel
theorem dX12_span_27 : decode cX12_span 27 = .ok (.ireturn, 1) := by decide +kernel
theorem dX12_span_28 : decode cX12_span 28 = .ok (.iconst 0, 1) := by decide +kernel
theorem dX12_span_29 : decode cX12_span 29 = .ok (.istore_n 3, 1) := by decide +kernel
theorem dX12_span_30 : decode cX12_span 30 = .ok (.iload_n 3, 1) := by decide +kernel
theorem dX12_span_31 : decode cX12_span 31 = .ok (.sipush 900, 3) := by decide +kernel
theorem dX12_span_34 : decode cX12_span 34 = .ok (.if_icmp .ge 21, 3) := by decide +kernel
theorem dX12_span_37 : decode cX12_span 37 = .ok (.aload_n 0, 1) := by decide +kernel
theorem dX12_span_38 : decode cX12_span 38 = .ok (.getfield 16, 3) := by decide +kernel
theorem dX12_span_41 : decode cX12_span 41 = .ok (.iload_n 3, 1) := by decide +kernel
theorem dX12_span_42 : decode cX12_span 42 = .ok (.aload_n 0, 1) := by decide +kernel
theorem dX12_span_43 : decode cX12_span 43 = .ok (.getfield 7, 3) := by decide +kernel
theorem dX12_span_46 : decode cX12_span 46 = .ok (.iload_n 3, 1) := by decide +kernel
theorem dX12_span_47 : decode cX12_span 47 = .ok (.iaload, 1) := by decide +kernel
theorem dX12_span_48 : decode cX12_span 48 = .ok (.iastore, 1) := by decide +kernel
theorem dX12_span_49 : decode cX12_span 49 = .ok (.iinc 3 1, 3) := by decide +kernel
theorem dX12_span_52 : decode cX12_span 52 = .ok (.goto (-22), 3) := by decide +kernel
theorem dX12_span_55 : decode cX12_span 55 = .ok (.iconst (-1), 1) := by decide +kernel
theorem dX12_span_56 : decode cX12_span 56 = .ok (.istore_n 3, 1) := by decide +kernel
theorem dX12_span_57 : decode cX12_span 57 = .ok (.iconst 1, 1) := by decide +kernel
theorem dX12_span_58 : decode cX12_span 58 = .ok (.istore 4, 2) := by decide +kernel
theorem dX12_span_60 : decode cX12_span 60 = .ok (.iload 4, 2) := by decide +kernel
theorem dX12_span_62 : decode cX12_span 62 = .ok (.bipush 6, 2) := by decide +kernel
theorem dX12_span_64 : decode cX12_span 64 = .ok (.if_icmp .gt 56, 3) := by decide +kernel
theorem dX12_span_67 : decode cX12_span 67 = .ok (.aload_n 0, 1) := by decide +kernel
theorem dX12_span_68 : decode cX12_span 68 = .ok (.getfield 7, 3) := by decide +kernel
theorem dX12_span_71 : decode cX12_span 71 = .ok (.bipush 16, 2) := by decide +kernel
theorem dX12_span_73 : decode cX12_span 73 = .ok (.iload 4, 2) := by decide +kernel
theorem dX12_span_75 : decode cX12_span 75 = .ok (.iastore, 1) := by decide +kernel
theorem dX12_span_76 : decode cX12_span 76 = .ok (.aload_n 0, 1) := by decide +kernel
theorem dX12_span_77 : decode cX12_span 77 = .ok (.iload_n 1, 1) := by decide +kernel
theorem dX12_span_78 : decode cX12_span 78 = .ok (.iconst 0, 1) := by decide +kernel
theorem dX12_span_79 : decode cX12_span 79 = .ok (.invokevirtual 381, 3) := by decide +kernel
theorem dX12_span_82 : decode cX12_span 82 = .ok (.istore 5, 2) := by decide +kernel
theorem dX12_span_84 : decode cX12_span 84 = .ok (.iload_n 3, 1) := by decide +kernel
theorem dX12_span_85 : decode cX12_span 85 = .ok (.iconst (-1), 1) := by decide +kernel
theorem dX12_span_86 : decode cX12_span 86 = .ok (.if_icmp .ne 8, 3) := by decide +kernel
theorem dX12_span_89 : decode cX12_span 89 = .ok (.iload 5, 2) := by decide +kernel
theorem dX12_span_91 : decode cX12_span 91 = .ok (.goto 22, 3) := by decide +kernel
theorem dX12_span_94 : decode cX12_span 94 = .ok (.iload_n 2, 1) := by decide +kernel
theorem dX12_span_95 : decode cX12_span 95 = .ok (.ifCond .eq 12, 3) := by decide +kernel
theorem dX12_span_98 : decode cX12_span 98 = .ok (.iload_n 3, 1) := by decide +kernel
theorem dX12_span_99 : decode cX12_span 99 = .ok (.iload 5, 2) := by decide +kernel
theorem dX12_span_101 : decode cX12_span 101 = .ok (.invokestatic 287, 3) := by decide +kernel
theorem dX12_span_104 : decode cX12_span 104 = .ok (.goto 9, 3) := by decide +kernel
theorem dX12_span_107 : decode cX12_span 107 = .ok (.iload_n 3, 1) := by decide +kernel
theorem dX12_span_108 : decode cX12_span 108 = .ok (.iload 5, 2) := by decide +kernel
theorem dX12_span_110 : decode cX12_span 110 = .ok (.invokestatic 284, 3) := by decide +kernel
theorem dX12_span_113 : decode cX12_span 113 = .ok (.istore_n 3, 1) := by decide +kernel
theorem dX12_span_114 : decode cX12_span 114 = .ok (.iinc 4 1, 3) := by decide +kernel
theorem dX12_span_117 : decode cX12_span 117 = .ok (.goto (-57), 3) := by decide +kernel
theorem dX12_span_120 : decode cX12_span 120 = .ok (.iload_n 3, 1) := by decide +kernel
theorem dX12_span_121 : decode cX12_span 121 = .ok (.ireturn, 1) := by decide +kernel
theorem dX12_log_0 : decode cX12_log 0 = .ok (.aload_n 0, 1) := by decide +kernel
theorem dX12_log_1 : decode cX12_log 1 = .ok (.iload_n 2, 1) := by decide +kernel
theorem dX12_log_2 : decode cX12_log 2 = .ok (.iconst 0, 1) := by decide +kernel
theorem dX12_log_3 : decode cX12_log 3 = .ok (.bipush 7, 2) := by decide +kernel
theorem dX12_log_5 : decode cX12_log 5 = .ok (.invokestatic 59, 3) := by decide +kernel
theorem dX12_log_8 : decode cX12_log 8 = .ok (.ifCond .ne 7, 3) := by decide +kernel
theorem dX12_log_11 : decode cX12_log 11 = .ok (.iconst 1, 1) := by decide +kernel
theorem dX12_log_12 : decode cX12_log 12 = .ok (.goto 4, 3) := by decide +kernel
theorem dX12_log_15 : decode cX12_log 15 = .ok (.iconst 0, 1) := by decide +kernel
theorem dX12_log_16 : decode cX12_log 16 = .ok (.putfield 56, 3) := by decide +kernel
theorem dX12_log_19 : decode cX12_log 19 = .ok (.aload_n 0, 1) := by decide +kernel
theorem dX12_log_20 : decode cX12_log 20 = .ok (.getfield 56, 3) := by decide +kernel
theorem dX12_log_23 : decode cX12_log 23 = .ok (.ifCond .le 5, 3) := by decide +kernel
theorem dX12_log_26 : decode cX12_log 26 = .ok (.iconst 0, 1) := by decide +kernel
theorem dX12_log_27 : decode cX12_log 27 = .ok (.ireturn, 1) := by decide +kernel
theorem dX12_log_28 : decode cX12_log 28 = .ok (.iload_n 1, 1) := by decide +kernel
theorem dX12_log_29 : decode cX12_log 29 = .ok (.iconst 0, 1) := by decide +kernel
theorem dX12_log_30 : decode cX12_log 30 = .ok (.aload_n 0, 1) := by decide +kernel
theorem dX12_log_31 : decode cX12_log 31 = .ok (.getfield 7, 3) := by decide +kernel
theorem dX12_log_34 : decode cX12_log 34 = .ok (.bipush 12, 2) := by decide +kernel
theorem dX12_log_36 : decode cX12_log 36 = .ok (.iaload, 1) := by decide +kernel
theorem dX12_log_37 : decode cX12_log 37 = .ok (.iconst 1, 1) := by decide +kernel
theorem dX12_log_38 : decode cX12_log 38 = .ok (.isub, 1) := by decide +kernel
theorem dX12_log_39 : decode cX12_log 39 = .ok (.invokestatic 59, 3) := by decide +kernel
theorem dX12_log_42 : decode cX12_log 42 = .ok (.ifCond .eq 12, 3) := by decide +kernel
theorem dX12_log_45 : decode cX12_log 45 = .ok (.aload_n 0, 1) := by decide +kernel
theorem dX12_log_46 : decode cX12_log 46 = .ok (.iload_n 1, 1) := by decide +kernel
theorem dX12_log_47 : decode cX12_log 47 = .ok (.iload_n 2, 1) := by decide +kernel
theorem dX12_log_48 : decode cX12_log 48 = .ok (.invokevirtual 378, 3) := by decide +kernel
theorem dX12_log_51 : decode cX12_log 51 = .ok (.goto 4, 3) := by decide +kernel
theorem dX12_log_54 : decode cX12_log 54 = .ok (.iconst (-1), 1) := by decide +kernel
theorem dX12_log_55 : decode cX12_log 55 = .ok (.ireturn, 1) := by decide +kernel
theorem dX12_seed_0 : decode cX12_seed 0 = .ok (.aload_n 0, 1) := by decide +kernel
theorem dX12_seed_1 : decode cX12_seed 1 = .ok (.iconst 0, 1) := by decide +kernel
theorem dX12_seed_2 : decode cX12_seed 2 = .ok (.putfield 56, 3) := by decide +kernel
theorem dX12_seed_5 : decode cX12_seed 5 = .ok (.aload_n 0, 1) := by decide +kernel
theorem dX12_seed_6 : decode cX12_seed 6 = .ok (.getfield 7, 3) := by decide +kernel
theorem dX12_seed_9 : decode cX12_seed 9 = .ok (.bipush 16, 2) := by decide +kernel
theorem dX12_seed_11 : decode cX12_seed 11 = .ok (.iaload, 1) := by decide +kernel
theorem dX12_seed_12 : decode cX12_seed 12 = .ok (.istore_n 2, 1) := by decide +kernel
theorem dX12_seed_13 : decode cX12_seed 13 = .ok (.aload_n 0, 1) := by decide +kernel
theorem dX12_seed_14 : decode cX12_seed 14 = .ok (.getfield 7, 3) := by decide +kernel
theorem dX12_seed_17 : decode cX12_seed 17 = .ok (.bipush 16, 2) := by decide +kernel
theorem dX12_seed_19 : decode cX12_seed 19 = .ok (.iload_n 1, 1) := by decide +kernel
theorem dX12_seed_20 : decode cX12_seed 20 = .ok (.iastore, 1) := by decide +kernel
theorem dX12_seed_21 : decode cX12_seed 21 = .ok (.iload_n 2, 1) := by decide +kernel
theorem dX12_seed_22 : decode cX12_seed 22 = .ok (.ireturn, 1) := by decide +kernel
theorem dX12_undo_0 : decode cX12_undo 0 = .ok (.aload_n 0, 1) := by decide +kernel
theorem dX12_undo_1 : decode cX12_undo 1 = .ok (.iconst 0, 1) := by decide +kernel
theorem dX12_undo_2 : decode cX12_undo 2 = .ok (.putfield 56, 3) := by decide +kernel
theorem dX12_undo_5 : decode cX12_undo 5 = .ok (.aload_n 0, 1) := by decide +kernel
theorem dX12_undo_6 : decode cX12_undo 6 = .ok (.getfield 207, 3) := by decide +kernel
theorem dX12_undo_9 : decode cX12_undo 9 = .ok (.ifCond .ne 5, 3) := by decide +kernel
theorem dX12_undo_12 : decode cX12_undo 12 = .ok (.iconst 0, 1) := by decide +kernel
theorem dX12_undo_13 : decode cX12_undo 13 = .ok (.ireturn, 1) := by decide +kernel
theorem dX12_undo_14 : decode cX12_undo 14 = .ok (.aload_n 0, 1) := by decide +kernel
theorem dX12_undo_15 : decode cX12_undo 15 = .ok (.dup, 1) := by decide +kernel
theorem dX12_undo_16 : decode cX12_undo 16 = .ok (.getfield 207, 3) := by decide +kernel
theorem dX12_undo_19 : decode cX12_undo 19 = .ok (.iconst 1, 1) := by decide +kernel
theorem dX12_undo_20 : decode cX12_undo 20 = .ok (.isub, 1) := by decide +kernel
theorem dX12_undo_21 : decode cX12_undo 21 = .ok (.putfield 207, 3) := by decide +kernel
theorem dX12_undo_24 : decode cX12_undo 24 = .ok (.iconst 0, 1) := by decide +kernel
theorem dX12_undo_25 : decode cX12_undo 25 = .ok (.istore_n 1, 1) := by decide +kernel
theorem dX12_undo_26 : decode cX12_undo 26 = .ok (.iload_n 1, 1) := by decide +kernel
theorem dX12_undo_27 : decode cX12_undo 27 = .ok (.sipush 900, 3) := by decide +kernel
theorem dX12_undo_30 : decode cX12_undo 30 = .ok (.if_icmp .ge 30, 3) := by decide +kernel
theorem dX12_undo_33 : decode cX12_undo 33 = .ok (.aload_n 0, 1) := by decide +kernel
theorem dX12_undo_34 : decode cX12_undo 34 = .ok (.getfield 7, 3) := by decide +kernel
theorem dX12_undo_37 : decode cX12_undo 37 = .ok (.iload_n 1, 1) := by decide +kernel
theorem dX12_undo_38 : decode cX12_undo 38 = .ok (.aload_n 0, 1) := by decide +kernel
theorem dX12_undo_39 : decode cX12_undo 39 = .ok (.getfield 19, 3) := by decide +kernel
theorem dX12_undo_42 : decode cX12_undo 42 = .ok (.sipush 900, 3) := by decide +kernel
theorem dX12_undo_45 : decode cX12_undo 45 = .ok (.aload_n 0, 1) := by decide +kernel
theorem dX12_undo_46 : decode cX12_undo 46 = .ok (.getfield 207, 3) := by decide +kernel
theorem dX12_undo_49 : decode cX12_undo 49 = .ok (.imul, 1) := by decide +kernel
theorem dX12_undo_50 : decode cX12_undo 50 = .ok (.iload_n 1, 1) := by decide +kernel
theorem dX12_undo_51 : decode cX12_undo 51 = .ok (.iadd, 1) := by decide +kernel
theorem dX12_undo_52 : decode cX12_undo 52 = .ok (.iaload, 1) := by decide +kernel
theorem dX12_undo_53 : decode cX12_undo 53 = .ok (.iastore, 1) := by decide +kernel
theorem dX12_undo_54 : decode cX12_undo 54 = .ok (.iinc 1 1, 3) := by decide +kernel
theorem dX12_undo_57 : decode cX12_undo 57 = .ok (.goto (-31), 3) := by decide +kernel
theorem dX12_undo_60 : decode cX12_undo 60 = .ok (.iconst 1, 1) := by decide +kernel
theorem dX12_undo_61 : decode cX12_undo 61 = .ok (.ireturn, 1) := by decide +kernel
theorem dX12_image_0 : decode cX12_image 0 = .ok (.aload_n 0, 1) := by decide +kernel
theorem dX12_image_1 : decode cX12_image 1 = .ok (.iconst 0, 1) := by decide +kernel
theorem dX12_image_2 : decode cX12_image 2 = .ok (.putfield 56, 3) := by decide +kernel
theorem dX12_image_5 : decode cX12_image 5 = .ok (.iconst 0, 1) := by decide +kernel
theorem dX12_image_6 : decode cX12_image 6 = .ok (.istore_n 1, 1) := by decide +kernel
theorem dX12_image_7 : decode cX12_image 7 = .ok (.iload_n 1, 1) := by decide +kernel
theorem dX12_image_8 : decode cX12_image 8 = .ok (.sipush 1300, 3) := by decide +kernel
theorem dX12_image_11 : decode cX12_image 11 = .ok (.if_icmp .ge 21, 3) := by decide +kernel
theorem dX12_image_14 : decode cX12_image 14 = .ok (.aload_n 0, 1) := by decide +kernel
theorem dX12_image_15 : decode cX12_image 15 = .ok (.getfield 13, 3) := by decide +kernel
theorem dX12_image_18 : decode cX12_image 18 = .ok (.iload_n 1, 1) := by decide +kernel
theorem dX12_image_19 : decode cX12_image 19 = .ok (.aload_n 0, 1) := by decide +kernel
theorem dX12_image_20 : decode cX12_image 20 = .ok (.getfield 7, 3) := by decide +kernel
theorem dX12_image_23 : decode cX12_image 23 = .ok (.iload_n 1, 1) := by decide +kernel
theorem dX12_image_24 : decode cX12_image 24 = .ok (.iaload, 1) := by decide +kernel
theorem dX12_image_25 : decode cX12_image 25 = .ok (.iastore, 1) := by decide +kernel
theorem dX12_image_26 : decode cX12_image 26 = .ok (.iinc 1 1, 3) := by decide +kernel
theorem dX12_image_29 : decode cX12_image 29 = .ok (.goto (-22), 3) := by decide +kernel
theorem dX12_image_32 : decode cX12_image 32 = .ok (.aload_n 0, 1) := by decide +kernel
theorem dX12_image_33 : decode cX12_image 33 = .ok (.iconst 1, 1) := by decide +kernel
theorem dX12_image_34 : decode cX12_image 34 = .ok (.putfield 384, 3) := by decide +kernel
theorem dX12_image_37 : decode cX12_image 37 = .ok (.return_, 1) := by decide +kernel
theorem dX12_back_0 : decode cX12_back 0 = .ok (.aload_n 0, 1) := by decide +kernel
theorem dX12_back_1 : decode cX12_back 1 = .ok (.iconst 0, 1) := by decide +kernel
theorem dX12_back_2 : decode cX12_back 2 = .ok (.putfield 56, 3) := by decide +kernel
theorem dX12_back_5 : decode cX12_back 5 = .ok (.aload_n 0, 1) := by decide +kernel
theorem dX12_back_6 : decode cX12_back 6 = .ok (.getfield 384, 3) := by decide +kernel
theorem dX12_back_9 : decode cX12_back 9 = .ok (.ifCond .ne 5, 3) := by decide +kernel
theorem dX12_back_12 : decode cX12_back 12 = .ok (.iconst 0, 1) := by decide +kernel
theorem dX12_back_13 : decode cX12_back 13 = .ok (.ireturn, 1) := by decide +kernel
theorem dX12_back_14 : decode cX12_back 14 = .ok (.iconst 0, 1) := by decide +kernel
theorem dX12_back_15 : decode cX12_back 15 = .ok (.istore_n 1, 1) := by decide +kernel
theorem dX12_back_16 : decode cX12_back 16 = .ok (.iload_n 1, 1) := by decide +kernel
theorem dX12_back_17 : decode cX12_back 17 = .ok (.sipush 1300, 3) := by decide +kernel
theorem dX12_back_20 : decode cX12_back 20 = .ok (.if_icmp .ge 21, 3) := by decide +kernel
theorem dX12_back_23 : decode cX12_back 23 = .ok (.aload_n 0, 1) := by decide +kernel
theorem dX12_back_24 : decode cX12_back 24 = .ok (.getfield 7, 3) := by decide +kernel
theorem dX12_back_27 : decode cX12_back 27 = .ok (.iload_n 1, 1) := by decide +kernel
theorem dX12_back_28 : decode cX12_back 28 = .ok (.aload_n 0, 1) := by decide +kernel
theorem dX12_back_29 : decode cX12_back 29 = .ok (.getfield 13, 3) := by decide +kernel
theorem dX12_back_32 : decode cX12_back 32 = .ok (.iload_n 1, 1) := by decide +kernel
theorem dX12_back_33 : decode cX12_back 33 = .ok (.iaload, 1) := by decide +kernel
theorem dX12_back_34 : decode cX12_back 34 = .ok (.iastore, 1) := by decide +kernel
theorem dX12_back_35 : decode cX12_back 35 = .ok (.iinc 1 1, 3) := by decide +kernel
theorem dX12_back_38 : decode cX12_back 38 = .ok (.goto (-22), 3) := by decide +kernel
theorem dX12_back_41 : decode cX12_back 41 = .ok (.aload_n 0, 1) := by decide +kernel
theorem dX12_back_42 : decode cX12_back 42 = .ok (.iconst 0, 1) := by decide +kernel
theorem dX12_back_43 : decode cX12_back 43 = .ok (.putfield 207, 3) := by decide +kernel
theorem dX12_back_46 : decode cX12_back 46 = .ok (.iconst 1, 1) := by decide +kernel
theorem dX12_back_47 : decode cX12_back 47 = .ok (.ireturn, 1) := by decide +kernel
theorem dX12_count_0 : decode cX12_count 0 = .ok (.aload_n 0, 1) := by decide +kernel
theorem dX12_count_1 : decode cX12_count 1 = .ok (.iconst 0, 1) := by decide +kernel
theorem dX12_count_2 : decode cX12_count 2 = .ok (.putfield 56, 3) := by decide +kernel
theorem dX12_count_5 : decode cX12_count 5 = .ok (.iload_n 1, 1) := by decide +kernel
theorem dX12_count_6 : decode cX12_count 6 = .ok (.ifCond .ne 10, 3) := by decide +kernel
theorem dX12_count_9 : decode cX12_count 9 = .ok (.aload_n 0, 1) := by decide +kernel
theorem dX12_count_10 : decode cX12_count 10 = .ok (.getfield 7, 3) := by decide +kernel
theorem dX12_count_13 : decode cX12_count 13 = .ok (.iconst 3, 1) := by decide +kernel
theorem dX12_count_14 : decode cX12_count 14 = .ok (.iaload, 1) := by decide +kernel
theorem dX12_count_15 : decode cX12_count 15 = .ok (.ireturn, 1) := by decide +kernel
theorem dX12_count_16 : decode cX12_count 16 = .ok (.iload_n 1, 1) := by decide +kernel
theorem dX12_count_17 : decode cX12_count 17 = .ok (.iconst 1, 1) := by decide +kernel
theorem dX12_count_18 : decode cX12_count 18 = .ok (.if_icmp .ne 10, 3) := by decide +kernel
theorem dX12_count_21 : decode cX12_count 21 = .ok (.aload_n 0, 1) := by decide +kernel
theorem dX12_count_22 : decode cX12_count 22 = .ok (.getfield 7, 3) := by decide +kernel
theorem dX12_count_25 : decode cX12_count 25 = .ok (.iconst 4, 1) := by decide +kernel
theorem dX12_count_26 : decode cX12_count 26 = .ok (.iaload, 1) := by decide +kernel
theorem dX12_count_27 : decode cX12_count 27 = .ok (.ireturn, 1) := by decide +kernel
theorem dX12_count_28 : decode cX12_count 28 = .ok (.iload_n 1, 1) := by decide +kernel
theorem dX12_count_29 : decode cX12_count 29 = .ok (.iconst 2, 1) := by decide +kernel
theorem dX12_count_30 : decode cX12_count 30 = .ok (.if_icmp .ne 10, 3) := by decide +kernel
theorem dX12_count_33 : decode cX12_count 33 = .ok (.aload_n 0, 1) := by decide +kernel
theorem dX12_count_34 : decode cX12_count 34 = .ok (.getfield 7, 3) := by decide +kernel
theorem dX12_count_37 : decode cX12_count 37 = .ok (.iconst 5, 1) := by decide +kernel
theorem dX12_count_38 : decode cX12_count 38 = .ok (.iaload, 1) := by decide +kernel
theorem dX12_count_39 : decode cX12_count 39 = .ok (.ireturn, 1) := by decide +kernel
theorem dX12_count_40 : decode cX12_count 40 = .ok (.iload_n 1, 1) := by decide +kernel
theorem dX12_count_41 : decode cX12_count 41 = .ok (.iconst 3, 1) := by decide +kernel
theorem dX12_count_42 : decode cX12_count 42 = .ok (.if_icmp .ne 11, 3) := by decide +kernel
theorem dX12_count_45 : decode cX12_count 45 = .ok (.aload_n 0, 1) := by decide +kernel
theorem dX12_count_46 : decode cX12_count 46 = .ok (.getfield 7, 3) := by decide +kernel
theorem dX12_count_49 : decode cX12_count 49 = .ok (.bipush 6, 2) := by decide +kernel
theorem dX12_count_51 : decode cX12_count 51 = .ok (.iaload, 1) := by decide +kernel
theorem dX12_count_52 : decode cX12_count 52 = .ok (.ireturn, 1) := by decide +kernel
theorem dX12_count_53 : decode cX12_count 53 = .ok (.iload_n 1, 1) := by decide +kernel
theorem dX12_count_54 : decode cX12_count 54 = .ok (.iconst 4, 1) := by decide +kernel
theorem dX12_count_55 : decode cX12_count 55 = .ok (.if_icmp .ne 10, 3) := by decide +kernel
theorem dX12_count_58 : decode cX12_count 58 = .ok (.aload_n 0, 1) := by decide +kernel
theorem dX12_count_59 : decode cX12_count 59 = .ok (.getfield 7, 3) := by decide +kernel
theorem dX12_count_62 : decode cX12_count 62 = .ok (.iconst 0, 1) := by decide +kernel
theorem dX12_count_63 : decode cX12_count 63 = .ok (.iaload, 1) := by decide +kernel
theorem dX12_count_64 : decode cX12_count 64 = .ok (.ireturn, 1) := by decide +kernel
theorem dX12_count_65 : decode cX12_count 65 = .ok (.iload_n 1, 1) := by decide +kernel
theorem dX12_count_66 : decode cX12_count 66 = .ok (.iconst 5, 1) := by decide +kernel
theorem dX12_count_67 : decode cX12_count 67 = .ok (.if_icmp .ne 10, 3) := by decide +kernel
theorem dX12_count_70 : decode cX12_count 70 = .ok (.aload_n 0, 1) := by decide +kernel
theorem dX12_count_71 : decode cX12_count 71 = .ok (.getfield 7, 3) := by decide +kernel
theorem dX12_count_74 : decode cX12_count 74 = .ok (.iconst 1, 1) := by decide +kernel
theorem dX12_count_75 : decode cX12_count 75 = .ok (.iaload, 1) := by decide +kernel
theorem dX12_count_76 : decode cX12_count 76 = .ok (.ireturn, 1) := by decide +kernel
theorem dX12_count_77 : decode cX12_count 77 = .ok (.iload_n 1, 1) := by decide +kernel
theorem dX12_count_78 : decode cX12_count 78 = .ok (.bipush 6, 2) := by decide +kernel
theorem dX12_count_80 : decode cX12_count 80 = .ok (.bipush 10, 2) := by decide +kernel
theorem dX12_count_82 : decode cX12_count 82 = .ok (.invokestatic 59, 3) := by decide +kernel
theorem dX12_count_85 : decode cX12_count 85 = .ok (.ifCond .eq 16, 3) := by decide +kernel
theorem dX12_count_88 : decode cX12_count 88 = .ok (.aload_n 0, 1) := by decide +kernel
theorem dX12_count_89 : decode cX12_count 89 = .ok (.getfield 7, 3) := by decide +kernel
theorem dX12_count_92 : decode cX12_count 92 = .ok (.bipush 7, 2) := by decide +kernel
theorem dX12_count_94 : decode cX12_count 94 = .ok (.iload_n 1, 1) := by decide +kernel
theorem dX12_count_95 : decode cX12_count 95 = .ok (.iadd, 1) := by decide +kernel
theorem dX12_count_96 : decode cX12_count 96 = .ok (.bipush 6, 2) := by decide +kernel
theorem dX12_count_98 : decode cX12_count 98 = .ok (.isub, 1) := by decide +kernel
theorem dX12_count_99 : decode cX12_count 99 = .ok (.iaload, 1) := by decide +kernel
theorem dX12_count_100 : decode cX12_count 100 = .ok (.ireturn, 1) := by decide +kernel
theorem dX12_count_101 : decode cX12_count 101 = .ok (.iload_n 1, 1) := by decide +kernel
theorem dX12_count_102 : decode cX12_count 102 = .ok (.bipush 11, 2) := by decide +kernel
theorem dX12_count_104 : decode cX12_count 104 = .ok (.if_icmp .ne 8, 3) := by decide +kernel
theorem dX12_count_107 : decode cX12_count 107 = .ok (.aload_n 0, 1) := by decide +kernel
theorem dX12_count_108 : decode cX12_count 108 = .ok (.invokevirtual 372, 3) := by decide +kernel
theorem dX12_count_111 : decode cX12_count 111 = .ok (.ireturn, 1) := by decide +kernel
theorem dX12_count_112 : decode cX12_count 112 = .ok (.iload_n 1, 1) := by decide +kernel
theorem dX12_count_113 : decode cX12_count 113 = .ok (.bipush 12, 2) := by decide +kernel
theorem dX12_count_115 : decode cX12_count 115 = .ok (.if_icmp .ne 11, 3) := by decide +kernel
theorem dX12_count_118 : decode cX12_count 118 = .ok (.aload_n 0, 1) := by decide +kernel
theorem dX12_count_119 : decode cX12_count 119 = .ok (.getfield 7, 3) := by decide +kernel
theorem dX12_count_122 : decode cX12_count 122 = .ok (.bipush 12, 2) := by decide +kernel
theorem dX12_count_124 : decode cX12_count 124 = .ok (.iaload, 1) := by decide +kernel
theorem dX12_count_125 : decode cX12_count 125 = .ok (.ireturn, 1) := by decide +kernel
theorem dX12_count_126 : decode cX12_count 126 = .ok (.iload_n 1, 1) := by decide +kernel
theorem dX12_count_127 : decode cX12_count 127 = .ok (.bipush 13, 2) := by decide +kernel
theorem dX12_count_129 : decode cX12_count 129 = .ok (.if_icmp .ne 8, 3) := by decide +kernel
theorem dX12_count_132 : decode cX12_count 132 = .ok (.aload_n 0, 1) := by decide +kernel
theorem dX12_count_133 : decode cX12_count 133 = .ok (.getfield 207, 3) := by decide +kernel
theorem dX12_count_136 : decode cX12_count 136 = .ok (.ireturn, 1) := by decide +kernel
theorem dX12_count_137 : decode cX12_count 137 = .ok (.iload_n 1, 1) := by decide +kernel
theorem dX12_count_138 : decode cX12_count 138 = .ok (.bipush 14, 2) := by decide +kernel
theorem dX12_count_140 : decode cX12_count 140 = .ok (.bipush 16, 2) := by decide +kernel
theorem dX12_count_142 : decode cX12_count 142 = .ok (.invokestatic 59, 3) := by decide +kernel
theorem dX12_count_145 : decode cX12_count 145 = .ok (.ifCond .eq 18, 3) := by decide +kernel
theorem dX12_count_148 : decode cX12_count 148 = .ok (.aload_n 0, 1) := by decide +kernel
theorem dX12_count_149 : decode cX12_count 149 = .ok (.getfield 7, 3) := by decide +kernel
theorem dX12_count_152 : decode cX12_count 152 = .ok (.bipush 13, 2) := by decide +kernel
theorem dX12_count_154 : decode cX12_count 154 = .ok (.iload_n 1, 1) := by decide +kernel
theorem dX12_count_155 : decode cX12_count 155 = .ok (.iadd, 1) := by decide +kernel
theorem dX12_count_156 : decode cX12_count 156 = .ok (.bipush 14, 2) := by decide +kernel
theorem dX12_count_158 : decode cX12_count 158 = .ok (.isub, 1) := by decide +kernel
theorem dX12_count_159 : decode cX12_count 159 = .ok (.iaload, 1) := by decide +kernel
theorem dX12_count_160 : decode cX12_count 160 = .ok (.goto 4, 3) := by decide +kernel
theorem dX12_count_163 : decode cX12_count 163 = .ok (.iconst (-1), 1) := by decide +kernel
theorem dX12_count_164 : decode cX12_count 164 = .ok (.ireturn, 1) := by decide +kernel
theorem dJ6_bitCount_0f7a4_0 : decode cJ6_bitCount_0f7a4 0 = .ok (.iload_n 0, 1) := by decide +kernel
theorem dJ6_bitCount_0f7a4_1 : decode cJ6_bitCount_0f7a4 1 = .ok (.iload_n 0, 1) := by decide +kernel
theorem dJ6_bitCount_0f7a4_2 : decode cJ6_bitCount_0f7a4 2 = .ok (.iconst 1, 1) := by decide +kernel
theorem dJ6_bitCount_0f7a4_3 : decode cJ6_bitCount_0f7a4 3 = .ok (.iushr, 1) := by decide +kernel
theorem dJ6_bitCount_0f7a4_4 : decode cJ6_bitCount_0f7a4 4 = .ok (.ldc_w 265, 3) := by decide +kernel
theorem dJ6_bitCount_0f7a4_7 : decode cJ6_bitCount_0f7a4 7 = .ok (.iand, 1) := by decide +kernel
theorem dJ6_bitCount_0f7a4_8 : decode cJ6_bitCount_0f7a4 8 = .ok (.isub, 1) := by decide +kernel
theorem dJ6_bitCount_0f7a4_9 : decode cJ6_bitCount_0f7a4 9 = .ok (.istore_n 0, 1) := by decide +kernel
theorem dJ6_bitCount_0f7a4_10 : decode cJ6_bitCount_0f7a4 10 = .ok (.iload_n 0, 1) := by decide +kernel
theorem dJ6_bitCount_0f7a4_11 : decode cJ6_bitCount_0f7a4 11 = .ok (.ldc_w 266, 3) := by decide +kernel
theorem dJ6_bitCount_0f7a4_14 : decode cJ6_bitCount_0f7a4 14 = .ok (.iand, 1) := by decide +kernel
theorem dJ6_bitCount_0f7a4_15 : decode cJ6_bitCount_0f7a4 15 = .ok (.iload_n 0, 1) := by decide +kernel
theorem dJ6_bitCount_0f7a4_16 : decode cJ6_bitCount_0f7a4 16 = .ok (.iconst 2, 1) := by decide +kernel
theorem dJ6_bitCount_0f7a4_17 : decode cJ6_bitCount_0f7a4 17 = .ok (.iushr, 1) := by decide +kernel
theorem dJ6_bitCount_0f7a4_18 : decode cJ6_bitCount_0f7a4 18 = .ok (.ldc_w 266, 3) := by decide +kernel
theorem dJ6_bitCount_0f7a4_21 : decode cJ6_bitCount_0f7a4 21 = .ok (.iand, 1) := by decide +kernel
theorem dJ6_bitCount_0f7a4_22 : decode cJ6_bitCount_0f7a4 22 = .ok (.iadd, 1) := by decide +kernel
theorem dJ6_bitCount_0f7a4_23 : decode cJ6_bitCount_0f7a4 23 = .ok (.istore_n 0, 1) := by decide +kernel
theorem dJ6_bitCount_0f7a4_24 : decode cJ6_bitCount_0f7a4 24 = .ok (.iload_n 0, 1) := by decide +kernel
theorem dJ6_bitCount_0f7a4_25 : decode cJ6_bitCount_0f7a4 25 = .ok (.iload_n 0, 1) := by decide +kernel
theorem dJ6_bitCount_0f7a4_26 : decode cJ6_bitCount_0f7a4 26 = .ok (.iconst 4, 1) := by decide +kernel
theorem dJ6_bitCount_0f7a4_27 : decode cJ6_bitCount_0f7a4 27 = .ok (.iushr, 1) := by decide +kernel
theorem dJ6_bitCount_0f7a4_28 : decode cJ6_bitCount_0f7a4 28 = .ok (.iadd, 1) := by decide +kernel
theorem dJ6_bitCount_0f7a4_29 : decode cJ6_bitCount_0f7a4 29 = .ok (.ldc_w 267, 3) := by decide +kernel
theorem dJ6_bitCount_0f7a4_32 : decode cJ6_bitCount_0f7a4 32 = .ok (.iand, 1) := by decide +kernel
theorem dJ6_bitCount_0f7a4_33 : decode cJ6_bitCount_0f7a4 33 = .ok (.istore_n 0, 1) := by decide +kernel
theorem dJ6_bitCount_0f7a4_34 : decode cJ6_bitCount_0f7a4 34 = .ok (.iload_n 0, 1) := by decide +kernel
theorem dJ6_bitCount_0f7a4_35 : decode cJ6_bitCount_0f7a4 35 = .ok (.iload_n 0, 1) := by decide +kernel
theorem dJ6_bitCount_0f7a4_36 : decode cJ6_bitCount_0f7a4 36 = .ok (.bipush 8, 2) := by decide +kernel
theorem dJ6_bitCount_0f7a4_38 : decode cJ6_bitCount_0f7a4 38 = .ok (.iushr, 1) := by decide +kernel
theorem dJ6_bitCount_0f7a4_39 : decode cJ6_bitCount_0f7a4 39 = .ok (.iadd, 1) := by decide +kernel
theorem dJ6_bitCount_0f7a4_40 : decode cJ6_bitCount_0f7a4 40 = .ok (.istore_n 0, 1) := by decide +kernel
theorem dJ6_bitCount_0f7a4_41 : decode cJ6_bitCount_0f7a4 41 = .ok (.iload_n 0, 1) := by decide +kernel
theorem dJ6_bitCount_0f7a4_42 : decode cJ6_bitCount_0f7a4 42 = .ok (.iload_n 0, 1) := by decide +kernel
theorem dJ6_bitCount_0f7a4_43 : decode cJ6_bitCount_0f7a4 43 = .ok (.bipush 16, 2) := by decide +kernel
theorem dJ6_bitCount_0f7a4_45 : decode cJ6_bitCount_0f7a4 45 = .ok (.iushr, 1) := by decide +kernel
theorem dJ6_bitCount_0f7a4_46 : decode cJ6_bitCount_0f7a4 46 = .ok (.iadd, 1) := by decide +kernel
theorem dJ6_bitCount_0f7a4_47 : decode cJ6_bitCount_0f7a4 47 = .ok (.istore_n 0, 1) := by decide +kernel
theorem dJ6_bitCount_0f7a4_48 : decode cJ6_bitCount_0f7a4 48 = .ok (.iload_n 0, 1) := by decide +kernel
theorem dJ6_bitCount_0f7a4_49 : decode cJ6_bitCount_0f7a4 49 = .ok (.bipush 63, 2) := by decide +kernel
theorem dJ6_bitCount_0f7a4_51 : decode cJ6_bitCount_0f7a4 51 = .ok (.iand, 1) := by decide +kernel
theorem dJ6_bitCount_0f7a4_52 : decode cJ6_bitCount_0f7a4 52 = .ok (.ireturn, 1) := by decide +kernel
theorem dJ9_floorMod_7cf53_0 : decode cJ9_floorMod_7cf53 0 = .ok (.iload_n 0, 1) := by decide +kernel
theorem dJ9_floorMod_7cf53_1 : decode cJ9_floorMod_7cf53 1 = .ok (.iload_n 1, 1) := by decide +kernel
theorem dJ9_floorMod_7cf53_2 : decode cJ9_floorMod_7cf53 2 = .ok (.irem, 1) := by decide +kernel
theorem dJ9_floorMod_7cf53_3 : decode cJ9_floorMod_7cf53 3 = .ok (.istore_n 2, 1) := by decide +kernel
theorem dJ9_floorMod_7cf53_4 : decode cJ9_floorMod_7cf53 4 = .ok (.iload_n 0, 1) := by decide +kernel
theorem dJ9_floorMod_7cf53_5 : decode cJ9_floorMod_7cf53 5 = .ok (.iload_n 1, 1) := by decide +kernel
theorem dJ9_floorMod_7cf53_6 : decode cJ9_floorMod_7cf53 6 = .ok (.ixor, 1) := by decide +kernel
theorem dJ9_floorMod_7cf53_7 : decode cJ9_floorMod_7cf53 7 = .ok (.ifCond .ge 11, 3) := by decide +kernel
theorem dJ9_floorMod_7cf53_10 : decode cJ9_floorMod_7cf53 10 = .ok (.iload_n 2, 1) := by decide +kernel
theorem dJ9_floorMod_7cf53_11 : decode cJ9_floorMod_7cf53 11 = .ok (.ifCond .eq 7, 3) := by decide +kernel
theorem dJ9_floorMod_7cf53_14 : decode cJ9_floorMod_7cf53 14 = .ok (.iload_n 2, 1) := by decide +kernel
theorem dJ9_floorMod_7cf53_15 : decode cJ9_floorMod_7cf53 15 = .ok (.iload_n 1, 1) := by decide +kernel
theorem dJ9_floorMod_7cf53_16 : decode cJ9_floorMod_7cf53 16 = .ok (.iadd, 1) := by decide +kernel
theorem dJ9_floorMod_7cf53_17 : decode cJ9_floorMod_7cf53 17 = .ok (.ireturn, 1) := by decide +kernel
theorem dJ9_floorMod_7cf53_18 : decode cJ9_floorMod_7cf53 18 = .ok (.iload_n 2, 1) := by decide +kernel
theorem dJ9_floorMod_7cf53_19 : decode cJ9_floorMod_7cf53 19 = .ok (.ireturn, 1) := by decide +kernel
theorem dJ9_abs_0f7a4_0 : decode cJ9_abs_0f7a4 0 = .ok (.iload_n 0, 1) := by decide +kernel
theorem dJ9_abs_0f7a4_1 : decode cJ9_abs_0f7a4 1 = .ok (.ifCond .ge 8, 3) := by decide +kernel
theorem dJ9_abs_0f7a4_4 : decode cJ9_abs_0f7a4 4 = .ok (.iload_n 0, 1) := by decide +kernel
theorem dJ9_abs_0f7a4_5 : decode cJ9_abs_0f7a4 5 = .ok (.ineg, 1) := by decide +kernel
theorem dJ9_abs_0f7a4_6 : decode cJ9_abs_0f7a4 6 = .ok (.goto 4, 3) := by decide +kernel
theorem dJ9_abs_0f7a4_9 : decode cJ9_abs_0f7a4 9 = .ok (.iload_n 0, 1) := by decide +kernel
theorem dJ9_abs_0f7a4_10 : decode cJ9_abs_0f7a4 10 = .ok (.ireturn, 1) := by decide +kernel
theorem dJ9_max_7cf53_0 : decode cJ9_max_7cf53 0 = .ok (.iload_n 0, 1) := by decide +kernel
theorem dJ9_max_7cf53_1 : decode cJ9_max_7cf53 1 = .ok (.iload_n 1, 1) := by decide +kernel
theorem dJ9_max_7cf53_2 : decode cJ9_max_7cf53 2 = .ok (.if_icmp .lt 7, 3) := by decide +kernel
theorem dJ9_max_7cf53_5 : decode cJ9_max_7cf53 5 = .ok (.iload_n 0, 1) := by decide +kernel
theorem dJ9_max_7cf53_6 : decode cJ9_max_7cf53 6 = .ok (.goto 4, 3) := by decide +kernel
theorem dJ9_max_7cf53_9 : decode cJ9_max_7cf53 9 = .ok (.iload_n 1, 1) := by decide +kernel
theorem dJ9_max_7cf53_10 : decode cJ9_max_7cf53 10 = .ok (.ireturn, 1) := by decide +kernel
theorem dJ9_min_7cf53_0 : decode cJ9_min_7cf53 0 = .ok (.iload_n 0, 1) := by decide +kernel
theorem dJ9_min_7cf53_1 : decode cJ9_min_7cf53 1 = .ok (.iload_n 1, 1) := by decide +kernel
theorem dJ9_min_7cf53_2 : decode cJ9_min_7cf53 2 = .ok (.if_icmp .gt 7, 3) := by decide +kernel
theorem dJ9_min_7cf53_5 : decode cJ9_min_7cf53 5 = .ok (.iload_n 0, 1) := by decide +kernel
theorem dJ9_min_7cf53_6 : decode cJ9_min_7cf53 6 = .ok (.goto 4, 3) := by decide +kernel
theorem dJ9_min_7cf53_9 : decode cJ9_min_7cf53 9 = .ok (.iload_n 1, 1) := by decide +kernel
theorem dJ9_min_7cf53_10 : decode cJ9_min_7cf53 10 = .ok (.ireturn, 1) := by decide +kernel
theorem dJ7_fill_53178_0 : decode cJ7_fill_53178 0 = .ok (.iconst 0, 1) := by decide +kernel
theorem dJ7_fill_53178_1 : decode cJ7_fill_53178 1 = .ok (.istore_n 2, 1) := by decide +kernel
theorem dJ7_fill_53178_2 : decode cJ7_fill_53178 2 = .ok (.aload_n 0, 1) := by decide +kernel
theorem dJ7_fill_53178_3 : decode cJ7_fill_53178 3 = .ok (.arraylength, 1) := by decide +kernel
theorem dJ7_fill_53178_4 : decode cJ7_fill_53178 4 = .ok (.istore_n 3, 1) := by decide +kernel
theorem dJ7_fill_53178_5 : decode cJ7_fill_53178 5 = .ok (.iload_n 2, 1) := by decide +kernel
theorem dJ7_fill_53178_6 : decode cJ7_fill_53178 6 = .ok (.iload_n 3, 1) := by decide +kernel
theorem dJ7_fill_53178_7 : decode cJ7_fill_53178 7 = .ok (.if_icmp .ge 13, 3) := by decide +kernel
theorem dJ7_fill_53178_10 : decode cJ7_fill_53178 10 = .ok (.aload_n 0, 1) := by decide +kernel
theorem dJ7_fill_53178_11 : decode cJ7_fill_53178 11 = .ok (.iload_n 2, 1) := by decide +kernel
theorem dJ7_fill_53178_12 : decode cJ7_fill_53178 12 = .ok (.iload_n 1, 1) := by decide +kernel
theorem dJ7_fill_53178_13 : decode cJ7_fill_53178 13 = .ok (.iastore, 1) := by decide +kernel
theorem dJ7_fill_53178_14 : decode cJ7_fill_53178 14 = .ok (.iinc 2 1, 3) := by decide +kernel
theorem dJ7_fill_53178_17 : decode cJ7_fill_53178 17 = .ok (.goto (-12), 3) := by decide +kernel
theorem dJ7_fill_53178_20 : decode cJ7_fill_53178 20 = .ok (.return_, 1) := by decide +kernel
