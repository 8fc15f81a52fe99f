theorem dX12_isLand_10 : decode cX12_isLand 10 = .ok (.invokestatic 59, 3) := by decide +kernel
theorem dX12_isLand_13 : decode cX12_isLand 13 = .ok (.ireturn, 1) := by decide +kernel
theorem dX12_isCode_0 : decode cX12_isCode 0 = .ok (.iload_n 0, 1) := by decide +kernel
theorem dX12_isCode_1 : decode cX12_isCode 1 = .ok (.iconst 0, 1) := by decide +kernel
theorem dX12_isCode_2 : decode cX12_isCode 2 = .ok (.bipush 31, 2) := by decide +kernel
theorem dX12_isCode_4 : decode cX12_isCode 4 = .ok (.invokestatic 59, 3) := by decide +kernel
theorem dX12_isCode_7 : decode cX12_isCode 7 = .ok (.ireturn, 1) := by decide +kernel
theorem dX12_countOf_0 : decode cX12_countOf 0 = .ok (.iload_n 0, 1) := by decide +kernel
theorem dX12_countOf_1 : decode cX12_countOf 1 = .ok (.iconst 1, 1) := by decide +kernel
theorem dX12_countOf_2 : decode cX12_countOf 2 = .ok (.ishr, 1) := by decide +kernel
theorem dX12_countOf_3 : decode cX12_countOf 3 = .ok (.iconst 3, 1) := by decide +kernel
theorem dX12_countOf_4 : decode cX12_countOf 4 = .ok (.iand, 1) := by decide +kernel
theorem dX12_countOf_5 : decode cX12_countOf 5 = .ok (.iconst 1, 1) := by decide +kernel
theorem dX12_countOf_6 : decode cX12_countOf 6 = .ok (.iadd, 1) := by decide +kernel
theorem dX12_countOf_7 : decode cX12_countOf 7 = .ok (.ireturn, 1) := by decide +kernel
theorem dX12_who_0 : decode cX12_who 0 = .ok (.aload_n 0, 1) := by decide +kernel
theorem dX12_who_1 : decode cX12_who 1 = .ok (.getfield 7, 3) := by decide +kernel
theorem dX12_who_4 : decode cX12_who 4 = .ok (.sipush 372, 3) := by decide +kernel
theorem dX12_who_7 : decode cX12_who 7 = .ok (.iconst 2, 1) := by decide +kernel
theorem dX12_who_8 : decode cX12_who 8 = .ok (.iload_n 1, 1) := by decide +kernel
theorem dX12_who_9 : decode cX12_who 9 = .ok (.imul, 1) := by decide +kernel
theorem dX12_who_10 : decode cX12_who 10 = .ok (.iadd, 1) := by decide +kernel
theorem dX12_who_11 : decode cX12_who 11 = .ok (.iaload, 1) := by decide +kernel
theorem dX12_who_12 : decode cX12_who 12 = .ok (.ireturn, 1) := by decide +kernel
theorem dX12_whom_0 : decode cX12_whom 0 = .ok (.aload_n 0, 1) := by decide +kernel
theorem dX12_whom_1 : decode cX12_whom 1 = .ok (.getfield 7, 3) := by decide +kernel
theorem dX12_whom_4 : decode cX12_whom 4 = .ok (.sipush 372, 3) := by decide +kernel
theorem dX12_whom_7 : decode cX12_whom 7 = .ok (.iconst 2, 1) := by decide +kernel
theorem dX12_whom_8 : decode cX12_whom 8 = .ok (.iload_n 1, 1) := by decide +kernel
theorem dX12_whom_9 : decode cX12_whom 9 = .ok (.imul, 1) := by decide +kernel
theorem dX12_whom_10 : decode cX12_whom 10 = .ok (.iadd, 1) := by decide +kernel
theorem dX12_whom_11 : decode cX12_whom 11 = .ok (.iconst 1, 1) := by decide +kernel
theorem dX12_whom_12 : decode cX12_whom 12 = .ok (.iadd, 1) := by decide +kernel
theorem dX12_whom_13 : decode cX12_whom 13 = .ok (.iaload, 1) := by decide +kernel
theorem dX12_whom_14 : decode cX12_whom 14 = .ok (.ireturn, 1) := by decide +kernel
theorem dX12_areTied_0 : decode cX12_areTied 0 = .ok (.iconst 0, 1) := by decide +kernel
theorem dX12_areTied_1 : decode cX12_areTied 1 = .ok (.istore_n 3, 1) := by decide +kernel
theorem dX12_areTied_2 : decode cX12_areTied 2 = .ok (.iload_n 3, 1) := by decide +kernel
theorem dX12_areTied_3 : decode cX12_areTied 3 = .ok (.aload_n 0, 1) := by decide +kernel
theorem dX12_areTied_4 : decode cX12_areTied 4 = .ok (.getfield 7, 3) := by decide +kernel
theorem dX12_areTied_7 : decode cX12_areTied 7 = .ok (.bipush 6, 2) := by decide +kernel
theorem dX12_areTied_9 : decode cX12_areTied 9 = .ok (.iaload, 1) := by decide +kernel
theorem dX12_areTied_10 : decode cX12_areTied 10 = .ok (.if_icmp .ge 47, 3) := by decide +kernel
theorem dX12_areTied_13 : decode cX12_areTied 13 = .ok (.aload_n 0, 1) := by decide +kernel
theorem dX12_areTied_14 : decode cX12_areTied 14 = .ok (.iload_n 3, 1) := by decide +kernel
theorem dX12_areTied_15 : decode cX12_areTied 15 = .ok (.invokevirtual 63, 3) := by decide +kernel
theorem dX12_areTied_18 : decode cX12_areTied 18 = .ok (.iload_n 1, 1) := by decide +kernel
theorem dX12_areTied_19 : decode cX12_areTied 19 = .ok (.if_icmp .ne 12, 3) := by decide +kernel
theorem dX12_areTied_22 : decode cX12_areTied 22 = .ok (.aload_n 0, 1) := by decide +kernel
theorem dX12_areTied_23 : decode cX12_areTied 23 = .ok (.iload_n 3, 1) := by decide +kernel
theorem dX12_areTied_24 : decode cX12_areTied 24 = .ok (.invokevirtual 67, 3) := by decide +kernel
theorem dX12_areTied_27 : decode cX12_areTied 27 = .ok (.iload_n 2, 1) := by decide +kernel
theorem dX12_areTied_28 : decode cX12_areTied 28 = .ok (.if_icmp .eq 21, 3) := by decide +kernel
theorem dX12_areTied_31 : decode cX12_areTied 31 = .ok (.aload_n 0, 1) := by decide +kernel
theorem dX12_areTied_32 : decode cX12_areTied 32 = .ok (.iload_n 3, 1) := by decide +kernel
theorem dX12_areTied_33 : decode cX12_areTied 33 = .ok (.invokevirtual 63, 3) := by decide +kernel
theorem dX12_areTied_36 : decode cX12_areTied 36 = .ok (.iload_n 2, 1) := by decide +kernel
theorem dX12_areTied_37 : decode cX12_areTied 37 = .ok (.if_icmp .ne 14, 3) := by decide +kernel
theorem dX12_areTied_40 : decode cX12_areTied 40 = .ok (.aload_n 0, 1) := by decide +kernel
theorem dX12_areTied_41 : decode cX12_areTied 41 = .ok (.iload_n 3, 1) := by decide +kernel
theorem dX12_areTied_42 : decode cX12_areTied 42 = .ok (.invokevirtual 67, 3) := by decide +kernel
theorem dX12_areTied_45 : decode cX12_areTied 45 = .ok (.iload_n 1, 1) := by decide +kernel
theorem dX12_areTied_46 : decode cX12_areTied 46 = .ok (.if_icmp .ne 5, 3) := by decide +kernel
theorem dX12_areTied_49 : decode cX12_areTied 49 = .ok (.iconst 1, 1) := by decide +kernel
theorem dX12_areTied_50 : decode cX12_areTied 50 = .ok (.ireturn, 1) := by decide +kernel
theorem dX12_areTied_51 : decode cX12_areTied 51 = .ok (.iinc 3 1, 3) := by decide +kernel
theorem dX12_areTied_54 : decode cX12_areTied 54 = .ok (.goto (-52), 3) := by decide +kernel
theorem dX12_areTied_57 : decode cX12_areTied 57 = .ok (.iconst 0, 1) := by decide +kernel
theorem dX12_areTied_58 : decode cX12_areTied 58 = .ok (.ireturn, 1) := by decide +kernel
theorem dX12_costOf_0 : decode cX12_costOf 0 = .ok (.iload_n 1, 1) := by decide +kernel
theorem dX12_costOf_1 : decode cX12_costOf 1 = .ok (.iconst 3, 1) := by decide +kernel
theorem dX12_costOf_2 : decode cX12_costOf 2 = .ok (.ishr, 1) := by decide +kernel
theorem dX12_costOf_3 : decode cX12_costOf 3 = .ok (.iload_n 2, 1) := by decide +kernel
theorem dX12_costOf_4 : decode cX12_costOf 4 = .ok (.iconst 3, 1) := by decide +kernel
theorem dX12_costOf_5 : decode cX12_costOf 5 = .ok (.ishr, 1) := by decide +kernel
theorem dX12_costOf_6 : decode cX12_costOf 6 = .ok (.if_icmp .eq 11, 3) := by decide +kernel
theorem dX12_costOf_9 : decode cX12_costOf 9 = .ok (.aload_n 0, 1) := by decide +kernel
theorem dX12_costOf_10 : decode cX12_costOf 10 = .ok (.getfield 7, 3) := by decide +kernel
theorem dX12_costOf_13 : decode cX12_costOf 13 = .ok (.bipush 13, 2) := by decide +kernel
theorem dX12_costOf_15 : decode cX12_costOf 15 = .ok (.iaload, 1) := by decide +kernel
theorem dX12_costOf_16 : decode cX12_costOf 16 = .ok (.ireturn, 1) := by decide +kernel
theorem dX12_costOf_17 : decode cX12_costOf 17 = .ok (.iload_n 1, 1) := by decide +kernel
theorem dX12_costOf_18 : decode cX12_costOf 18 = .ok (.iconst 3, 1) := by decide +kernel
theorem dX12_costOf_19 : decode cX12_costOf 19 = .ok (.ishr, 1) := by decide +kernel
theorem dX12_costOf_20 : decode cX12_costOf 20 = .ok (.iconst 2, 1) := by decide +kernel
theorem dX12_costOf_21 : decode cX12_costOf 21 = .ok (.if_icmp .eq 5, 3) := by decide +kernel
theorem dX12_costOf_24 : decode cX12_costOf 24 = .ok (.iconst 0, 1) := by decide +kernel
theorem dX12_costOf_25 : decode cX12_costOf 25 = .ok (.ireturn, 1) := by decide +kernel
theorem dX12_costOf_26 : decode cX12_costOf 26 = .ok (.iload_n 1, 1) := by decide +kernel
theorem dX12_costOf_27 : decode cX12_costOf 27 = .ok (.invokestatic 70, 3) := by decide +kernel
theorem dX12_costOf_30 : decode cX12_costOf 30 = .ok (.iload_n 2, 1) := by decide +kernel
theorem dX12_costOf_31 : decode cX12_costOf 31 = .ok (.invokestatic 70, 3) := by decide +kernel
theorem dX12_costOf_34 : decode cX12_costOf 34 = .ok (.isub, 1) := by decide +kernel
theorem dX12_costOf_35 : decode cX12_costOf 35 = .ok (.istore_n 3, 1) := by decide +kernel
theorem dX12_costOf_36 : decode cX12_costOf 36 = .ok (.aload_n 0, 1) := by decide +kernel
theorem dX12_costOf_37 : decode cX12_costOf 37 = .ok (.getfield 7, 3) := by decide +kernel
theorem dX12_costOf_40 : decode cX12_costOf 40 = .ok (.bipush 14, 2) := by decide +kernel
theorem dX12_costOf_42 : decode cX12_costOf 42 = .ok (.iaload, 1) := by decide +kernel
theorem dX12_costOf_43 : decode cX12_costOf 43 = .ok (.iload_n 3, 1) := by decide +kernel
theorem dX12_costOf_44 : decode cX12_costOf 44 = .ok (.ifCond .ge 8, 3) := by decide +kernel
theorem dX12_costOf_47 : decode cX12_costOf 47 = .ok (.iload_n 3, 1) := by decide +kernel
theorem dX12_costOf_48 : decode cX12_costOf 48 = .ok (.ineg, 1) := by decide +kernel
theorem dX12_costOf_49 : decode cX12_costOf 49 = .ok (.goto 4, 3) := by decide +kernel
theorem dX12_costOf_52 : decode cX12_costOf 52 = .ok (.iload_n 3, 1) := by decide +kernel
theorem dX12_costOf_53 : decode cX12_costOf 53 = .ok (.imul, 1) := by decide +kernel
theorem dX12_costOf_54 : decode cX12_costOf 54 = .ok (.iload_n 1, 1) := by decide +kernel
theorem dX12_costOf_55 : decode cX12_costOf 55 = .ok (.iconst 1, 1) := by decide +kernel
theorem dX12_costOf_56 : decode cX12_costOf 56 = .ok (.iand, 1) := by decide +kernel
theorem dX12_costOf_57 : decode cX12_costOf 57 = .ok (.iload_n 2, 1) := by decide +kernel
theorem dX12_costOf_58 : decode cX12_costOf 58 = .ok (.iconst 1, 1) := by decide +kernel
theorem dX12_costOf_59 : decode cX12_costOf 59 = .ok (.iand, 1) := by decide +kernel
theorem dX12_costOf_60 : decode cX12_costOf 60 = .ok (.if_icmp .ne 7, 3) := by decide +kernel
theorem dX12_costOf_63 : decode cX12_costOf 63 = .ok (.iconst 0, 1) := by decide +kernel
theorem dX12_costOf_64 : decode cX12_costOf 64 = .ok (.goto 10, 3) := by decide +kernel
theorem dX12_costOf_67 : decode cX12_costOf 67 = .ok (.aload_n 0, 1) := by decide +kernel
theorem dX12_costOf_68 : decode cX12_costOf 68 = .ok (.getfield 7, 3) := by decide +kernel
theorem dX12_costOf_71 : decode cX12_costOf 71 = .ok (.bipush 15, 2) := by decide +kernel
theorem dX12_costOf_73 : decode cX12_costOf 73 = .ok (.iaload, 1) := by decide +kernel
theorem dX12_costOf_74 : decode cX12_costOf 74 = .ok (.iadd, 1) := by decide +kernel
theorem dX12_costOf_75 : decode cX12_costOf 75 = .ok (.ireturn, 1) := by decide +kernel
theorem dX12_feed_0 : decode cX12_feed 0 = .ok (.aload_n 0, 1) := by decide +kernel
theorem dX12_feed_1 : decode cX12_feed 1 = .ok (.iconst 0, 1) := by decide +kernel
theorem dX12_feed_2 : decode cX12_feed 2 = .ok (.putfield 56, 3) := by decide +kernel
theorem dX12_feed_5 : decode cX12_feed 5 = .ok (.aload_n 0, 1) := by decide +kernel
theorem dX12_feed_6 : decode cX12_feed 6 = .ok (.getfield 73, 3) := by decide +kernel
theorem dX12_feed_9 : decode cX12_feed 9 = .ok (.bipush 20, 2) := by decide +kernel
theorem dX12_feed_11 : decode cX12_feed 11 = .ok (.iadd, 1) := by decide +kernel
theorem dX12_feed_12 : decode cX12_feed 12 = .ok (.sipush 400, 3) := by decide +kernel
theorem dX12_feed_15 : decode cX12_feed 15 = .ok (.if_icmp .le 5, 3) := by decide +kernel
theorem dX12_feed_18 : decode cX12_feed 18 = .ok (.iconst (-1), 1) := by decide +kernel
theorem dX12_feed_19 : decode cX12_feed 19 = .ok (.ireturn, 1) := by decide +kernel
theorem dX12_feed_20 : decode cX12_feed 20 = .ok (.iconst 0, 1) := by decide +kernel
theorem dX12_feed_21 : decode cX12_feed 21 = .ok (.istore 6, 2) := by decide +kernel
theorem dX12_feed_23 : decode cX12_feed 23 = .ok (.iload 6, 2) := by decide +kernel
theorem dX12_feed_25 : decode cX12_feed 25 = .ok (.bipush 20, 2) := by decide +kernel
theorem dX12_feed_27 : decode cX12_feed 27 = .ok (.if_icmp .ge 93, 3) := by decide +kernel
theorem dX12_feed_30 : decode cX12_feed 30 = .ok (.iload 6, 2) := by decide +kernel
theorem dX12_feed_32 : decode cX12_feed 32 = .ok (.iconst 4, 1) := by decide +kernel
theorem dX12_feed_33 : decode cX12_feed 33 = .ok (.if_icmp .ge 7, 3) := by decide +kernel
theorem dX12_feed_36 : decode cX12_feed 36 = .ok (.iload_n 1, 1) := by decide +kernel
theorem dX12_feed_37 : decode cX12_feed 37 = .ok (.goto 39, 3) := by decide +kernel
theorem dX12_feed_40 : decode cX12_feed 40 = .ok (.iload 6, 2) := by decide +kernel
theorem dX12_feed_42 : decode cX12_feed 42 = .ok (.bipush 8, 2) := by decide +kernel
theorem dX12_feed_44 : decode cX12_feed 44 = .ok (.if_icmp .ge 7, 3) := by decide +kernel
theorem dX12_feed_47 : decode cX12_feed 47 = .ok (.iload_n 2, 1) := by decide +kernel
theorem dX12_feed_48 : decode cX12_feed 48 = .ok (.goto 28, 3) := by decide +kernel
theorem dX12_feed_51 : decode cX12_feed 51 = .ok (.iload 6, 2) := by decide +kernel
theorem dX12_feed_53 : decode cX12_feed 53 = .ok (.bipush 12, 2) := by decide +kernel
theorem dX12_feed_55 : decode cX12_feed 55 = .ok (.if_icmp .ge 7, 3) := by decide +kernel
theorem dX12_feed_58 : decode cX12_feed 58 = .ok (.iload_n 3, 1) := by decide +kernel
theorem dX12_feed_59 : decode cX12_feed 59 = .ok (.goto 17, 3) := by decide +kernel
theorem dX12_feed_62 : decode cX12_feed 62 = .ok (.iload 6, 2) := by decide +kernel
theorem dX12_feed_64 : decode cX12_feed 64 = .ok (.bipush 16, 2) := by decide +kernel
theorem dX12_feed_66 : decode cX12_feed 66 = .ok (.if_icmp .ge 8, 3) := by decide +kernel
theorem dX12_feed_69 : decode cX12_feed 69 = .ok (.iload 4, 2) := by decide +kernel
theorem dX12_feed_71 : decode cX12_feed 71 = .ok (.goto 5, 3) := by decide +kernel
theorem dX12_feed_74 : decode cX12_feed 74 = .ok (.iload 5, 2) := by decide +kernel
theorem dX12_feed_76 : decode cX12_feed 76 = .ok (.istore 7, 2) := by decide +kernel
theorem dX12_feed_78 : decode cX12_feed 78 = .ok (.aload_n 0, 1) := by decide +kernel
theorem dX12_feed_79 : decode cX12_feed 79 = .ok (.getfield 22, 3) := by decide +kernel
theorem dX12_feed_82 : decode cX12_feed 82 = .ok (.aload_n 0, 1) := by decide +kernel
theorem dX12_feed_83 : decode cX12_feed 83 = .ok (.getfield 73, 3) := by decide +kernel
theorem dX12_feed_86 : decode cX12_feed 86 = .ok (.iload 7, 2) := by decide +kernel
theorem dX12_feed_88 : decode cX12_feed 88 = .ok (.bipush 24, 2) := by decide +kernel
theorem dX12_feed_90 : decode cX12_feed 90 = .ok (.bipush 8, 2) := by decide +kernel
theorem dX12_feed_92 : decode cX12_feed 92 = .ok (.iload 6, 2) := by decide +kernel
theorem dX12_feed_94 : decode cX12_feed 94 = .ok (.iconst 4, 1) := by decide +kernel
theorem dX12_feed_95 : decode cX12_feed 95 = .ok (.irem, 1) := by decide +kernel
theorem dX12_feed_96 : decode cX12_feed 96 = .ok (.imul, 1) := by decide +kernel
theorem dX12_feed_97 : decode cX12_feed 97 = .ok (.isub, 1) := by decide +kernel
theorem dX12_feed_98 : decode cX12_feed 98 = .ok (.iushr, 1) := by decide +kernel
theorem dX12_feed_99 : decode cX12_feed 99 = .ok (.sipush 255, 3) := by decide +kernel
theorem dX12_feed_102 : decode cX12_feed 102 = .ok (.iand, 1) := by decide +kernel
theorem dX12_feed_103 : decode cX12_feed 103 = .ok (.iastore, 1) := by decide +kernel
theorem dX12_feed_104 : decode cX12_feed 104 = .ok (.aload_n 0, 1) := by decide +kernel
theorem dX12_feed_105 : decode cX12_feed 105 = .ok (.dup, 1) := by decide +kernel
theorem dX12_feed_106 : decode cX12_feed 106 = .ok (.getfield 73, 3) := by decide +kernel
theorem dX12_feed_109 : decode cX12_feed 109 = .ok (.iconst 1, 1) := by decide +kernel
theorem dX12_feed_110 : decode cX12_feed 110 = .ok (.iadd, 1) := by decide +kernel
theorem dX12_feed_111 : decode cX12_feed 111 = .ok (.putfield 73, 3) := by decide +kernel
theorem dX12_feed_114 : decode cX12_feed 114 = .ok (.iinc 6 1, 3) := by decide +kernel
theorem dX12_feed_117 : decode cX12_feed 117 = .ok (.goto (-94), 3) := by decide +kernel
theorem dX12_feed_120 : decode cX12_feed 120 = .ok (.aload_n 0, 1) := by decide +kernel
theorem dX12_feed_121 : decode cX12_feed 121 = .ok (.getfield 73, 3) := by decide +kernel
theorem dX12_feed_124 : decode cX12_feed 124 = .ok (.ireturn, 1) := by decide +kernel
theorem dX12_end_0 : decode cX12_end 0 = .ok (.aload_n 0, 1) := by decide +kernel
theorem dX12_end_1 : decode cX12_end 1 = .ok (.iconst 0, 1) := by decide +kernel
theorem dX12_end_2 : decode cX12_end 2 = .ok (.putfield 56, 3) := by decide +kernel
theorem dX12_end_5 : decode cX12_end 5 = .ok (.iload_n 1, 1) := by decide +kernel
theorem dX12_end_6 : decode cX12_end 6 = .ok (.iconst 0, 1) := by decide +kernel
theorem dX12_end_7 : decode cX12_end 7 = .ok (.aload_n 0, 1) := by decide +kernel
theorem dX12_end_8 : decode cX12_end 8 = .ok (.getfield 73, 3) := by decide +kernel
theorem dX12_end_11 : decode cX12_end 11 = .ok (.invokestatic 59, 3) := by decide +kernel
theorem dX12_end_14 : decode cX12_end 14 = .ok (.ifCond .ne 5, 3) := by decide +kernel
theorem dX12_end_17 : decode cX12_end 17 = .ok (.iconst 0, 1) := by decide +kernel
theorem dX12_end_18 : decode cX12_end 18 = .ok (.ireturn, 1) := by decide +kernel
theorem dX12_end_19 : decode cX12_end 19 = .ok (.aload_n 0, 1) := by decide +kernel
theorem dX12_end_20 : decode cX12_end 20 = .ok (.iload_n 1, 1) := by decide +kernel
theorem dX12_end_21 : decode cX12_end 21 = .ok (.putfield 73, 3) := by decide +kernel
theorem dX12_end_24 : decode cX12_end 24 = .ok (.iconst 1, 1) := by decide +kernel
theorem dX12_end_25 : decode cX12_end 25 = .ok (.ireturn, 1) := by decide +kernel
theorem dX12_letter_0 : decode cX12_letter 0 = .ok (.aload_n 0, 1) := by decide +kernel
theorem dX12_letter_1 : decode cX12_letter 1 = .ok (.getfield 76, 3) := by decide +kernel
theorem dX12_letter_4 : decode cX12_letter 4 = .ok (.iconst (-1), 1) := by decide +kernel
theorem dX12_letter_5 : decode cX12_letter 5 = .ok (.if_icmp .ne 12, 3) := by decide +kernel
theorem dX12_letter_8 : decode cX12_letter 8 = .ok (.aload_n 0, 1) := by decide +kernel
theorem dX12_letter_9 : decode cX12_letter 9 = .ok (.getfield 22, 3) := by decide +kernel
theorem dX12_letter_12 : decode cX12_letter 12 = .ok (.iload_n 1, 1) := by decide +kernel
theorem dX12_letter_13 : decode cX12_letter 13 = .ok (.iaload, 1) := by decide +kernel
theorem dX12_letter_14 : decode cX12_letter 14 = .ok (.goto 14, 3) := by decide +kernel
theorem dX12_letter_17 : decode cX12_letter 17 = .ok (.aload_n 0, 1) := by decide +kernel
theorem dX12_letter_18 : decode cX12_letter 18 = .ok (.getfield 7, 3) := by decide +kernel
theorem dX12_letter_21 : decode cX12_letter 21 = .ok (.aload_n 0, 1) := by decide +kernel
theorem dX12_letter_22 : decode cX12_letter 22 = .ok (.getfield 76, 3) := by decide +kernel
theorem dX12_letter_25 : decode cX12_letter 25 = .ok (.iload_n 1, 1) := by decide +kernel
theorem dX12_letter_26 : decode cX12_letter 26 = .ok (.iadd, 1) := by decide +kernel
theorem dX12_letter_27 : decode cX12_letter 27 = .ok (.iaload, 1) := by decide +kernel
theorem dX12_letter_28 : decode cX12_letter 28 = .ok (.ireturn, 1) := by decide +kernel
theorem dX12_skip_0 : decode cX12_skip 0 = .ok (.aload_n 0, 1) := by decide +kernel
theorem dX12_skip_1 : decode cX12_skip 1 = .ok (.getfield 79, 3) := by decide +kernel
theorem dX12_skip_4 : decode cX12_skip 4 = .ok (.aload_n 0, 1) := by decide +kernel
theorem dX12_skip_5 : decode cX12_skip 5 = .ok (.getfield 82, 3) := by decide +kernel
theorem dX12_skip_8 : decode cX12_skip 8 = .ok (.if_icmp .ge 29, 3) := by decide +kernel
theorem dX12_skip_11 : decode cX12_skip 11 = .ok (.aload_n 0, 1) := by decide +kernel
theorem dX12_skip_12 : decode cX12_skip 12 = .ok (.aload_n 0, 1) := by decide +kernel
theorem dX12_skip_13 : decode cX12_skip 13 = .ok (.getfield 79, 3) := by decide +kernel
theorem dX12_skip_16 : decode cX12_skip 16 = .ok (.invokevirtual 85, 3) := by decide +kernel
theorem dX12_skip_19 : decode cX12_skip 19 = .ok (.bipush 32, 2) := by decide +kernel
theorem dX12_skip_21 : decode cX12_skip 21 = .ok (.if_icmp .ne 16, 3) := by decide +kernel
theorem dX12_skip_24 : decode cX12_skip 24 = .ok (.aload_n 0, 1) := by decide +kernel
theorem dX12_skip_25 : decode cX12_skip 25 = .ok (.dup, 1) := by decide +kernel
theorem dX12_skip_26 : decode cX12_skip 26 = .ok (.getfield 79, 3) := by decide +kernel
theorem dX12_skip_29 : decode cX12_skip 29 = .ok (.iconst 1, 1) := by decide +kernel
theorem dX12_skip_30 : decode cX12_skip 30 = .ok (.iadd, 1) := by decide +kernel
theorem dX12_skip_31 : decode cX12_skip 31 = .ok (.putfield 79, 3) := by decide +kernel
theorem dX12_skip_34 : decode cX12_skip 34 = .ok (.goto (-34), 3) := by decide +kernel
theorem dX12_skip_37 : decode cX12_skip 37 = .ok (.return_, 1) := by decide +kernel
theorem dX12_isSign_0 : decode cX12_isSign 0 = .ok (.aload_n 0, 1) := by decide +kernel
theorem dX12_isSign_1 : decode cX12_isSign 1 = .ok (.invokevirtual 88, 3) := by decide +kernel
theorem dX12_isSign_4 : decode cX12_isSign 4 = .ok (.aload_n 0, 1) := by decide +kernel
theorem dX12_isSign_5 : decode cX12_isSign 5 = .ok (.getfield 79, 3) := by decide +kernel
theorem dX12_isSign_8 : decode cX12_isSign 8 = .ok (.aload_n 0, 1) := by decide +kernel
theorem dX12_isSign_9 : decode cX12_isSign 9 = .ok (.getfield 82, 3) := by decide +kernel
theorem dX12_isSign_12 : decode cX12_isSign 12 = .ok (.if_icmp .ge 19, 3) := by decide +kernel
theorem dX12_isSign_15 : decode cX12_isSign 15 = .ok (.aload_n 0, 1) := by decide +kernel
theorem dX12_isSign_16 : decode cX12_isSign 16 = .ok (.aload_n 0, 1) := by decide +kernel
theorem dX12_isSign_17 : decode cX12_isSign 17 = .ok (.getfield 79, 3) := by decide +kernel
theorem dX12_isSign_20 : decode cX12_isSign 20 = .ok (.invokevirtual 85, 3) := by decide +kernel
theorem dX12_isSign_23 : decode cX12_isSign 23 = .ok (.iload_n 1, 1) := by decide +kernel
theorem dX12_isSign_24 : decode cX12_isSign 24 = .ok (.if_icmp .ne 7, 3) := by decide +kernel
theorem dX12_isSign_27 : decode cX12_isSign 27 = .ok (.iconst 1, 1) := by decide +kernel
theorem dX12_isSign_28 : decode cX12_isSign 28 = .ok (.goto 4, 3) := by decide +kernel
theorem dX12_isSign_31 : decode cX12_isSign 31 = .ok (.iconst 0, 1) := by decide +kernel
theorem dX12_isSign_32 : decode cX12_isSign 32 = .ok (.ireturn, 1) := by decide +kernel
theorem dX12_has__0 : decode cX12_has_ 0 = .ok (.aload_n 0, 1) := by decide +kernel
theorem dX12_has__1 : decode cX12_has_ 1 = .ok (.invokevirtual 88, 3) := by decide +kernel
theorem dX12_has__4 : decode cX12_has_ 4 = .ok (.aload_n 0, 1) := by decide +kernel
theorem dX12_has__5 : decode cX12_has_ 5 = .ok (.getfield 79, 3) := by decide +kernel
theorem dX12_has__8 : decode cX12_has_ 8 = .ok (.istore_n 2, 1) := by decide +kernel
theorem dX12_has__9 : decode cX12_has_ 9 = .ok (.iload_n 2, 1) := by decide +kernel
theorem dX12_has__10 : decode cX12_has_ 10 = .ok (.aload_n 0, 1) := by decide +kernel
theorem dX12_has__11 : decode cX12_has_ 11 = .ok (.getfield 82, 3) := by decide +kernel
theorem dX12_has__14 : decode cX12_has_ 14 = .ok (.if_icmp .ge 24, 3) := by decide +kernel
theorem dX12_has__17 : decode cX12_has_ 17 = .ok (.aload_n 0, 1) := by decide +kernel
theorem dX12_has__18 : decode cX12_has_ 18 = .ok (.iload_n 2, 1) := by decide +kernel
theorem dX12_has__19 : decode cX12_has_ 19 = .ok (.invokevirtual 85, 3) := by decide +kernel
theorem dX12_has__22 : decode cX12_has_ 22 = .ok (.bipush 97, 2) := by decide +kernel
theorem dX12_has__24 : decode cX12_has_ 24 = .ok (.bipush 122, 2) := by decide +kernel
theorem dX12_has__26 : decode cX12_has_ 26 = .ok (.invokestatic 59, 3) := by decide +kernel
theorem dX12_has__29 : decode cX12_has_ 29 = .ok (.ifCond .eq 9, 3) := by decide +kernel
theorem dX12_has__32 : decode cX12_has_ 32 = .ok (.iinc 2 1, 3) := by decide +kernel
theorem dX12_has__35 : decode cX12_has_ 35 = .ok (.goto (-26), 3) := by decide +kernel
theorem dX12_has__38 : decode cX12_has_ 38 = .ok (.iload_n 2, 1) := by decide +kernel
theorem dX12_has__39 : decode cX12_has_ 39 = .ok (.aload_n 0, 1) := by decide +kernel
theorem dX12_has__40 : decode cX12_has_ 40 = .ok (.getfield 79, 3) := by decide +kernel
theorem dX12_has__43 : decode cX12_has_ 43 = .ok (.isub, 1) := by decide +kernel
theorem dX12_has__44 : decode cX12_has_ 44 = .ok (.aload_n 1, 1) := by decide +kernel
theorem dX12_has__45 : decode cX12_has_ 45 = .ok (.invokevirtual 91, 3) := by decide +kernel
theorem dX12_has__48 : decode cX12_has_ 48 = .ok (.if_icmp .eq 5, 3) := by decide +kernel
theorem dX12_has__51 : decode cX12_has_ 51 = .ok (.iconst 0, 1) := by decide +kernel
theorem dX12_has__52 : decode cX12_has_ 52 = .ok (.ireturn, 1) := by decide +kernel
theorem dX12_has__53 : decode cX12_has_ 53 = .ok (.iconst 0, 1) := by decide +kernel
theorem dX12_has__54 : decode cX12_has_ 54 = .ok (.istore_n 3, 1) := by decide +kernel
theorem dX12_has__55 : decode cX12_has_ 55 = .ok (.iload_n 3, 1) := by decide +kernel
theorem dX12_has__56 : decode cX12_has_ 56 = .ok (.aload_n 1, 1) := by decide +kernel
theorem dX12_has__57 : decode cX12_has_ 57 = .ok (.invokevirtual 91, 3) := by decide +kernel
theorem dX12_has__60 : decode cX12_has_ 60 = .ok (.if_icmp .ge 29, 3) := by decide +kernel
theorem dX12_has__63 : decode cX12_has_ 63 = .ok (.aload_n 0, 1) := by decide +kernel
theorem dX12_has__64 : decode cX12_has_ 64 = .ok (.aload_n 0, 1) := by decide +kernel
theorem dX12_has__65 : decode cX12_has_ 65 = .ok (.getfield 79, 3) := by decide +kernel
theorem dX12_has__68 : decode cX12_has_ 68 = .ok (.iload_n 3, 1) := by decide +kernel
theorem dX12_has__69 : decode cX12_has_ 69 = .ok (.iadd, 1) := by decide +kernel
theorem dX12_has__70 : decode cX12_has_ 70 = .ok (.invokevirtual 85, 3) := by decide +kernel
theorem dX12_has__73 : decode cX12_has_ 73 = .ok (.aload_n 1, 1) := by decide +kernel
theorem dX12_has__74 : decode cX12_has_ 74 = .ok (.iload_n 3, 1) := by decide +kernel
theorem dX12_has__75 : decode cX12_has_ 75 = .ok (.invokevirtual 97, 3) := by decide +kernel
theorem dX12_has__78 : decode cX12_has_ 78 = .ok (.if_icmp .eq 5, 3) := by decide +kernel
theorem dX12_has__81 : decode cX12_has_ 81 = .ok (.iconst 0, 1) := by decide +kernel
theorem dX12_has__82 : decode cX12_has_ 82 = .ok (.ireturn, 1) := by decide +kernel
theorem dX12_has__83 : decode cX12_has_ 83 = .ok (.iinc 3 1, 3) := by decide +kernel
theorem dX12_has__86 : decode cX12_has_ 86 = .ok (.goto (-31), 3) := by decide +kernel
theorem dX12_has__89 : decode cX12_has_ 89 = .ok (.aload_n 0, 1) := by decide +kernel
theorem dX12_has__90 : decode cX12_has_ 90 = .ok (.iload_n 2, 1) := by decide +kernel
theorem dX12_has__91 : decode cX12_has_ 91 = .ok (.putfield 79, 3) := by decide +kernel
theorem dX12_has__94 : decode cX12_has_ 94 = .ok (.iconst 1, 1) := by decide +kernel
theorem dX12_has__95 : decode cX12_has_ 95 = .ok (.ireturn, 1) := by decide +kernel
theorem dX12_wrong_0 : decode cX12_wrong 0 = .ok (.aload_n 0, 1) := by decide +kernel
theorem dX12_wrong_1 : decode cX12_wrong 1 = .ok (.getfield 25, 3) := by decide +kernel
theorem dX12_wrong_4 : decode cX12_wrong 4 = .ok (.iconst (-1), 1) := by decide +kernel
theorem dX12_wrong_5 : decode cX12_wrong 5 = .ok (.if_icmp .ne 8, 3) := by decide +kernel
theorem dX12_wrong_8 : decode cX12_wrong 8 = .ok (.aload_n 0, 1) := by decide +kernel
theorem dX12_wrong_9 : decode cX12_wrong 9 = .ok (.iload_n 1, 1) := by decide +kernel
theorem dX12_wrong_10 : decode cX12_wrong 10 = .ok (.putfield 25, 3) := by decide +kernel
theorem dX12_wrong_13 : decode cX12_wrong 13 = .ok (.return_, 1) := by decide +kernel
theorem dX12_must_0 : decode cX12_must 0 = .ok (.aload_n 0, 1) := by decide +kernel
theorem dX12_must_1 : decode cX12_must 1 = .ok (.getfield 25, 3) := by decide +kernel
theorem dX12_must_4 : decode cX12_must 4 = .ok (.iconst (-1), 1) := by decide +kernel
theorem dX12_must_5 : decode cX12_must 5 = .ok (.if_icmp .ne 19, 3) := by decide +kernel
theorem dX12_must_8 : decode cX12_must 8 = .ok (.aload_n 0, 1) := by decide +kernel
theorem dX12_must_9 : decode cX12_must 9 = .ok (.aload_n 1, 1) := by decide +kernel
theorem dX12_must_10 : decode cX12_must 10 = .ok (.invokevirtual 101, 3) := by decide +kernel
theorem dX12_must_13 : decode cX12_must 13 = .ok (.ifCond .ne 11, 3) := by decide +kernel
theorem dX12_must_16 : decode cX12_must 16 = .ok (.aload_n 0, 1) := by decide +kernel
theorem dX12_must_17 : decode cX12_must 17 = .ok (.aload_n 0, 1) := by decide +kernel
theorem dX12_must_18 : decode cX12_must 18 = .ok (.getfield 79, 3) := by decide +kernel
theorem dX12_must_21 : decode cX12_must 21 = .ok (.invokevirtual 105, 3) := by decide +kernel
theorem dX12_must_24 : decode cX12_must 24 = .ok (.return_, 1) := by decide +kernel
theorem dX12_place_0 : decode cX12_place 0 = .ok (.aload_n 0, 1) := by decide +kernel
theorem dX12_place_1 : decode cX12_place 1 = .ok (.invokevirtual 88, 3) := by decide +kernel
theorem dX12_place_4 : decode cX12_place 4 = .ok (.aload_n 0, 1) := by decide +kernel
theorem dX12_place_5 : decode cX12_place 5 = .ok (.getfield 79, 3) := by decide +kernel
theorem dX12_place_8 : decode cX12_place 8 = .ok (.ireturn, 1) := by decide +kernel
theorem dX12_figures_0 : decode cX12_figures 0 = .ok (.aload_n 0, 1) := by decide +kernel
theorem dX12_figures_1 : decode cX12_figures 1 = .ok (.getfield 25, 3) := by decide +kernel
theorem dX12_figures_4 : decode cX12_figures 4 = .ok (.iconst (-1), 1) := by decide +kernel
theorem dX12_figures_5 : decode cX12_figures 5 = .ok (.if_icmp .eq 5, 3) := by decide +kernel
theorem dX12_figures_8 : decode cX12_figures 8 = .ok (.iconst 0, 1) := by decide +kernel
theorem dX12_figures_9 : decode cX12_figures 9 = .ok (.ireturn, 1) := by decide +kernel
theorem dX12_figures_10 : decode cX12_figures 10 = .ok (.aload_n 0, 1) := by decide +kernel
theorem dX12_figures_11 : decode cX12_figures 11 = .ok (.invokevirtual 109, 3) := by decide +kernel
theorem dX12_figures_14 : decode cX12_figures 14 = .ok (.istore_n 3, 1) := by decide +kernel
theorem dX12_figures_15 : decode cX12_figures 15 = .ok (.iconst 0, 1) := by decide +kernel
theorem dX12_figures_16 : decode cX12_figures 16 = .ok (.istore 4, 2) := by decide +kernel
theorem dX12_figures_18 : decode cX12_figures 18 = .ok (.aload_n 0, 1) := by decide +kernel
theorem dX12_figures_19 : decode cX12_figures 19 = .ok (.getfield 79, 3) := by decide +kernel
theorem dX12_figures_22 : decode cX12_figures 22 = .ok (.aload_n 0, 1) := by decide +kernel
theorem dX12_figures_23 : decode cX12_figures 23 = .ok (.getfield 82, 3) := by decide +kernel
theorem dX12_figures_26 : decode cX12_figures 26 = .ok (.if_icmp .ge 63, 3) := by decide +kernel
theorem dX12_figures_29 : decode cX12_figures 29 = .ok (.aload_n 0, 1) := by decide +kernel
theorem dX12_figures_30 : decode cX12_figures 30 = .ok (.aload_n 0, 1) := by decide +kernel
theorem dX12_figures_31 : decode cX12_figures 31 = .ok (.getfield 79, 3) := by decide +kernel
theorem dX12_figures_34 : decode cX12_figures 34 = .ok (.invokevirtual 85, 3) := by decide +kernel
theorem dX12_figures_37 : decode cX12_figures 37 = .ok (.bipush 48, 2) := by decide +kernel
theorem dX12_figures_39 : decode cX12_figures 39 = .ok (.bipush 57, 2) := by decide +kernel
theorem dX12_figures_41 : decode cX12_figures 41 = .ok (.invokestatic 59, 3) := by decide +kernel
theorem dX12_figures_44 : decode cX12_figures 44 = .ok (.ifCond .eq 45, 3) := by decide +kernel
theorem dX12_figures_47 : decode cX12_figures 47 = .ok (.aload_n 0, 1) := by decide +kernel
theorem dX12_figures_48 : decode cX12_figures 48 = .ok (.getfield 79, 3) := by decide +kernel
theorem dX12_figures_51 : decode cX12_figures 51 = .ok (.iload_n 3, 1) := by decide +kernel
theorem dX12_figures_52 : decode cX12_figures 52 = .ok (.isub, 1) := by decide +kernel
theorem dX12_figures_53 : decode cX12_figures 53 = .ok (.iconst 3, 1) := by decide +kernel
theorem dX12_figures_54 : decode cX12_figures 54 = .ok (.if_icmp .gt 35, 3) := by decide +kernel
theorem dX12_figures_57 : decode cX12_figures 57 = .ok (.bipush 10, 2) := by decide +kernel
theorem dX12_figures_59 : decode cX12_figures 59 = .ok (.iload 4, 2) := by decide +kernel
theorem dX12_figures_61 : decode cX12_figures 61 = .ok (.imul, 1) := by decide +kernel
theorem dX12_figures_62 : decode cX12_figures 62 = .ok (.aload_n 0, 1) := by decide +kernel
theorem dX12_figures_63 : decode cX12_figures 63 = .ok (.aload_n 0, 1) := by decide +kernel
theorem dX12_figures_64 : decode cX12_figures 64 = .ok (.getfield 79, 3) := by decide +kernel
theorem dX12_figures_67 : decode cX12_figures 67 = .ok (.invokevirtual 85, 3) := by decide +kernel
theorem dX12_figures_70 : decode cX12_figures 70 = .ok (.iadd, 1) := by decide +kernel
theorem dX12_figures_71 : decode cX12_figures 71 = .ok (.bipush 48, 2) := by decide +kernel
theorem dX12_figures_73 : decode cX12_figures 73 = .ok (.isub, 1) := by decide +kernel
theorem dX12_figures_74 : decode cX12_figures 74 = .ok (.istore 4, 2) := by decide +kernel
theorem dX12_figures_76 : decode cX12_figures 76 = .ok (.aload_n 0, 1) := by decide +kernel
theorem dX12_figures_77 : decode cX12_figures 77 = .ok (.dup, 1) := by decide +kernel
theorem dX12_figures_78 : decode cX12_figures 78 = .ok (.getfield 79, 3) := by decide +kernel
theorem dX12_figures_81 : decode cX12_figures 81 = .ok (.iconst 1, 1) := by decide +kernel
theorem dX12_figures_82 : decode cX12_figures 82 = .ok (.iadd, 1) := by decide +kernel
theorem dX12_figures_83 : decode cX12_figures 83 = .ok (.putfield 79, 3) := by decide +kernel
theorem dX12_figures_86 : decode cX12_figures 86 = .ok (.goto (-68), 3) := by decide +kernel
theorem dX12_figures_89 : decode cX12_figures 89 = .ok (.aload_n 0, 1) := by decide +kernel
theorem dX12_figures_90 : decode cX12_figures 90 = .ok (.getfield 79, 3) := by decide +kernel
theorem dX12_figures_93 : decode cX12_figures 93 = .ok (.iload_n 3, 1) := by decide +kernel
theorem dX12_figures_94 : decode cX12_figures 94 = .ok (.if_icmp .eq 25, 3) := by decide +kernel
theorem dX12_figures_97 : decode cX12_figures 97 = .ok (.aload_n 0, 1) := by decide +kernel
theorem dX12_figures_98 : decode cX12_figures 98 = .ok (.getfield 79, 3) := by decide +kernel
theorem dX12_figures_101 : decode cX12_figures 101 = .ok (.iload_n 3, 1) := by decide +kernel
theorem dX12_figures_102 : decode cX12_figures 102 = .ok (.isub, 1) := by decide +kernel
theorem dX12_figures_103 : decode cX12_figures 103 = .ok (.iconst 3, 1) := by decide +kernel
theorem dX12_figures_104 : decode cX12_figures 104 = .ok (.if_icmp .gt 15, 3) := by decide +kernel
theorem dX12_figures_107 : decode cX12_figures 107 = .ok (.iload 4, 2) := by decide +kernel
theorem dX12_figures_109 : decode cX12_figures 109 = .ok (.iload_n 1, 1) := by decide +kernel
theorem dX12_figures_110 : decode cX12_figures 110 = .ok (.if_icmp .lt 9, 3) := by decide +kernel
theorem dX12_figures_113 : decode cX12_figures 113 = .ok (.iload 4, 2) := by decide +kernel
theorem dX12_figures_115 : decode cX12_figures 115 = .ok (.iload_n 2, 1) := by decide +kernel
theorem dX12_figures_116 : decode cX12_figures 116 = .ok (.if_icmp .le 8, 3) := by decide +kernel
theorem dX12_figures_119 : decode cX12_figures 119 = .ok (.aload_n 0, 1) := by decide +kernel
theorem dX12_figures_120 : decode cX12_figures 120 = .ok (.iload_n 3, 1) := by decide +kernel
theorem dX12_figures_121 : decode cX12_figures 121 = .ok (.invokevirtual 105, 3) := by decide +kernel
theorem dX12_figures_124 : decode cX12_figures 124 = .ok (.iload 4, 2) := by decide +kernel
theorem dX12_figures_126 : decode cX12_figures 126 = .ok (.ireturn, 1) := by decide +kernel
theorem dX12_greeting_0 : decode cX12_greeting 0 = .ok (.aload_n 0, 1) := by decide +kernel
theorem dX12_greeting_1 : decode cX12_greeting 1 = .ok (.getfield 25, 3) := by decide +kernel
theorem dX12_greeting_4 : decode cX12_greeting 4 = .ok (.iconst (-1), 1) := by decide +kernel
theorem dX12_greeting_5 : decode cX12_greeting 5 = .ok (.if_icmp .eq 5, 3) := by decide +kernel
theorem dX12_greeting_8 : decode cX12_greeting 8 = .ok (.iconst 0, 1) := by decide +kernel
theorem dX12_greeting_9 : decode cX12_greeting 9 = .ok (.ireturn, 1) := by decide +kernel
theorem dX12_greeting_10 : decode cX12_greeting 10 = .ok (.aload_n 0, 1) := by decide +kernel
theorem dX12_greeting_11 : decode cX12_greeting 11 = .ok (.ldc 112, 2) := by decide +kernel
theorem dX12_greeting_13 : decode cX12_greeting 13 = .ok (.invokevirtual 101, 3) := by decide +kernel
theorem dX12_greeting_16 : decode cX12_greeting 16 = .ok (.ifCond .eq 5, 3) := by decide +kernel
theorem dX12_greeting_19 : decode cX12_greeting 19 = .ok (.iconst 0, 1) := by decide +kernel
theorem dX12_greeting_20 : decode cX12_greeting 20 = .ok (.ireturn, 1) := by decide +kernel
theorem dX12_greeting_21 : decode cX12_greeting 21 = .ok (.aload_n 0, 1) := by decide +kernel
theorem dX12_greeting_22 : decode cX12_greeting 22 = .ok (.ldc 114, 2) := by decide +kernel
theorem dX12_greeting_24 : decode cX12_greeting 24 = .ok (.invokevirtual 101, 3) := by decide +kernel
theorem dX12_greeting_27 : decode cX12_greeting 27 = .ok (.ifCond .eq 6, 3) := by decide +kernel
theorem dX12_greeting_30 : decode cX12_greeting 30 = .ok (.bipush 8, 2) := by decide +kernel
theorem dX12_greeting_32 : decode cX12_greeting 32 = .ok (.ireturn, 1) := by decide +kernel
theorem dX12_greeting_33 : decode cX12_greeting 33 = .ok (.aload_n 0, 1) := by decide +kernel
theorem dX12_greeting_34 : decode cX12_greeting 34 = .ok (.ldc 116, 2) := by decide +kernel
theorem dX12_greeting_36 : decode cX12_greeting 36 = .ok (.invokevirtual 101, 3) := by decide +kernel
theorem dX12_greeting_39 : decode cX12_greeting 39 = .ok (.ifCond .eq 6, 3) := by decide +kernel
theorem dX12_greeting_42 : decode cX12_greeting 42 = .ok (.bipush 24, 2) := by decide +kernel
theorem dX12_greeting_44 : decode cX12_greeting 44 = .ok (.ireturn, 1) := by decide +kernel
theorem dX12_greeting_45 : decode cX12_greeting 45 = .ok (.aload_n 0, 1) := by decide +kernel
theorem dX12_greeting_46 : decode cX12_greeting 46 = .ok (.ldc 118, 2) := by decide +kernel
theorem dX12_greeting_48 : decode cX12_greeting 48 = .ok (.invokevirtual 120, 3) := by decide +kernel
theorem dX12_greeting_51 : decode cX12_greeting 51 = .ok (.aload_n 0, 1) := by decide +kernel
theorem dX12_greeting_52 : decode cX12_greeting 52 = .ok (.iconst 1, 1) := by decide +kernel
theorem dX12_greeting_53 : decode cX12_greeting 53 = .ok (.iconst 4, 1) := by decide +kernel
theorem dX12_greeting_54 : decode cX12_greeting 54 = .ok (.invokevirtual 124, 3) := by decide +kernel
theorem dX12_greeting_57 : decode cX12_greeting 57 = .ok (.istore_n 1, 1) := by decide +kernel
theorem dX12_greeting_58 : decode cX12_greeting 58 = .ok (.aload_n 0, 1) := by decide +kernel
theorem dX12_greeting_59 : decode cX12_greeting 59 = .ok (.getfield 25, 3) := by decide +kernel
theorem dX12_greeting_62 : decode cX12_greeting 62 = .ok (.iconst (-1), 1) := by decide +kernel
theorem dX12_greeting_63 : decode cX12_greeting 63 = .ok (.if_icmp .eq 5, 3) := by decide +kernel
theorem dX12_greeting_66 : decode cX12_greeting 66 = .ok (.iconst 0, 1) := by decide +kernel
theorem dX12_greeting_67 : decode cX12_greeting 67 = .ok (.ireturn, 1) := by decide +kernel
theorem dX12_greeting_68 : decode cX12_greeting 68 = .ok (.aload_n 0, 1) := by decide +kernel
theorem dX12_greeting_69 : decode cX12_greeting 69 = .ok (.ldc 128, 2) := by decide +kernel
theorem dX12_greeting_71 : decode cX12_greeting 71 = .ok (.invokevirtual 101, 3) := by decide +kernel
theorem dX12_greeting_74 : decode cX12_greeting 74 = .ok (.istore_n 2, 1) := by decide +kernel
theorem dX12_greeting_75 : decode cX12_greeting 75 = .ok (.iload_n 2, 1) := by decide +kernel
theorem dX12_greeting_76 : decode cX12_greeting 76 = .ok (.ifCond .ne 9, 3) := by decide +kernel
theorem dX12_greeting_79 : decode cX12_greeting 79 = .ok (.aload_n 0, 1) := by decide +kernel
theorem dX12_greeting_80 : decode cX12_greeting 80 = .ok (.ldc 130, 2) := by decide +kernel
theorem dX12_greeting_82 : decode cX12_greeting 82 = .ok (.invokevirtual 120, 3) := by decide +kernel
theorem dX12_greeting_85 : decode cX12_greeting 85 = .ok (.bipush 14, 2) := by decide +kernel
theorem dX12_greeting_87 : decode cX12_greeting 87 = .ok (.iconst 2, 1) := by decide +kernel
theorem dX12_greeting_88 : decode cX12_greeting 88 = .ok (.iload_n 1, 1) := by decide +kernel
theorem dX12_greeting_89 : decode cX12_greeting 89 = .ok (.imul, 1) := by decide +kernel
theorem dX12_greeting_90 : decode cX12_greeting 90 = .ok (.iadd, 1) := by decide +kernel
theorem dX12_greeting_91 : decode cX12_greeting 91 = .ok (.iload_n 2, 1) := by decide +kernel
theorem dX12_greeting_92 : decode cX12_greeting 92 = .ok (.ifCond .eq 7, 3) := by decide +kernel
theorem dX12_greeting_95 : decode cX12_greeting 95 = .ok (.iconst 1, 1) := by decide +kernel
theorem dX12_greeting_96 : decode cX12_greeting 96 = .ok (.goto 4, 3) := by decide +kernel
theorem dX12_greeting_99 : decode cX12_greeting 99 = .ok (.iconst 0, 1) := by decide +kernel
theorem dX12_greeting_100 : decode cX12_greeting 100 = .ok (.iadd, 1) := by decide +kernel
theorem dX12_greeting_101 : decode cX12_greeting 101 = .ok (.ireturn, 1) := by decide +kernel
theorem dX12_habitLine_0 : decode cX12_habitLine 0 = .ok (.aload_n 0, 1) := by decide +kernel
theorem dX12_habitLine_1 : decode cX12_habitLine 1 = .ok (.getfield 7, 3) := by decide +kernel
theorem dX12_habitLine_4 : decode cX12_habitLine 4 = .ok (.iconst 4, 1) := by decide +kernel
theorem dX12_habitLine_5 : decode cX12_habitLine 5 = .ok (.iaload, 1) := by decide +kernel
theorem dX12_habitLine_6 : decode cX12_habitLine 6 = .ok (.bipush 24, 2) := by decide +kernel
theorem dX12_habitLine_8 : decode cX12_habitLine 8 = .ok (.if_icmp .ne 8, 3) := by decide +kernel
theorem dX12_habitLine_11 : decode cX12_habitLine 11 = .ok (.aload_n 0, 1) := by decide +kernel
theorem dX12_habitLine_12 : decode cX12_habitLine 12 = .ok (.iload_n 1, 1) := by decide +kernel
theorem dX12_habitLine_13 : decode cX12_habitLine 13 = .ok (.invokevirtual 105, 3) := by decide +kernel
theorem dX12_habitLine_16 : decode cX12_habitLine 16 = .ok (.aload_n 0, 1) := by decide +kernel
theorem dX12_habitLine_17 : decode cX12_habitLine 17 = .ok (.iconst 0, 1) := by decide +kernel
theorem dX12_habitLine_18 : decode cX12_habitLine 18 = .ok (.aload_n 0, 1) := by decide +kernel
theorem dX12_habitLine_19 : decode cX12_habitLine 19 = .ok (.getfield 7, 3) := by decide +kernel
theorem dX12_habitLine_22 : decode cX12_habitLine 22 = .ok (.iconst 3, 1) := by decide +kernel
theorem dX12_habitLine_23 : decode cX12_habitLine 23 = .ok (.iaload, 1) := by decide +kernel
theorem dX12_habitLine_24 : decode cX12_habitLine 24 = .ok (.iconst 1, 1) := by decide +kernel
theorem dX12_habitLine_25 : decode cX12_habitLine 25 = .ok (.isub, 1) := by decide +kernel
theorem dX12_habitLine_26 : decode cX12_habitLine 26 = .ok (.invokevirtual 124, 3) := by decide +kernel
theorem dX12_habitLine_29 : decode cX12_habitLine 29 = .ok (.istore_n 2, 1) := by decide +kernel
theorem dX12_habitLine_30 : decode cX12_habitLine 30 = .ok (.aload_n 0, 1) := by decide +kernel
theorem dX12_habitLine_31 : decode cX12_habitLine 31 = .ok (.invokevirtual 132, 3) := by decide +kernel
theorem dX12_habitLine_34 : decode cX12_habitLine 34 = .ok (.istore_n 3, 1) := by decide +kernel
theorem dX12_habitLine_35 : decode cX12_habitLine 35 = .ok (.aload_n 0, 1) := by decide +kernel
theorem dX12_habitLine_36 : decode cX12_habitLine 36 = .ok (.ldc 135, 2) := by decide +kernel
theorem dX12_habitLine_38 : decode cX12_habitLine 38 = .ok (.invokevirtual 120, 3) := by decide +kernel
theorem dX12_habitLine_41 : decode cX12_habitLine 41 = .ok (.aload_n 0, 1) := by decide +kernel
theorem dX12_habitLine_42 : decode cX12_habitLine 42 = .ok (.iconst 1, 1) := by decide +kernel
theorem dX12_habitLine_43 : decode cX12_habitLine 43 = .ok (.bipush 9, 2) := by decide +kernel
theorem dX12_habitLine_45 : decode cX12_habitLine 45 = .ok (.invokevirtual 124, 3) := by decide +kernel
theorem dX12_habitLine_48 : decode cX12_habitLine 48 = .ok (.istore 4, 2) := by decide +kernel
theorem dX12_habitLine_50 : decode cX12_habitLine 50 = .ok (.aload_n 0, 1) := by decide +kernel
theorem dX12_habitLine_51 : decode cX12_habitLine 51 = .ok (.getfield 25, 3) := by decide +kernel
theorem dX12_habitLine_54 : decode cX12_habitLine 54 = .ok (.iconst (-1), 1) := by decide +kernel
theorem dX12_habitLine_55 : decode cX12_habitLine 55 = .ok (.if_icmp .eq 4, 3) := by decide +kernel
theorem dX12_habitLine_58 : decode cX12_habitLine 58 = .ok (.return_, 1) := by decide +kernel
theorem dX12_habitLine_59 : decode cX12_habitLine 59 = .ok (.bipush 20, 2) := by decide +kernel
theorem dX12_habitLine_61 : decode cX12_habitLine 61 = .ok (.iconst 3, 1) := by decide +kernel
theorem dX12_habitLine_62 : decode cX12_habitLine 62 = .ok (.aload_n 0, 1) := by decide +kernel
theorem dX12_habitLine_63 : decode cX12_habitLine 63 = .ok (.getfield 7, 3) := by decide +kernel
theorem dX12_habitLine_66 : decode cX12_habitLine 66 = .ok (.iconst 4, 1) := by decide +kernel
theorem dX12_habitLine_67 : decode cX12_habitLine 67 = .ok (.iaload, 1) := by decide +kernel
theorem dX12_habitLine_68 : decode cX12_habitLine 68 = .ok (.imul, 1) := by decide +kernel
theorem dX12_habitLine_69 : decode cX12_habitLine 69 = .ok (.iadd, 1) := by decide +kernel
theorem dX12_habitLine_70 : decode cX12_habitLine 70 = .ok (.istore 5, 2) := by decide +kernel
theorem dX12_habitLine_72 : decode cX12_habitLine 72 = .ok (.aload_n 0, 1) := by decide +kernel
theorem dX12_habitLine_73 : decode cX12_habitLine 73 = .ok (.getfield 7, 3) := by decide +kernel
theorem dX12_habitLine_76 : decode cX12_habitLine 76 = .ok (.iload 5, 2) := by decide +kernel
theorem dX12_habitLine_78 : decode cX12_habitLine 78 = .ok (.iload_n 2, 1) := by decide +kernel
theorem dX12_habitLine_79 : decode cX12_habitLine 79 = .ok (.iastore, 1) := by decide +kernel
theorem dX12_habitLine_80 : decode cX12_habitLine 80 = .ok (.aload_n 0, 1) := by decide +kernel
theorem dX12_habitLine_81 : decode cX12_habitLine 81 = .ok (.getfield 7, 3) := by decide +kernel
theorem dX12_habitLine_84 : decode cX12_habitLine 84 = .ok (.iload 5, 2) := by decide +kernel
theorem dX12_habitLine_86 : decode cX12_habitLine 86 = .ok (.iconst 1, 1) := by decide +kernel
theorem dX12_habitLine_87 : decode cX12_habitLine 87 = .ok (.iadd, 1) := by decide +kernel
theorem dX12_habitLine_88 : decode cX12_habitLine 88 = .ok (.iload_n 3, 1) := by decide +kernel
theorem dX12_habitLine_89 : decode cX12_habitLine 89 = .ok (.iastore, 1) := by decide +kernel
theorem dX12_habitLine_90 : decode cX12_habitLine 90 = .ok (.aload_n 0, 1) := by decide +kernel
theorem dX12_habitLine_91 : decode cX12_habitLine 91 = .ok (.getfield 7, 3) := by decide +kernel
theorem dX12_habitLine_94 : decode cX12_habitLine 94 = .ok (.iload 5, 2) := by decide +kernel
theorem dX12_habitLine_96 : decode cX12_habitLine 96 = .ok (.iconst 2, 1) := by decide +kernel
theorem dX12_habitLine_97 : decode cX12_habitLine 97 = .ok (.iadd, 1) := by decide +kernel
theorem dX12_habitLine_98 : decode cX12_habitLine 98 = .ok (.iload 4, 2) := by decide +kernel
theorem dX12_habitLine_100 : decode cX12_habitLine 100 = .ok (.iastore, 1) := by decide +kernel
theorem dX12_habitLine_101 : decode cX12_habitLine 101 = .ok (.aload_n 0, 1) := by decide +kernel
theorem dX12_habitLine_102 : decode cX12_habitLine 102 = .ok (.getfield 7, 3) := by decide +kernel
theorem dX12_habitLine_105 : decode cX12_habitLine 105 = .ok (.iconst 4, 1) := by decide +kernel
theorem dX12_habitLine_106 : decode cX12_habitLine 106 = .ok (.dup2, 1) := by decide +kernel
theorem dX12_habitLine_107 : decode cX12_habitLine 107 = .ok (.iaload, 1) := by decide +kernel
theorem dX12_habitLine_108 : decode cX12_habitLine 108 = .ok (.iconst 1, 1) := by decide +kernel
theorem dX12_habitLine_109 : decode cX12_habitLine 109 = .ok (.iadd, 1) := by decide +kernel
theorem dX12_habitLine_110 : decode cX12_habitLine 110 = .ok (.iastore, 1) := by decide +kernel
theorem dX12_habitLine_111 : decode cX12_habitLine 111 = .ok (.return_, 1) := by decide +kernel
theorem dX12_personLine_0 : decode cX12_personLine 0 = .ok (.aload_n 0, 1) := by decide +kernel
theorem dX12_personLine_1 : decode cX12_personLine 1 = .ok (.getfield 7, 3) := by decide +kernel
theorem dX12_personLine_4 : decode cX12_personLine 4 = .ok (.iconst 5, 1) := by decide +kernel
theorem dX12_personLine_5 : decode cX12_personLine 5 = .ok (.iaload, 1) := by decide +kernel
theorem dX12_personLine_6 : decode cX12_personLine 6 = .ok (.bipush 10, 2) := by decide +kernel
theorem dX12_personLine_8 : decode cX12_personLine 8 = .ok (.if_icmp .ne 8, 3) := by decide +kernel
theorem dX12_personLine_11 : decode cX12_personLine 11 = .ok (.aload_n 0, 1) := by decide +kernel
theorem dX12_personLine_12 : decode cX12_personLine 12 = .ok (.iload_n 1, 1) := by decide +kernel
theorem dX12_personLine_13 : decode cX12_personLine 13 = .ok (.invokevirtual 105, 3) := by decide +kernel
theorem dX12_personLine_16 : decode cX12_personLine 16 = .ok (.aload_n 0, 1) := by decide +kernel
theorem dX12_personLine_17 : decode cX12_personLine 17 = .ok (.iconst 0, 1) := by decide +kernel
theorem dX12_personLine_18 : decode cX12_personLine 18 = .ok (.aload_n 0, 1) := by decide +kernel
theorem dX12_personLine_19 : decode cX12_personLine 19 = .ok (.getfield 7, 3) := by decide +kernel
theorem dX12_personLine_22 : decode cX12_personLine 22 = .ok (.iconst 3, 1) := by decide +kernel
theorem dX12_personLine_23 : decode cX12_personLine 23 = .ok (.iaload, 1) := by decide +kernel
theorem dX12_personLine_24 : decode cX12_personLine 24 = .ok (.iconst 1, 1) := by decide +kernel
theorem dX12_personLine_25 : decode cX12_personLine 25 = .ok (.isub, 1) := by decide +kernel
theorem dX12_personLine_26 : decode cX12_personLine 26 = .ok (.invokevirtual 124, 3) := by decide +kernel
theorem dX12_personLine_29 : decode cX12_personLine 29 = .ok (.istore_n 2, 1) := by decide +kernel
theorem dX12_personLine_30 : decode cX12_personLine 30 = .ok (.aload_n 0, 1) := by decide +kernel
theorem dX12_personLine_31 : decode cX12_personLine 31 = .ok (.invokevirtual 132, 3) := by decide +kernel
theorem dX12_personLine_34 : decode cX12_personLine 34 = .ok (.istore_n 3, 1) := by decide +kernel
theorem dX12_personLine_35 : decode cX12_personLine 35 = .ok (.aload_n 0, 1) := by decide +kernel
theorem dX12_personLine_36 : decode cX12_personLine 36 = .ok (.ldc 137, 2) := by decide +kernel
theorem dX12_personLine_38 : decode cX12_personLine 38 = .ok (.invokevirtual 120, 3) := by decide +kernel
theorem dX12_personLine_41 : decode cX12_personLine 41 = .ok (.aload_n 0, 1) := by decide +kernel
theorem dX12_personLine_42 : decode cX12_personLine 42 = .ok (.iconst 0, 1) := by decide +kernel
theorem dX12_personLine_43 : decode cX12_personLine 43 = .ok (.bipush 9, 2) := by decide +kernel
theorem dX12_personLine_45 : decode cX12_personLine 45 = .ok (.invokevirtual 124, 3) := by decide +kernel
theorem dX12_personLine_48 : decode cX12_personLine 48 = .ok (.istore 4, 2) := by decide +kernel
theorem dX12_personLine_50 : decode cX12_personLine 50 = .ok (.aload_n 0, 1) := by decide +kernel
theorem dX12_personLine_51 : decode cX12_personLine 51 = .ok (.ldc 139, 2) := by decide +kernel
theorem dX12_personLine_53 : decode cX12_personLine 53 = .ok (.invokevirtual 120, 3) := by decide +kernel
theorem dX12_personLine_56 : decode cX12_personLine 56 = .ok (.aload_n 0, 1) := by decide +kernel
theorem dX12_personLine_57 : decode cX12_personLine 57 = .ok (.iconst 0, 1) := by decide +kernel
theorem dX12_personLine_58 : decode cX12_personLine 58 = .ok (.bipush 100, 2) := by decide +kernel
theorem dX12_personLine_60 : decode cX12_personLine 60 = .ok (.invokevirtual 124, 3) := by decide +kernel
theorem dX12_personLine_63 : decode cX12_personLine 63 = .ok (.istore 5, 2) := by decide +kernel
theorem dX12_personLine_65 : decode cX12_personLine 65 = .ok (.aload_n 0, 1) := by decide +kernel
theorem dX12_personLine_66 : decode cX12_personLine 66 = .ok (.getfield 25, 3) := by decide +kernel
theorem dX12_personLine_69 : decode cX12_personLine 69 = .ok (.iconst (-1), 1) := by decide +kernel
theorem dX12_personLine_70 : decode cX12_personLine 70 = .ok (.if_icmp .eq 4, 3) := by decide +kernel
theorem dX12_personLine_73 : decode cX12_personLine 73 = .ok (.return_, 1) := by decide +kernel
theorem dX12_personLine_74 : decode cX12_personLine 74 = .ok (.aload_n 0, 1) := by decide +kernel
theorem dX12_personLine_75 : decode cX12_personLine 75 = .ok (.getfield 7, 3) := by decide +kernel
theorem dX12_personLine_78 : decode cX12_personLine 78 = .ok (.iconst 5, 1) := by decide +kernel
theorem dX12_personLine_79 : decode cX12_personLine 79 = .ok (.iaload, 1) := by decide +kernel
theorem dX12_personLine_80 : decode cX12_personLine 80 = .ok (.istore 6, 2) := by decide +kernel
theorem dX12_personLine_82 : decode cX12_personLine 82 = .ok (.aload_n 0, 1) := by decide +kernel
theorem dX12_personLine_83 : decode cX12_personLine 83 = .ok (.iload 6, 2) := by decide +kernel
theorem dX12_personLine_85 : decode cX12_personLine 85 = .ok (.iconst 0, 1) := by decide +kernel
theorem dX12_personLine_86 : decode cX12_personLine 86 = .ok (.iload_n 2, 1) := by decide +kernel
theorem dX12_personLine_87 : decode cX12_personLine 87 = .ok (.invokevirtual 141, 3) := by decide +kernel
theorem dX12_personLine_90 : decode cX12_personLine 90 = .ok (.aload_n 0, 1) := by decide +kernel
theorem dX12_personLine_91 : decode cX12_personLine 91 = .ok (.iload 6, 2) := by decide +kernel
theorem dX12_personLine_93 : decode cX12_personLine 93 = .ok (.iconst 1, 1) := by decide +kernel
theorem dX12_personLine_94 : decode cX12_personLine 94 = .ok (.iload_n 3, 1) := by decide +kernel
theorem dX12_personLine_95 : decode cX12_personLine 95 = .ok (.invokevirtual 141, 3) := by decide +kernel
theorem dX12_personLine_98 : decode cX12_personLine 98 = .ok (.aload_n 0, 1) := by decide +kernel
theorem dX12_personLine_99 : decode cX12_personLine 99 = .ok (.iload 6, 2) := by decide +kernel
theorem dX12_personLine_101 : decode cX12_personLine 101 = .ok (.iconst 2, 1) := by decide +kernel
theorem dX12_personLine_102 : decode cX12_personLine 102 = .ok (.iload 4, 2) := by decide +kernel
theorem dX12_personLine_104 : decode cX12_personLine 104 = .ok (.invokevirtual 141, 3) := by decide +kernel
theorem dX12_personLine_107 : decode cX12_personLine 107 = .ok (.aload_n 0, 1) := by decide +kernel
theorem dX12_personLine_108 : decode cX12_personLine 108 = .ok (.iload 6, 2) := by decide +kernel
theorem dX12_personLine_110 : decode cX12_personLine 110 = .ok (.iconst 3, 1) := by decide +kernel
theorem dX12_personLine_111 : decode cX12_personLine 111 = .ok (.iload 5, 2) := by decide +kernel
theorem dX12_personLine_113 : decode cX12_personLine 113 = .ok (.invokevirtual 141, 3) := by decide +kernel
theorem dX12_personLine_116 : decode cX12_personLine 116 = .ok (.aload_n 0, 1) := by decide +kernel
theorem dX12_personLine_117 : decode cX12_personLine 117 = .ok (.iload 6, 2) := by decide +kernel
theorem dX12_personLine_119 : decode cX12_personLine 119 = .ok (.iconst 4, 1) := by decide +kernel
theorem dX12_personLine_120 : decode cX12_personLine 120 = .ok (.iconst 0, 1) := by decide +kernel
theorem dX12_personLine_121 : decode cX12_personLine 121 = .ok (.invokevirtual 141, 3) := by decide +kernel
theorem dX12_personLine_124 : decode cX12_personLine 124 = .ok (.aload_n 0, 1) := by decide +kernel
theorem dX12_personLine_125 : decode cX12_personLine 125 = .ok (.iload 6, 2) := by decide +kernel
theorem dX12_personLine_127 : decode cX12_personLine 127 = .ok (.iconst 5, 1) := by decide +kernel
theorem dX12_personLine_128 : decode cX12_personLine 128 = .ok (.iconst 0, 1) := by decide +kernel
theorem dX12_personLine_129 : decode cX12_personLine 129 = .ok (.invokevirtual 141, 3) := by decide +kernel
theorem dX12_personLine_132 : decode cX12_personLine 132 = .ok (.aload_n 0, 1) := by decide +kernel
theorem dX12_personLine_133 : decode cX12_personLine 133 = .ok (.iload 6, 2) := by decide +kernel
theorem dX12_personLine_135 : decode cX12_personLine 135 = .ok (.bipush 6, 2) := by decide +kernel
theorem dX12_personLine_137 : decode cX12_personLine 137 = .ok (.iconst (-1), 1) := by decide +kernel
theorem dX12_personLine_138 : decode cX12_personLine 138 = .ok (.invokevirtual 141, 3) := by decide +kernel
theorem dX12_personLine_141 : decode cX12_personLine 141 = .ok (.aload_n 0, 1) := by decide +kernel
theorem dX12_personLine_142 : decode cX12_personLine 142 = .ok (.iload 6, 2) := by decide +kernel
theorem dX12_personLine_144 : decode cX12_personLine 144 = .ok (.bipush 7, 2) := by decide +kernel
theorem dX12_personLine_146 : decode cX12_personLine 146 = .ok (.iconst (-1), 1) := by decide +kernel
theorem dX12_personLine_147 : decode cX12_personLine 147 = .ok (.invokevirtual 141, 3) := by decide +kernel
theorem dX12_personLine_150 : decode cX12_personLine 150 = .ok (.iconst 0, 1) := by decide +kernel
theorem dX12_personLine_151 : decode cX12_personLine 151 = .ok (.istore 7, 2) := by decide +kernel
theorem dX12_personLine_153 : decode cX12_personLine 153 = .ok (.iload 7, 2) := by decide +kernel
theorem dX12_personLine_155 : decode cX12_personLine 155 = .ok (.bipush 10, 2) := by decide +kernel
theorem dX12_personLine_157 : decode cX12_personLine 157 = .ok (.if_icmp .ge 29, 3) := by decide +kernel
theorem dX12_personLine_160 : decode cX12_personLine 160 = .ok (.aload_n 0, 1) := by decide +kernel
theorem dX12_personLine_161 : decode cX12_personLine 161 = .ok (.iload 6, 2) := by decide +kernel
theorem dX12_personLine_163 : decode cX12_personLine 163 = .ok (.iload 7, 2) := by decide +kernel
theorem dX12_personLine_165 : decode cX12_personLine 165 = .ok (.iconst 0, 1) := by decide +kernel
theorem dX12_personLine_166 : decode cX12_personLine 166 = .ok (.iconst (-1), 1) := by decide +kernel
theorem dX12_personLine_167 : decode cX12_personLine 167 = .ok (.invokevirtual 144, 3) := by decide +kernel
theorem dX12_personLine_170 : decode cX12_personLine 170 = .ok (.aload_n 0, 1) := by decide +kernel
theorem dX12_personLine_171 : decode cX12_personLine 171 = .ok (.iload 7, 2) := by decide +kernel
theorem dX12_personLine_173 : decode cX12_personLine 173 = .ok (.iload 6, 2) := by decide +kernel
theorem dX12_personLine_175 : decode cX12_personLine 175 = .ok (.iconst 0, 1) := by decide +kernel
theorem dX12_personLine_176 : decode cX12_personLine 176 = .ok (.iconst (-1), 1) := by decide +kernel
theorem dX12_personLine_177 : decode cX12_personLine 177 = .ok (.invokevirtual 144, 3) := by decide +kernel
theorem dX12_personLine_180 : decode cX12_personLine 180 = .ok (.iinc 7 1, 3) := by decide +kernel
theorem dX12_personLine_183 : decode cX12_personLine 183 = .ok (.goto (-30), 3) := by decide +kernel
theorem dX12_personLine_186 : decode cX12_personLine 186 = .ok (.aload_n 0, 1) := by decide +kernel
theorem dX12_personLine_187 : decode cX12_personLine 187 = .ok (.getfield 7, 3) := by decide +kernel
theorem dX12_personLine_190 : decode cX12_personLine 190 = .ok (.iconst 5, 1) := by decide +kernel
theorem dX12_personLine_191 : decode cX12_personLine 191 = .ok (.dup2, 1) := by decide +kernel
theorem dX12_personLine_192 : decode cX12_personLine 192 = .ok (.iaload, 1) := by decide +kernel
theorem dX12_personLine_193 : decode cX12_personLine 193 = .ok (.iconst 1, 1) := by decide +kernel
theorem dX12_personLine_194 : decode cX12_personLine 194 = .ok (.iadd, 1) := by decide +kernel
theorem dX12_personLine_195 : decode cX12_personLine 195 = .ok (.iastore, 1) := by decide +kernel
theorem dX12_personLine_196 : decode cX12_personLine 196 = .ok (.return_, 1) := by decide +kernel
theorem dX12_meets_0 : decode cX12_meets 0 = .ok (.aload_n 0, 1) := by decide +kernel
theorem dX12_meets_1 : decode cX12_meets 1 = .ok (.getfield 7, 3) := by decide +kernel
theorem dX12_meets_4 : decode cX12_meets 4 = .ok (.sipush 172, 3) := by decide +kernel
theorem dX12_meets_7 : decode cX12_meets 7 = .ok (.bipush 10, 2) := by decide +kernel
theorem dX12_meets_9 : decode cX12_meets 9 = .ok (.iload_n 1, 1) := by decide +kernel
theorem dX12_meets_10 : decode cX12_meets 10 = .ok (.imul, 1) := by decide +kernel
theorem dX12_meets_11 : decode cX12_meets 11 = .ok (.iadd, 1) := by decide +kernel
theorem dX12_meets_12 : decode cX12_meets 12 = .ok (.iload_n 2, 1) := by decide +kernel
theorem dX12_meets_13 : decode cX12_meets 13 = .ok (.iadd, 1) := by decide +kernel
theorem dX12_meets_14 : decode cX12_meets 14 = .ok (.iload_n 3, 1) := by decide +kernel
theorem dX12_meets_15 : decode cX12_meets 15 = .ok (.iastore, 1) := by decide +kernel
theorem dX12_meets_16 : decode cX12_meets 16 = .ok (.aload_n 0, 1) := by decide +kernel
theorem dX12_meets_17 : decode cX12_meets 17 = .ok (.getfield 7, 3) := by decide +kernel
theorem dX12_meets_20 : decode cX12_meets 20 = .ok (.sipush 272, 3) := by decide +kernel
theorem dX12_meets_23 : decode cX12_meets 23 = .ok (.bipush 10, 2) := by decide +kernel
theorem dX12_meets_25 : decode cX12_meets 25 = .ok (.iload_n 1, 1) := by decide +kernel
theorem dX12_meets_26 : decode cX12_meets 26 = .ok (.imul, 1) := by decide +kernel
theorem dX12_meets_27 : decode cX12_meets 27 = .ok (.iadd, 1) := by decide +kernel
theorem dX12_meets_28 : decode cX12_meets 28 = .ok (.iload_n 2, 1) := by decide +kernel
theorem dX12_meets_29 : decode cX12_meets 29 = .ok (.iadd, 1) := by decide +kernel
theorem dX12_meets_30 : decode cX12_meets 30 = .ok (.iload 4, 2) := by decide +kernel
theorem dX12_meets_32 : decode cX12_meets 32 = .ok (.iastore, 1) := by decide +kernel
theorem dX12_meets_33 : decode cX12_meets 33 = .ok (.return_, 1) := by decide +kernel
theorem dX12_tieLine_0 : decode cX12_tieLine 0 = .ok (.aload_n 0, 1) := by decide +kernel
theorem dX12_tieLine_1 : decode cX12_tieLine 1 = .ok (.getfield 7, 3) := by decide +kernel
theorem dX12_tieLine_4 : decode cX12_tieLine 4 = .ok (.bipush 6, 2) := by decide +kernel
theorem dX12_tieLine_6 : decode cX12_tieLine 6 = .ok (.iaload, 1) := by decide +kernel
theorem dX12_tieLine_7 : decode cX12_tieLine 7 = .ok (.bipush 24, 2) := by decide +kernel
theorem dX12_tieLine_9 : decode cX12_tieLine 9 = .ok (.if_icmp .ne 8, 3) := by decide +kernel
theorem dX12_tieLine_12 : decode cX12_tieLine 12 = .ok (.aload_n 0, 1) := by decide +kernel
theorem dX12_tieLine_13 : decode cX12_tieLine 13 = .ok (.iload_n 1, 1) := by decide +kernel
theorem dX12_tieLine_14 : decode cX12_tieLine 14 = .ok (.invokevirtual 105, 3) := by decide +kernel
theorem dX12_tieLine_17 : decode cX12_tieLine 17 = .ok (.aload_n 0, 1) := by decide +kernel
theorem dX12_tieLine_18 : decode cX12_tieLine 18 = .ok (.iconst 0, 1) := by decide +kernel
theorem dX12_tieLine_19 : decode cX12_tieLine 19 = .ok (.aload_n 0, 1) := by decide +kernel
theorem dX12_tieLine_20 : decode cX12_tieLine 20 = .ok (.getfield 7, 3) := by decide +kernel
theorem dX12_tieLine_23 : decode cX12_tieLine 23 = .ok (.iconst 5, 1) := by decide +kernel
theorem dX12_tieLine_24 : decode cX12_tieLine 24 = .ok (.iaload, 1) := by decide +kernel
theorem dX12_tieLine_25 : decode cX12_tieLine 25 = .ok (.iconst 1, 1) := by decide +kernel
theorem dX12_tieLine_26 : decode cX12_tieLine 26 = .ok (.isub, 1) := by decide +kernel
theorem dX12_tieLine_27 : decode cX12_tieLine 27 = .ok (.invokevirtual 124, 3) := by decide +kernel
theorem dX12_tieLine_30 : decode cX12_tieLine 30 = .ok (.istore_n 2, 1) := by decide +kernel
theorem dX12_tieLine_31 : decode cX12_tieLine 31 = .ok (.aload_n 0, 1) := by decide +kernel
theorem dX12_tieLine_32 : decode cX12_tieLine 32 = .ok (.invokevirtual 109, 3) := by decide +kernel
theorem dX12_tieLine_35 : decode cX12_tieLine 35 = .ok (.istore_n 3, 1) := by decide +kernel
theorem dX12_tieLine_36 : decode cX12_tieLine 36 = .ok (.aload_n 0, 1) := by decide +kernel
theorem dX12_tieLine_37 : decode cX12_tieLine 37 = .ok (.iconst 0, 1) := by decide +kernel
theorem dX12_tieLine_38 : decode cX12_tieLine 38 = .ok (.aload_n 0, 1) := by decide +kernel
theorem dX12_tieLine_39 : decode cX12_tieLine 39 = .ok (.getfield 7, 3) := by decide +kernel
theorem dX12_tieLine_42 : decode cX12_tieLine 42 = .ok (.iconst 5, 1) := by decide +kernel
theorem dX12_tieLine_43 : decode cX12_tieLine 43 = .ok (.iaload, 1) := by decide +kernel
theorem dX12_tieLine_44 : decode cX12_tieLine 44 = .ok (.iconst 1, 1) := by decide +kernel
theorem dX12_tieLine_45 : decode cX12_tieLine 45 = .ok (.isub, 1) := by decide +kernel
theorem dX12_tieLine_46 : decode cX12_tieLine 46 = .ok (.invokevirtual 124, 3) := by decide +kernel
theorem dX12_tieLine_49 : decode cX12_tieLine 49 = .ok (.istore 4, 2) := by decide +kernel
theorem dX12_tieLine_51 : decode cX12_tieLine 51 = .ok (.aload_n 0, 1) := by decide +kernel
theorem dX12_tieLine_52 : decode cX12_tieLine 52 = .ok (.getfield 25, 3) := by decide +kernel
theorem dX12_tieLine_55 : decode cX12_tieLine 55 = .ok (.iconst (-1), 1) := by decide +kernel
theorem dX12_tieLine_56 : decode cX12_tieLine 56 = .ok (.if_icmp .ne 24, 3) := by decide +kernel
theorem dX12_tieLine_59 : decode cX12_tieLine 59 = .ok (.iload_n 2, 1) := by decide +kernel
theorem dX12_tieLine_60 : decode cX12_tieLine 60 = .ok (.iload 4, 2) := by decide +kernel
theorem dX12_tieLine_62 : decode cX12_tieLine 62 = .ok (.if_icmp .eq 13, 3) := by decide +kernel
theorem dX12_tieLine_65 : decode cX12_tieLine 65 = .ok (.aload_n 0, 1) := by decide +kernel
theorem dX12_tieLine_66 : decode cX12_tieLine 66 = .ok (.iload_n 2, 1) := by decide +kernel
theorem dX12_tieLine_67 : decode cX12_tieLine 67 = .ok (.iload 4, 2) := by decide +kernel
theorem dX12_tieLine_69 : decode cX12_tieLine 69 = .ok (.invokevirtual 148, 3) := by decide +kernel
theorem dX12_tieLine_72 : decode cX12_tieLine 72 = .ok (.ifCond .eq 8, 3) := by decide +kernel
theorem dX12_tieLine_75 : decode cX12_tieLine 75 = .ok (.aload_n 0, 1) := by decide +kernel
theorem dX12_tieLine_76 : decode cX12_tieLine 76 = .ok (.iload_n 3, 1) := by decide +kernel
theorem dX12_tieLine_77 : decode cX12_tieLine 77 = .ok (.invokevirtual 105, 3) := by decide +kernel
theorem dX12_tieLine_80 : decode cX12_tieLine 80 = .ok (.aload_n 0, 1) := by decide +kernel
theorem dX12_tieLine_81 : decode cX12_tieLine 81 = .ok (.getfield 25, 3) := by decide +kernel
theorem dX12_tieLine_84 : decode cX12_tieLine 84 = .ok (.iconst (-1), 1) := by decide +kernel
theorem dX12_tieLine_85 : decode cX12_tieLine 85 = .ok (.if_icmp .ne 10, 3) := by decide +kernel
theorem dX12_tieLine_88 : decode cX12_tieLine 88 = .ok (.aload_n 0, 1) := by decide +kernel
theorem dX12_tieLine_89 : decode cX12_tieLine 89 = .ok (.iload_n 2, 1) := by decide +kernel
theorem dX12_tieLine_90 : decode cX12_tieLine 90 = .ok (.iload 4, 2) := by decide +kernel
theorem dX12_tieLine_92 : decode cX12_tieLine 92 = .ok (.invokevirtual 152, 3) := by decide +kernel
theorem dX12_tieLine_95 : decode cX12_tieLine 95 = .ok (.return_, 1) := by decide +kernel
theorem dX12_binds_0 : decode cX12_binds 0 = .ok (.aload_n 0, 1) := by decide +kernel
theorem dX12_binds_1 : decode cX12_binds 1 = .ok (.getfield 7, 3) := by decide +kernel
theorem dX12_binds_4 : decode cX12_binds 4 = .ok (.sipush 372, 3) := by decide +kernel
theorem dX12_binds_7 : decode cX12_binds 7 = .ok (.iconst 2, 1) := by decide +kernel
theorem dX12_binds_8 : decode cX12_binds 8 = .ok (.aload_n 0, 1) := by decide +kernel
theorem dX12_binds_9 : decode cX12_binds 9 = .ok (.getfield 7, 3) := by decide +kernel
theorem dX12_binds_12 : decode cX12_binds 12 = .ok (.bipush 6, 2) := by decide +kernel
theorem dX12_binds_14 : decode cX12_binds 14 = .ok (.iaload, 1) := by decide +kernel
theorem dX12_binds_15 : decode cX12_binds 15 = .ok (.imul, 1) := by decide +kernel
theorem dX12_binds_16 : decode cX12_binds 16 = .ok (.iadd, 1) := by decide +kernel
theorem dX12_binds_17 : decode cX12_binds 17 = .ok (.iload_n 1, 1) := by decide +kernel
theorem dX12_binds_18 : decode cX12_binds 18 = .ok (.iastore, 1) := by decide +kernel
theorem dX12_binds_19 : decode cX12_binds 19 = .ok (.aload_n 0, 1) := by decide +kernel
theorem dX12_binds_20 : decode cX12_binds 20 = .ok (.getfield 7, 3) := by decide +kernel
theorem dX12_binds_23 : decode cX12_binds 23 = .ok (.sipush 372, 3) := by decide +kernel
theorem dX12_binds_26 : decode cX12_binds 26 = .ok (.iconst 2, 1) := by decide +kernel
theorem dX12_binds_27 : decode cX12_binds 27 = .ok (.aload_n 0, 1) := by decide +kernel
theorem dX12_binds_28 : decode cX12_binds 28 = .ok (.getfield 7, 3) := by decide +kernel
theorem dX12_binds_31 : decode cX12_binds 31 = .ok (.bipush 6, 2) := by decide +kernel
theorem dX12_binds_33 : decode cX12_binds 33 = .ok (.iaload, 1) := by decide +kernel
theorem dX12_binds_34 : decode cX12_binds 34 = .ok (.imul, 1) := by decide +kernel
theorem dX12_binds_35 : decode cX12_binds 35 = .ok (.iadd, 1) := by decide +kernel
theorem dX12_binds_36 : decode cX12_binds 36 = .ok (.iconst 1, 1) := by decide +kernel
theorem dX12_binds_37 : decode cX12_binds 37 = .ok (.iadd, 1) := by decide +kernel
theorem dX12_binds_38 : decode cX12_binds 38 = .ok (.iload_n 2, 1) := by decide +kernel
theorem dX12_binds_39 : decode cX12_binds 39 = .ok (.iastore, 1) := by decide +kernel
theorem dX12_binds_40 : decode cX12_binds 40 = .ok (.aload_n 0, 1) := by decide +kernel
theorem dX12_binds_41 : decode cX12_binds 41 = .ok (.getfield 7, 3) := by decide +kernel
theorem dX12_binds_44 : decode cX12_binds 44 = .ok (.bipush 6, 2) := by decide +kernel
theorem dX12_binds_46 : decode cX12_binds 46 = .ok (.dup2, 1) := by decide +kernel
theorem dX12_binds_47 : decode cX12_binds 47 = .ok (.iaload, 1) := by decide +kernel
theorem dX12_binds_48 : decode cX12_binds 48 = .ok (.iconst 1, 1) := by decide +kernel
theorem dX12_binds_49 : decode cX12_binds 49 = .ok (.iadd, 1) := by decide +kernel
theorem dX12_binds_50 : decode cX12_binds 50 = .ok (.iastore, 1) := by decide +kernel
theorem dX12_binds_51 : decode cX12_binds 51 = .ok (.return_, 1) := by decide +kernel
theorem dX12_tells_0 : decode cX12_tells 0 = .ok (.aload_n 0, 1) := by decide +kernel
theorem dX12_tells_1 : decode cX12_tells 1 = .ok (.iconst 0, 1) := by decide +kernel
theorem dX12_tells_2 : decode cX12_tells 2 = .ok (.bipush 99, 2) := by decide +kernel
theorem dX12_tells_4 : decode cX12_tells 4 = .ok (.invokevirtual 124, 3) := by decide +kernel
theorem dX12_tells_7 : decode cX12_tells 7 = .ok (.istore_n 2, 1) := by decide +kernel
theorem dX12_tells_8 : decode cX12_tells 8 = .ok (.aload_n 0, 1) := by decide +kernel
theorem dX12_tells_9 : decode cX12_tells 9 = .ok (.getfield 25, 3) := by decide +kernel
theorem dX12_tells_12 : decode cX12_tells 12 = .ok (.iconst (-1), 1) := by decide +kernel
theorem dX12_tells_13 : decode cX12_tells 13 = .ok (.if_icmp .ne 10, 3) := by decide +kernel
theorem dX12_tells_16 : decode cX12_tells 16 = .ok (.aload_n 0, 1) := by decide +kernel
theorem dX12_tells_17 : decode cX12_tells 17 = .ok (.getfield 7, 3) := by decide +kernel
theorem dX12_tells_20 : decode cX12_tells 20 = .ok (.iload_n 1, 1) := by decide +kernel
theorem dX12_tells_21 : decode cX12_tells 21 = .ok (.iload_n 2, 1) := by decide +kernel
theorem dX12_tells_22 : decode cX12_tells 22 = .ok (.iastore, 1) := by decide +kernel
theorem dX12_tells_23 : decode cX12_tells 23 = .ok (.return_, 1) := by decide +kernel
theorem dX12_townLine_0 : decode cX12_townLine 0 = .ok (.aload_n 0, 1) := by decide +kernel
theorem dX12_townLine_1 : decode cX12_townLine 1 = .ok (.invokevirtual 109, 3) := by decide +kernel
theorem dX12_townLine_4 : decode cX12_townLine 4 = .ok (.istore_n 1, 1) := by decide +kernel
theorem dX12_townLine_5 : decode cX12_townLine 5 = .ok (.aload_n 0, 1) := by decide +kernel
theorem dX12_townLine_6 : decode cX12_townLine 6 = .ok (.ldc 156, 2) := by decide +kernel
theorem dX12_townLine_8 : decode cX12_townLine 8 = .ok (.invokevirtual 101, 3) := by decide +kernel
theorem dX12_townLine_11 : decode cX12_townLine 11 = .ok (.ifCond .eq 40, 3) := by decide +kernel
theorem dX12_townLine_14 : decode cX12_townLine 14 = .ok (.aload_n 0, 1) := by decide +kernel
theorem dX12_townLine_15 : decode cX12_townLine 15 = .ok (.getfield 7, 3) := by decide +kernel
theorem dX12_townLine_18 : decode cX12_townLine 18 = .ok (.iconst 3, 1) := by decide +kernel
theorem dX12_townLine_19 : decode cX12_townLine 19 = .ok (.iaload, 1) := by decide +kernel
theorem dX12_townLine_20 : decode cX12_townLine 20 = .ok (.bipush 6, 2) := by decide +kernel
theorem dX12_townLine_22 : decode cX12_townLine 22 = .ok (.if_icmp .ne 8, 3) := by decide +kernel
theorem dX12_townLine_25 : decode cX12_townLine 25 = .ok (.aload_n 0, 1) := by decide +kernel
theorem dX12_townLine_26 : decode cX12_townLine 26 = .ok (.iload_n 1, 1) := by decide +kernel
theorem dX12_townLine_27 : decode cX12_townLine 27 = .ok (.invokevirtual 105, 3) := by decide +kernel
theorem dX12_townLine_30 : decode cX12_townLine 30 = .ok (.aload_n 0, 1) := by decide +kernel
theorem dX12_townLine_31 : decode cX12_townLine 31 = .ok (.getfield 25, 3) := by decide +kernel
theorem dX12_townLine_34 : decode cX12_townLine 34 = .ok (.iconst (-1), 1) := by decide +kernel
theorem dX12_townLine_35 : decode cX12_townLine 35 = .ok (.if_icmp .ne 170, 3) := by decide +kernel
theorem dX12_townLine_38 : decode cX12_townLine 38 = .ok (.aload_n 0, 1) := by decide +kernel
theorem dX12_townLine_39 : decode cX12_townLine 39 = .ok (.getfield 7, 3) := by decide +kernel
theorem dX12_townLine_42 : decode cX12_townLine 42 = .ok (.iconst 3, 1) := by decide +kernel
theorem dX12_townLine_43 : decode cX12_townLine 43 = .ok (.dup2, 1) := by decide +kernel
theorem dX12_townLine_44 : decode cX12_townLine 44 = .ok (.iaload, 1) := by decide +kernel
theorem dX12_townLine_45 : decode cX12_townLine 45 = .ok (.iconst 1, 1) := by decide +kernel
theorem dX12_townLine_46 : decode cX12_townLine 46 = .ok (.iadd, 1) := by decide +kernel
theorem dX12_townLine_47 : decode cX12_townLine 47 = .ok (.iastore, 1) := by decide +kernel
theorem dX12_townLine_48 : decode cX12_townLine 48 = .ok (.goto 157, 3) := by decide +kernel
theorem dX12_townLine_51 : decode cX12_townLine 51 = .ok (.aload_n 0, 1) := by decide +kernel
theorem dX12_townLine_52 : decode cX12_townLine 52 = .ok (.ldc 158, 2) := by decide +kernel
theorem dX12_townLine_54 : decode cX12_townLine 54 = .ok (.invokevirtual 101, 3) := by decide +kernel
theorem dX12_townLine_57 : decode cX12_townLine 57 = .ok (.ifCond .eq 11, 3) := by decide +kernel
theorem dX12_townLine_60 : decode cX12_townLine 60 = .ok (.aload_n 0, 1) := by decide +kernel
theorem dX12_townLine_61 : decode cX12_townLine 61 = .ok (.iload_n 1, 1) := by decide +kernel
theorem dX12_townLine_62 : decode cX12_townLine 62 = .ok (.invokevirtual 160, 3) := by decide +kernel
theorem dX12_townLine_65 : decode cX12_townLine 65 = .ok (.goto 140, 3) := by decide +kernel
theorem dX12_townLine_68 : decode cX12_townLine 68 = .ok (.aload_n 0, 1) := by decide +kernel
theorem dX12_townLine_69 : decode cX12_townLine 69 = .ok (.ldc 163, 2) := by decide +kernel
theorem dX12_townLine_71 : decode cX12_townLine 71 = .ok (.invokevirtual 101, 3) := by decide +kernel
theorem dX12_townLine_74 : decode cX12_townLine 74 = .ok (.ifCond .eq 11, 3) := by decide +kernel
theorem dX12_townLine_77 : decode cX12_townLine 77 = .ok (.aload_n 0, 1) := by decide +kernel
theorem dX12_townLine_78 : decode cX12_townLine 78 = .ok (.iload_n 1, 1) := by decide +kernel
theorem dX12_townLine_79 : decode cX12_townLine 79 = .ok (.invokevirtual 165, 3) := by decide +kernel
theorem dX12_townLine_82 : decode cX12_townLine 82 = .ok (.goto 123, 3) := by decide +kernel
theorem dX12_townLine_85 : decode cX12_townLine 85 = .ok (.aload_n 0, 1) := by decide +kernel
theorem dX12_townLine_86 : decode cX12_townLine 86 = .ok (.ldc 168, 2) := by decide +kernel
theorem dX12_townLine_88 : decode cX12_townLine 88 = .ok (.invokevirtual 101, 3) := by decide +kernel
theorem dX12_townLine_91 : decode cX12_townLine 91 = .ok (.ifCond .eq 35, 3) := by decide +kernel
theorem dX12_townLine_94 : decode cX12_townLine 94 = .ok (.aload_n 0, 1) := by decide +kernel
theorem dX12_townLine_95 : decode cX12_townLine 95 = .ok (.iconst 0, 1) := by decide +kernel
theorem dX12_townLine_96 : decode cX12_townLine 96 = .ok (.aload_n 0, 1) := by decide +kernel
theorem dX12_townLine_97 : decode cX12_townLine 97 = .ok (.getfield 7, 3) := by decide +kernel
theorem dX12_townLine_100 : decode cX12_townLine 100 = .ok (.iconst 5, 1) := by decide +kernel
theorem dX12_townLine_101 : decode cX12_townLine 101 = .ok (.iaload, 1) := by decide +kernel
theorem dX12_townLine_102 : decode cX12_townLine 102 = .ok (.iconst 1, 1) := by decide +kernel
theorem dX12_townLine_103 : decode cX12_townLine 103 = .ok (.isub, 1) := by decide +kernel
theorem dX12_townLine_104 : decode cX12_townLine 104 = .ok (.invokevirtual 124, 3) := by decide +kernel
theorem dX12_townLine_107 : decode cX12_townLine 107 = .ok (.istore_n 2, 1) := by decide +kernel
theorem dX12_townLine_108 : decode cX12_townLine 108 = .ok (.aload_n 0, 1) := by decide +kernel
theorem dX12_townLine_109 : decode cX12_townLine 109 = .ok (.getfield 25, 3) := by decide +kernel
theorem dX12_townLine_112 : decode cX12_townLine 112 = .ok (.iconst (-1), 1) := by decide +kernel
theorem dX12_townLine_113 : decode cX12_townLine 113 = .ok (.if_icmp .ne 10, 3) := by decide +kernel
theorem dX12_townLine_116 : decode cX12_townLine 116 = .ok (.aload_n 0, 1) := by decide +kernel
theorem dX12_townLine_117 : decode cX12_townLine 117 = .ok (.iload_n 2, 1) := by decide +kernel
theorem dX12_townLine_118 : decode cX12_townLine 118 = .ok (.iconst 4, 1) := by decide +kernel
theorem dX12_townLine_119 : decode cX12_townLine 119 = .ok (.iconst 1, 1) := by decide +kernel
theorem dX12_townLine_120 : decode cX12_townLine 120 = .ok (.invokevirtual 141, 3) := by decide +kernel
theorem dX12_townLine_123 : decode cX12_townLine 123 = .ok (.goto 82, 3) := by decide +kernel
theorem dX12_townLine_126 : decode cX12_townLine 126 = .ok (.aload_n 0, 1) := by decide +kernel
theorem dX12_townLine_127 : decode cX12_townLine 127 = .ok (.ldc 170, 2) := by decide +kernel
theorem dX12_townLine_129 : decode cX12_townLine 129 = .ok (.invokevirtual 101, 3) := by decide +kernel
theorem dX12_townLine_132 : decode cX12_townLine 132 = .ok (.ifCond .eq 11, 3) := by decide +kernel
theorem dX12_townLine_135 : decode cX12_townLine 135 = .ok (.aload_n 0, 1) := by decide +kernel
theorem dX12_townLine_136 : decode cX12_townLine 136 = .ok (.iload_n 1, 1) := by decide +kernel
theorem dX12_townLine_137 : decode cX12_townLine 137 = .ok (.invokevirtual 172, 3) := by decide +kernel
theorem dX12_townLine_140 : decode cX12_townLine 140 = .ok (.goto 65, 3) := by decide +kernel
theorem dX12_townLine_143 : decode cX12_townLine 143 = .ok (.aload_n 0, 1) := by decide +kernel
theorem dX12_townLine_144 : decode cX12_townLine 144 = .ok (.ldc 175, 2) := by decide +kernel
theorem dX12_townLine_146 : decode cX12_townLine 146 = .ok (.invokevirtual 101, 3) := by decide +kernel
theorem dX12_townLine_149 : decode cX12_townLine 149 = .ok (.ifCond .eq 12, 3) := by decide +kernel
theorem dX12_townLine_152 : decode cX12_townLine 152 = .ok (.aload_n 0, 1) := by decide +kernel
theorem dX12_townLine_153 : decode cX12_townLine 153 = .ok (.bipush 13, 2) := by decide +kernel
theorem dX12_townLine_155 : decode cX12_townLine 155 = .ok (.invokevirtual 177, 3) := by decide +kernel
theorem dX12_townLine_158 : decode cX12_townLine 158 = .ok (.goto 47, 3) := by decide +kernel
theorem dX12_townLine_161 : decode cX12_townLine 161 = .ok (.aload_n 0, 1) := by decide +kernel
theorem dX12_townLine_162 : decode cX12_townLine 162 = .ok (.ldc 180, 2) := by decide +kernel
theorem dX12_townLine_164 : decode cX12_townLine 164 = .ok (.invokevirtual 101, 3) := by decide +kernel
theorem dX12_townLine_167 : decode cX12_townLine 167 = .ok (.ifCond .eq 12, 3) := by decide +kernel
theorem dX12_townLine_170 : decode cX12_townLine 170 = .ok (.aload_n 0, 1) := by decide +kernel
theorem dX12_townLine_171 : decode cX12_townLine 171 = .ok (.bipush 14, 2) := by decide +kernel
theorem dX12_townLine_173 : decode cX12_townLine 173 = .ok (.invokevirtual 177, 3) := by decide +kernel
theorem dX12_townLine_176 : decode cX12_townLine 176 = .ok (.goto 29, 3) := by decide +kernel
theorem dX12_townLine_179 : decode cX12_townLine 179 = .ok (.aload_n 0, 1) := by decide +kernel
theorem dX12_townLine_180 : decode cX12_townLine 180 = .ok (.ldc 182, 2) := by decide +kernel
theorem dX12_townLine_182 : decode cX12_townLine 182 = .ok (.invokevirtual 101, 3) := by decide +kernel
theorem dX12_townLine_185 : decode cX12_townLine 185 = .ok (.ifCond .eq 12, 3) := by decide +kernel
theorem dX12_townLine_188 : decode cX12_townLine 188 = .ok (.aload_n 0, 1) := by decide +kernel
theorem dX12_townLine_189 : decode cX12_townLine 189 = .ok (.bipush 15, 2) := by decide +kernel
theorem dX12_townLine_191 : decode cX12_townLine 191 = .ok (.invokevirtual 177, 3) := by decide +kernel
theorem dX12_townLine_194 : decode cX12_townLine 194 = .ok (.goto 11, 3) := by decide +kernel
theorem dX12_townLine_197 : decode cX12_townLine 197 = .ok (.aload_n 0, 1) := by decide +kernel
theorem dX12_townLine_198 : decode cX12_townLine 198 = .ok (.aload_n 0, 1) := by decide +kernel
theorem dX12_townLine_199 : decode cX12_townLine 199 = .ok (.getfield 79, 3) := by decide +kernel
theorem dX12_townLine_202 : decode cX12_townLine 202 = .ok (.invokevirtual 105, 3) := by decide +kernel
theorem dX12_townLine_205 : decode cX12_townLine 205 = .ok (.return_, 1) := by decide +kernel
theorem dX12_begins_0 : decode cX12_begins 0 = .ok (.aload_n 0, 1) := by decide +kernel
theorem dX12_begins_1 : decode cX12_begins 1 = .ok (.iconst (-1), 1) := by decide +kernel
theorem dX12_begins_2 : decode cX12_begins 2 = .ok (.putfield 25, 3) := by decide +kernel
theorem dX12_begins_5 : decode cX12_begins 5 = .ok (.aload_n 0, 1) := by decide +kernel
theorem dX12_begins_6 : decode cX12_begins 6 = .ok (.iconst (-1), 1) := by decide +kernel
theorem dX12_begins_7 : decode cX12_begins 7 = .ok (.putfield 76, 3) := by decide +kernel
theorem dX12_begins_10 : decode cX12_begins 10 = .ok (.aload_n 0, 1) := by decide +kernel
theorem dX12_begins_11 : decode cX12_begins 11 = .ok (.aload_n 0, 1) := by decide +kernel
theorem dX12_begins_12 : decode cX12_begins 12 = .ok (.getfield 73, 3) := by decide +kernel
theorem dX12_begins_15 : decode cX12_begins 15 = .ok (.putfield 82, 3) := by decide +kernel
theorem dX12_begins_18 : decode cX12_begins 18 = .ok (.aload_n 0, 1) := by decide +kernel
theorem dX12_begins_19 : decode cX12_begins 19 = .ok (.iconst 0, 1) := by decide +kernel
theorem dX12_begins_20 : decode cX12_begins 20 = .ok (.putfield 73, 3) := by decide +kernel
theorem dX12_begins_23 : decode cX12_begins 23 = .ok (.aload_n 0, 1) := by decide +kernel
theorem dX12_begins_24 : decode cX12_begins 24 = .ok (.iconst 0, 1) := by decide +kernel
theorem dX12_begins_25 : decode cX12_begins 25 = .ok (.putfield 79, 3) := by decide +kernel
theorem dX12_begins_28 : decode cX12_begins 28 = .ok (.aload_n 0, 1) := by decide +kernel
theorem dX12_begins_29 : decode cX12_begins 29 = .ok (.iconst 0, 1) := by decide +kernel
theorem dX12_begins_30 : decode cX12_begins 30 = .ok (.putfield 184, 3) := by decide +kernel
theorem dX12_begins_33 : decode cX12_begins 33 = .ok (.return_, 1) := by decide +kernel
theorem dX12_read_0 : decode cX12_read 0 = .ok (.aload_n 0, 1) := by decide +kernel
theorem dX12_read_1 : decode cX12_read 1 = .ok (.invokevirtual 88, 3) := by decide +kernel
theorem dX12_read_4 : decode cX12_read 4 = .ok (.aload_n 0, 1) := by decide +kernel
theorem dX12_read_5 : decode cX12_read 5 = .ok (.getfield 79, 3) := by decide +kernel
theorem dX12_read_8 : decode cX12_read 8 = .ok (.aload_n 0, 1) := by decide +kernel
theorem dX12_read_9 : decode cX12_read 9 = .ok (.getfield 82, 3) := by decide +kernel
theorem dX12_read_12 : decode cX12_read 12 = .ok (.if_icmp .ge 7, 3) := by decide +kernel
theorem dX12_read_15 : decode cX12_read 15 = .ok (.iconst 1, 1) := by decide +kernel
theorem dX12_read_16 : decode cX12_read 16 = .ok (.goto 4, 3) := by decide +kernel
theorem dX12_read_19 : decode cX12_read 19 = .ok (.iconst 0, 1) := by decide +kernel
theorem dX12_read_20 : decode cX12_read 20 = .ok (.istore_n 2, 1) := by decide +kernel
theorem dX12_read_21 : decode cX12_read 21 = .ok (.iconst 0, 1) := by decide +kernel
theorem dX12_read_22 : decode cX12_read 22 = .ok (.istore_n 3, 1) := by decide +kernel
theorem dX12_read_23 : decode cX12_read 23 = .ok (.iload_n 2, 1) := by decide +kernel
theorem dX12_read_24 : decode cX12_read 24 = .ok (.ifCond .eq 120, 3) := by decide +kernel
theorem dX12_read_27 : decode cX12_read 27 = .ok (.aload_n 0, 1) := by decide +kernel
theorem dX12_read_28 : decode cX12_read 28 = .ok (.getfield 25, 3) := by decide +kernel
theorem dX12_read_31 : decode cX12_read 31 = .ok (.iconst (-1), 1) := by decide +kernel
theorem dX12_read_32 : decode cX12_read 32 = .ok (.if_icmp .ne 112, 3) := by decide +kernel
theorem dX12_read_35 : decode cX12_read 35 = .ok (.aload_n 0, 1) := by decide +kernel
theorem dX12_read_36 : decode cX12_read 36 = .ok (.invokevirtual 88, 3) := by decide +kernel
theorem dX12_read_39 : decode cX12_read 39 = .ok (.iload_n 3, 1) := by decide +kernel
theorem dX12_read_40 : decode cX12_read 40 = .ok (.iload_n 1, 1) := by decide +kernel
theorem dX12_read_41 : decode cX12_read 41 = .ok (.ifCond .eq 8, 3) := by decide +kernel
theorem dX12_read_44 : decode cX12_read 44 = .ok (.bipush 12, 2) := by decide +kernel
theorem dX12_read_46 : decode cX12_read 46 = .ok (.goto 5, 3) := by decide +kernel
theorem dX12_read_49 : decode cX12_read 49 = .ok (.bipush 14, 2) := by decide +kernel
theorem dX12_read_51 : decode cX12_read 51 = .ok (.if_icmp .ne 14, 3) := by decide +kernel
theorem dX12_read_54 : decode cX12_read 54 = .ok (.aload_n 0, 1) := by decide +kernel
theorem dX12_read_55 : decode cX12_read 55 = .ok (.aload_n 0, 1) := by decide +kernel
theorem dX12_read_56 : decode cX12_read 56 = .ok (.getfield 79, 3) := by decide +kernel
theorem dX12_read_59 : decode cX12_read 59 = .ok (.invokevirtual 105, 3) := by decide +kernel
theorem dX12_read_62 : decode cX12_read 62 = .ok (.goto 18, 3) := by decide +kernel
theorem dX12_read_65 : decode cX12_read 65 = .ok (.iload_n 1, 1) := by decide +kernel
theorem dX12_read_66 : decode cX12_read 66 = .ok (.ifCond .eq 10, 3) := by decide +kernel
theorem dX12_read_69 : decode cX12_read 69 = .ok (.aload_n 0, 1) := by decide +kernel
theorem dX12_read_70 : decode cX12_read 70 = .ok (.invokevirtual 187, 3) := by decide +kernel
theorem dX12_read_73 : decode cX12_read 73 = .ok (.goto 7, 3) := by decide +kernel
theorem dX12_read_76 : decode cX12_read 76 = .ok (.aload_n 0, 1) := by decide +kernel
theorem dX12_read_77 : decode cX12_read 77 = .ok (.invokevirtual 190, 3) := by decide +kernel
theorem dX12_read_80 : decode cX12_read 80 = .ok (.iinc 3 1, 3) := by decide +kernel
theorem dX12_read_83 : decode cX12_read 83 = .ok (.aload_n 0, 1) := by decide +kernel
theorem dX12_read_84 : decode cX12_read 84 = .ok (.invokevirtual 88, 3) := by decide +kernel
theorem dX12_read_87 : decode cX12_read 87 = .ok (.aload_n 0, 1) := by decide +kernel
theorem dX12_read_88 : decode cX12_read 88 = .ok (.getfield 25, 3) := by decide +kernel
theorem dX12_read_91 : decode cX12_read 91 = .ok (.iconst (-1), 1) := by decide +kernel
theorem dX12_read_92 : decode cX12_read 92 = .ok (.if_icmp .ne 14, 3) := by decide +kernel
theorem dX12_read_95 : decode cX12_read 95 = .ok (.aload_n 0, 1) := by decide +kernel
theorem dX12_read_96 : decode cX12_read 96 = .ok (.getfield 79, 3) := by decide +kernel
theorem dX12_read_99 : decode cX12_read 99 = .ok (.aload_n 0, 1) := by decide +kernel
theorem dX12_read_100 : decode cX12_read 100 = .ok (.getfield 82, 3) := by decide +kernel
theorem dX12_read_103 : decode cX12_read 103 = .ok (.if_icmp .ne 8, 3) := by decide +kernel
theorem dX12_read_106 : decode cX12_read 106 = .ok (.iconst 0, 1) := by decide +kernel
theorem dX12_read_107 : decode cX12_read 107 = .ok (.istore_n 2, 1) := by decide +kernel
theorem dX12_read_108 : decode cX12_read 108 = .ok (.goto (-85), 3) := by decide +kernel
theorem dX12_read_111 : decode cX12_read 111 = .ok (.aload_n 0, 1) := by decide +kernel
theorem dX12_read_112 : decode cX12_read 112 = .ok (.bipush 59, 2) := by decide +kernel
theorem dX12_read_114 : decode cX12_read 114 = .ok (.invokevirtual 193, 3) := by decide +kernel
theorem dX12_read_117 : decode cX12_read 117 = .ok (.ifCond .eq 16, 3) := by decide +kernel
theorem dX12_read_120 : decode cX12_read 120 = .ok (.aload_n 0, 1) := by decide +kernel
theorem dX12_read_121 : decode cX12_read 121 = .ok (.dup, 1) := by decide +kernel
theorem dX12_read_122 : decode cX12_read 122 = .ok (.getfield 79, 3) := by decide +kernel
theorem dX12_read_125 : decode cX12_read 125 = .ok (.iconst 1, 1) := by decide +kernel
theorem dX12_read_126 : decode cX12_read 126 = .ok (.iadd, 1) := by decide +kernel
theorem dX12_read_127 : decode cX12_read 127 = .ok (.putfield 79, 3) := by decide +kernel
theorem dX12_read_130 : decode cX12_read 130 = .ok (.goto (-107), 3) := by decide +kernel
theorem dX12_read_133 : decode cX12_read 133 = .ok (.aload_n 0, 1) := by decide +kernel
theorem dX12_read_134 : decode cX12_read 134 = .ok (.aload_n 0, 1) := by decide +kernel
theorem dX12_read_135 : decode cX12_read 135 = .ok (.getfield 79, 3) := by decide +kernel
theorem dX12_read_138 : decode cX12_read 138 = .ok (.invokevirtual 105, 3) := by decide +kernel
theorem dX12_read_141 : decode cX12_read 141 = .ok (.goto (-118), 3) := by decide +kernel
theorem dX12_read_144 : decode cX12_read 144 = .ok (.iload_n 3, 1) := by decide +kernel
theorem dX12_read_145 : decode cX12_read 145 = .ok (.ireturn, 1) := by decide +kernel
theorem dX12_town_0 : decode cX12_town 0 = .ok (.iconst 0, 1) := by decide +kernel
theorem dX12_town_1 : decode cX12_town 1 = .ok (.istore_n 1, 1) := by decide +kernel
theorem dX12_town_2 : decode cX12_town 2 = .ok (.iload_n 1, 1) := by decide +kernel
theorem dX12_town_3 : decode cX12_town 3 = .ok (.sipush 900, 3) := by decide +kernel
theorem dX12_town_6 : decode cX12_town 6 = .ok (.if_icmp .ge 21, 3) := by decide +kernel
theorem dX12_town_9 : decode cX12_town 9 = .ok (.aload_n 0, 1) := by decide +kernel
theorem dX12_town_10 : decode cX12_town 10 = .ok (.getfield 16, 3) := by decide +kernel
theorem dX12_town_13 : decode cX12_town 13 = .ok (.iload_n 1, 1) := by decide +kernel
theorem dX12_town_14 : decode cX12_town 14 = .ok (.aload_n 0, 1) := by decide +kernel
theorem dX12_town_15 : decode cX12_town 15 = .ok (.getfield 7, 3) := by decide +kernel
theorem dX12_town_18 : decode cX12_town 18 = .ok (.iload_n 1, 1) := by decide +kernel
theorem dX12_town_19 : decode cX12_town 19 = .ok (.iaload, 1) := by decide +kernel
theorem dX12_town_20 : decode cX12_town 20 = .ok (.iastore, 1) := by decide +kernel
theorem dX12_town_21 : decode cX12_town 21 = .ok (.iinc 1 1, 3) := by decide +kernel
theorem dX12_town_24 : decode cX12_town 24 = .ok (.goto (-22), 3) := by decide +kernel
theorem dX12_town_27 : decode cX12_town 27 = .ok (.aload_n 0, 1) := by decide +kernel
theorem dX12_town_28 : decode cX12_town 28 = .ok (.invokevirtual 197, 3) := by decide +kernel
theorem dX12_town_31 : decode cX12_town 31 = .ok (.aload_n 0, 1) := by decide +kernel
theorem dX12_town_32 : decode cX12_town 32 = .ok (.iconst 0, 1) := by decide +kernel
theorem dX12_town_33 : decode cX12_town 33 = .ok (.invokevirtual 200, 3) := by decide +kernel
theorem dX12_town_36 : decode cX12_town 36 = .ok (.istore_n 1, 1) := by decide +kernel
theorem dX12_town_37 : decode cX12_town 37 = .ok (.aload_n 0, 1) := by decide +kernel
theorem dX12_town_38 : decode cX12_town 38 = .ok (.aload_n 0, 1) := by decide +kernel
theorem dX12_town_39 : decode cX12_town 39 = .ok (.getfield 25, 3) := by decide +kernel
theorem dX12_town_42 : decode cX12_town 42 = .ok (.iconst (-1), 1) := by decide +kernel
theorem dX12_town_43 : decode cX12_town 43 = .ok (.if_icmp .eq 7, 3) := by decide +kernel
theorem dX12_town_46 : decode cX12_town 46 = .ok (.iconst 1, 1) := by decide +kernel
theorem dX12_town_47 : decode cX12_town 47 = .ok (.goto 19, 3) := by decide +kernel
theorem dX12_town_50 : decode cX12_town 50 = .ok (.aload_n 0, 1) := by decide +kernel
theorem dX12_town_51 : decode cX12_town 51 = .ok (.getfield 7, 3) := by decide +kernel
theorem dX12_town_54 : decode cX12_town 54 = .ok (.iconst 0, 1) := by decide +kernel
theorem dX12_town_55 : decode cX12_town 55 = .ok (.iaload, 1) := by decide +kernel
theorem dX12_town_56 : decode cX12_town 56 = .ok (.bipush 12, 2) := by decide +kernel
theorem dX12_town_58 : decode cX12_town 58 = .ok (.if_icmp .ne 7, 3) := by decide +kernel
theorem dX12_town_61 : decode cX12_town 61 = .ok (.iconst 2, 1) := by decide +kernel
theorem dX12_town_62 : decode cX12_town 62 = .ok (.goto 4, 3) := by decide +kernel
theorem dX12_town_65 : decode cX12_town 65 = .ok (.iconst 0, 1) := by decide +kernel
theorem dX12_town_66 : decode cX12_town 66 = .ok (.putfield 56, 3) := by decide +kernel
theorem dX12_town_69 : decode cX12_town 69 = .ok (.aload_n 0, 1) := by decide +kernel
theorem dX12_town_70 : decode cX12_town 70 = .ok (.getfield 56, 3) := by decide +kernel
theorem dX12_town_73 : decode cX12_town 73 = .ok (.ifCond .le 9, 3) := by decide +kernel
theorem dX12_town_76 : decode cX12_town 76 = .ok (.aload_n 0, 1) := by decide +kernel
theorem dX12_town_77 : decode cX12_town 77 = .ok (.invokevirtual 204, 3) := by decide +kernel
theorem dX12_town_80 : decode cX12_town 80 = .ok (.iconst 0, 1) := by decide +kernel
theorem dX12_town_81 : decode cX12_town 81 = .ok (.ireturn, 1) := by decide +kernel
theorem dX12_town_82 : decode cX12_town 82 = .ok (.aload_n 0, 1) := by decide +kernel
theorem dX12_town_83 : decode cX12_town 83 = .ok (.getfield 7, 3) := by decide +kernel
theorem dX12_town_86 : decode cX12_town 86 = .ok (.iconst 0, 1) := by decide +kernel
theorem dX12_town_87 : decode cX12_town 87 = .ok (.dup2, 1) := by decide +kernel
theorem dX12_town_88 : decode cX12_town 88 = .ok (.iaload, 1) := by decide +kernel
theorem dX12_town_89 : decode cX12_town 89 = .ok (.iconst 1, 1) := by decide +kernel
theorem dX12_town_90 : decode cX12_town 90 = .ok (.iadd, 1) := by decide +kernel
theorem dX12_town_91 : decode cX12_town 91 = .ok (.iastore, 1) := by decide +kernel
theorem dX12_town_92 : decode cX12_town 92 = .ok (.aload_n 0, 1) := by decide +kernel
theorem dX12_town_93 : decode cX12_town 93 = .ok (.iconst 0, 1) := by decide +kernel
theorem dX12_town_94 : decode cX12_town 94 = .ok (.putfield 207, 3) := by decide +kernel
theorem dX12_town_97 : decode cX12_town 97 = .ok (.aload_n 0, 1) := by decide +kernel
theorem dX12_town_98 : decode cX12_town 98 = .ok (.getfield 7, 3) := by decide +kernel
theorem dX12_town_101 : decode cX12_town 101 = .ok (.iconst 0, 1) := by decide +kernel
theorem dX12_town_102 : decode cX12_town 102 = .ok (.iaload, 1) := by decide +kernel
theorem dX12_town_103 : decode cX12_town 103 = .ok (.ireturn, 1) := by decide +kernel
theorem dX12_comesBack_0 : decode cX12_comesBack 0 = .ok (.iconst 0, 1) := by decide +kernel
theorem dX12_comesBack_1 : decode cX12_comesBack 1 = .ok (.istore_n 1, 1) := by decide +kernel
theorem dX12_comesBack_2 : decode cX12_comesBack 2 = .ok (.iload_n 1, 1) := by decide +kernel
theorem dX12_comesBack_3 : decode cX12_comesBack 3 = .ok (.sipush 900, 3) := by decide +kernel
theorem dX12_comesBack_6 : decode cX12_comesBack 6 = .ok (.if_icmp .ge 21, 3) := by decide +kernel
theorem dX12_comesBack_9 : decode cX12_comesBack 9 = .ok (.aload_n 0, 1) := by decide +kernel
theorem dX12_comesBack_10 : decode cX12_comesBack 10 = .ok (.getfield 7, 3) := by decide +kernel
theorem dX12_comesBack_13 : decode cX12_comesBack 13 = .ok (.iload_n 1, 1) := by decide +kernel
theorem dX12_comesBack_14 : decode cX12_comesBack 14 = .ok (.aload_n 0, 1) := by decide +kernel
theorem dX12_comesBack_15 : decode cX12_comesBack 15 = .ok (.getfield 16, 3) := by decide +kernel
theorem dX12_comesBack_18 : decode cX12_comesBack 18 = .ok (.iload_n 1, 1) := by decide +kernel
theorem dX12_comesBack_19 : decode cX12_comesBack 19 = .ok (.iaload, 1) := by decide +kernel
theorem dX12_comesBack_20 : decode cX12_comesBack 20 = .ok (.iastore, 1) := by decide +kernel
theorem dX12_comesBack_21 : decode cX12_comesBack 21 = .ok (.iinc 1 1, 3) := by decide +kernel
theorem dX12_comesBack_24 : decode cX12_comesBack 24 = .ok (.goto (-22), 3) := by decide +kernel
theorem dX12_comesBack_27 : decode cX12_comesBack 27 = .ok (.return_, 1) := by decide +kernel
theorem dX12_part_0 : decode cX12_part 0 = .ok (.aload_n 0, 1) := by decide +kernel
theorem dX12_part_1 : decode cX12_part 1 = .ok (.getfield 25, 3) := by decide +kernel
theorem dX12_part_4 : decode cX12_part 4 = .ok (.iconst (-1), 1) := by decide +kernel
theorem dX12_part_5 : decode cX12_part 5 = .ok (.if_icmp .eq 5, 3) := by decide +kernel
theorem dX12_part_8 : decode cX12_part 8 = .ok (.iconst 0, 1) := by decide +kernel
theorem dX12_part_9 : decode cX12_part 9 = .ok (.ireturn, 1) := by decide +kernel
theorem dX12_part_10 : decode cX12_part 10 = .ok (.aload_n 0, 1) := by decide +kernel
theorem dX12_part_11 : decode cX12_part 11 = .ok (.invokevirtual 88, 3) := by decide +kernel
theorem dX12_part_14 : decode cX12_part 14 = .ok (.aload_n 0, 1) := by decide +kernel
theorem dX12_part_15 : decode cX12_part 15 = .ok (.getfield 79, 3) := by decide +kernel
theorem dX12_part_18 : decode cX12_part 18 = .ok (.aload_n 0, 1) := by decide +kernel
theorem dX12_part_19 : decode cX12_part 19 = .ok (.getfield 82, 3) := by decide +kernel
theorem dX12_part_22 : decode cX12_part 22 = .ok (.if_icmp .ge 30, 3) := by decide +kernel
theorem dX12_part_25 : decode cX12_part 25 = .ok (.aload_n 0, 1) := by decide +kernel
theorem dX12_part_26 : decode cX12_part 26 = .ok (.aload_n 0, 1) := by decide +kernel
theorem dX12_part_27 : decode cX12_part 27 = .ok (.getfield 79, 3) := by decide +kernel
theorem dX12_part_30 : decode cX12_part 30 = .ok (.invokevirtual 85, 3) := by decide +kernel
theorem dX12_part_33 : decode cX12_part 33 = .ok (.bipush 48, 2) := by decide +kernel
theorem dX12_part_35 : decode cX12_part 35 = .ok (.bipush 57, 2) := by decide +kernel
theorem dX12_part_37 : decode cX12_part 37 = .ok (.invokestatic 59, 3) := by decide +kernel
theorem dX12_part_40 : decode cX12_part 40 = .ok (.ifCond .eq 12, 3) := by decide +kernel
theorem dX12_part_43 : decode cX12_part 43 = .ok (.aload_n 0, 1) := by decide +kernel
theorem dX12_part_44 : decode cX12_part 44 = .ok (.iconst 0, 1) := by decide +kernel
theorem dX12_part_45 : decode cX12_part 45 = .ok (.sipush 999, 3) := by decide +kernel
theorem dX12_part_48 : decode cX12_part 48 = .ok (.invokevirtual 124, 3) := by decide +kernel
theorem dX12_part_51 : decode cX12_part 51 = .ok (.ireturn, 1) := by decide +kernel
theorem dX12_part_52 : decode cX12_part 52 = .ok (.aload_n 0, 1) := by decide +kernel
theorem dX12_part_53 : decode cX12_part 53 = .ok (.ldc 210, 2) := by decide +kernel
theorem dX12_part_55 : decode cX12_part 55 = .ok (.invokevirtual 101, 3) := by decide +kernel
theorem dX12_part_58 : decode cX12_part 58 = .ok (.ifCond .eq 7, 3) := by decide +kernel
theorem dX12_part_61 : decode cX12_part 61 = .ok (.iconst 0, 1) := by decide +kernel
theorem dX12_part_62 : decode cX12_part 62 = .ok (.goto 69, 3) := by decide +kernel
theorem dX12_part_65 : decode cX12_part 65 = .ok (.aload_n 0, 1) := by decide +kernel
theorem dX12_part_66 : decode cX12_part 66 = .ok (.ldc 211, 2) := by decide +kernel
theorem dX12_part_68 : decode cX12_part 68 = .ok (.invokevirtual 101, 3) := by decide +kernel
theorem dX12_part_71 : decode cX12_part 71 = .ok (.ifCond .eq 7, 3) := by decide +kernel
theorem dX12_part_74 : decode cX12_part 74 = .ok (.iconst 1, 1) := by decide +kernel
theorem dX12_part_75 : decode cX12_part 75 = .ok (.goto 56, 3) := by decide +kernel
theorem dX12_part_78 : decode cX12_part 78 = .ok (.aload_n 0, 1) := by decide +kernel
theorem dX12_part_79 : decode cX12_part 79 = .ok (.ldc 137, 2) := by decide +kernel
theorem dX12_part_81 : decode cX12_part 81 = .ok (.invokevirtual 101, 3) := by decide +kernel
theorem dX12_part_84 : decode cX12_part 84 = .ok (.ifCond .eq 7, 3) := by decide +kernel
theorem dX12_part_87 : decode cX12_part 87 = .ok (.iconst 2, 1) := by decide +kernel
theorem dX12_part_88 : decode cX12_part 88 = .ok (.goto 43, 3) := by decide +kernel
theorem dX12_part_91 : decode cX12_part 91 = .ok (.aload_n 0, 1) := by decide +kernel
theorem dX12_part_92 : decode cX12_part 92 = .ok (.ldc 212, 2) := by decide +kernel
theorem dX12_part_94 : decode cX12_part 94 = .ok (.invokevirtual 101, 3) := by decide +kernel
theorem dX12_part_97 : decode cX12_part 97 = .ok (.ifCond .eq 7, 3) := by decide +kernel
theorem dX12_part_100 : decode cX12_part 100 = .ok (.iconst 3, 1) := by decide +kernel
theorem dX12_part_101 : decode cX12_part 101 = .ok (.goto 30, 3) := by decide +kernel
theorem dX12_part_104 : decode cX12_part 104 = .ok (.aload_n 0, 1) := by decide +kernel
theorem dX12_part_105 : decode cX12_part 105 = .ok (.ldc 214, 2) := by decide +kernel
theorem dX12_part_107 : decode cX12_part 107 = .ok (.invokevirtual 101, 3) := by decide +kernel
theorem dX12_part_110 : decode cX12_part 110 = .ok (.ifCond .eq 7, 3) := by decide +kernel
theorem dX12_part_113 : decode cX12_part 113 = .ok (.iconst 4, 1) := by decide +kernel
theorem dX12_part_114 : decode cX12_part 114 = .ok (.goto 17, 3) := by decide +kernel
theorem dX12_part_117 : decode cX12_part 117 = .ok (.aload_n 0, 1) := by decide +kernel
theorem dX12_part_118 : decode cX12_part 118 = .ok (.ldc 216, 2) := by decide +kernel
theorem dX12_part_120 : decode cX12_part 120 = .ok (.invokevirtual 101, 3) := by decide +kernel
theorem dX12_part_123 : decode cX12_part 123 = .ok (.ifCond .eq 7, 3) := by decide +kernel
theorem dX12_part_126 : decode cX12_part 126 = .ok (.iconst 5, 1) := by decide +kernel
theorem dX12_part_127 : decode cX12_part 127 = .ok (.goto 4, 3) := by decide +kernel
theorem dX12_part_130 : decode cX12_part 130 = .ok (.iconst (-1), 1) := by decide +kernel
theorem dX12_part_131 : decode cX12_part 131 = .ok (.istore_n 1, 1) := by decide +kernel
theorem dX12_part_132 : decode cX12_part 132 = .ok (.iload_n 1, 1) := by decide +kernel
theorem dX12_part_133 : decode cX12_part 133 = .ok (.iconst (-1), 1) := by decide +kernel
theorem dX12_part_134 : decode cX12_part 134 = .ok (.if_icmp .ne 13, 3) := by decide +kernel
theorem dX12_part_137 : decode cX12_part 137 = .ok (.aload_n 0, 1) := by decide +kernel
theorem dX12_part_138 : decode cX12_part 138 = .ok (.aload_n 0, 1) := by decide +kernel
theorem dX12_part_139 : decode cX12_part 139 = .ok (.getfield 79, 3) := by decide +kernel
theorem dX12_part_142 : decode cX12_part 142 = .ok (.invokevirtual 105, 3) := by decide +kernel
theorem dX12_part_145 : decode cX12_part 145 = .ok (.iconst 0, 1) := by decide +kernel
theorem dX12_part_146 : decode cX12_part 146 = .ok (.ireturn, 1) := by decide +kernel
theorem dX12_part_147 : decode cX12_part 147 = .ok (.aload_n 0, 1) := by decide +kernel
theorem dX12_part_148 : decode cX12_part 148 = .ok (.getfield 29, 3) := by decide +kernel
theorem dX12_part_151 : decode cX12_part 151 = .ok (.iload_n 1, 1) := by decide +kernel
theorem dX12_part_152 : decode cX12_part 152 = .ok (.iaload, 1) := by decide +kernel
theorem dX12_part_153 : decode cX12_part 153 = .ok (.ireturn, 1) := by decide +kernel
theorem dX12_sum_0 : decode cX12_sum 0 = .ok (.aload_n 0, 1) := by decide +kernel
theorem dX12_sum_1 : decode cX12_sum 1 = .ok (.invokevirtual 218, 3) := by decide +kernel
theorem dX12_sum_4 : decode cX12_sum 4 = .ok (.istore_n 1, 1) := by decide +kernel
theorem dX12_sum_5 : decode cX12_sum 5 = .ok (.aload_n 0, 1) := by decide +kernel
theorem dX12_sum_6 : decode cX12_sum 6 = .ok (.getfield 25, 3) := by decide +kernel
theorem dX12_sum_9 : decode cX12_sum 9 = .ok (.iconst (-1), 1) := by decide +kernel
theorem dX12_sum_10 : decode cX12_sum 10 = .ok (.if_icmp .ne 32, 3) := by decide +kernel
theorem dX12_sum_13 : decode cX12_sum 13 = .ok (.aload_n 0, 1) := by decide +kernel
theorem dX12_sum_14 : decode cX12_sum 14 = .ok (.bipush 43, 2) := by decide +kernel
theorem dX12_sum_16 : decode cX12_sum 16 = .ok (.invokevirtual 193, 3) := by decide +kernel
theorem dX12_sum_19 : decode cX12_sum 19 = .ok (.ifCond .eq 23, 3) := by decide +kernel
theorem dX12_sum_22 : decode cX12_sum 22 = .ok (.aload_n 0, 1) := by decide +kernel
theorem dX12_sum_23 : decode cX12_sum 23 = .ok (.dup, 1) := by decide +kernel
theorem dX12_sum_24 : decode cX12_sum 24 = .ok (.getfield 79, 3) := by decide +kernel
theorem dX12_sum_27 : decode cX12_sum 27 = .ok (.iconst 1, 1) := by decide +kernel
theorem dX12_sum_28 : decode cX12_sum 28 = .ok (.iadd, 1) := by decide +kernel
theorem dX12_sum_29 : decode cX12_sum 29 = .ok (.putfield 79, 3) := by decide +kernel
theorem dX12_sum_32 : decode cX12_sum 32 = .ok (.iload_n 1, 1) := by decide +kernel
theorem dX12_sum_33 : decode cX12_sum 33 = .ok (.aload_n 0, 1) := by decide +kernel
theorem dX12_sum_34 : decode cX12_sum 34 = .ok (.invokevirtual 218, 3) := by decide +kernel
theorem dX12_sum_37 : decode cX12_sum 37 = .ok (.iadd, 1) := by decide +kernel
theorem dX12_sum_38 : decode cX12_sum 38 = .ok (.istore_n 1, 1) := by decide +kernel
theorem dX12_sum_39 : decode cX12_sum 39 = .ok (.goto (-34), 3) := by decide +kernel
theorem dX12_sum_42 : decode cX12_sum 42 = .ok (.iload_n 1, 1) := by decide +kernel
theorem dX12_sum_43 : decode cX12_sum 43 = .ok (.ireturn, 1) := by decide +kernel
theorem dX12_plain_0 : decode cX12_plain 0 = .ok (.aload_n 0, 1) := by decide +kernel
theorem dX12_plain_1 : decode cX12_plain 1 = .ok (.ldc 221, 2) := by decide +kernel
theorem dX12_plain_3 : decode cX12_plain 3 = .ok (.invokevirtual 101, 3) := by decide +kernel
theorem dX12_plain_6 : decode cX12_plain 6 = .ok (.ifCond .eq 8, 3) := by decide +kernel
theorem dX12_plain_9 : decode cX12_plain 9 = .ok (.aload_n 0, 1) := by decide +kernel
theorem dX12_plain_10 : decode cX12_plain 10 = .ok (.getfield 223, 3) := by decide +kernel
theorem dX12_plain_13 : decode cX12_plain 13 = .ok (.ireturn, 1) := by decide +kernel
theorem dX12_plain_14 : decode cX12_plain 14 = .ok (.aload_n 0, 1) := by decide +kernel
theorem dX12_plain_15 : decode cX12_plain 15 = .ok (.ldc 168, 2) := by decide +kernel
theorem dX12_plain_17 : decode cX12_plain 17 = .ok (.invokevirtual 101, 3) := by decide +kernel
theorem dX12_plain_20 : decode cX12_plain 20 = .ok (.ifCond .eq 8, 3) := by decide +kernel
theorem dX12_plain_23 : decode cX12_plain 23 = .ok (.aload_n 0, 1) := by decide +kernel
theorem dX12_plain_24 : decode cX12_plain 24 = .ok (.getfield 227, 3) := by decide +kernel
theorem dX12_plain_27 : decode cX12_plain 27 = .ok (.ireturn, 1) := by decide +kernel
theorem dX12_plain_28 : decode cX12_plain 28 = .ok (.aload_n 0, 1) := by decide +kernel
theorem dX12_plain_29 : decode cX12_plain 29 = .ok (.invokevirtual 230, 3) := by decide +kernel
theorem dX12_plain_32 : decode cX12_plain 32 = .ok (.istore_n 1, 1) := by decide +kernel
theorem dX12_plain_33 : decode cX12_plain 33 = .ok (.aload_n 0, 1) := by decide +kernel
theorem dX12_plain_34 : decode cX12_plain 34 = .ok (.getfield 25, 3) := by decide +kernel
theorem dX12_plain_37 : decode cX12_plain 37 = .ok (.iconst (-1), 1) := by decide +kernel
theorem dX12_plain_38 : decode cX12_plain 38 = .ok (.if_icmp .eq 5, 3) := by decide +kernel
theorem dX12_plain_41 : decode cX12_plain 41 = .ok (.iconst 0, 1) := by decide +kernel
theorem dX12_plain_42 : decode cX12_plain 42 = .ok (.ireturn, 1) := by decide +kernel
theorem dX12_plain_43 : decode cX12_plain 43 = .ok (.aload_n 0, 1) := by decide +kernel
theorem dX12_plain_44 : decode cX12_plain 44 = .ok (.bipush 60, 2) := by decide +kernel
theorem dX12_plain_46 : decode cX12_plain 46 = .ok (.invokevirtual 193, 3) := by decide +kernel
theorem dX12_plain_49 : decode cX12_plain 49 = .ok (.istore_n 2, 1) := by decide +kernel
theorem dX12_plain_50 : decode cX12_plain 50 = .ok (.iload_n 2, 1) := by decide +kernel
theorem dX12_plain_51 : decode cX12_plain 51 = .ok (.ifCond .ne 22, 3) := by decide +kernel
theorem dX12_plain_54 : decode cX12_plain 54 = .ok (.aload_n 0, 1) := by decide +kernel
theorem dX12_plain_55 : decode cX12_plain 55 = .ok (.bipush 62, 2) := by decide +kernel
theorem dX12_plain_57 : decode cX12_plain 57 = .ok (.invokevirtual 193, 3) := by decide +kernel
theorem dX12_plain_60 : decode cX12_plain 60 = .ok (.ifCond .ne 13, 3) := by decide +kernel
theorem dX12_plain_63 : decode cX12_plain 63 = .ok (.aload_n 0, 1) := by decide +kernel
theorem dX12_plain_64 : decode cX12_plain 64 = .ok (.aload_n 0, 1) := by decide +kernel
theorem dX12_plain_65 : decode cX12_plain 65 = .ok (.getfield 79, 3) := by decide +kernel
theorem dX12_plain_68 : decode cX12_plain 68 = .ok (.invokevirtual 105, 3) := by decide +kernel
theorem dX12_plain_71 : decode cX12_plain 71 = .ok (.iconst 0, 1) := by decide +kernel
theorem dX12_plain_72 : decode cX12_plain 72 = .ok (.ireturn, 1) := by decide +kernel
theorem dX12_plain_73 : decode cX12_plain 73 = .ok (.aload_n 0, 1) := by decide +kernel
theorem dX12_plain_74 : decode cX12_plain 74 = .ok (.dup, 1) := by decide +kernel
theorem dX12_plain_75 : decode cX12_plain 75 = .ok (.getfield 79, 3) := by decide +kernel
theorem dX12_plain_78 : decode cX12_plain 78 = .ok (.iconst 1, 1) := by decide +kernel
theorem dX12_plain_79 : decode cX12_plain 79 = .ok (.iadd, 1) := by decide +kernel
theorem dX12_plain_80 : decode cX12_plain 80 = .ok (.putfield 79, 3) := by decide +kernel
theorem dX12_plain_83 : decode cX12_plain 83 = .ok (.aload_n 0, 1) := by decide +kernel
theorem dX12_plain_84 : decode cX12_plain 84 = .ok (.invokevirtual 230, 3) := by decide +kernel
theorem dX12_plain_87 : decode cX12_plain 87 = .ok (.istore_n 3, 1) := by decide +kernel
theorem dX12_plain_88 : decode cX12_plain 88 = .ok (.iload_n 2, 1) := by decide +kernel
theorem dX12_plain_89 : decode cX12_plain 89 = .ok (.ifCond .eq 16, 3) := by decide +kernel
theorem dX12_plain_92 : decode cX12_plain 92 = .ok (.iload_n 1, 1) := by decide +kernel
theorem dX12_plain_93 : decode cX12_plain 93 = .ok (.iload_n 3, 1) := by decide +kernel
theorem dX12_plain_94 : decode cX12_plain 94 = .ok (.if_icmp .ge 7, 3) := by decide +kernel
theorem dX12_plain_97 : decode cX12_plain 97 = .ok (.iconst 1, 1) := by decide +kernel
theorem dX12_plain_98 : decode cX12_plain 98 = .ok (.goto 17, 3) := by decide +kernel
theorem dX12_plain_101 : decode cX12_plain 101 = .ok (.iconst 0, 1) := by decide +kernel
theorem dX12_plain_102 : decode cX12_plain 102 = .ok (.goto 13, 3) := by decide +kernel
theorem dX12_plain_105 : decode cX12_plain 105 = .ok (.iload_n 1, 1) := by decide +kernel
theorem dX12_plain_106 : decode cX12_plain 106 = .ok (.iload_n 3, 1) := by decide +kernel
theorem dX12_plain_107 : decode cX12_plain 107 = .ok (.if_icmp .le 7, 3) := by decide +kernel
theorem dX12_plain_110 : decode cX12_plain 110 = .ok (.iconst 1, 1) := by decide +kernel
theorem dX12_plain_111 : decode cX12_plain 111 = .ok (.goto 4, 3) := by decide +kernel
theorem dX12_plain_114 : decode cX12_plain 114 = .ok (.iconst 0, 1) := by decide +kernel
theorem dX12_plain_115 : decode cX12_plain 115 = .ok (.ireturn, 1) := by decide +kernel
theorem dX12_atom_0 : decode cX12_atom 0 = .ok (.aload_n 0, 1) := by decide +kernel
theorem dX12_atom_1 : decode cX12_atom 1 = .ok (.getfield 25, 3) := by decide +kernel
theorem dX12_atom_4 : decode cX12_atom 4 = .ok (.iconst (-1), 1) := by decide +kernel
theorem dX12_atom_5 : decode cX12_atom 5 = .ok (.if_icmp .eq 5, 3) := by decide +kernel
theorem dX12_atom_8 : decode cX12_atom 8 = .ok (.iconst 0, 1) := by decide +kernel
theorem dX12_atom_9 : decode cX12_atom 9 = .ok (.ireturn, 1) := by decide +kernel
theorem dX12_atom_10 : decode cX12_atom 10 = .ok (.aload_n 0, 1) := by decide +kernel
theorem dX12_atom_11 : decode cX12_atom 11 = .ok (.invokevirtual 109, 3) := by decide +kernel
theorem dX12_atom_14 : decode cX12_atom 14 = .ok (.istore_n 1, 1) := by decide +kernel
theorem dX12_atom_15 : decode cX12_atom 15 = .ok (.aload_n 0, 1) := by decide +kernel
theorem dX12_atom_16 : decode cX12_atom 16 = .ok (.ldc 233, 2) := by decide +kernel
theorem dX12_atom_18 : decode cX12_atom 18 = .ok (.invokevirtual 101, 3) := by decide +kernel
theorem dX12_atom_21 : decode cX12_atom 21 = .ok (.istore_n 2, 1) := by decide +kernel
theorem dX12_atom_22 : decode cX12_atom 22 = .ok (.iload_n 2, 1) := by decide +kernel
theorem dX12_atom_23 : decode cX12_atom 23 = .ok (.ifCond .ne 17, 3) := by decide +kernel
theorem dX12_atom_26 : decode cX12_atom 26 = .ok (.aload_n 0, 1) := by decide +kernel
theorem dX12_atom_27 : decode cX12_atom 27 = .ok (.bipush 40, 2) := by decide +kernel
theorem dX12_atom_29 : decode cX12_atom 29 = .ok (.invokevirtual 193, 3) := by decide +kernel
theorem dX12_atom_32 : decode cX12_atom 32 = .ok (.ifCond .ne 8, 3) := by decide +kernel
theorem dX12_atom_35 : decode cX12_atom 35 = .ok (.aload_n 0, 1) := by decide +kernel
theorem dX12_atom_36 : decode cX12_atom 36 = .ok (.invokevirtual 235, 3) := by decide +kernel
theorem dX12_atom_39 : decode cX12_atom 39 = .ok (.ireturn, 1) := by decide +kernel
theorem dX12_atom_40 : decode cX12_atom 40 = .ok (.aload_n 0, 1) := by decide +kernel
theorem dX12_atom_41 : decode cX12_atom 41 = .ok (.getfield 184, 3) := by decide +kernel
theorem dX12_atom_44 : decode cX12_atom 44 = .ok (.bipush 6, 2) := by decide +kernel
theorem dX12_atom_46 : decode cX12_atom 46 = .ok (.if_icmp .ne 10, 3) := by decide +kernel
theorem dX12_atom_49 : decode cX12_atom 49 = .ok (.aload_n 0, 1) := by decide +kernel
theorem dX12_atom_50 : decode cX12_atom 50 = .ok (.iload_n 1, 1) := by decide +kernel
theorem dX12_atom_51 : decode cX12_atom 51 = .ok (.invokevirtual 105, 3) := by decide +kernel
theorem dX12_atom_54 : decode cX12_atom 54 = .ok (.iconst 0, 1) := by decide +kernel
theorem dX12_atom_55 : decode cX12_atom 55 = .ok (.ireturn, 1) := by decide +kernel
theorem dX12_atom_56 : decode cX12_atom 56 = .ok (.aload_n 0, 1) := by decide +kernel
theorem dX12_atom_57 : decode cX12_atom 57 = .ok (.dup, 1) := by decide +kernel
theorem dX12_atom_58 : decode cX12_atom 58 = .ok (.getfield 184, 3) := by decide +kernel
theorem dX12_atom_61 : decode cX12_atom 61 = .ok (.iconst 1, 1) := by decide +kernel
theorem dX12_atom_62 : decode cX12_atom 62 = .ok (.iadd, 1) := by decide +kernel
theorem dX12_atom_63 : decode cX12_atom 63 = .ok (.putfield 184, 3) := by decide +kernel
theorem dX12_atom_66 : decode cX12_atom 66 = .ok (.iconst 0, 1) := by decide +kernel
theorem dX12_atom_67 : decode cX12_atom 67 = .ok (.istore_n 3, 1) := by decide +kernel
theorem dX12_atom_68 : decode cX12_atom 68 = .ok (.iload_n 2, 1) := by decide +kernel
theorem dX12_atom_69 : decode cX12_atom 69 = .ok (.ifCond .eq 19, 3) := by decide +kernel
theorem dX12_atom_72 : decode cX12_atom 72 = .ok (.aload_n 0, 1) := by decide +kernel
theorem dX12_atom_73 : decode cX12_atom 73 = .ok (.invokevirtual 239, 3) := by decide +kernel
theorem dX12_atom_76 : decode cX12_atom 76 = .ok (.ifCond .ne 7, 3) := by decide +kernel
theorem dX12_atom_79 : decode cX12_atom 79 = .ok (.iconst 1, 1) := by decide +kernel
theorem dX12_atom_80 : decode cX12_atom 80 = .ok (.goto 4, 3) := by decide +kernel
theorem dX12_atom_83 : decode cX12_atom 83 = .ok (.iconst 0, 1) := by decide +kernel
theorem dX12_atom_84 : decode cX12_atom 84 = .ok (.istore_n 3, 1) := by decide +kernel
theorem dX12_atom_85 : decode cX12_atom 85 = .ok (.goto 53, 3) := by decide +kernel
theorem dX12_atom_88 : decode cX12_atom 88 = .ok (.aload_n 0, 1) := by decide +kernel
theorem dX12_atom_89 : decode cX12_atom 89 = .ok (.dup, 1) := by decide +kernel
theorem dX12_atom_90 : decode cX12_atom 90 = .ok (.getfield 79, 3) := by decide +kernel
theorem dX12_atom_93 : decode cX12_atom 93 = .ok (.iconst 1, 1) := by decide +kernel
theorem dX12_atom_94 : decode cX12_atom 94 = .ok (.iadd, 1) := by decide +kernel
theorem dX12_atom_95 : decode cX12_atom 95 = .ok (.putfield 79, 3) := by decide +kernel
theorem dX12_atom_98 : decode cX12_atom 98 = .ok (.aload_n 0, 1) := by decide +kernel
theorem dX12_atom_99 : decode cX12_atom 99 = .ok (.invokevirtual 242, 3) := by decide +kernel
theorem dX12_atom_102 : decode cX12_atom 102 = .ok (.istore_n 3, 1) := by decide +kernel
theorem dX12_atom_103 : decode cX12_atom 103 = .ok (.aload_n 0, 1) := by decide +kernel
theorem dX12_atom_104 : decode cX12_atom 104 = .ok (.getfield 25, 3) := by decide +kernel
theorem dX12_atom_107 : decode cX12_atom 107 = .ok (.iconst (-1), 1) := by decide +kernel
theorem dX12_atom_108 : decode cX12_atom 108 = .ok (.if_icmp .ne 20, 3) := by decide +kernel
theorem dX12_atom_111 : decode cX12_atom 111 = .ok (.aload_n 0, 1) := by decide +kernel
theorem dX12_atom_112 : decode cX12_atom 112 = .ok (.bipush 41, 2) := by decide +kernel
theorem dX12_atom_114 : decode cX12_atom 114 = .ok (.invokevirtual 193, 3) := by decide +kernel
theorem dX12_atom_117 : decode cX12_atom 117 = .ok (.ifCond .ne 11, 3) := by decide +kernel
theorem dX12_atom_120 : decode cX12_atom 120 = .ok (.aload_n 0, 1) := by decide +kernel
theorem dX12_atom_121 : decode cX12_atom 121 = .ok (.aload_n 0, 1) := by decide +kernel
theorem dX12_atom_122 : decode cX12_atom 122 = .ok (.getfield 79, 3) := by decide +kernel
theorem dX12_atom_125 : decode cX12_atom 125 = .ok (.invokevirtual 105, 3) := by decide +kernel
theorem dX12_atom_128 : decode cX12_atom 128 = .ok (.aload_n 0, 1) := by decide +kernel
theorem dX12_atom_129 : decode cX12_atom 129 = .ok (.dup, 1) := by decide +kernel
theorem dX12_atom_130 : decode cX12_atom 130 = .ok (.getfield 79, 3) := by decide +kernel
theorem dX12_atom_133 : decode cX12_atom 133 = .ok (.iconst 1, 1) := by decide +kernel
theorem dX12_atom_134 : decode cX12_atom 134 = .ok (.iadd, 1) := by decide +kernel
theorem dX12_atom_135 : decode cX12_atom 135 = .ok (.putfield 79, 3) := by decide +kernel
theorem dX12_atom_138 : decode cX12_atom 138 = .ok (.aload_n 0, 1) := by decide +kernel
theorem dX12_atom_139 : decode cX12_atom 139 = .ok (.dup, 1) := by decide +kernel
theorem dX12_atom_140 : decode cX12_atom 140 = .ok (.getfield 184, 3) := by decide +kernel
theorem dX12_atom_143 : decode cX12_atom 143 = .ok (.iconst 1, 1) := by decide +kernel
theorem dX12_atom_144 : decode cX12_atom 144 = .ok (.isub, 1) := by decide +kernel
theorem dX12_atom_145 : decode cX12_atom 145 = .ok (.putfield 184, 3) := by decide +kernel
theorem dX12_atom_148 : decode cX12_atom 148 = .ok (.iload_n 3, 1) := by decide +kernel
theorem dX12_atom_149 : decode cX12_atom 149 = .ok (.ireturn, 1) := by decide +kernel
theorem dX12_every_0 : decode cX12_every 0 = .ok (.aload_n 0, 1) := by decide +kernel
theorem dX12_every_1 : decode cX12_every 1 = .ok (.invokevirtual 239, 3) := by decide +kernel
theorem dX12_every_4 : decode cX12_every 4 = .ok (.istore_n 1, 1) := by decide +kernel
theorem dX12_every_5 : decode cX12_every 5 = .ok (.aload_n 0, 1) := by decide +kernel
theorem dX12_every_6 : decode cX12_every 6 = .ok (.getfield 25, 3) := by decide +kernel
theorem dX12_every_9 : decode cX12_every 9 = .ok (.iconst (-1), 1) := by decide +kernel
theorem dX12_every_10 : decode cX12_every 10 = .ok (.if_icmp .ne 34, 3) := by decide +kernel
theorem dX12_every_13 : decode cX12_every 13 = .ok (.aload_n 0, 1) := by decide +kernel
theorem dX12_every_14 : decode cX12_every 14 = .ok (.ldc 245, 2) := by decide +kernel
theorem dX12_every_16 : decode cX12_every 16 = .ok (.invokevirtual 101, 3) := by decide +kernel
theorem dX12_every_19 : decode cX12_every 19 = .ok (.ifCond .eq 25, 3) := by decide +kernel
theorem dX12_every_22 : decode cX12_every 22 = .ok (.aload_n 0, 1) := by decide +kernel
theorem dX12_every_23 : decode cX12_every 23 = .ok (.invokevirtual 239, 3) := by decide +kernel
theorem dX12_every_26 : decode cX12_every 26 = .ok (.istore_n 2, 1) := by decide +kernel
theorem dX12_every_27 : decode cX12_every 27 = .ok (.iload_n 1, 1) := by decide +kernel
theorem dX12_every_28 : decode cX12_every 28 = .ok (.ifCond .eq 11, 3) := by decide +kernel
theorem dX12_every_31 : decode cX12_every 31 = .ok (.iload_n 2, 1) := by decide +kernel
theorem dX12_every_32 : decode cX12_every 32 = .ok (.ifCond .eq 7, 3) := by decide +kernel
theorem dX12_every_35 : decode cX12_every 35 = .ok (.iconst 1, 1) := by decide +kernel
theorem dX12_every_36 : decode cX12_every 36 = .ok (.goto 4, 3) := by decide +kernel
theorem dX12_every_39 : decode cX12_every 39 = .ok (.iconst 0, 1) := by decide +kernel
theorem dX12_every_40 : decode cX12_every 40 = .ok (.istore_n 1, 1) := by decide +kernel
theorem dX12_every_41 : decode cX12_every 41 = .ok (.goto (-36), 3) := by decide +kernel
theorem dX12_every_44 : decode cX12_every 44 = .ok (.iload_n 1, 1) := by decide +kernel
theorem dX12_every_45 : decode cX12_every 45 = .ok (.ireturn, 1) := by decide +kernel
theorem dX12_some_0 : decode cX12_some 0 = .ok (.aload_n 0, 1) := by decide +kernel
theorem dX12_some_1 : decode cX12_some 1 = .ok (.invokevirtual 247, 3) := by decide +kernel
theorem dX12_some_4 : decode cX12_some 4 = .ok (.istore_n 1, 1) := by decide +kernel
theorem dX12_some_5 : decode cX12_some 5 = .ok (.aload_n 0, 1) := by decide +kernel
theorem dX12_some_6 : decode cX12_some 6 = .ok (.getfield 25, 3) := by decide +kernel
theorem dX12_some_9 : decode cX12_some 9 = .ok (.iconst (-1), 1) := by decide +kernel
theorem dX12_some_10 : decode cX12_some 10 = .ok (.if_icmp .ne 34, 3) := by decide +kernel
theorem dX12_some_13 : decode cX12_some 13 = .ok (.aload_n 0, 1) := by decide +kernel
theorem dX12_some_14 : decode cX12_some 14 = .ok (.ldc 250, 2) := by decide +kernel
theorem dX12_some_16 : decode cX12_some 16 = .ok (.invokevirtual 101, 3) := by decide +kernel
theorem dX12_some_19 : decode cX12_some 19 = .ok (.ifCond .eq 25, 3) := by decide +kernel
theorem dX12_some_22 : decode cX12_some 22 = .ok (.aload_n 0, 1) := by decide +kernel
theorem dX12_some_23 : decode cX12_some 23 = .ok (.invokevirtual 247, 3) := by decide +kernel
theorem dX12_some_26 : decode cX12_some 26 = .ok (.istore_n 2, 1) := by decide +kernel
theorem dX12_some_27 : decode cX12_some 27 = .ok (.iload_n 1, 1) := by decide +kernel
theorem dX12_some_28 : decode cX12_some 28 = .ok (.ifCond .ne 7, 3) := by decide +kernel
theorem dX12_some_31 : decode cX12_some 31 = .ok (.iload_n 2, 1) := by decide +kernel
theorem dX12_some_32 : decode cX12_some 32 = .ok (.ifCond .eq 7, 3) := by decide +kernel
theorem dX12_some_35 : decode cX12_some 35 = .ok (.iconst 1, 1) := by decide +kernel
theorem dX12_some_36 : decode cX12_some 36 = .ok (.goto 4, 3) := by decide +kernel
theorem dX12_some_39 : decode cX12_some 39 = .ok (.iconst 0, 1) := by decide +kernel
theorem dX12_some_40 : decode cX12_some 40 = .ok (.istore_n 1, 1) := by decide +kernel
theorem dX12_some_41 : decode cX12_some 41 = .ok (.goto (-36), 3) := by decide +kernel
theorem dX12_some_44 : decode cX12_some 44 = .ok (.iload_n 1, 1) := by decide +kernel
theorem dX12_some_45 : decode cX12_some 45 = .ok (.ireturn, 1) := by decide +kernel
theorem dX12_lawLine_0 : decode cX12_lawLine 0 = .ok (.aload_n 0, 1) := by decide +kernel
theorem dX12_lawLine_1 : decode cX12_lawLine 1 = .ok (.invokevirtual 132, 3) := by decide +kernel
theorem dX12_lawLine_4 : decode cX12_lawLine 4 = .ok (.istore_n 1, 1) := by decide +kernel
theorem dX12_lawLine_5 : decode cX12_lawLine 5 = .ok (.aload_n 0, 1) := by decide +kernel
theorem dX12_lawLine_6 : decode cX12_lawLine 6 = .ok (.getfield 25, 3) := by decide +kernel
theorem dX12_lawLine_9 : decode cX12_lawLine 9 = .ok (.iconst (-1), 1) := by decide +kernel
theorem dX12_lawLine_10 : decode cX12_lawLine 10 = .ok (.if_icmp .eq 4, 3) := by decide +kernel
theorem dX12_lawLine_13 : decode cX12_lawLine 13 = .ok (.return_, 1) := by decide +kernel
theorem dX12_lawLine_14 : decode cX12_lawLine 14 = .ok (.aload_n 0, 1) := by decide +kernel
theorem dX12_lawLine_15 : decode cX12_lawLine 15 = .ok (.ldc 252, 2) := by decide +kernel
theorem dX12_lawLine_17 : decode cX12_lawLine 17 = .ok (.invokevirtual 101, 3) := by decide +kernel
theorem dX12_lawLine_20 : decode cX12_lawLine 20 = .ok (.ifCond .eq 10, 3) := by decide +kernel
theorem dX12_lawLine_23 : decode cX12_lawLine 23 = .ok (.aload_n 0, 1) := by decide +kernel
theorem dX12_lawLine_24 : decode cX12_lawLine 24 = .ok (.invokevirtual 242, 3) := by decide +kernel
theorem dX12_lawLine_27 : decode cX12_lawLine 27 = .ok (.ifCond .eq 7, 3) := by decide +kernel
theorem dX12_lawLine_30 : decode cX12_lawLine 30 = .ok (.iconst 1, 1) := by decide +kernel
theorem dX12_lawLine_31 : decode cX12_lawLine 31 = .ok (.goto 4, 3) := by decide +kernel
theorem dX12_lawLine_34 : decode cX12_lawLine 34 = .ok (.iconst 0, 1) := by decide +kernel
theorem dX12_lawLine_35 : decode cX12_lawLine 35 = .ok (.istore_n 2, 1) := by decide +kernel
theorem dX12_lawLine_36 : decode cX12_lawLine 36 = .ok (.aload_n 0, 1) := by decide +kernel
theorem dX12_lawLine_37 : decode cX12_lawLine 37 = .ok (.getfield 25, 3) := by decide +kernel
theorem dX12_lawLine_40 : decode cX12_lawLine 40 = .ok (.iconst (-1), 1) := by decide +kernel
theorem dX12_lawLine_41 : decode cX12_lawLine 41 = .ok (.if_icmp .ne 20, 3) := by decide +kernel
theorem dX12_lawLine_44 : decode cX12_lawLine 44 = .ok (.iload_n 2, 1) := by decide +kernel
theorem dX12_lawLine_45 : decode cX12_lawLine 45 = .ok (.ifCond .eq 16, 3) := by decide +kernel
theorem dX12_lawLine_48 : decode cX12_lawLine 48 = .ok (.aload_n 0, 1) := by decide +kernel
theorem dX12_lawLine_49 : decode cX12_lawLine 49 = .ok (.getfield 254, 3) := by decide +kernel
theorem dX12_lawLine_52 : decode cX12_lawLine 52 = .ok (.iconst (-1), 1) := by decide +kernel
theorem dX12_lawLine_53 : decode cX12_lawLine 53 = .ok (.if_icmp .ne 8, 3) := by decide +kernel
theorem dX12_lawLine_56 : decode cX12_lawLine 56 = .ok (.aload_n 0, 1) := by decide +kernel
theorem dX12_lawLine_57 : decode cX12_lawLine 57 = .ok (.iload_n 1, 1) := by decide +kernel
theorem dX12_lawLine_58 : decode cX12_lawLine 58 = .ok (.putfield 254, 3) := by decide +kernel
theorem dX12_lawLine_61 : decode cX12_lawLine 61 = .ok (.return_, 1) := by decide +kernel
theorem dX12_law_0 : decode cX12_law 0 = .ok (.aload_n 0, 1) := by decide +kernel
theorem dX12_law_1 : decode cX12_law 1 = .ok (.invokevirtual 197, 3) := by decide +kernel
theorem dX12_law_4 : decode cX12_law 4 = .ok (.aload_n 0, 1) := by decide +kernel
theorem dX12_law_5 : decode cX12_law 5 = .ok (.iconst 1, 1) := by decide +kernel
theorem dX12_law_6 : decode cX12_law 6 = .ok (.invokevirtual 200, 3) := by decide +kernel
theorem dX12_law_9 : decode cX12_law 9 = .ok (.istore_n 1, 1) := by decide +kernel
theorem dX12_law_10 : decode cX12_law 10 = .ok (.aload_n 0, 1) := by decide +kernel
theorem dX12_law_11 : decode cX12_law 11 = .ok (.aload_n 0, 1) := by decide +kernel
theorem dX12_law_12 : decode cX12_law 12 = .ok (.getfield 25, 3) := by decide +kernel
theorem dX12_law_15 : decode cX12_law 15 = .ok (.iconst (-1), 1) := by decide +kernel
theorem dX12_law_16 : decode cX12_law 16 = .ok (.if_icmp .eq 7, 3) := by decide +kernel
theorem dX12_law_19 : decode cX12_law 19 = .ok (.iconst 1, 1) := by decide +kernel
theorem dX12_law_20 : decode cX12_law 20 = .ok (.goto 4, 3) := by decide +kernel
theorem dX12_law_23 : decode cX12_law 23 = .ok (.iconst 0, 1) := by decide +kernel
theorem dX12_law_24 : decode cX12_law 24 = .ok (.putfield 56, 3) := by decide +kernel
theorem dX12_law_27 : decode cX12_law 27 = .ok (.aload_n 0, 1) := by decide +kernel
theorem dX12_law_28 : decode cX12_law 28 = .ok (.getfield 56, 3) := by decide +kernel
theorem dX12_law_31 : decode cX12_law 31 = .ok (.ifCond .le 5, 3) := by decide +kernel
theorem dX12_law_34 : decode cX12_law 34 = .ok (.iconst 0, 1) := by decide +kernel
theorem dX12_law_35 : decode cX12_law 35 = .ok (.ireturn, 1) := by decide +kernel
theorem dX12_law_36 : decode cX12_law 36 = .ok (.aload_n 0, 1) := by decide +kernel
theorem dX12_law_37 : decode cX12_law 37 = .ok (.getfield 7, 3) := by decide +kernel
theorem dX12_law_40 : decode cX12_law 40 = .ok (.iconst 1, 1) := by decide +kernel
theorem dX12_law_41 : decode cX12_law 41 = .ok (.iload_n 1, 1) := by decide +kernel
theorem dX12_law_42 : decode cX12_law 42 = .ok (.iastore, 1) := by decide +kernel
theorem dX12_law_43 : decode cX12_law 43 = .ok (.aload_n 0, 1) := by decide +kernel
theorem dX12_law_44 : decode cX12_law 44 = .ok (.getfield 7, 3) := by decide +kernel
theorem dX12_law_47 : decode cX12_law 47 = .ok (.iconst 2, 1) := by decide +kernel
theorem dX12_law_48 : decode cX12_law 48 = .ok (.aload_n 0, 1) := by decide +kernel
theorem dX12_law_49 : decode cX12_law 49 = .ok (.getfield 82, 3) := by decide +kernel
theorem dX12_law_52 : decode cX12_law 52 = .ok (.iastore, 1) := by decide +kernel
theorem dX12_law_53 : decode cX12_law 53 = .ok (.iconst 0, 1) := by decide +kernel
theorem dX12_law_54 : decode cX12_law 54 = .ok (.istore_n 2, 1) := by decide +kernel
theorem dX12_law_55 : decode cX12_law 55 = .ok (.iload_n 2, 1) := by decide +kernel
theorem dX12_law_56 : decode cX12_law 56 = .ok (.aload_n 0, 1) := by decide +kernel
theorem dX12_law_57 : decode cX12_law 57 = .ok (.getfield 82, 3) := by decide +kernel
theorem dX12_law_60 : decode cX12_law 60 = .ok (.if_icmp .ge 25, 3) := by decide +kernel
theorem dX12_law_63 : decode cX12_law 63 = .ok (.aload_n 0, 1) := by decide +kernel
theorem dX12_law_64 : decode cX12_law 64 = .ok (.getfield 7, 3) := by decide +kernel
theorem dX12_law_67 : decode cX12_law 67 = .ok (.sipush 900, 3) := by decide +kernel
theorem dX12_law_70 : decode cX12_law 70 = .ok (.iload_n 2, 1) := by decide +kernel
theorem dX12_law_71 : decode cX12_law 71 = .ok (.iadd, 1) := by decide +kernel
theorem dX12_law_72 : decode cX12_law 72 = .ok (.aload_n 0, 1) := by decide +kernel
theorem dX12_law_73 : decode cX12_law 73 = .ok (.getfield 22, 3) := by decide +kernel
theorem dX12_law_76 : decode cX12_law 76 = .ok (.iload_n 2, 1) := by decide +kernel
theorem dX12_law_77 : decode cX12_law 77 = .ok (.iaload, 1) := by decide +kernel
theorem dX12_law_78 : decode cX12_law 78 = .ok (.iastore, 1) := by decide +kernel
theorem dX12_law_79 : decode cX12_law 79 = .ok (.iinc 2 1, 3) := by decide +kernel
theorem dX12_law_82 : decode cX12_law 82 = .ok (.goto (-27), 3) := by decide +kernel
theorem dX12_law_85 : decode cX12_law 85 = .ok (.aload_n 0, 1) := by decide +kernel
theorem dX12_law_86 : decode cX12_law 86 = .ok (.iconst 0, 1) := by decide +kernel
theorem dX12_law_87 : decode cX12_law 87 = .ok (.putfield 207, 3) := by decide +kernel
theorem dX12_law_90 : decode cX12_law 90 = .ok (.iload_n 1, 1) := by decide +kernel
theorem dX12_law_91 : decode cX12_law 91 = .ok (.ireturn, 1) := by decide +kernel
theorem dX12_fault_0 : decode cX12_fault 0 = .ok (.aload_n 0, 1) := by decide +kernel
theorem dX12_fault_1 : decode cX12_fault 1 = .ok (.iconst 0, 1) := by decide +kernel
theorem dX12_fault_2 : decode cX12_fault 2 = .ok (.putfield 56, 3) := by decide +kernel
theorem dX12_fault_5 : decode cX12_fault 5 = .ok (.aload_n 0, 1) := by decide +kernel
theorem dX12_fault_6 : decode cX12_fault 6 = .ok (.getfield 25, 3) := by decide +kernel
theorem dX12_fault_9 : decode cX12_fault 9 = .ok (.ireturn, 1) := by decide +kernel
theorem dX12_beginning_0 : decode cX12_beginning 0 = .ok (.aload_n 0, 1) := by decide +kernel
theorem dX12_beginning_1 : decode cX12_beginning 1 = .ok (.getfield 29, 3) := by decide +kernel
theorem dX12_beginning_4 : decode cX12_beginning 4 = .ok (.iconst 0, 1) := by decide +kernel
theorem dX12_beginning_5 : decode cX12_beginning 5 = .ok (.iload_n 1, 1) := by decide +kernel
theorem dX12_beginning_6 : decode cX12_beginning 6 = .ok (.iastore, 1) := by decide +kernel
theorem dX12_beginning_7 : decode cX12_beginning 7 = .ok (.aload_n 0, 1) := by decide +kernel
theorem dX12_beginning_8 : decode cX12_beginning 8 = .ok (.getfield 29, 3) := by decide +kernel
theorem dX12_beginning_11 : decode cX12_beginning 11 = .ok (.iconst 1, 1) := by decide +kernel
theorem dX12_beginning_12 : decode cX12_beginning 12 = .ok (.iload_n 2, 1) := by decide +kernel
theorem dX12_beginning_13 : decode cX12_beginning 13 = .ok (.iastore, 1) := by decide +kernel
theorem dX12_beginning_14 : decode cX12_beginning 14 = .ok (.aload_n 0, 1) := by decide +kernel
theorem dX12_beginning_15 : decode cX12_beginning 15 = .ok (.getfield 29, 3) := by decide +kernel
theorem dX12_beginning_18 : decode cX12_beginning 18 = .ok (.iconst 2, 1) := by decide +kernel
theorem dX12_beginning_19 : decode cX12_beginning 19 = .ok (.aload_n 0, 1) := by decide +kernel
theorem dX12_beginning_20 : decode cX12_beginning 20 = .ok (.iload_n 1, 1) := by decide +kernel
theorem dX12_beginning_21 : decode cX12_beginning 21 = .ok (.iconst 2, 1) := by decide +kernel
theorem dX12_beginning_22 : decode cX12_beginning 22 = .ok (.invokevirtual 257, 3) := by decide +kernel
theorem dX12_beginning_25 : decode cX12_beginning 25 = .ok (.iastore, 1) := by decide +kernel
theorem dX12_beginning_26 : decode cX12_beginning 26 = .ok (.aload_n 0, 1) := by decide +kernel
theorem dX12_beginning_27 : decode cX12_beginning 27 = .ok (.getfield 29, 3) := by decide +kernel
theorem dX12_beginning_30 : decode cX12_beginning 30 = .ok (.iconst 3, 1) := by decide +kernel
theorem dX12_beginning_31 : decode cX12_beginning 31 = .ok (.aload_n 0, 1) := by decide +kernel
theorem dX12_beginning_32 : decode cX12_beginning 32 = .ok (.iload_n 2, 1) := by decide +kernel
theorem dX12_beginning_33 : decode cX12_beginning 33 = .ok (.iconst 2, 1) := by decide +kernel
theorem dX12_beginning_34 : decode cX12_beginning 34 = .ok (.invokevirtual 257, 3) := by decide +kernel
theorem dX12_beginning_37 : decode cX12_beginning 37 = .ok (.iastore, 1) := by decide +kernel
theorem dX12_beginning_38 : decode cX12_beginning 38 = .ok (.aload_n 0, 1) := by decide +kernel
theorem dX12_beginning_39 : decode cX12_beginning 39 = .ok (.getfield 29, 3) := by decide +kernel
theorem dX12_beginning_42 : decode cX12_beginning 42 = .ok (.iconst 4, 1) := by decide +kernel
theorem dX12_beginning_43 : decode cX12_beginning 43 = .ok (.aload_n 0, 1) := by decide +kernel
theorem dX12_beginning_44 : decode cX12_beginning 44 = .ok (.getfield 7, 3) := by decide +kernel
theorem dX12_beginning_47 : decode cX12_beginning 47 = .ok (.sipush 172, 3) := by decide +kernel
theorem dX12_beginning_50 : decode cX12_beginning 50 = .ok (.bipush 10, 2) := by decide +kernel
theorem dX12_beginning_52 : decode cX12_beginning 52 = .ok (.iload_n 1, 1) := by decide +kernel
theorem dX12_beginning_53 : decode cX12_beginning 53 = .ok (.imul, 1) := by decide +kernel
theorem dX12_beginning_54 : decode cX12_beginning 54 = .ok (.iadd, 1) := by decide +kernel
theorem dX12_beginning_55 : decode cX12_beginning 55 = .ok (.iload_n 2, 1) := by decide +kernel
theorem dX12_beginning_56 : decode cX12_beginning 56 = .ok (.iadd, 1) := by decide +kernel
theorem dX12_beginning_57 : decode cX12_beginning 57 = .ok (.iaload, 1) := by decide +kernel
theorem dX12_beginning_58 : decode cX12_beginning 58 = .ok (.iastore, 1) := by decide +kernel
theorem dX12_beginning_59 : decode cX12_beginning 59 = .ok (.aload_n 0, 1) := by decide +kernel
theorem dX12_beginning_60 : decode cX12_beginning 60 = .ok (.getfield 29, 3) := by decide +kernel
theorem dX12_beginning_63 : decode cX12_beginning 63 = .ok (.iconst 5, 1) := by decide +kernel
theorem dX12_beginning_64 : decode cX12_beginning 64 = .ok (.aload_n 0, 1) := by decide +kernel
theorem dX12_beginning_65 : decode cX12_beginning 65 = .ok (.getfield 7, 3) := by decide +kernel
theorem dX12_beginning_68 : decode cX12_beginning 68 = .ok (.bipush 7, 2) := by decide +kernel
theorem dX12_beginning_70 : decode cX12_beginning 70 = .ok (.iaload, 1) := by decide +kernel
theorem dX12_beginning_71 : decode cX12_beginning 71 = .ok (.iastore, 1) := by decide +kernel
theorem dX12_beginning_72 : decode cX12_beginning 72 = .ok (.aload_n 0, 1) := by decide +kernel
theorem dX12_beginning_73 : decode cX12_beginning 73 = .ok (.aload_n 0, 1) := by decide +kernel
theorem dX12_beginning_74 : decode cX12_beginning 74 = .ok (.iload_n 1, 1) := by decide +kernel
theorem dX12_beginning_75 : decode cX12_beginning 75 = .ok (.iconst 0, 1) := by decide +kernel
theorem dX12_beginning_76 : decode cX12_beginning 76 = .ok (.invokevirtual 257, 3) := by decide +kernel
theorem dX12_beginning_79 : decode cX12_beginning 79 = .ok (.aload_n 0, 1) := by decide +kernel
theorem dX12_beginning_80 : decode cX12_beginning 80 = .ok (.iload_n 2, 1) := by decide +kernel
theorem dX12_beginning_81 : decode cX12_beginning 81 = .ok (.iconst 0, 1) := by decide +kernel
theorem dX12_beginning_82 : decode cX12_beginning 82 = .ok (.invokevirtual 257, 3) := by decide +kernel
theorem dX12_beginning_85 : decode cX12_beginning 85 = .ok (.if_icmp .ne 7, 3) := by decide +kernel
theorem dX12_beginning_88 : decode cX12_beginning 88 = .ok (.iconst 1, 1) := by decide +kernel
theorem dX12_beginning_89 : decode cX12_beginning 89 = .ok (.goto 4, 3) := by decide +kernel
theorem dX12_beginning_92 : decode cX12_beginning 92 = .ok (.iconst 0, 1) := by decide +kernel
theorem dX12_beginning_93 : decode cX12_beginning 93 = .ok (.putfield 223, 3) := by decide +kernel
theorem dX12_beginning_96 : decode cX12_beginning 96 = .ok (.aload_n 0, 1) := by decide +kernel
theorem dX12_beginning_97 : decode cX12_beginning 97 = .ok (.aload_n 0, 1) := by decide +kernel
theorem dX12_beginning_98 : decode cX12_beginning 98 = .ok (.iload_n 1, 1) := by decide +kernel
theorem dX12_beginning_99 : decode cX12_beginning 99 = .ok (.iconst 4, 1) := by decide +kernel
theorem dX12_beginning_100 : decode cX12_beginning 100 = .ok (.invokevirtual 257, 3) := by decide +kernel
theorem dX12_beginning_103 : decode cX12_beginning 103 = .ok (.aload_n 0, 1) := by decide +kernel
theorem dX12_beginning_104 : decode cX12_beginning 104 = .ok (.iload_n 2, 1) := by decide +kernel
theorem dX12_beginning_105 : decode cX12_beginning 105 = .ok (.iconst 4, 1) := by decide +kernel
theorem dX12_beginning_106 : decode cX12_beginning 106 = .ok (.invokevirtual 257, 3) := by decide +kernel
theorem dX12_beginning_109 : decode cX12_beginning 109 = .ok (.iadd, 1) := by decide +kernel
theorem dX12_beginning_110 : decode cX12_beginning 110 = .ok (.ifCond .le 7, 3) := by decide +kernel
theorem dX12_beginning_113 : decode cX12_beginning 113 = .ok (.iconst 1, 1) := by decide +kernel
theorem dX12_beginning_114 : decode cX12_beginning 114 = .ok (.goto 4, 3) := by decide +kernel
theorem dX12_beginning_117 : decode cX12_beginning 117 = .ok (.iconst 0, 1) := by decide +kernel
theorem dX12_beginning_118 : decode cX12_beginning 118 = .ok (.putfield 227, 3) := by decide +kernel
theorem dX12_beginning_121 : decode cX12_beginning 121 = .ok (.aload_n 0, 1) := by decide +kernel
theorem dX12_beginning_122 : decode cX12_beginning 122 = .ok (.iconst (-1), 1) := by decide +kernel
theorem dX12_beginning_123 : decode cX12_beginning 123 = .ok (.putfield 254, 3) := by decide +kernel
theorem dX12_beginning_126 : decode cX12_beginning 126 = .ok (.aload_n 0, 1) := by decide +kernel
theorem dX12_beginning_127 : decode cX12_beginning 127 = .ok (.getfield 7, 3) := by decide +kernel
theorem dX12_beginning_130 : decode cX12_beginning 130 = .ok (.iconst 1, 1) := by decide +kernel
theorem dX12_beginning_131 : decode cX12_beginning 131 = .ok (.iaload, 1) := by decide +kernel
theorem dX12_beginning_132 : decode cX12_beginning 132 = .ok (.ifCond .le 52, 3) := by decide +kernel
theorem dX12_beginning_135 : decode cX12_beginning 135 = .ok (.aload_n 0, 1) := by decide +kernel
theorem dX12_beginning_136 : decode cX12_beginning 136 = .ok (.getfield 25, 3) := by decide +kernel
theorem dX12_beginning_139 : decode cX12_beginning 139 = .ok (.istore_n 3, 1) := by decide +kernel
theorem dX12_beginning_140 : decode cX12_beginning 140 = .ok (.aload_n 0, 1) := by decide +kernel
theorem dX12_beginning_141 : decode cX12_beginning 141 = .ok (.iconst (-1), 1) := by decide +kernel
theorem dX12_beginning_142 : decode cX12_beginning 142 = .ok (.putfield 25, 3) := by decide +kernel
theorem dX12_beginning_145 : decode cX12_beginning 145 = .ok (.aload_n 0, 1) := by decide +kernel
theorem dX12_beginning_146 : decode cX12_beginning 146 = .ok (.sipush 900, 3) := by decide +kernel
theorem dX12_beginning_149 : decode cX12_beginning 149 = .ok (.putfield 76, 3) := by decide +kernel
theorem dX12_beginning_152 : decode cX12_beginning 152 = .ok (.aload_n 0, 1) := by decide +kernel
theorem dX12_beginning_153 : decode cX12_beginning 153 = .ok (.aload_n 0, 1) := by decide +kernel
theorem dX12_beginning_154 : decode cX12_beginning 154 = .ok (.getfield 7, 3) := by decide +kernel
theorem dX12_beginning_157 : decode cX12_beginning 157 = .ok (.iconst 2, 1) := by decide +kernel
theorem dX12_beginning_158 : decode cX12_beginning 158 = .ok (.iaload, 1) := by decide +kernel
theorem dX12_beginning_159 : decode cX12_beginning 159 = .ok (.putfield 82, 3) := by decide +kernel
theorem dX12_beginning_162 : decode cX12_beginning 162 = .ok (.aload_n 0, 1) := by decide +kernel
theorem dX12_beginning_163 : decode cX12_beginning 163 = .ok (.iconst 0, 1) := by decide +kernel
theorem dX12_beginning_164 : decode cX12_beginning 164 = .ok (.putfield 79, 3) := by decide +kernel
theorem dX12_beginning_167 : decode cX12_beginning 167 = .ok (.aload_n 0, 1) := by decide +kernel
theorem dX12_beginning_168 : decode cX12_beginning 168 = .ok (.iconst 0, 1) := by decide +kernel
theorem dX12_beginning_169 : decode cX12_beginning 169 = .ok (.putfield 184, 3) := by decide +kernel
theorem dX12_beginning_172 : decode cX12_beginning 172 = .ok (.aload_n 0, 1) := by decide +kernel
theorem dX12_beginning_173 : decode cX12_beginning 173 = .ok (.iconst 1, 1) := by decide +kernel
theorem dX12_beginning_174 : decode cX12_beginning 174 = .ok (.invokevirtual 200, 3) := by decide +kernel
theorem dX12_beginning_177 : decode cX12_beginning 177 = .ok (.istore 4, 2) := by decide +kernel
theorem dX12_beginning_179 : decode cX12_beginning 179 = .ok (.aload_n 0, 1) := by decide +kernel
theorem dX12_beginning_180 : decode cX12_beginning 180 = .ok (.iload_n 3, 1) := by decide +kernel
theorem dX12_beginning_181 : decode cX12_beginning 181 = .ok (.putfield 25, 3) := by decide +kernel
theorem dX12_beginning_184 : decode cX12_beginning 184 = .ok (.aload_n 0, 1) := by decide +kernel
theorem dX12_beginning_185 : decode cX12_beginning 185 = .ok (.getfield 254, 3) := by decide +kernel
theorem dX12_beginning_188 : decode cX12_beginning 188 = .ok (.iconst (-1), 1) := by decide +kernel
theorem dX12_beginning_189 : decode cX12_beginning 189 = .ok (.if_icmp .eq 8, 3) := by decide +kernel
theorem dX12_beginning_192 : decode cX12_beginning 192 = .ok (.aload_n 0, 1) := by decide +kernel
theorem dX12_beginning_193 : decode cX12_beginning 193 = .ok (.getfield 254, 3) := by decide +kernel
theorem dX12_beginning_196 : decode cX12_beginning 196 = .ok (.ireturn, 1) := by decide +kernel
theorem dX12_beginning_197 : decode cX12_beginning 197 = .ok (.aload_n 0, 1) := by decide +kernel
theorem dX12_beginning_198 : decode cX12_beginning 198 = .ok (.getfield 7, 3) := by decide +kernel
theorem dX12_beginning_201 : decode cX12_beginning 201 = .ok (.sipush 272, 3) := by decide +kernel
theorem dX12_beginning_204 : decode cX12_beginning 204 = .ok (.bipush 10, 2) := by decide +kernel
theorem dX12_beginning_206 : decode cX12_beginning 206 = .ok (.iload_n 1, 1) := by decide +kernel
theorem dX12_beginning_207 : decode cX12_beginning 207 = .ok (.imul, 1) := by decide +kernel
theorem dX12_beginning_208 : decode cX12_beginning 208 = .ok (.iadd, 1) := by decide +kernel
theorem dX12_beginning_209 : decode cX12_beginning 209 = .ok (.iload_n 2, 1) := by decide +kernel
theorem dX12_beginning_210 : decode cX12_beginning 210 = .ok (.iadd, 1) := by decide +kernel
theorem dX12_beginning_211 : decode cX12_beginning 211 = .ok (.iaload, 1) := by decide +kernel
theorem dX12_beginning_212 : decode cX12_beginning 212 = .ok (.istore_n 3, 1) := by decide +kernel
theorem dX12_beginning_213 : decode cX12_beginning 213 = .ok (.iload_n 3, 1) := by decide +kernel
theorem dX12_beginning_214 : decode cX12_beginning 214 = .ok (.iconst (-1), 1) := by decide +kernel
theorem dX12_beginning_215 : decode cX12_beginning 215 = .ok (.if_icmp .ne 12, 3) := by decide +kernel
theorem dX12_beginning_218 : decode cX12_beginning 218 = .ok (.aload_n 0, 1) := by decide +kernel
theorem dX12_beginning_219 : decode cX12_beginning 219 = .ok (.iload_n 1, 1) := by decide +kernel
theorem dX12_beginning_220 : decode cX12_beginning 220 = .ok (.iconst 1, 1) := by decide +kernel
theorem dX12_beginning_221 : decode cX12_beginning 221 = .ok (.invokevirtual 257, 3) := by decide +kernel
theorem dX12_beginning_224 : decode cX12_beginning 224 = .ok (.goto 4, 3) := by decide +kernel
theorem dX12_beginning_227 : decode cX12_beginning 227 = .ok (.iload_n 3, 1) := by decide +kernel
theorem dX12_beginning_228 : decode cX12_beginning 228 = .ok (.ireturn, 1) := by decide +kernel
theorem dX12_cost_0 : decode cX12_cost 0 = .ok (.aload_n 0, 1) := by decide +kernel
theorem dX12_cost_1 : decode cX12_cost 1 = .ok (.iload_n 1, 1) := by decide +kernel
theorem dX12_cost_2 : decode cX12_cost 2 = .ok (.invokestatic 260, 3) := by decide +kernel
theorem dX12_cost_5 : decode cX12_cost 5 = .ok (.ifCond .eq 10, 3) := by decide +kernel
theorem dX12_cost_8 : decode cX12_cost 8 = .ok (.iload_n 2, 1) := by decide +kernel
theorem dX12_cost_9 : decode cX12_cost 9 = .ok (.invokestatic 260, 3) := by decide +kernel
theorem dX12_cost_12 : decode cX12_cost 12 = .ok (.ifCond .ne 7, 3) := by decide +kernel
theorem dX12_cost_15 : decode cX12_cost 15 = .ok (.iconst 1, 1) := by decide +kernel
theorem dX12_cost_16 : decode cX12_cost 16 = .ok (.goto 4, 3) := by decide +kernel
theorem dX12_cost_19 : decode cX12_cost 19 = .ok (.iconst 0, 1) := by decide +kernel
theorem dX12_cost_20 : decode cX12_cost 20 = .ok (.putfield 56, 3) := by decide +kernel
theorem dX12_cost_23 : decode cX12_cost 23 = .ok (.aload_n 0, 1) := by decide +kernel
theorem dX12_cost_24 : decode cX12_cost 24 = .ok (.getfield 56, 3) := by decide +kernel
theorem dX12_cost_27 : decode cX12_cost 27 = .ok (.ifCond .le 7, 3) := by decide +kernel
theorem dX12_cost_30 : decode cX12_cost 30 = .ok (.iconst 0, 1) := by decide +kernel
theorem dX12_cost_31 : decode cX12_cost 31 = .ok (.goto 9, 3) := by decide +kernel
theorem dX12_cost_34 : decode cX12_cost 34 = .ok (.aload_n 0, 1) := by decide +kernel
theorem dX12_cost_35 : decode cX12_cost 35 = .ok (.iload_n 1, 1) := by decide +kernel
theorem dX12_cost_36 : decode cX12_cost 36 = .ok (.iload_n 2, 1) := by decide +kernel
theorem dX12_cost_37 : decode cX12_cost 37 = .ok (.invokevirtual 263, 3) := by decide +kernel
theorem dX12_cost_40 : decode cX12_cost 40 = .ok (.ireturn, 1) := by decide +kernel
theorem dX12_weight_0 : decode cX12_weight 0 = .ok (.iconst 0, 1) := by decide +kernel
theorem dX12_weight_1 : decode cX12_weight 1 = .ok (.istore_n 3, 1) := by decide +kernel
theorem dX12_weight_2 : decode cX12_weight 2 = .ok (.iconst 0, 1) := by decide +kernel
theorem dX12_weight_3 : decode cX12_weight 3 = .ok (.istore 4, 2) := by decide +kernel
theorem dX12_weight_5 : decode cX12_weight 5 = .ok (.iload 4, 2) := by decide +kernel
theorem dX12_weight_7 : decode cX12_weight 7 = .ok (.aload_n 0, 1) := by decide +kernel
theorem dX12_weight_8 : decode cX12_weight 8 = .ok (.getfield 7, 3) := by decide +kernel
theorem dX12_weight_11 : decode cX12_weight 11 = .ok (.iconst 4, 1) := by decide +kernel
theorem dX12_weight_12 : decode cX12_weight 12 = .ok (.iaload, 1) := by decide +kernel
theorem dX12_weight_13 : decode cX12_weight 13 = .ok (.if_icmp .ge 69, 3) := by decide +kernel
theorem dX12_weight_16 : decode cX12_weight 16 = .ok (.iload_n 3, 1) := by decide +kernel
theorem dX12_weight_17 : decode cX12_weight 17 = .ok (.aload_n 0, 1) := by decide +kernel
theorem dX12_weight_18 : decode cX12_weight 18 = .ok (.getfield 7, 3) := by decide +kernel
theorem dX12_weight_21 : decode cX12_weight 21 = .ok (.bipush 20, 2) := by decide +kernel
theorem dX12_weight_23 : decode cX12_weight 23 = .ok (.iconst 3, 1) := by decide +kernel
theorem dX12_weight_24 : decode cX12_weight 24 = .ok (.iload 4, 2) := by decide +kernel
theorem dX12_weight_26 : decode cX12_weight 26 = .ok (.imul, 1) := by decide +kernel
theorem dX12_weight_27 : decode cX12_weight 27 = .ok (.iadd, 1) := by decide +kernel
theorem dX12_weight_28 : decode cX12_weight 28 = .ok (.iaload, 1) := by decide +kernel
theorem dX12_weight_29 : decode cX12_weight 29 = .ok (.iload_n 1, 1) := by decide +kernel
theorem dX12_weight_30 : decode cX12_weight 30 = .ok (.if_icmp .ne 43, 3) := by decide +kernel
theorem dX12_weight_33 : decode cX12_weight 33 = .ok (.iload_n 2, 1) := by decide +kernel
theorem dX12_weight_34 : decode cX12_weight 34 = .ok (.iconst (-1), 1) := by decide +kernel
theorem dX12_weight_35 : decode cX12_weight 35 = .ok (.if_icmp .eq 21, 3) := by decide +kernel
theorem dX12_weight_38 : decode cX12_weight 38 = .ok (.aload_n 0, 1) := by decide +kernel
theorem dX12_weight_39 : decode cX12_weight 39 = .ok (.getfield 7, 3) := by decide +kernel
theorem dX12_weight_42 : decode cX12_weight 42 = .ok (.bipush 20, 2) := by decide +kernel
theorem dX12_weight_44 : decode cX12_weight 44 = .ok (.iconst 3, 1) := by decide +kernel
theorem dX12_weight_45 : decode cX12_weight 45 = .ok (.iload 4, 2) := by decide +kernel
theorem dX12_weight_47 : decode cX12_weight 47 = .ok (.imul, 1) := by decide +kernel
theorem dX12_weight_48 : decode cX12_weight 48 = .ok (.iadd, 1) := by decide +kernel
theorem dX12_weight_49 : decode cX12_weight 49 = .ok (.iconst 1, 1) := by decide +kernel
theorem dX12_weight_50 : decode cX12_weight 50 = .ok (.iadd, 1) := by decide +kernel
theorem dX12_weight_51 : decode cX12_weight 51 = .ok (.iaload, 1) := by decide +kernel
theorem dX12_weight_52 : decode cX12_weight 52 = .ok (.iload_n 2, 1) := by decide +kernel
theorem dX12_weight_53 : decode cX12_weight 53 = .ok (.if_icmp .ne 20, 3) := by decide +kernel
theorem dX12_weight_56 : decode cX12_weight 56 = .ok (.aload_n 0, 1) := by decide +kernel
theorem dX12_weight_57 : decode cX12_weight 57 = .ok (.getfield 7, 3) := by decide +kernel
theorem dX12_weight_60 : decode cX12_weight 60 = .ok (.bipush 20, 2) := by decide +kernel
theorem dX12_weight_62 : decode cX12_weight 62 = .ok (.iconst 3, 1) := by decide +kernel
theorem dX12_weight_63 : decode cX12_weight 63 = .ok (.iload 4, 2) := by decide +kernel
theorem dX12_weight_65 : decode cX12_weight 65 = .ok (.imul, 1) := by decide +kernel
theorem dX12_weight_66 : decode cX12_weight 66 = .ok (.iadd, 1) := by decide +kernel
theorem dX12_weight_67 : decode cX12_weight 67 = .ok (.iconst 2, 1) := by decide +kernel
theorem dX12_weight_68 : decode cX12_weight 68 = .ok (.iadd, 1) := by decide +kernel
theorem dX12_weight_69 : decode cX12_weight 69 = .ok (.iaload, 1) := by decide +kernel
theorem dX12_weight_70 : decode cX12_weight 70 = .ok (.goto 4, 3) := by decide +kernel
theorem dX12_weight_73 : decode cX12_weight 73 = .ok (.iconst 0, 1) := by decide +kernel
theorem dX12_weight_74 : decode cX12_weight 74 = .ok (.iadd, 1) := by decide +kernel
theorem dX12_weight_75 : decode cX12_weight 75 = .ok (.istore_n 3, 1) := by decide +kernel
theorem dX12_weight_76 : decode cX12_weight 76 = .ok (.iinc 4 1, 3) := by decide +kernel
theorem dX12_weight_79 : decode cX12_weight 79 = .ok (.goto (-74), 3) := by decide +kernel
theorem dX12_weight_82 : decode cX12_weight 82 = .ok (.iload_n 3, 1) := by decide +kernel
theorem dX12_weight_83 : decode cX12_weight 83 = .ok (.ireturn, 1) := by decide +kernel
theorem dX12_habit_0 : decode cX12_habit 0 = .ok (.aload_n 0, 1) := by decide +kernel
theorem dX12_habit_1 : decode cX12_habit 1 = .ok (.aload_n 0, 1) := by decide +kernel
theorem dX12_habit_2 : decode cX12_habit 2 = .ok (.iload_n 1, 1) := by decide +kernel
theorem dX12_habit_3 : decode cX12_habit 3 = .ok (.invokevirtual 266, 3) := by decide +kernel
theorem dX12_habit_6 : decode cX12_habit 6 = .ok (.ifCond .eq 10, 3) := by decide +kernel
theorem dX12_habit_9 : decode cX12_habit 9 = .ok (.iload_n 2, 1) := by decide +kernel
theorem dX12_habit_10 : decode cX12_habit 10 = .ok (.invokestatic 260, 3) := by decide +kernel
theorem dX12_habit_13 : decode cX12_habit 13 = .ok (.ifCond .ne 7, 3) := by decide +kernel
theorem dX12_habit_16 : decode cX12_habit 16 = .ok (.iconst 1, 1) := by decide +kernel
theorem dX12_habit_17 : decode cX12_habit 17 = .ok (.goto 4, 3) := by decide +kernel
theorem dX12_habit_20 : decode cX12_habit 20 = .ok (.iconst 0, 1) := by decide +kernel
theorem dX12_habit_21 : decode cX12_habit 21 = .ok (.putfield 56, 3) := by decide +kernel
theorem dX12_habit_24 : decode cX12_habit 24 = .ok (.aload_n 0, 1) := by decide +kernel
theorem dX12_habit_25 : decode cX12_habit 25 = .ok (.getfield 56, 3) := by decide +kernel
theorem dX12_habit_28 : decode cX12_habit 28 = .ok (.ifCond .le 7, 3) := by decide +kernel
theorem dX12_habit_31 : decode cX12_habit 31 = .ok (.iconst 0, 1) := by decide +kernel
theorem dX12_habit_32 : decode cX12_habit 32 = .ok (.goto 9, 3) := by decide +kernel
theorem dX12_habit_35 : decode cX12_habit 35 = .ok (.aload_n 0, 1) := by decide +kernel
theorem dX12_habit_36 : decode cX12_habit 36 = .ok (.iload_n 1, 1) := by decide +kernel
theorem dX12_habit_37 : decode cX12_habit 37 = .ok (.iload_n 2, 1) := by decide +kernel
theorem dX12_habit_38 : decode cX12_habit 38 = .ok (.invokevirtual 269, 3) := by decide +kernel
theorem dX12_habit_41 : decode cX12_habit 41 = .ok (.ireturn, 1) := by decide +kernel
theorem dX12_tiedTo_0 : decode cX12_tiedTo 0 = .ok (.iconst 0, 1) := by decide +kernel
theorem dX12_tiedTo_1 : decode cX12_tiedTo 1 = .ok (.istore_n 2, 1) := by decide +kernel
theorem dX12_tiedTo_2 : decode cX12_tiedTo 2 = .ok (.iconst 0, 1) := by decide +kernel
theorem dX12_tiedTo_3 : decode cX12_tiedTo 3 = .ok (.istore_n 3, 1) := by decide +kernel
theorem dX12_tiedTo_4 : decode cX12_tiedTo 4 = .ok (.iload_n 3, 1) := by decide +kernel
theorem dX12_tiedTo_5 : decode cX12_tiedTo 5 = .ok (.aload_n 0, 1) := by decide +kernel
theorem dX12_tiedTo_6 : decode cX12_tiedTo 6 = .ok (.getfield 7, 3) := by decide +kernel
theorem dX12_tiedTo_9 : decode cX12_tiedTo 9 = .ok (.iconst 5, 1) := by decide +kernel
theorem dX12_tiedTo_10 : decode cX12_tiedTo 10 = .ok (.iaload, 1) := by decide +kernel
theorem dX12_tiedTo_11 : decode cX12_tiedTo 11 = .ok (.if_icmp .ge 28, 3) := by decide +kernel
theorem dX12_tiedTo_14 : decode cX12_tiedTo 14 = .ok (.iload_n 2, 1) := by decide +kernel
theorem dX12_tiedTo_15 : decode cX12_tiedTo 15 = .ok (.aload_n 0, 1) := by decide +kernel
theorem dX12_tiedTo_16 : decode cX12_tiedTo 16 = .ok (.iload_n 1, 1) := by decide +kernel
theorem dX12_tiedTo_17 : decode cX12_tiedTo 17 = .ok (.iload_n 3, 1) := by decide +kernel
theorem dX12_tiedTo_18 : decode cX12_tiedTo 18 = .ok (.invokevirtual 148, 3) := by decide +kernel
theorem dX12_tiedTo_21 : decode cX12_tiedTo 21 = .ok (.ifCond .eq 9, 3) := by decide +kernel
theorem dX12_tiedTo_24 : decode cX12_tiedTo 24 = .ok (.iconst 1, 1) := by decide +kernel
theorem dX12_tiedTo_25 : decode cX12_tiedTo 25 = .ok (.iload_n 3, 1) := by decide +kernel
theorem dX12_tiedTo_26 : decode cX12_tiedTo 26 = .ok (.ishl, 1) := by decide +kernel
theorem dX12_tiedTo_27 : decode cX12_tiedTo 27 = .ok (.goto 4, 3) := by decide +kernel
theorem dX12_tiedTo_30 : decode cX12_tiedTo 30 = .ok (.iconst 0, 1) := by decide +kernel
theorem dX12_tiedTo_31 : decode cX12_tiedTo 31 = .ok (.ior, 1) := by decide +kernel
theorem dX12_tiedTo_32 : decode cX12_tiedTo 32 = .ok (.istore_n 2, 1) := by decide +kernel
theorem dX12_tiedTo_33 : decode cX12_tiedTo 33 = .ok (.iinc 3 1, 3) := by decide +kernel
theorem dX12_tiedTo_36 : decode cX12_tiedTo 36 = .ok (.goto (-32), 3) := by decide +kernel
theorem dX12_tiedTo_39 : decode cX12_tiedTo 39 = .ok (.iload_n 2, 1) := by decide +kernel
theorem dX12_tiedTo_40 : decode cX12_tiedTo 40 = .ok (.ireturn, 1) := by decide +kernel
theorem dX12_person_0 : decode cX12_person 0 = .ok (.aload_n 0, 1) := by decide +kernel
theorem dX12_person_1 : decode cX12_person 1 = .ok (.aload_n 0, 1) := by decide +kernel
theorem dX12_person_2 : decode cX12_person 2 = .ok (.iload_n 1, 1) := by decide +kernel
theorem dX12_person_3 : decode cX12_person 3 = .ok (.invokevirtual 271, 3) := by decide +kernel
theorem dX12_person_6 : decode cX12_person 6 = .ok (.ifCond .ne 7, 3) := by decide +kernel
theorem dX12_person_9 : decode cX12_person 9 = .ok (.iconst 1, 1) := by decide +kernel
theorem dX12_person_10 : decode cX12_person 10 = .ok (.goto 18, 3) := by decide +kernel
theorem dX12_person_13 : decode cX12_person 13 = .ok (.iload_n 2, 1) := by decide +kernel
theorem dX12_person_14 : decode cX12_person 14 = .ok (.iconst 0, 1) := by decide +kernel
theorem dX12_person_15 : decode cX12_person 15 = .ok (.bipush 6, 2) := by decide +kernel
theorem dX12_person_17 : decode cX12_person 17 = .ok (.invokestatic 59, 3) := by decide +kernel
theorem dX12_person_20 : decode cX12_person 20 = .ok (.ifCond .ne 7, 3) := by decide +kernel
theorem dX12_person_23 : decode cX12_person 23 = .ok (.iconst 2, 1) := by decide +kernel
theorem dX12_person_24 : decode cX12_person 24 = .ok (.goto 4, 3) := by decide +kernel
theorem dX12_person_27 : decode cX12_person 27 = .ok (.iconst 0, 1) := by decide +kernel
theorem dX12_person_28 : decode cX12_person 28 = .ok (.putfield 56, 3) := by decide +kernel
theorem dX12_person_31 : decode cX12_person 31 = .ok (.aload_n 0, 1) := by decide +kernel
theorem dX12_person_32 : decode cX12_person 32 = .ok (.getfield 56, 3) := by decide +kernel
theorem dX12_person_35 : decode cX12_person 35 = .ok (.ifCond .le 5, 3) := by decide +kernel
theorem dX12_person_38 : decode cX12_person 38 = .ok (.iconst 0, 1) := by decide +kernel
theorem dX12_person_39 : decode cX12_person 39 = .ok (.ireturn, 1) := by decide +kernel
theorem dX12_person_40 : decode cX12_person 40 = .ok (.iload_n 2, 1) := by decide +kernel
theorem dX12_person_41 : decode cX12_person 41 = .ok (.iconst 5, 1) := by decide +kernel
theorem dX12_person_42 : decode cX12_person 42 = .ok (.if_icmp .ge 12, 3) := by decide +kernel
theorem dX12_person_45 : decode cX12_person 45 = .ok (.aload_n 0, 1) := by decide +kernel
theorem dX12_person_46 : decode cX12_person 46 = .ok (.iload_n 1, 1) := by decide +kernel
theorem dX12_person_47 : decode cX12_person 47 = .ok (.iload_n 2, 1) := by decide +kernel
theorem dX12_person_48 : decode cX12_person 48 = .ok (.invokevirtual 257, 3) := by decide +kernel
theorem dX12_person_51 : decode cX12_person 51 = .ok (.goto 22, 3) := by decide +kernel
theorem dX12_person_54 : decode cX12_person 54 = .ok (.iload_n 2, 1) := by decide +kernel
theorem dX12_person_55 : decode cX12_person 55 = .ok (.iconst 5, 1) := by decide +kernel
theorem dX12_person_56 : decode cX12_person 56 = .ok (.if_icmp .ne 11, 3) := by decide +kernel
theorem dX12_person_59 : decode cX12_person 59 = .ok (.aload_n 0, 1) := by decide +kernel
theorem dX12_person_60 : decode cX12_person 60 = .ok (.iload_n 1, 1) := by decide +kernel
theorem dX12_person_61 : decode cX12_person 61 = .ok (.invokevirtual 274, 3) := by decide +kernel
theorem dX12_person_64 : decode cX12_person 64 = .ok (.goto 9, 3) := by decide +kernel
theorem dX12_person_67 : decode cX12_person 67 = .ok (.aload_n 0, 1) := by decide +kernel
theorem dX12_person_68 : decode cX12_person 68 = .ok (.iload_n 1, 1) := by decide +kernel
theorem dX12_person_69 : decode cX12_person 69 = .ok (.iconst 5, 1) := by decide +kernel
theorem dX12_person_70 : decode cX12_person 70 = .ok (.invokevirtual 257, 3) := by decide +kernel
theorem dX12_person_73 : decode cX12_person 73 = .ok (.ireturn, 1) := by decide +kernel
theorem dX12_two_0 : decode cX12_two 0 = .ok (.aload_n 0, 1) := by decide +kernel
theorem dX12_two_1 : decode cX12_two 1 = .ok (.iload_n 1, 1) := by decide +kernel
theorem dX12_two_2 : decode cX12_two 2 = .ok (.invokevirtual 271, 3) := by decide +kernel
theorem dX12_two_5 : decode cX12_two 5 = .ok (.ifCond .eq 11, 3) := by decide +kernel
theorem dX12_two_8 : decode cX12_two 8 = .ok (.aload_n 0, 1) := by decide +kernel
theorem dX12_two_9 : decode cX12_two 9 = .ok (.iload_n 2, 1) := by decide +kernel
theorem dX12_two_10 : decode cX12_two 10 = .ok (.invokevirtual 271, 3) := by decide +kernel
theorem dX12_two_13 : decode cX12_two 13 = .ok (.ifCond .ne 7, 3) := by decide +kernel
theorem dX12_two_16 : decode cX12_two 16 = .ok (.iconst 1, 1) := by decide +kernel
theorem dX12_two_17 : decode cX12_two 17 = .ok (.goto 13, 3) := by decide +kernel
theorem dX12_two_20 : decode cX12_two 20 = .ok (.iload_n 1, 1) := by decide +kernel
theorem dX12_two_21 : decode cX12_two 21 = .ok (.iload_n 2, 1) := by decide +kernel
theorem dX12_two_22 : decode cX12_two 22 = .ok (.if_icmp .ne 7, 3) := by decide +kernel
theorem dX12_two_25 : decode cX12_two 25 = .ok (.iconst 2, 1) := by decide +kernel
theorem dX12_two_26 : decode cX12_two 26 = .ok (.goto 4, 3) := by decide +kernel
theorem dX12_two_29 : decode cX12_two 29 = .ok (.iconst 0, 1) := by decide +kernel
theorem dX12_two_30 : decode cX12_two 30 = .ok (.ireturn, 1) := by decide +kernel
theorem dX12_saw_0 : decode cX12_saw 0 = .ok (.aload_n 0, 1) := by decide +kernel
theorem dX12_saw_1 : decode cX12_saw 1 = .ok (.aload_n 0, 1) := by decide +kernel
theorem dX12_saw_2 : decode cX12_saw 2 = .ok (.iload_n 1, 1) := by decide +kernel
theorem dX12_saw_3 : decode cX12_saw 3 = .ok (.iload_n 2, 1) := by decide +kernel
theorem dX12_saw_4 : decode cX12_saw 4 = .ok (.invokevirtual 277, 3) := by decide +kernel
theorem dX12_saw_7 : decode cX12_saw 7 = .ok (.putfield 56, 3) := by decide +kernel
theorem dX12_saw_10 : decode cX12_saw 10 = .ok (.aload_n 0, 1) := by decide +kernel
theorem dX12_saw_11 : decode cX12_saw 11 = .ok (.getfield 56, 3) := by decide +kernel
theorem dX12_saw_14 : decode cX12_saw 14 = .ok (.ifCond .le 5, 3) := by decide +kernel
theorem dX12_saw_17 : decode cX12_saw 17 = .ok (.iconst 0, 1) := by decide +kernel
theorem dX12_saw_18 : decode cX12_saw 18 = .ok (.ireturn, 1) := by decide +kernel
theorem dX12_saw_19 : decode cX12_saw 19 = .ok (.aload_n 0, 1) := by decide +kernel
theorem dX12_saw_20 : decode cX12_saw 20 = .ok (.getfield 7, 3) := by decide +kernel
theorem dX12_saw_23 : decode cX12_saw 23 = .ok (.iload_n 3, 1) := by decide +kernel
theorem dX12_saw_24 : decode cX12_saw 24 = .ok (.ifCond .eq 9, 3) := by decide +kernel
theorem dX12_saw_27 : decode cX12_saw 27 = .ok (.sipush 172, 3) := by decide +kernel
theorem dX12_saw_30 : decode cX12_saw 30 = .ok (.goto 6, 3) := by decide +kernel
theorem dX12_saw_33 : decode cX12_saw 33 = .ok (.sipush 272, 3) := by decide +kernel
theorem dX12_saw_36 : decode cX12_saw 36 = .ok (.bipush 10, 2) := by decide +kernel
theorem dX12_saw_38 : decode cX12_saw 38 = .ok (.iload_n 1, 1) := by decide +kernel
theorem dX12_saw_39 : decode cX12_saw 39 = .ok (.imul, 1) := by decide +kernel
theorem dX12_saw_40 : decode cX12_saw 40 = .ok (.iadd, 1) := by decide +kernel
theorem dX12_saw_41 : decode cX12_saw 41 = .ok (.iload_n 2, 1) := by decide +kernel
theorem dX12_saw_42 : decode cX12_saw 42 = .ok (.iadd, 1) := by decide +kernel
theorem dX12_saw_43 : decode cX12_saw 43 = .ok (.iaload, 1) := by decide +kernel
theorem dX12_saw_44 : decode cX12_saw 44 = .ok (.ireturn, 1) := by decide +kernel
theorem dX12_tie_0 : decode cX12_tie 0 = .ok (.aload_n 0, 1) := by decide +kernel
theorem dX12_tie_1 : decode cX12_tie 1 = .ok (.iload_n 1, 1) := by decide +kernel
theorem dX12_tie_2 : decode cX12_tie 2 = .ok (.iconst 0, 1) := by decide +kernel
theorem dX12_tie_3 : decode cX12_tie 3 = .ok (.aload_n 0, 1) := by decide +kernel
theorem dX12_tie_4 : decode cX12_tie 4 = .ok (.getfield 7, 3) := by decide +kernel
theorem dX12_tie_7 : decode cX12_tie 7 = .ok (.bipush 6, 2) := by decide +kernel
theorem dX12_tie_9 : decode cX12_tie 9 = .ok (.iaload, 1) := by decide +kernel
theorem dX12_tie_10 : decode cX12_tie 10 = .ok (.iconst 1, 1) := by decide +kernel
theorem dX12_tie_11 : decode cX12_tie 11 = .ok (.isub, 1) := by decide +kernel
theorem dX12_tie_12 : decode cX12_tie 12 = .ok (.invokestatic 59, 3) := by decide +kernel
theorem dX12_tie_15 : decode cX12_tie 15 = .ok (.ifCond .ne 7, 3) := by decide +kernel
theorem dX12_tie_18 : decode cX12_tie 18 = .ok (.iconst 1, 1) := by decide +kernel
theorem dX12_tie_19 : decode cX12_tie 19 = .ok (.goto 4, 3) := by decide +kernel
theorem dX12_tie_22 : decode cX12_tie 22 = .ok (.iconst 0, 1) := by decide +kernel
theorem dX12_tie_23 : decode cX12_tie 23 = .ok (.putfield 56, 3) := by decide +kernel
theorem dX12_tie_26 : decode cX12_tie 26 = .ok (.aload_n 0, 1) := by decide +kernel
theorem dX12_tie_27 : decode cX12_tie 27 = .ok (.getfield 56, 3) := by decide +kernel
theorem dX12_tie_30 : decode cX12_tie 30 = .ok (.ifCond .le 5, 3) := by decide +kernel
theorem dX12_tie_33 : decode cX12_tie 33 = .ok (.iconst 0, 1) := by decide +kernel
theorem dX12_tie_34 : decode cX12_tie 34 = .ok (.ireturn, 1) := by decide +kernel
theorem dX12_tie_35 : decode cX12_tie 35 = .ok (.iload_n 2, 1) := by decide +kernel
theorem dX12_tie_36 : decode cX12_tie 36 = .ok (.ifCond .eq 11, 3) := by decide +kernel
theorem dX12_tie_39 : decode cX12_tie 39 = .ok (.aload_n 0, 1) := by decide +kernel
theorem dX12_tie_40 : decode cX12_tie 40 = .ok (.iload_n 1, 1) := by decide +kernel
theorem dX12_tie_41 : decode cX12_tie 41 = .ok (.invokevirtual 67, 3) := by decide +kernel
theorem dX12_tie_44 : decode cX12_tie 44 = .ok (.goto 8, 3) := by decide +kernel
theorem dX12_tie_47 : decode cX12_tie 47 = .ok (.aload_n 0, 1) := by decide +kernel
theorem dX12_tie_48 : decode cX12_tie 48 = .ok (.iload_n 1, 1) := by decide +kernel
theorem dX12_tie_49 : decode cX12_tie 49 = .ok (.invokevirtual 63, 3) := by decide +kernel
theorem dX12_tie_52 : decode cX12_tie 52 = .ok (.ireturn, 1) := by decide +kernel
theorem dX12_will_0 : decode cX12_will 0 = .ok (.aload_n 0, 1) := by decide +kernel
theorem dX12_will_1 : decode cX12_will 1 = .ok (.aload_n 0, 1) := by decide +kernel
theorem dX12_will_2 : decode cX12_will 2 = .ok (.iload_n 1, 1) := by decide +kernel
theorem dX12_will_3 : decode cX12_will 3 = .ok (.iload_n 2, 1) := by decide +kernel
theorem dX12_will_4 : decode cX12_will 4 = .ok (.invokevirtual 277, 3) := by decide +kernel
theorem dX12_will_7 : decode cX12_will 7 = .ok (.putfield 56, 3) := by decide +kernel
theorem dX12_will_10 : decode cX12_will 10 = .ok (.aload_n 0, 1) := by decide +kernel
theorem dX12_will_11 : decode cX12_will 11 = .ok (.getfield 56, 3) := by decide +kernel
theorem dX12_will_14 : decode cX12_will 14 = .ok (.ifCond .le 7, 3) := by decide +kernel
theorem dX12_will_17 : decode cX12_will 17 = .ok (.iconst 0, 1) := by decide +kernel
theorem dX12_will_18 : decode cX12_will 18 = .ok (.goto 9, 3) := by decide +kernel
theorem dX12_will_21 : decode cX12_will 21 = .ok (.aload_n 0, 1) := by decide +kernel
theorem dX12_will_22 : decode cX12_will 22 = .ok (.iload_n 1, 1) := by decide +kernel
theorem dX12_will_23 : decode cX12_will 23 = .ok (.iload_n 2, 1) := by decide +kernel
theorem dX12_will_24 : decode cX12_will 24 = .ok (.invokevirtual 280, 3) := by decide +kernel
theorem dX12_will_27 : decode cX12_will 27 = .ok (.ireturn, 1) := by decide +kernel
theorem dX12_remembers_0 : decode cX12_remembers 0 = .ok (.aload_n 0, 1) := by decide +kernel
theorem dX12_remembers_1 : decode cX12_remembers 1 = .ok (.getfield 207, 3) := by decide +kernel
theorem dX12_remembers_4 : decode cX12_remembers 4 = .ok (.bipush 12, 2) := by decide +kernel
theorem dX12_remembers_6 : decode cX12_remembers 6 = .ok (.if_icmp .ne 44, 3) := by decide +kernel
theorem dX12_remembers_9 : decode cX12_remembers 9 = .ok (.iconst 0, 1) := by decide +kernel
theorem dX12_remembers_10 : decode cX12_remembers 10 = .ok (.istore_n 1, 1) := by decide +kernel
theorem dX12_remembers_11 : decode cX12_remembers 11 = .ok (.iload_n 1, 1) := by decide +kernel
theorem dX12_remembers_12 : decode cX12_remembers 12 = .ok (.sipush 9900, 3) := by decide +kernel
theorem dX12_remembers_15 : decode cX12_remembers 15 = .ok (.if_icmp .ge 25, 3) := by decide +kernel
theorem dX12_remembers_18 : decode cX12_remembers 18 = .ok (.aload_n 0, 1) := by decide +kernel
theorem dX12_remembers_19 : decode cX12_remembers 19 = .ok (.getfield 19, 3) := by decide +kernel
theorem dX12_remembers_22 : decode cX12_remembers 22 = .ok (.iload_n 1, 1) := by decide +kernel
theorem dX12_remembers_23 : decode cX12_remembers 23 = .ok (.aload_n 0, 1) := by decide +kernel
theorem dX12_remembers_24 : decode cX12_remembers 24 = .ok (.getfield 19, 3) := by decide +kernel
theorem dX12_remembers_27 : decode cX12_remembers 27 = .ok (.iload_n 1, 1) := by decide +kernel
theorem dX12_remembers_28 : decode cX12_remembers 28 = .ok (.sipush 900, 3) := by decide +kernel
theorem dX12_remembers_31 : decode cX12_remembers 31 = .ok (.iadd, 1) := by decide +kernel
theorem dX12_remembers_32 : decode cX12_remembers 32 = .ok (.iaload, 1) := by decide +kernel
theorem dX12_remembers_33 : decode cX12_remembers 33 = .ok (.iastore, 1) := by decide +kernel
theorem dX12_remembers_34 : decode cX12_remembers 34 = .ok (.iinc 1 1, 3) := by decide +kernel
theorem dX12_remembers_37 : decode cX12_remembers 37 = .ok (.goto (-26), 3) := by decide +kernel
theorem dX12_remembers_40 : decode cX12_remembers 40 = .ok (.aload_n 0, 1) := by decide +kernel
theorem dX12_remembers_41 : decode cX12_remembers 41 = .ok (.dup, 1) := by decide +kernel
theorem dX12_remembers_42 : decode cX12_remembers 42 = .ok (.getfield 207, 3) := by decide +kernel
theorem dX12_remembers_45 : decode cX12_remembers 45 = .ok (.iconst 1, 1) := by decide +kernel
theorem dX12_remembers_46 : decode cX12_remembers 46 = .ok (.isub, 1) := by decide +kernel
theorem dX12_remembers_47 : decode cX12_remembers 47 = .ok (.putfield 207, 3) := by decide +kernel
theorem dX12_remembers_50 : decode cX12_remembers 50 = .ok (.iconst 0, 1) := by decide +kernel
theorem dX12_remembers_51 : decode cX12_remembers 51 = .ok (.istore_n 1, 1) := by decide +kernel
theorem dX12_remembers_52 : decode cX12_remembers 52 = .ok (.iload_n 1, 1) := by decide +kernel
theorem dX12_remembers_53 : decode cX12_remembers 53 = .ok (.sipush 900, 3) := by decide +kernel
theorem dX12_remembers_56 : decode cX12_remembers 56 = .ok (.if_icmp .ge 30, 3) := by decide +kernel
theorem dX12_remembers_59 : decode cX12_remembers 59 = .ok (.aload_n 0, 1) := by decide +kernel
theorem dX12_remembers_60 : decode cX12_remembers 60 = .ok (.getfield 19, 3) := by decide +kernel
theorem dX12_remembers_63 : decode cX12_remembers 63 = .ok (.sipush 900, 3) := by decide +kernel
theorem dX12_remembers_66 : decode cX12_remembers 66 = .ok (.aload_n 0, 1) := by decide +kernel
theorem dX12_remembers_67 : decode cX12_remembers 67 = .ok (.getfield 207, 3) := by decide +kernel
theorem dX12_remembers_70 : decode cX12_remembers 70 = .ok (.imul, 1) := by decide +kernel
theorem dX12_remembers_71 : decode cX12_remembers 71 = .ok (.iload_n 1, 1) := by decide +kernel
theorem dX12_remembers_72 : decode cX12_remembers 72 = .ok (.iadd, 1) := by decide +kernel
theorem dX12_remembers_73 : decode cX12_remembers 73 = .ok (.aload_n 0, 1) := by decide +kernel
theorem dX12_remembers_74 : decode cX12_remembers 74 = .ok (.getfield 7, 3) := by decide +kernel
theorem dX12_remembers_77 : decode cX12_remembers 77 = .ok (.iload_n 1, 1) := by decide +kernel
theorem dX12_remembers_78 : decode cX12_remembers 78 = .ok (.iaload, 1) := by decide +kernel
theorem dX12_remembers_79 : decode cX12_remembers 79 = .ok (.iastore, 1) := by decide +kernel
theorem dX12_remembers_80 : decode cX12_remembers 80 = .ok (.iinc 1 1, 3) := by decide +kernel
theorem dX12_remembers_83 : decode cX12_remembers 83 = .ok (.goto (-31), 3) := by decide +kernel
theorem dX12_remembers_86 : decode cX12_remembers 86 = .ok (.aload_n 0, 1) := by decide +kernel
theorem dX12_remembers_87 : decode cX12_remembers 87 = .ok (.dup, 1) := by decide +kernel
theorem dX12_remembers_88 : decode cX12_remembers 88 = .ok (.getfield 207, 3) := by decide +kernel
theorem dX12_remembers_91 : decode cX12_remembers 91 = .ok (.iconst 1, 1) := by decide +kernel
theorem dX12_remembers_92 : decode cX12_remembers 92 = .ok (.iadd, 1) := by decide +kernel
theorem dX12_remembers_93 : decode cX12_remembers 93 = .ok (.putfield 207, 3) := by decide +kernel
theorem dX12_remembers_96 : decode cX12_remembers 96 = .ok (.return_, 1) := by decide +kernel
theorem dX12_isBent_0 : decode cX12_isBent 0 = .ok (.aload_n 0, 1) := by decide +kernel
theorem dX12_isBent_1 : decode cX12_isBent 1 = .ok (.getfield 7, 3) := by decide +kernel
theorem dX12_isBent_4 : decode cX12_isBent 4 = .ok (.bipush 16, 2) := by decide +kernel
theorem dX12_isBent_6 : decode cX12_isBent 6 = .ok (.ldc_w 283, 3) := by decide +kernel
theorem dX12_isBent_9 : decode cX12_isBent 9 = .ok (.aload_n 0, 1) := by decide +kernel
theorem dX12_isBent_10 : decode cX12_isBent 10 = .ok (.getfield 7, 3) := by decide +kernel
theorem dX12_isBent_13 : decode cX12_isBent 13 = .ok (.bipush 16, 2) := by decide +kernel
theorem dX12_isBent_15 : decode cX12_isBent 15 = .ok (.iaload, 1) := by decide +kernel
theorem dX12_isBent_16 : decode cX12_isBent 16 = .ok (.imul, 1) := by decide +kernel
theorem dX12_isBent_17 : decode cX12_isBent 17 = .ok (.sipush 12345, 3) := by decide +kernel
theorem dX12_isBent_20 : decode cX12_isBent 20 = .ok (.iadd, 1) := by decide +kernel
theorem dX12_isBent_21 : decode cX12_isBent 21 = .ok (.iastore, 1) := by decide +kernel
theorem dX12_isBent_22 : decode cX12_isBent 22 = .ok (.aload_n 0, 1) := by decide +kernel
theorem dX12_isBent_23 : decode cX12_isBent 23 = .ok (.getfield 7, 3) := by decide +kernel
theorem dX12_isBent_26 : decode cX12_isBent 26 = .ok (.bipush 16, 2) := by decide +kernel
theorem dX12_isBent_28 : decode cX12_isBent 28 = .ok (.iaload, 1) := by decide +kernel
theorem dX12_isBent_29 : decode cX12_isBent 29 = .ok (.bipush 16, 2) := by decide +kernel
theorem dX12_isBent_31 : decode cX12_isBent 31 = .ok (.iushr, 1) := by decide +kernel
theorem dX12_isBent_32 : decode cX12_isBent 32 = .ok (.sipush 32767, 3) := by decide +kernel
theorem dX12_isBent_35 : decode cX12_isBent 35 = .ok (.iand, 1) := by decide +kernel
theorem dX12_isBent_36 : decode cX12_isBent 36 = .ok (.bipush 100, 2) := by decide +kernel
theorem dX12_isBent_38 : decode cX12_isBent 38 = .ok (.irem, 1) := by decide +kernel
theorem dX12_isBent_39 : decode cX12_isBent 39 = .ok (.aload_n 0, 1) := by decide +kernel
theorem dX12_isBent_40 : decode cX12_isBent 40 = .ok (.iload_n 1, 1) := by decide +kernel
theorem dX12_isBent_41 : decode cX12_isBent 41 = .ok (.iconst 3, 1) := by decide +kernel
theorem dX12_isBent_42 : decode cX12_isBent 42 = .ok (.invokevirtual 257, 3) := by decide +kernel
theorem dX12_isBent_45 : decode cX12_isBent 45 = .ok (.if_icmp .ge 7, 3) := by decide +kernel
theorem dX12_isBent_48 : decode cX12_isBent 48 = .ok (.iconst 1, 1) := by decide +kernel
theorem dX12_isBent_49 : decode cX12_isBent 49 = .ok (.goto 4, 3) := by decide +kernel
theorem dX12_isBent_52 : decode cX12_isBent 52 = .ok (.iconst 0, 1) := by decide +kernel
theorem dX12_isBent_53 : decode cX12_isBent 53 = .ok (.ireturn, 1) := by decide +kernel
theorem dX12_sees_0 : decode cX12_sees 0 = .ok (.aload_n 0, 1) := by decide +kernel
theorem dX12_sees_1 : decode cX12_sees 1 = .ok (.iload_n 1, 1) := by decide +kernel
theorem dX12_sees_2 : decode cX12_sees 2 = .ok (.iload_n 2, 1) := by decide +kernel
theorem dX12_sees_3 : decode cX12_sees 3 = .ok (.aload_n 0, 1) := by decide +kernel
theorem dX12_sees_4 : decode cX12_sees 4 = .ok (.getfield 7, 3) := by decide +kernel
theorem dX12_sees_7 : decode cX12_sees 7 = .ok (.sipush 172, 3) := by decide +kernel
theorem dX12_sees_10 : decode cX12_sees 10 = .ok (.bipush 10, 2) := by decide +kernel
theorem dX12_sees_12 : decode cX12_sees 12 = .ok (.iload_n 1, 1) := by decide +kernel
theorem dX12_sees_13 : decode cX12_sees 13 = .ok (.imul, 1) := by decide +kernel
theorem dX12_sees_14 : decode cX12_sees 14 = .ok (.iadd, 1) := by decide +kernel
theorem dX12_sees_15 : decode cX12_sees 15 = .ok (.iload_n 2, 1) := by decide +kernel
theorem dX12_sees_16 : decode cX12_sees 16 = .ok (.iadd, 1) := by decide +kernel
theorem dX12_sees_17 : decode cX12_sees 17 = .ok (.iaload, 1) := by decide +kernel
theorem dX12_sees_18 : decode cX12_sees 18 = .ok (.iconst 1, 1) := by decide +kernel
theorem dX12_sees_19 : decode cX12_sees 19 = .ok (.iadd, 1) := by decide +kernel
theorem dX12_sees_20 : decode cX12_sees 20 = .ok (.iload_n 3, 1) := by decide +kernel
theorem dX12_sees_21 : decode cX12_sees 21 = .ok (.invokevirtual 144, 3) := by decide +kernel
theorem dX12_sees_24 : decode cX12_sees 24 = .ok (.aload_n 0, 1) := by decide +kernel
theorem dX12_sees_25 : decode cX12_sees 25 = .ok (.iload_n 1, 1) := by decide +kernel
theorem dX12_sees_26 : decode cX12_sees 26 = .ok (.bipush 6, 2) := by decide +kernel
theorem dX12_sees_28 : decode cX12_sees 28 = .ok (.invokevirtual 257, 3) := by decide +kernel
theorem dX12_sees_31 : decode cX12_sees 31 = .ok (.iload_n 3, 1) := by decide +kernel
theorem dX12_sees_32 : decode cX12_sees 32 = .ok (.if_icmp .ne 21, 3) := by decide +kernel
theorem dX12_sees_35 : decode cX12_sees 35 = .ok (.aload_n 0, 1) := by decide +kernel
theorem dX12_sees_36 : decode cX12_sees 36 = .ok (.iload_n 1, 1) := by decide +kernel
theorem dX12_sees_37 : decode cX12_sees 37 = .ok (.bipush 7, 2) := by decide +kernel
theorem dX12_sees_39 : decode cX12_sees 39 = .ok (.invokevirtual 257, 3) := by decide +kernel
theorem dX12_sees_42 : decode cX12_sees 42 = .ok (.iload_n 3, 1) := by decide +kernel
theorem dX12_sees_43 : decode cX12_sees 43 = .ok (.if_icmp .ne 10, 3) := by decide +kernel
theorem dX12_sees_46 : decode cX12_sees 46 = .ok (.aload_n 0, 1) := by decide +kernel
theorem dX12_sees_47 : decode cX12_sees 47 = .ok (.iload_n 1, 1) := by decide +kernel
theorem dX12_sees_48 : decode cX12_sees 48 = .ok (.iconst 1, 1) := by decide +kernel
theorem dX12_sees_49 : decode cX12_sees 49 = .ok (.iload_n 3, 1) := by decide +kernel
theorem dX12_sees_50 : decode cX12_sees 50 = .ok (.invokevirtual 141, 3) := by decide +kernel
theorem dX12_sees_53 : decode cX12_sees 53 = .ok (.aload_n 0, 1) := by decide +kernel
theorem dX12_sees_54 : decode cX12_sees 54 = .ok (.iload_n 1, 1) := by decide +kernel
theorem dX12_sees_55 : decode cX12_sees 55 = .ok (.bipush 7, 2) := by decide +kernel
theorem dX12_sees_57 : decode cX12_sees 57 = .ok (.aload_n 0, 1) := by decide +kernel
theorem dX12_sees_58 : decode cX12_sees 58 = .ok (.iload_n 1, 1) := by decide +kernel
theorem dX12_sees_59 : decode cX12_sees 59 = .ok (.bipush 6, 2) := by decide +kernel
theorem dX12_sees_61 : decode cX12_sees 61 = .ok (.invokevirtual 257, 3) := by decide +kernel
theorem dX12_sees_64 : decode cX12_sees 64 = .ok (.invokevirtual 141, 3) := by decide +kernel
theorem dX12_sees_67 : decode cX12_sees 67 = .ok (.aload_n 0, 1) := by decide +kernel
theorem dX12_sees_68 : decode cX12_sees 68 = .ok (.iload_n 1, 1) := by decide +kernel
theorem dX12_sees_69 : decode cX12_sees 69 = .ok (.bipush 6, 2) := by decide +kernel
theorem dX12_sees_71 : decode cX12_sees 71 = .ok (.iload_n 3, 1) := by decide +kernel
theorem dX12_sees_72 : decode cX12_sees 72 = .ok (.invokevirtual 141, 3) := by decide +kernel
theorem dX12_sees_75 : decode cX12_sees 75 = .ok (.aload_n 0, 1) := by decide +kernel
theorem dX12_sees_76 : decode cX12_sees 76 = .ok (.iload_n 1, 1) := by decide +kernel
theorem dX12_sees_77 : decode cX12_sees 77 = .ok (.iconst 5, 1) := by decide +kernel
theorem dX12_sees_78 : decode cX12_sees 78 = .ok (.aload_n 0, 1) := by decide +kernel
theorem dX12_sees_79 : decode cX12_sees 79 = .ok (.iload_n 1, 1) := by decide +kernel
theorem dX12_sees_80 : decode cX12_sees 80 = .ok (.iconst 5, 1) := by decide +kernel
theorem dX12_sees_81 : decode cX12_sees 81 = .ok (.invokevirtual 257, 3) := by decide +kernel
theorem dX12_sees_84 : decode cX12_sees 84 = .ok (.iconst 1, 1) := by decide +kernel
theorem dX12_sees_85 : decode cX12_sees 85 = .ok (.iadd, 1) := by decide +kernel
theorem dX12_sees_86 : decode cX12_sees 86 = .ok (.invokevirtual 141, 3) := by decide +kernel
theorem dX12_sees_89 : decode cX12_sees 89 = .ok (.return_, 1) := by decide +kernel
theorem dX12_meeting_0 : decode cX12_meeting 0 = .ok (.iload_n 1, 1) := by decide +kernel
theorem dX12_meeting_1 : decode cX12_meeting 1 = .ok (.iload_n 2, 1) := by decide +kernel
theorem dX12_meeting_2 : decode cX12_meeting 2 = .ok (.invokestatic 284, 3) := by decide +kernel
theorem dX12_meeting_5 : decode cX12_meeting 5 = .ok (.istore_n 3, 1) := by decide +kernel
theorem dX12_meeting_6 : decode cX12_meeting 6 = .ok (.iload_n 1, 1) := by decide +kernel
theorem dX12_meeting_7 : decode cX12_meeting 7 = .ok (.iload_n 2, 1) := by decide +kernel
theorem dX12_meeting_8 : decode cX12_meeting 8 = .ok (.invokestatic 287, 3) := by decide +kernel
theorem dX12_meeting_11 : decode cX12_meeting 11 = .ok (.istore 4, 2) := by decide +kernel
theorem dX12_meeting_13 : decode cX12_meeting 13 = .ok (.aload_n 0, 1) := by decide +kernel
theorem dX12_meeting_14 : decode cX12_meeting 14 = .ok (.iload_n 3, 1) := by decide +kernel
theorem dX12_meeting_15 : decode cX12_meeting 15 = .ok (.iload 4, 2) := by decide +kernel
theorem dX12_meeting_17 : decode cX12_meeting 17 = .ok (.invokevirtual 280, 3) := by decide +kernel
theorem dX12_meeting_20 : decode cX12_meeting 20 = .ok (.istore 5, 2) := by decide +kernel
theorem dX12_meeting_22 : decode cX12_meeting 22 = .ok (.aload_n 0, 1) := by decide +kernel
theorem dX12_meeting_23 : decode cX12_meeting 23 = .ok (.iload 4, 2) := by decide +kernel
theorem dX12_meeting_25 : decode cX12_meeting 25 = .ok (.iload_n 3, 1) := by decide +kernel
theorem dX12_meeting_26 : decode cX12_meeting 26 = .ok (.invokevirtual 280, 3) := by decide +kernel
theorem dX12_meeting_29 : decode cX12_meeting 29 = .ok (.istore 6, 2) := by decide +kernel
theorem dX12_meeting_31 : decode cX12_meeting 31 = .ok (.aload_n 0, 1) := by decide +kernel
theorem dX12_meeting_32 : decode cX12_meeting 32 = .ok (.iload 5, 2) := by decide +kernel
theorem dX12_meeting_34 : decode cX12_meeting 34 = .ok (.iload 6, 2) := by decide +kernel
theorem dX12_meeting_36 : decode cX12_meeting 36 = .ok (.invokevirtual 263, 3) := by decide +kernel
theorem dX12_meeting_39 : decode cX12_meeting 39 = .ok (.istore 7, 2) := by decide +kernel
theorem dX12_meeting_41 : decode cX12_meeting 41 = .ok (.aload_n 0, 1) := by decide +kernel
theorem dX12_meeting_42 : decode cX12_meeting 42 = .ok (.iload 4, 2) := by decide +kernel
theorem dX12_meeting_44 : decode cX12_meeting 44 = .ok (.iconst 2, 1) := by decide +kernel
theorem dX12_meeting_45 : decode cX12_meeting 45 = .ok (.invokevirtual 257, 3) := by decide +kernel
theorem dX12_meeting_48 : decode cX12_meeting 48 = .ok (.aload_n 0, 1) := by decide +kernel
theorem dX12_meeting_49 : decode cX12_meeting 49 = .ok (.iload_n 3, 1) := by decide +kernel
theorem dX12_meeting_50 : decode cX12_meeting 50 = .ok (.iconst 2, 1) := by decide +kernel
theorem dX12_meeting_51 : decode cX12_meeting 51 = .ok (.invokevirtual 257, 3) := by decide +kernel
theorem dX12_meeting_54 : decode cX12_meeting 54 = .ok (.if_icmp .ge 8, 3) := by decide +kernel
theorem dX12_meeting_57 : decode cX12_meeting 57 = .ok (.iload 4, 2) := by decide +kernel
theorem dX12_meeting_59 : decode cX12_meeting 59 = .ok (.goto 4, 3) := by decide +kernel
theorem dX12_meeting_62 : decode cX12_meeting 62 = .ok (.iload_n 3, 1) := by decide +kernel
theorem dX12_meeting_63 : decode cX12_meeting 63 = .ok (.istore 8, 2) := by decide +kernel
theorem dX12_meeting_65 : decode cX12_meeting 65 = .ok (.iconst (-1), 1) := by decide +kernel
theorem dX12_meeting_66 : decode cX12_meeting 66 = .ok (.istore 9, 2) := by decide +kernel
theorem dX12_meeting_68 : decode cX12_meeting 68 = .ok (.iload 7, 2) := by decide +kernel
theorem dX12_meeting_70 : decode cX12_meeting 70 = .ok (.ifCond .le 19, 3) := by decide +kernel
theorem dX12_meeting_73 : decode cX12_meeting 73 = .ok (.aload_n 0, 1) := by decide +kernel
theorem dX12_meeting_74 : decode cX12_meeting 74 = .ok (.iload 8, 2) := by decide +kernel
theorem dX12_meeting_76 : decode cX12_meeting 76 = .ok (.invokevirtual 290, 3) := by decide +kernel
theorem dX12_meeting_79 : decode cX12_meeting 79 = .ok (.ifCond .eq 10, 3) := by decide +kernel
theorem dX12_meeting_82 : decode cX12_meeting 82 = .ok (.iload 8, 2) := by decide +kernel
theorem dX12_meeting_84 : decode cX12_meeting 84 = .ok (.istore 9, 2) := by decide +kernel
theorem dX12_meeting_86 : decode cX12_meeting 86 = .ok (.goto 31, 3) := by decide +kernel
theorem dX12_meeting_89 : decode cX12_meeting 89 = .ok (.iload 7, 2) := by decide +kernel
theorem dX12_meeting_91 : decode cX12_meeting 91 = .ok (.ifCond .le 26, 3) := by decide +kernel
theorem dX12_meeting_94 : decode cX12_meeting 94 = .ok (.aload_n 0, 1) := by decide +kernel
theorem dX12_meeting_95 : decode cX12_meeting 95 = .ok (.iload_n 3, 1) := by decide +kernel
theorem dX12_meeting_96 : decode cX12_meeting 96 = .ok (.iload 4, 2) := by decide +kernel
theorem dX12_meeting_98 : decode cX12_meeting 98 = .ok (.iadd, 1) := by decide +kernel
theorem dX12_meeting_99 : decode cX12_meeting 99 = .ok (.iload 8, 2) := by decide +kernel
theorem dX12_meeting_101 : decode cX12_meeting 101 = .ok (.isub, 1) := by decide +kernel
theorem dX12_meeting_102 : decode cX12_meeting 102 = .ok (.invokevirtual 290, 3) := by decide +kernel
theorem dX12_meeting_105 : decode cX12_meeting 105 = .ok (.ifCond .eq 12, 3) := by decide +kernel
theorem dX12_meeting_108 : decode cX12_meeting 108 = .ok (.iload_n 3, 1) := by decide +kernel
theorem dX12_meeting_109 : decode cX12_meeting 109 = .ok (.iload 4, 2) := by decide +kernel
theorem dX12_meeting_111 : decode cX12_meeting 111 = .ok (.iadd, 1) := by decide +kernel
theorem dX12_meeting_112 : decode cX12_meeting 112 = .ok (.iload 8, 2) := by decide +kernel
theorem dX12_meeting_114 : decode cX12_meeting 114 = .ok (.isub, 1) := by decide +kernel
theorem dX12_meeting_115 : decode cX12_meeting 115 = .ok (.istore 9, 2) := by decide +kernel
theorem dX12_meeting_117 : decode cX12_meeting 117 = .ok (.iload 9, 2) := by decide +kernel
theorem dX12_meeting_119 : decode cX12_meeting 119 = .ok (.iload_n 3, 1) := by decide +kernel
theorem dX12_meeting_120 : decode cX12_meeting 120 = .ok (.if_icmp .ne 8, 3) := by decide +kernel
theorem dX12_meeting_123 : decode cX12_meeting 123 = .ok (.iload 6, 2) := by decide +kernel
theorem dX12_meeting_125 : decode cX12_meeting 125 = .ok (.goto 5, 3) := by decide +kernel
theorem dX12_meeting_128 : decode cX12_meeting 128 = .ok (.iload 5, 2) := by decide +kernel
theorem dX12_meeting_130 : decode cX12_meeting 130 = .ok (.istore 10, 2) := by decide +kernel
theorem dX12_meeting_132 : decode cX12_meeting 132 = .ok (.iload 9, 2) := by decide +kernel
theorem dX12_meeting_134 : decode cX12_meeting 134 = .ok (.iload 4, 2) := by decide +kernel
theorem dX12_meeting_136 : decode cX12_meeting 136 = .ok (.if_icmp .ne 8, 3) := by decide +kernel
theorem dX12_meeting_139 : decode cX12_meeting 139 = .ok (.iload 5, 2) := by decide +kernel
theorem dX12_meeting_141 : decode cX12_meeting 141 = .ok (.goto 5, 3) := by decide +kernel
theorem dX12_meeting_144 : decode cX12_meeting 144 = .ok (.iload 6, 2) := by decide +kernel
theorem dX12_meeting_146 : decode cX12_meeting 146 = .ok (.istore 11, 2) := by decide +kernel
theorem dX12_meeting_148 : decode cX12_meeting 148 = .ok (.iload 9, 2) := by decide +kernel
theorem dX12_meeting_150 : decode cX12_meeting 150 = .ok (.iconst (-1), 1) := by decide +kernel
theorem dX12_meeting_151 : decode cX12_meeting 151 = .ok (.if_icmp .ne 8, 3) := by decide +kernel
theorem dX12_meeting_154 : decode cX12_meeting 154 = .ok (.iload 7, 2) := by decide +kernel
theorem dX12_meeting_156 : decode cX12_meeting 156 = .ok (.goto 7, 3) := by decide +kernel
theorem dX12_meeting_159 : decode cX12_meeting 159 = .ok (.iload 7, 2) := by decide +kernel
theorem dX12_meeting_161 : decode cX12_meeting 161 = .ok (.iconst 2, 1) := by decide +kernel
theorem dX12_meeting_162 : decode cX12_meeting 162 = .ok (.idiv, 1) := by decide +kernel
theorem dX12_meeting_163 : decode cX12_meeting 163 = .ok (.istore 7, 2) := by decide +kernel
theorem dX12_meeting_165 : decode cX12_meeting 165 = .ok (.aload_n 0, 1) := by decide +kernel
theorem dX12_meeting_166 : decode cX12_meeting 166 = .ok (.iload_n 3, 1) := by decide +kernel
theorem dX12_meeting_167 : decode cX12_meeting 167 = .ok (.iload 4, 2) := by decide +kernel
theorem dX12_meeting_169 : decode cX12_meeting 169 = .ok (.iload 11, 2) := by decide +kernel
theorem dX12_meeting_171 : decode cX12_meeting 171 = .ok (.invokevirtual 293, 3) := by decide +kernel
theorem dX12_meeting_174 : decode cX12_meeting 174 = .ok (.aload_n 0, 1) := by decide +kernel
theorem dX12_meeting_175 : decode cX12_meeting 175 = .ok (.iload 4, 2) := by decide +kernel
theorem dX12_meeting_177 : decode cX12_meeting 177 = .ok (.iload_n 3, 1) := by decide +kernel
theorem dX12_meeting_178 : decode cX12_meeting 178 = .ok (.iload 10, 2) := by decide +kernel
theorem dX12_meeting_180 : decode cX12_meeting 180 = .ok (.invokevirtual 293, 3) := by decide +kernel
theorem dX12_meeting_183 : decode cX12_meeting 183 = .ok (.aload_n 0, 1) := by decide +kernel
theorem dX12_meeting_184 : decode cX12_meeting 184 = .ok (.iload_n 3, 1) := by decide +kernel
theorem dX12_meeting_185 : decode cX12_meeting 185 = .ok (.iconst 4, 1) := by decide +kernel
theorem dX12_meeting_186 : decode cX12_meeting 186 = .ok (.invokevirtual 257, 3) := by decide +kernel
theorem dX12_meeting_189 : decode cX12_meeting 189 = .ok (.aload_n 0, 1) := by decide +kernel
theorem dX12_meeting_190 : decode cX12_meeting 190 = .ok (.iload 4, 2) := by decide +kernel
theorem dX12_meeting_192 : decode cX12_meeting 192 = .ok (.iconst 4, 1) := by decide +kernel
theorem dX12_meeting_193 : decode cX12_meeting 193 = .ok (.invokevirtual 257, 3) := by decide +kernel
theorem dX12_meeting_196 : decode cX12_meeting 196 = .ok (.iadd, 1) := by decide +kernel
theorem dX12_meeting_197 : decode cX12_meeting 197 = .ok (.ifCond .le 32, 3) := by decide +kernel
theorem dX12_meeting_200 : decode cX12_meeting 200 = .ok (.iload 10, 2) := by decide +kernel
theorem dX12_meeting_202 : decode cX12_meeting 202 = .ok (.iconst 3, 1) := by decide +kernel
theorem dX12_meeting_203 : decode cX12_meeting 203 = .ok (.ishr, 1) := by decide +kernel
theorem dX12_meeting_204 : decode cX12_meeting 204 = .ok (.ifCond .eq 25, 3) := by decide +kernel
theorem dX12_meeting_207 : decode cX12_meeting 207 = .ok (.iload 11, 2) := by decide +kernel
theorem dX12_meeting_209 : decode cX12_meeting 209 = .ok (.iconst 3, 1) := by decide +kernel
theorem dX12_meeting_210 : decode cX12_meeting 210 = .ok (.ishr, 1) := by decide +kernel
theorem dX12_meeting_211 : decode cX12_meeting 211 = .ok (.ifCond .eq 18, 3) := by decide +kernel
theorem dX12_meeting_214 : decode cX12_meeting 214 = .ok (.aload_n 0, 1) := by decide +kernel
theorem dX12_meeting_215 : decode cX12_meeting 215 = .ok (.iload_n 3, 1) := by decide +kernel
theorem dX12_meeting_216 : decode cX12_meeting 216 = .ok (.iconst 4, 1) := by decide +kernel
theorem dX12_meeting_217 : decode cX12_meeting 217 = .ok (.iconst 1, 1) := by decide +kernel
theorem dX12_meeting_218 : decode cX12_meeting 218 = .ok (.invokevirtual 141, 3) := by decide +kernel
theorem dX12_meeting_221 : decode cX12_meeting 221 = .ok (.aload_n 0, 1) := by decide +kernel
theorem dX12_meeting_222 : decode cX12_meeting 222 = .ok (.iload 4, 2) := by decide +kernel
theorem dX12_meeting_224 : decode cX12_meeting 224 = .ok (.iconst 4, 1) := by decide +kernel
theorem dX12_meeting_225 : decode cX12_meeting 225 = .ok (.iconst 1, 1) := by decide +kernel
theorem dX12_meeting_226 : decode cX12_meeting 226 = .ok (.invokevirtual 141, 3) := by decide +kernel
theorem dX12_meeting_229 : decode cX12_meeting 229 = .ok (.aload_n 0, 1) := by decide +kernel
theorem dX12_meeting_230 : decode cX12_meeting 230 = .ok (.getfield 7, 3) := by decide +kernel
theorem dX12_meeting_233 : decode cX12_meeting 233 = .ok (.bipush 8, 2) := by decide +kernel
theorem dX12_meeting_235 : decode cX12_meeting 235 = .ok (.dup2, 1) := by decide +kernel
theorem dX12_meeting_236 : decode cX12_meeting 236 = .ok (.iaload, 1) := by decide +kernel
theorem dX12_meeting_237 : decode cX12_meeting 237 = .ok (.iconst 1, 1) := by decide +kernel
theorem dX12_meeting_238 : decode cX12_meeting 238 = .ok (.iadd, 1) := by decide +kernel
theorem dX12_meeting_239 : decode cX12_meeting 239 = .ok (.iastore, 1) := by decide +kernel
theorem dX12_meeting_240 : decode cX12_meeting 240 = .ok (.aload_n 0, 1) := by decide +kernel
theorem dX12_meeting_241 : decode cX12_meeting 241 = .ok (.getfield 7, 3) := by decide +kernel
theorem dX12_meeting_244 : decode cX12_meeting 244 = .ok (.bipush 9, 2) := by decide +kernel
theorem dX12_meeting_246 : decode cX12_meeting 246 = .ok (.dup2, 1) := by decide +kernel
theorem dX12_meeting_247 : decode cX12_meeting 247 = .ok (.iaload, 1) := by decide +kernel
theorem dX12_meeting_248 : decode cX12_meeting 248 = .ok (.iload 7, 2) := by decide +kernel
theorem dX12_meeting_250 : decode cX12_meeting 250 = .ok (.iadd, 1) := by decide +kernel
theorem dX12_meeting_251 : decode cX12_meeting 251 = .ok (.iastore, 1) := by decide +kernel
theorem dX12_meeting_252 : decode cX12_meeting 252 = .ok (.aload_n 0, 1) := by decide +kernel
theorem dX12_meeting_253 : decode cX12_meeting 253 = .ok (.getfield 7, 3) := by decide +kernel
theorem dX12_meeting_256 : decode cX12_meeting 256 = .ok (.bipush 10, 2) := by decide +kernel
theorem dX12_meeting_258 : decode cX12_meeting 258 = .ok (.dup2, 1) := by decide +kernel
theorem dX12_meeting_259 : decode cX12_meeting 259 = .ok (.iaload, 1) := by decide +kernel
theorem dX12_meeting_260 : decode cX12_meeting 260 = .ok (.iload 9, 2) := by decide +kernel
theorem dX12_meeting_262 : decode cX12_meeting 262 = .ok (.iconst (-1), 1) := by decide +kernel
theorem dX12_meeting_263 : decode cX12_meeting 263 = .ok (.if_icmp .ne 7, 3) := by decide +kernel
theorem dX12_meeting_266 : decode cX12_meeting 266 = .ok (.iconst 0, 1) := by decide +kernel
theorem dX12_meeting_267 : decode cX12_meeting 267 = .ok (.goto 4, 3) := by decide +kernel
theorem dX12_meeting_270 : decode cX12_meeting 270 = .ok (.iconst 1, 1) := by decide +kernel
theorem dX12_meeting_271 : decode cX12_meeting 271 = .ok (.iadd, 1) := by decide +kernel
theorem dX12_meeting_272 : decode cX12_meeting 272 = .ok (.iastore, 1) := by decide +kernel
theorem dX12_meeting_273 : decode cX12_meeting 273 = .ok (.aload_n 0, 1) := by decide +kernel
theorem dX12_meeting_274 : decode cX12_meeting 274 = .ok (.getfield 7, 3) := by decide +kernel
theorem dX12_meeting_277 : decode cX12_meeting 277 = .ok (.bipush 11, 2) := by decide +kernel
theorem dX12_meeting_279 : decode cX12_meeting 279 = .ok (.dup2, 1) := by decide +kernel
theorem dX12_meeting_280 : decode cX12_meeting 280 = .ok (.iaload, 1) := by decide +kernel
theorem dX12_meeting_281 : decode cX12_meeting 281 = .ok (.iload 10, 2) := by decide +kernel
theorem dX12_meeting_283 : decode cX12_meeting 283 = .ok (.invokestatic 70, 3) := by decide +kernel
theorem dX12_meeting_286 : decode cX12_meeting 286 = .ok (.iload 11, 2) := by decide +kernel
theorem dX12_meeting_288 : decode cX12_meeting 288 = .ok (.invokestatic 70, 3) := by decide +kernel
theorem dX12_meeting_291 : decode cX12_meeting 291 = .ok (.invokestatic 287, 3) := by decide +kernel
theorem dX12_meeting_294 : decode cX12_meeting 294 = .ok (.iadd, 1) := by decide +kernel
theorem dX12_meeting_295 : decode cX12_meeting 295 = .ok (.iastore, 1) := by decide +kernel
theorem dX12_meeting_296 : decode cX12_meeting 296 = .ok (.sipush 479, 3) := by decide +kernel
theorem dX12_meeting_299 : decode cX12_meeting 299 = .ok (.istore 12, 2) := by decide +kernel
theorem dX12_meeting_301 : decode cX12_meeting 301 = .ok (.iload 12, 2) := by decide +kernel
theorem dX12_meeting_303 : decode cX12_meeting 303 = .ok (.bipush 8, 2) := by decide +kernel
theorem dX12_meeting_305 : decode cX12_meeting 305 = .ok (.if_icmp .lt 34, 3) := by decide +kernel
theorem dX12_meeting_308 : decode cX12_meeting 308 = .ok (.aload_n 0, 1) := by decide +kernel
theorem dX12_meeting_309 : decode cX12_meeting 309 = .ok (.getfield 7, 3) := by decide +kernel
theorem dX12_meeting_312 : decode cX12_meeting 312 = .ok (.sipush 420, 3) := by decide +kernel
theorem dX12_meeting_315 : decode cX12_meeting 315 = .ok (.iload 12, 2) := by decide +kernel
theorem dX12_meeting_317 : decode cX12_meeting 317 = .ok (.iadd, 1) := by decide +kernel
theorem dX12_meeting_318 : decode cX12_meeting 318 = .ok (.aload_n 0, 1) := by decide +kernel
theorem dX12_meeting_319 : decode cX12_meeting 319 = .ok (.getfield 7, 3) := by decide +kernel
theorem dX12_meeting_322 : decode cX12_meeting 322 = .ok (.sipush 420, 3) := by decide +kernel
theorem dX12_meeting_325 : decode cX12_meeting 325 = .ok (.iload 12, 2) := by decide +kernel
theorem dX12_meeting_327 : decode cX12_meeting 327 = .ok (.iadd, 1) := by decide +kernel
theorem dX12_meeting_328 : decode cX12_meeting 328 = .ok (.bipush 8, 2) := by decide +kernel
theorem dX12_meeting_330 : decode cX12_meeting 330 = .ok (.isub, 1) := by decide +kernel
theorem dX12_meeting_331 : decode cX12_meeting 331 = .ok (.iaload, 1) := by decide +kernel
theorem dX12_meeting_332 : decode cX12_meeting 332 = .ok (.iastore, 1) := by decide +kernel
theorem dX12_meeting_333 : decode cX12_meeting 333 = .ok (.iinc 12 (-1), 3) := by decide +kernel
theorem dX12_meeting_336 : decode cX12_meeting 336 = .ok (.goto (-35), 3) := by decide +kernel
theorem dX12_meeting_339 : decode cX12_meeting 339 = .ok (.aload_n 0, 1) := by decide +kernel
theorem dX12_meeting_340 : decode cX12_meeting 340 = .ok (.getfield 7, 3) := by decide +kernel
theorem dX12_meeting_343 : decode cX12_meeting 343 = .ok (.sipush 420, 3) := by decide +kernel
theorem dX12_meeting_346 : decode cX12_meeting 346 = .ok (.aload_n 0, 1) := by decide +kernel
theorem dX12_meeting_347 : decode cX12_meeting 347 = .ok (.getfield 7, 3) := by decide +kernel
theorem dX12_meeting_350 : decode cX12_meeting 350 = .ok (.bipush 7, 2) := by decide +kernel
theorem dX12_meeting_352 : decode cX12_meeting 352 = .ok (.iaload, 1) := by decide +kernel
theorem dX12_meeting_353 : decode cX12_meeting 353 = .ok (.iastore, 1) := by decide +kernel
theorem dX12_meeting_354 : decode cX12_meeting 354 = .ok (.aload_n 0, 1) := by decide +kernel
theorem dX12_meeting_355 : decode cX12_meeting 355 = .ok (.getfield 7, 3) := by decide +kernel
theorem dX12_meeting_358 : decode cX12_meeting 358 = .ok (.sipush 421, 3) := by decide +kernel
theorem dX12_meeting_361 : decode cX12_meeting 361 = .ok (.iload_n 3, 1) := by decide +kernel
theorem dX12_meeting_362 : decode cX12_meeting 362 = .ok (.iastore, 1) := by decide +kernel
theorem dX12_meeting_363 : decode cX12_meeting 363 = .ok (.aload_n 0, 1) := by decide +kernel
theorem dX12_meeting_364 : decode cX12_meeting 364 = .ok (.getfield 7, 3) := by decide +kernel
theorem dX12_meeting_367 : decode cX12_meeting 367 = .ok (.sipush 422, 3) := by decide +kernel
theorem dX12_meeting_370 : decode cX12_meeting 370 = .ok (.iload 4, 2) := by decide +kernel
theorem dX12_meeting_372 : decode cX12_meeting 372 = .ok (.iastore, 1) := by decide +kernel
theorem dX12_meeting_373 : decode cX12_meeting 373 = .ok (.aload_n 0, 1) := by decide +kernel
theorem dX12_meeting_374 : decode cX12_meeting 374 = .ok (.getfield 7, 3) := by decide +kernel
theorem dX12_meeting_377 : decode cX12_meeting 377 = .ok (.sipush 423, 3) := by decide +kernel
theorem dX12_meeting_380 : decode cX12_meeting 380 = .ok (.iload 5, 2) := by decide +kernel
theorem dX12_meeting_382 : decode cX12_meeting 382 = .ok (.iastore, 1) := by decide +kernel
theorem dX12_meeting_383 : decode cX12_meeting 383 = .ok (.aload_n 0, 1) := by decide +kernel
theorem dX12_meeting_384 : decode cX12_meeting 384 = .ok (.getfield 7, 3) := by decide +kernel
theorem dX12_meeting_387 : decode cX12_meeting 387 = .ok (.sipush 424, 3) := by decide +kernel
theorem dX12_meeting_390 : decode cX12_meeting 390 = .ok (.iload 6, 2) := by decide +kernel
theorem dX12_meeting_392 : decode cX12_meeting 392 = .ok (.iastore, 1) := by decide +kernel
theorem dX12_meeting_393 : decode cX12_meeting 393 = .ok (.aload_n 0, 1) := by decide +kernel
theorem dX12_meeting_394 : decode cX12_meeting 394 = .ok (.getfield 7, 3) := by decide +kernel
theorem dX12_meeting_397 : decode cX12_meeting 397 = .ok (.sipush 425, 3) := by decide +kernel
theorem dX12_meeting_400 : decode cX12_meeting 400 = .ok (.iload 10, 2) := by decide +kernel
theorem dX12_meeting_402 : decode cX12_meeting 402 = .ok (.iastore, 1) := by decide +kernel
theorem dX12_meeting_403 : decode cX12_meeting 403 = .ok (.aload_n 0, 1) := by decide +kernel
theorem dX12_meeting_404 : decode cX12_meeting 404 = .ok (.getfield 7, 3) := by decide +kernel
theorem dX12_meeting_407 : decode cX12_meeting 407 = .ok (.sipush 426, 3) := by decide +kernel
theorem dX12_meeting_410 : decode cX12_meeting 410 = .ok (.iload 11, 2) := by decide +kernel
theorem dX12_meeting_412 : decode cX12_meeting 412 = .ok (.iastore, 1) := by decide +kernel
theorem dX12_meeting_413 : decode cX12_meeting 413 = .ok (.aload_n 0, 1) := by decide +kernel
theorem dX12_meeting_414 : decode cX12_meeting 414 = .ok (.getfield 7, 3) := by decide +kernel
theorem dX12_meeting_417 : decode cX12_meeting 417 = .ok (.sipush 427, 3) := by decide +kernel
theorem dX12_meeting_420 : decode cX12_meeting 420 = .ok (.iload 7, 2) := by decide +kernel
theorem dX12_meeting_422 : decode cX12_meeting 422 = .ok (.iastore, 1) := by decide +kernel
theorem dX12_meeting_423 : decode cX12_meeting 423 = .ok (.aload_n 0, 1) := by decide +kernel
theorem dX12_meeting_424 : decode cX12_meeting 424 = .ok (.getfield 7, 3) := by decide +kernel
theorem dX12_meeting_427 : decode cX12_meeting 427 = .ok (.bipush 12, 2) := by decide +kernel
theorem dX12_meeting_429 : decode cX12_meeting 429 = .ok (.bipush 60, 2) := by decide +kernel
theorem dX12_meeting_431 : decode cX12_meeting 431 = .ok (.aload_n 0, 1) := by decide +kernel
theorem dX12_meeting_432 : decode cX12_meeting 432 = .ok (.getfield 7, 3) := by decide +kernel
theorem dX12_meeting_435 : decode cX12_meeting 435 = .ok (.bipush 12, 2) := by decide +kernel
theorem dX12_meeting_437 : decode cX12_meeting 437 = .ok (.iaload, 1) := by decide +kernel
theorem dX12_meeting_438 : decode cX12_meeting 438 = .ok (.iconst 1, 1) := by decide +kernel
theorem dX12_meeting_439 : decode cX12_meeting 439 = .ok (.iadd, 1) := by decide +kernel
theorem dX12_meeting_440 : decode cX12_meeting 440 = .ok (.invokestatic 284, 3) := by decide +kernel
theorem dX12_meeting_443 : decode cX12_meeting 443 = .ok (.iastore, 1) := by decide +kernel
theorem dX12_meeting_444 : decode cX12_meeting 444 = .ok (.iload 7, 2) := by decide +kernel
theorem dX12_meeting_446 : decode cX12_meeting 446 = .ok (.ireturn, 1) := by decide +kernel
theorem dX12_meet_0 : decode cX12_meet 0 = .ok (.aload_n 0, 1) := by decide +kernel
theorem dX12_meet_1 : decode cX12_meet 1 = .ok (.aload_n 0, 1) := by decide +kernel
theorem dX12_meet_2 : decode cX12_meet 2 = .ok (.iload_n 1, 1) := by decide +kernel
theorem dX12_meet_3 : decode cX12_meet 3 = .ok (.iload_n 2, 1) := by decide +kernel
theorem dX12_meet_4 : decode cX12_meet 4 = .ok (.invokevirtual 277, 3) := by decide +kernel
theorem dX12_meet_7 : decode cX12_meet 7 = .ok (.putfield 56, 3) := by decide +kernel
theorem dX12_meet_10 : decode cX12_meet 10 = .ok (.aload_n 0, 1) := by decide +kernel
theorem dX12_meet_11 : decode cX12_meet 11 = .ok (.getfield 56, 3) := by decide +kernel
theorem dX12_meet_14 : decode cX12_meet 14 = .ok (.ifCond .le 5, 3) := by decide +kernel
theorem dX12_meet_17 : decode cX12_meet 17 = .ok (.iconst 0, 1) := by decide +kernel
theorem dX12_meet_18 : decode cX12_meet 18 = .ok (.ireturn, 1) := by decide +kernel
theorem dX12_meet_19 : decode cX12_meet 19 = .ok (.aload_n 0, 1) := by decide +kernel
theorem dX12_meet_20 : decode cX12_meet 20 = .ok (.invokevirtual 296, 3) := by decide +kernel
theorem dX12_meet_23 : decode cX12_meet 23 = .ok (.aload_n 0, 1) := by decide +kernel
theorem dX12_meet_24 : decode cX12_meet 24 = .ok (.iload_n 1, 1) := by decide +kernel
theorem dX12_meet_25 : decode cX12_meet 25 = .ok (.iload_n 2, 1) := by decide +kernel
theorem dX12_meet_26 : decode cX12_meet 26 = .ok (.invokevirtual 299, 3) := by decide +kernel
theorem dX12_meet_29 : decode cX12_meet 29 = .ok (.ireturn, 1) := by decide +kernel
theorem dX12_goes_0 : decode cX12_goes 0 = .ok (.iconst 0, 1) := by decide +kernel
theorem dX12_goes_1 : decode cX12_goes 1 = .ok (.istore_n 2, 1) := by decide +kernel
theorem dX12_goes_2 : decode cX12_goes 2 = .ok (.iconst 0, 1) := by decide +kernel
theorem dX12_goes_3 : decode cX12_goes 3 = .ok (.istore_n 3, 1) := by decide +kernel
theorem dX12_goes_4 : decode cX12_goes 4 = .ok (.iload_n 3, 1) := by decide +kernel
theorem dX12_goes_5 : decode cX12_goes 5 = .ok (.iload_n 1, 1) := by decide +kernel
theorem dX12_goes_6 : decode cX12_goes 6 = .ok (.if_icmp .ge 60, 3) := by decide +kernel
theorem dX12_goes_9 : decode cX12_goes 9 = .ok (.iconst 0, 1) := by decide +kernel
theorem dX12_goes_10 : decode cX12_goes 10 = .ok (.istore 4, 2) := by decide +kernel
theorem dX12_goes_12 : decode cX12_goes 12 = .ok (.iload 4, 2) := by decide +kernel
theorem dX12_goes_14 : decode cX12_goes 14 = .ok (.aload_n 0, 1) := by decide +kernel
theorem dX12_goes_15 : decode cX12_goes 15 = .ok (.getfield 7, 3) := by decide +kernel
theorem dX12_goes_18 : decode cX12_goes 18 = .ok (.bipush 6, 2) := by decide +kernel
theorem dX12_goes_20 : decode cX12_goes 20 = .ok (.iaload, 1) := by decide +kernel
theorem dX12_goes_21 : decode cX12_goes 21 = .ok (.if_icmp .ge 28, 3) := by decide +kernel
theorem dX12_goes_24 : decode cX12_goes 24 = .ok (.iload_n 2, 1) := by decide +kernel
theorem dX12_goes_25 : decode cX12_goes 25 = .ok (.aload_n 0, 1) := by decide +kernel
theorem dX12_goes_26 : decode cX12_goes 26 = .ok (.aload_n 0, 1) := by decide +kernel
theorem dX12_goes_27 : decode cX12_goes 27 = .ok (.iload 4, 2) := by decide +kernel
theorem dX12_goes_29 : decode cX12_goes 29 = .ok (.invokevirtual 63, 3) := by decide +kernel
theorem dX12_goes_32 : decode cX12_goes 32 = .ok (.aload_n 0, 1) := by decide +kernel
theorem dX12_goes_33 : decode cX12_goes 33 = .ok (.iload 4, 2) := by decide +kernel
theorem dX12_goes_35 : decode cX12_goes 35 = .ok (.invokevirtual 67, 3) := by decide +kernel
theorem dX12_goes_38 : decode cX12_goes 38 = .ok (.invokevirtual 299, 3) := by decide +kernel
theorem dX12_goes_41 : decode cX12_goes 41 = .ok (.iadd, 1) := by decide +kernel
theorem dX12_goes_42 : decode cX12_goes 42 = .ok (.istore_n 2, 1) := by decide +kernel
theorem dX12_goes_43 : decode cX12_goes 43 = .ok (.iinc 4 1, 3) := by decide +kernel
theorem dX12_goes_46 : decode cX12_goes 46 = .ok (.goto (-34), 3) := by decide +kernel
theorem dX12_goes_49 : decode cX12_goes 49 = .ok (.aload_n 0, 1) := by decide +kernel
theorem dX12_goes_50 : decode cX12_goes 50 = .ok (.getfield 7, 3) := by decide +kernel
theorem dX12_goes_53 : decode cX12_goes 53 = .ok (.bipush 7, 2) := by decide +kernel
theorem dX12_goes_55 : decode cX12_goes 55 = .ok (.dup2, 1) := by decide +kernel
theorem dX12_goes_56 : decode cX12_goes 56 = .ok (.iaload, 1) := by decide +kernel
theorem dX12_goes_57 : decode cX12_goes 57 = .ok (.iconst 1, 1) := by decide +kernel
theorem dX12_goes_58 : decode cX12_goes 58 = .ok (.iadd, 1) := by decide +kernel
theorem dX12_goes_59 : decode cX12_goes 59 = .ok (.iastore, 1) := by decide +kernel
theorem dX12_goes_60 : decode cX12_goes 60 = .ok (.iinc 3 1, 3) := by decide +kernel
theorem dX12_goes_63 : decode cX12_goes 63 = .ok (.goto (-59), 3) := by decide +kernel
theorem dX12_goes_66 : decode cX12_goes 66 = .ok (.iload_n 2, 1) := by decide +kernel
theorem dX12_goes_67 : decode cX12_goes 67 = .ok (.ireturn, 1) := by decide +kernel
theorem dX12_rounds_0 : decode cX12_rounds 0 = .ok (.aload_n 0, 1) := by decide +kernel
theorem dX12_rounds_1 : decode cX12_rounds 1 = .ok (.iload_n 1, 1) := by decide +kernel
theorem dX12_rounds_2 : decode cX12_rounds 2 = .ok (.iconst 1, 1) := by decide +kernel
theorem dX12_rounds_3 : decode cX12_rounds 3 = .ok (.bipush 50, 2) := by decide +kernel
theorem dX12_rounds_5 : decode cX12_rounds 5 = .ok (.invokestatic 59, 3) := by decide +kernel
theorem dX12_rounds_8 : decode cX12_rounds 8 = .ok (.ifCond .ne 7, 3) := by decide +kernel
theorem dX12_rounds_11 : decode cX12_rounds 11 = .ok (.iconst 1, 1) := by decide +kernel
theorem dX12_rounds_12 : decode cX12_rounds 12 = .ok (.goto 4, 3) := by decide +kernel
theorem dX12_rounds_15 : decode cX12_rounds 15 = .ok (.iconst 0, 1) := by decide +kernel
theorem dX12_rounds_16 : decode cX12_rounds 16 = .ok (.putfield 56, 3) := by decide +kernel
theorem dX12_rounds_19 : decode cX12_rounds 19 = .ok (.aload_n 0, 1) := by decide +kernel
theorem dX12_rounds_20 : decode cX12_rounds 20 = .ok (.getfield 56, 3) := by decide +kernel
theorem dX12_rounds_23 : decode cX12_rounds 23 = .ok (.ifCond .le 5, 3) := by decide +kernel
theorem dX12_rounds_26 : decode cX12_rounds 26 = .ok (.iconst 0, 1) := by decide +kernel
theorem dX12_rounds_27 : decode cX12_rounds 27 = .ok (.ireturn, 1) := by decide +kernel
theorem dX12_rounds_28 : decode cX12_rounds 28 = .ok (.aload_n 0, 1) := by decide +kernel
theorem dX12_rounds_29 : decode cX12_rounds 29 = .ok (.invokevirtual 296, 3) := by decide +kernel
theorem dX12_rounds_32 : decode cX12_rounds 32 = .ok (.aload_n 0, 1) := by decide +kernel
theorem dX12_rounds_33 : decode cX12_rounds 33 = .ok (.iload_n 1, 1) := by decide +kernel
theorem dX12_rounds_34 : decode cX12_rounds 34 = .ok (.invokevirtual 302, 3) := by decide +kernel
theorem dX12_rounds_37 : decode cX12_rounds 37 = .ok (.ireturn, 1) := by decide +kernel
theorem dX12_own_0 : decode cX12_own 0 = .ok (.aload_n 0, 1) := by decide +kernel
theorem dX12_own_1 : decode cX12_own 1 = .ok (.aload_n 0, 1) := by decide +kernel
theorem dX12_own_2 : decode cX12_own 2 = .ok (.iload_n 1, 1) := by decide +kernel
theorem dX12_own_3 : decode cX12_own 3 = .ok (.invokevirtual 271, 3) := by decide +kernel
theorem dX12_own_6 : decode cX12_own 6 = .ok (.ifCond .eq 10, 3) := by decide +kernel
theorem dX12_own_9 : decode cX12_own 9 = .ok (.iload_n 2, 1) := by decide +kernel
theorem dX12_own_10 : decode cX12_own 10 = .ok (.invokestatic 260, 3) := by decide +kernel
theorem dX12_own_13 : decode cX12_own 13 = .ok (.ifCond .ne 7, 3) := by decide +kernel
theorem dX12_own_16 : decode cX12_own 16 = .ok (.iconst 1, 1) := by decide +kernel
theorem dX12_own_17 : decode cX12_own 17 = .ok (.goto 4, 3) := by decide +kernel
theorem dX12_own_20 : decode cX12_own 20 = .ok (.iconst 0, 1) := by decide +kernel
theorem dX12_own_21 : decode cX12_own 21 = .ok (.putfield 56, 3) := by decide +kernel
theorem dX12_own_24 : decode cX12_own 24 = .ok (.aload_n 0, 1) := by decide +kernel
theorem dX12_own_25 : decode cX12_own 25 = .ok (.getfield 56, 3) := by decide +kernel
theorem dX12_own_28 : decode cX12_own 28 = .ok (.ifCond .le 5, 3) := by decide +kernel
theorem dX12_own_31 : decode cX12_own 31 = .ok (.iconst 0, 1) := by decide +kernel
theorem dX12_own_32 : decode cX12_own 32 = .ok (.ireturn, 1) := by decide +kernel
theorem dX12_own_33 : decode cX12_own 33 = .ok (.aload_n 0, 1) := by decide +kernel
theorem dX12_own_34 : decode cX12_own 34 = .ok (.invokevirtual 296, 3) := by decide +kernel
theorem dX12_own_37 : decode cX12_own 37 = .ok (.aload_n 0, 1) := by decide +kernel
theorem dX12_own_38 : decode cX12_own 38 = .ok (.iload_n 1, 1) := by decide +kernel
theorem dX12_own_39 : decode cX12_own 39 = .ok (.iconst 1, 1) := by decide +kernel
theorem dX12_own_40 : decode cX12_own 40 = .ok (.invokevirtual 257, 3) := by decide +kernel
theorem dX12_own_43 : decode cX12_own 43 = .ok (.istore_n 3, 1) := by decide +kernel
theorem dX12_own_44 : decode cX12_own 44 = .ok (.aload_n 0, 1) := by decide +kernel
theorem dX12_own_45 : decode cX12_own 45 = .ok (.iload_n 1, 1) := by decide +kernel
theorem dX12_own_46 : decode cX12_own 46 = .ok (.iconst 1, 1) := by decide +kernel
theorem dX12_own_47 : decode cX12_own 47 = .ok (.iload_n 2, 1) := by decide +kernel
theorem dX12_own_48 : decode cX12_own 48 = .ok (.invokevirtual 141, 3) := by decide +kernel
theorem dX12_own_51 : decode cX12_own 51 = .ok (.iload_n 3, 1) := by decide +kernel
theorem dX12_own_52 : decode cX12_own 52 = .ok (.ireturn, 1) := by decide +kernel
theorem dX12_cold_0 : decode cX12_cold 0 = .ok (.aload_n 0, 1) := by decide +kernel
theorem dX12_cold_1 : decode cX12_cold 1 = .ok (.aload_n 0, 1) := by decide +kernel
theorem dX12_cold_2 : decode cX12_cold 2 = .ok (.iload_n 1, 1) := by decide +kernel
theorem dX12_cold_3 : decode cX12_cold 3 = .ok (.invokevirtual 271, 3) := by decide +kernel
theorem dX12_cold_6 : decode cX12_cold 6 = .ok (.ifCond .ne 7, 3) := by decide +kernel
theorem dX12_cold_9 : decode cX12_cold 9 = .ok (.iconst 1, 1) := by decide +kernel
theorem dX12_cold_10 : decode cX12_cold 10 = .ok (.goto 4, 3) := by decide +kernel
theorem dX12_cold_13 : decode cX12_cold 13 = .ok (.iconst 0, 1) := by decide +kernel
theorem dX12_cold_14 : decode cX12_cold 14 = .ok (.putfield 56, 3) := by decide +kernel
theorem dX12_cold_17 : decode cX12_cold 17 = .ok (.aload_n 0, 1) := by decide +kernel
theorem dX12_cold_18 : decode cX12_cold 18 = .ok (.getfield 56, 3) := by decide +kernel
theorem dX12_cold_21 : decode cX12_cold 21 = .ok (.ifCond .le 5, 3) := by decide +kernel
theorem dX12_cold_24 : decode cX12_cold 24 = .ok (.iconst 0, 1) := by decide +kernel
theorem dX12_cold_25 : decode cX12_cold 25 = .ok (.ireturn, 1) := by decide +kernel
theorem dX12_cold_26 : decode cX12_cold 26 = .ok (.aload_n 0, 1) := by decide +kernel
theorem dX12_cold_27 : decode cX12_cold 27 = .ok (.invokevirtual 296, 3) := by decide +kernel
theorem dX12_cold_30 : decode cX12_cold 30 = .ok (.aload_n 0, 1) := by decide +kernel
theorem dX12_cold_31 : decode cX12_cold 31 = .ok (.iload_n 1, 1) := by decide +kernel
theorem dX12_cold_32 : decode cX12_cold 32 = .ok (.iconst 4, 1) := by decide +kernel
theorem dX12_cold_33 : decode cX12_cold 33 = .ok (.invokevirtual 257, 3) := by decide +kernel
theorem dX12_cold_36 : decode cX12_cold 36 = .ok (.iconst 1, 1) := by decide +kernel
theorem dX12_cold_37 : decode cX12_cold 37 = .ok (.if_icmp .ne 7, 3) := by decide +kernel
theorem dX12_cold_40 : decode cX12_cold 40 = .ok (.iconst 1, 1) := by decide +kernel
theorem dX12_cold_41 : decode cX12_cold 41 = .ok (.goto 4, 3) := by decide +kernel
theorem dX12_cold_44 : decode cX12_cold 44 = .ok (.iconst 0, 1) := by decide +kernel
theorem dX12_cold_45 : decode cX12_cold 45 = .ok (.istore_n 3, 1) := by decide +kernel
theorem dX12_cold_46 : decode cX12_cold 46 = .ok (.aload_n 0, 1) := by decide +kernel
theorem dX12_cold_47 : decode cX12_cold 47 = .ok (.iload_n 1, 1) := by decide +kernel
theorem dX12_cold_48 : decode cX12_cold 48 = .ok (.iconst 4, 1) := by decide +kernel
theorem dX12_cold_49 : decode cX12_cold 49 = .ok (.iload_n 2, 1) := by decide +kernel
theorem dX12_cold_50 : decode cX12_cold 50 = .ok (.ifCond .eq 7, 3) := by decide +kernel
theorem dX12_cold_53 : decode cX12_cold 53 = .ok (.iconst 1, 1) := by decide +kernel
theorem dX12_cold_54 : decode cX12_cold 54 = .ok (.goto 4, 3) := by decide +kernel
theorem dX12_cold_57 : decode cX12_cold 57 = .ok (.iconst 0, 1) := by decide +kernel
theorem dX12_cold_58 : decode cX12_cold 58 = .ok (.invokevirtual 141, 3) := by decide +kernel
theorem dX12_cold_61 : decode cX12_cold 61 = .ok (.iload_n 3, 1) := by decide +kernel
theorem dX12_cold_62 : decode cX12_cold 62 = .ok (.ireturn, 1) := by decide +kernel
theorem dX12_ties_0 : decode cX12_ties 0 = .ok (.aload_n 0, 1) := by decide +kernel
theorem dX12_ties_1 : decode cX12_ties 1 = .ok (.aload_n 0, 1) := by decide +kernel
theorem dX12_ties_2 : decode cX12_ties 2 = .ok (.iload_n 1, 1) := by decide +kernel
theorem dX12_ties_3 : decode cX12_ties 3 = .ok (.iload_n 2, 1) := by decide +kernel
theorem dX12_ties_4 : decode cX12_ties 4 = .ok (.invokevirtual 277, 3) := by decide +kernel
theorem dX12_ties_7 : decode cX12_ties 7 = .ok (.ifCond .le 12, 3) := by decide +kernel
theorem dX12_ties_10 : decode cX12_ties 10 = .ok (.aload_n 0, 1) := by decide +kernel
theorem dX12_ties_11 : decode cX12_ties 11 = .ok (.iload_n 1, 1) := by decide +kernel
theorem dX12_ties_12 : decode cX12_ties 12 = .ok (.iload_n 2, 1) := by decide +kernel
theorem dX12_ties_13 : decode cX12_ties 13 = .ok (.invokevirtual 277, 3) := by decide +kernel
theorem dX12_ties_16 : decode cX12_ties 16 = .ok (.goto 33, 3) := by decide +kernel
theorem dX12_ties_19 : decode cX12_ties 19 = .ok (.aload_n 0, 1) := by decide +kernel
theorem dX12_ties_20 : decode cX12_ties 20 = .ok (.iload_n 1, 1) := by decide +kernel
theorem dX12_ties_21 : decode cX12_ties 21 = .ok (.iload_n 2, 1) := by decide +kernel
theorem dX12_ties_22 : decode cX12_ties 22 = .ok (.invokevirtual 148, 3) := by decide +kernel
theorem dX12_ties_25 : decode cX12_ties 25 = .ok (.ifCond .eq 7, 3) := by decide +kernel
theorem dX12_ties_28 : decode cX12_ties 28 = .ok (.iconst 3, 1) := by decide +kernel
theorem dX12_ties_29 : decode cX12_ties 29 = .ok (.goto 20, 3) := by decide +kernel
theorem dX12_ties_32 : decode cX12_ties 32 = .ok (.aload_n 0, 1) := by decide +kernel
theorem dX12_ties_33 : decode cX12_ties 33 = .ok (.getfield 7, 3) := by decide +kernel
theorem dX12_ties_36 : decode cX12_ties 36 = .ok (.bipush 6, 2) := by decide +kernel
theorem dX12_ties_38 : decode cX12_ties 38 = .ok (.iaload, 1) := by decide +kernel
theorem dX12_ties_39 : decode cX12_ties 39 = .ok (.bipush 24, 2) := by decide +kernel
theorem dX12_ties_41 : decode cX12_ties 41 = .ok (.if_icmp .ne 7, 3) := by decide +kernel
theorem dX12_ties_44 : decode cX12_ties 44 = .ok (.iconst 4, 1) := by decide +kernel
theorem dX12_ties_45 : decode cX12_ties 45 = .ok (.goto 4, 3) := by decide +kernel
theorem dX12_ties_48 : decode cX12_ties 48 = .ok (.iconst 0, 1) := by decide +kernel
theorem dX12_ties_49 : decode cX12_ties 49 = .ok (.putfield 56, 3) := by decide +kernel
theorem dX12_ties_52 : decode cX12_ties 52 = .ok (.aload_n 0, 1) := by decide +kernel
theorem dX12_ties_53 : decode cX12_ties 53 = .ok (.getfield 56, 3) := by decide +kernel
theorem dX12_ties_56 : decode cX12_ties 56 = .ok (.ifCond .le 5, 3) := by decide +kernel
theorem dX12_ties_59 : decode cX12_ties 59 = .ok (.iconst 0, 1) := by decide +kernel
theorem dX12_ties_60 : decode cX12_ties 60 = .ok (.ireturn, 1) := by decide +kernel
theorem dX12_ties_61 : decode cX12_ties 61 = .ok (.aload_n 0, 1) := by decide +kernel
theorem dX12_ties_62 : decode cX12_ties 62 = .ok (.invokevirtual 296, 3) := by decide +kernel
theorem dX12_ties_65 : decode cX12_ties 65 = .ok (.aload_n 0, 1) := by decide +kernel
theorem dX12_ties_66 : decode cX12_ties 66 = .ok (.iload_n 1, 1) := by decide +kernel
theorem dX12_ties_67 : decode cX12_ties 67 = .ok (.iload_n 2, 1) := by decide +kernel
theorem dX12_ties_68 : decode cX12_ties 68 = .ok (.invokevirtual 152, 3) := by decide +kernel
theorem dX12_ties_71 : decode cX12_ties 71 = .ok (.aload_n 0, 1) := by decide +kernel
theorem dX12_ties_72 : decode cX12_ties 72 = .ok (.getfield 7, 3) := by decide +kernel
theorem dX12_ties_75 : decode cX12_ties 75 = .ok (.bipush 6, 2) := by decide +kernel
theorem dX12_ties_77 : decode cX12_ties 77 = .ok (.iaload, 1) := by decide +kernel
theorem dX12_ties_78 : decode cX12_ties 78 = .ok (.iconst 1, 1) := by decide +kernel
theorem dX12_ties_79 : decode cX12_ties 79 = .ok (.isub, 1) := by decide +kernel
theorem dX12_ties_80 : decode cX12_ties 80 = .ok (.ireturn, 1) := by decide +kernel
theorem dX12_cut_0 : decode cX12_cut 0 = .ok (.aload_n 0, 1) := by decide +kernel
theorem dX12_cut_1 : decode cX12_cut 1 = .ok (.iload_n 1, 1) := by decide +kernel
theorem dX12_cut_2 : decode cX12_cut 2 = .ok (.iconst 0, 1) := by decide +kernel
theorem dX12_cut_3 : decode cX12_cut 3 = .ok (.aload_n 0, 1) := by decide +kernel
theorem dX12_cut_4 : decode cX12_cut 4 = .ok (.getfield 7, 3) := by decide +kernel
theorem dX12_cut_7 : decode cX12_cut 7 = .ok (.bipush 6, 2) := by decide +kernel
theorem dX12_cut_9 : decode cX12_cut 9 = .ok (.iaload, 1) := by decide +kernel
theorem dX12_cut_10 : decode cX12_cut 10 = .ok (.iconst 1, 1) := by decide +kernel
theorem dX12_cut_11 : decode cX12_cut 11 = .ok (.isub, 1) := by decide +kernel
theorem dX12_cut_12 : decode cX12_cut 12 = .ok (.invokestatic 59, 3) := by decide +kernel
theorem dX12_cut_15 : decode cX12_cut 15 = .ok (.ifCond .ne 7, 3) := by decide +kernel
theorem dX12_cut_18 : decode cX12_cut 18 = .ok (.iconst 1, 1) := by decide +kernel
theorem dX12_cut_19 : decode cX12_cut 19 = .ok (.goto 4, 3) := by decide +kernel
theorem dX12_cut_22 : decode cX12_cut 22 = .ok (.iconst 0, 1) := by decide +kernel
theorem dX12_cut_23 : decode cX12_cut 23 = .ok (.putfield 56, 3) := by decide +kernel
theorem dX12_cut_26 : decode cX12_cut 26 = .ok (.aload_n 0, 1) := by decide +kernel
theorem dX12_cut_27 : decode cX12_cut 27 = .ok (.getfield 56, 3) := by decide +kernel
theorem dX12_cut_30 : decode cX12_cut 30 = .ok (.ifCond .le 5, 3) := by decide +kernel
theorem dX12_cut_33 : decode cX12_cut 33 = .ok (.iconst 0, 1) := by decide +kernel
theorem dX12_cut_34 : decode cX12_cut 34 = .ok (.ireturn, 1) := by decide +kernel
theorem dX12_cut_35 : decode cX12_cut 35 = .ok (.aload_n 0, 1) := by decide +kernel
theorem dX12_cut_36 : decode cX12_cut 36 = .ok (.invokevirtual 296, 3) := by decide +kernel
theorem dX12_cut_39 : decode cX12_cut 39 = .ok (.aload_n 0, 1) := by decide +kernel
theorem dX12_cut_40 : decode cX12_cut 40 = .ok (.getfield 7, 3) := by decide +kernel
theorem dX12_cut_43 : decode cX12_cut 43 = .ok (.bipush 6, 2) := by decide +kernel
theorem dX12_cut_45 : decode cX12_cut 45 = .ok (.dup2, 1) := by decide +kernel
theorem dX12_cut_46 : decode cX12_cut 46 = .ok (.iaload, 1) := by decide +kernel
theorem dX12_cut_47 : decode cX12_cut 47 = .ok (.iconst 1, 1) := by decide +kernel
theorem dX12_cut_48 : decode cX12_cut 48 = .ok (.isub, 1) := by decide +kernel
theorem dX12_cut_49 : decode cX12_cut 49 = .ok (.iastore, 1) := by decide +kernel
theorem dX12_cut_50 : decode cX12_cut 50 = .ok (.iconst 2, 1) := by decide +kernel
theorem dX12_cut_51 : decode cX12_cut 51 = .ok (.iload_n 1, 1) := by decide +kernel
theorem dX12_cut_52 : decode cX12_cut 52 = .ok (.imul, 1) := by decide +kernel
theorem dX12_cut_53 : decode cX12_cut 53 = .ok (.istore_n 2, 1) := by decide +kernel
theorem dX12_cut_54 : decode cX12_cut 54 = .ok (.iload_n 2, 1) := by decide +kernel
theorem dX12_cut_55 : decode cX12_cut 55 = .ok (.iconst 2, 1) := by decide +kernel
theorem dX12_cut_56 : decode cX12_cut 56 = .ok (.aload_n 0, 1) := by decide +kernel
theorem dX12_cut_57 : decode cX12_cut 57 = .ok (.getfield 7, 3) := by decide +kernel
theorem dX12_cut_60 : decode cX12_cut 60 = .ok (.bipush 6, 2) := by decide +kernel
theorem dX12_cut_62 : decode cX12_cut 62 = .ok (.iaload, 1) := by decide +kernel
theorem dX12_cut_63 : decode cX12_cut 63 = .ok (.imul, 1) := by decide +kernel
theorem dX12_cut_64 : decode cX12_cut 64 = .ok (.if_icmp .ge 31, 3) := by decide +kernel
theorem dX12_cut_67 : decode cX12_cut 67 = .ok (.aload_n 0, 1) := by decide +kernel
theorem dX12_cut_68 : decode cX12_cut 68 = .ok (.getfield 7, 3) := by decide +kernel
theorem dX12_cut_71 : decode cX12_cut 71 = .ok (.sipush 372, 3) := by decide +kernel
theorem dX12_cut_74 : decode cX12_cut 74 = .ok (.iload_n 2, 1) := by decide +kernel
theorem dX12_cut_75 : decode cX12_cut 75 = .ok (.iadd, 1) := by decide +kernel
theorem dX12_cut_76 : decode cX12_cut 76 = .ok (.aload_n 0, 1) := by decide +kernel
theorem dX12_cut_77 : decode cX12_cut 77 = .ok (.getfield 7, 3) := by decide +kernel
theorem dX12_cut_80 : decode cX12_cut 80 = .ok (.sipush 372, 3) := by decide +kernel
theorem dX12_cut_83 : decode cX12_cut 83 = .ok (.iload_n 2, 1) := by decide +kernel
theorem dX12_cut_84 : decode cX12_cut 84 = .ok (.iadd, 1) := by decide +kernel
theorem dX12_cut_85 : decode cX12_cut 85 = .ok (.iconst 2, 1) := by decide +kernel
theorem dX12_cut_86 : decode cX12_cut 86 = .ok (.iadd, 1) := by decide +kernel
theorem dX12_cut_87 : decode cX12_cut 87 = .ok (.iaload, 1) := by decide +kernel
theorem dX12_cut_88 : decode cX12_cut 88 = .ok (.iastore, 1) := by decide +kernel
theorem dX12_cut_89 : decode cX12_cut 89 = .ok (.iinc 2 1, 3) := by decide +kernel
theorem dX12_cut_92 : decode cX12_cut 92 = .ok (.goto (-38), 3) := by decide +kernel
theorem dX12_cut_95 : decode cX12_cut 95 = .ok (.aload_n 0, 1) := by decide +kernel
theorem dX12_cut_96 : decode cX12_cut 96 = .ok (.getfield 7, 3) := by decide +kernel
theorem dX12_cut_99 : decode cX12_cut 99 = .ok (.bipush 6, 2) := by decide +kernel
theorem dX12_cut_101 : decode cX12_cut 101 = .ok (.iaload, 1) := by decide +kernel
theorem dX12_cut_102 : decode cX12_cut 102 = .ok (.ireturn, 1) := by decide +kernel
theorem dX12_feast_0 : decode cX12_feast 0 = .ok (.aload_n 0, 1) := by decide +kernel
theorem dX12_feast_1 : decode cX12_feast 1 = .ok (.iload_n 2, 1) := by decide +kernel
theorem dX12_feast_2 : decode cX12_feast 2 = .ok (.invokestatic 260, 3) := by decide +kernel
theorem dX12_feast_5 : decode cX12_feast 5 = .ok (.ifCond .ne 7, 3) := by decide +kernel
theorem dX12_feast_8 : decode cX12_feast 8 = .ok (.iconst 1, 1) := by decide +kernel
theorem dX12_feast_9 : decode cX12_feast 9 = .ok (.goto 4, 3) := by decide +kernel
theorem dX12_feast_12 : decode cX12_feast 12 = .ok (.iconst 0, 1) := by decide +kernel
theorem dX12_feast_13 : decode cX12_feast 13 = .ok (.putfield 56, 3) := by decide +kernel
theorem dX12_feast_16 : decode cX12_feast 16 = .ok (.aload_n 0, 1) := by decide +kernel
theorem dX12_feast_17 : decode cX12_feast 17 = .ok (.getfield 56, 3) := by decide +kernel
theorem dX12_feast_20 : decode cX12_feast 20 = .ok (.ifCond .le 5, 3) := by decide +kernel
theorem dX12_feast_23 : decode cX12_feast 23 = .ok (.iconst 0, 1) := by decide +kernel
theorem dX12_feast_24 : decode cX12_feast 24 = .ok (.ireturn, 1) := by decide +kernel
theorem dX12_feast_25 : decode cX12_feast 25 = .ok (.aload_n 0, 1) := by decide +kernel
theorem dX12_feast_26 : decode cX12_feast 26 = .ok (.invokevirtual 296, 3) := by decide +kernel
theorem dX12_feast_29 : decode cX12_feast 29 = .ok (.iconst 0, 1) := by decide +kernel
theorem dX12_feast_30 : decode cX12_feast 30 = .ok (.istore_n 3, 1) := by decide +kernel
theorem dX12_feast_31 : decode cX12_feast 31 = .ok (.iconst 0, 1) := by decide +kernel
theorem dX12_feast_32 : decode cX12_feast 32 = .ok (.istore 4, 2) := by decide +kernel
theorem dX12_feast_34 : decode cX12_feast 34 = .ok (.iload 4, 2) := by decide +kernel
theorem dX12_feast_36 : decode cX12_feast 36 = .ok (.aload_n 0, 1) := by decide +kernel
theorem dX12_feast_37 : decode cX12_feast 37 = .ok (.getfield 7, 3) := by decide +kernel
theorem dX12_feast_40 : decode cX12_feast 40 = .ok (.iconst 5, 1) := by decide +kernel
theorem dX12_feast_41 : decode cX12_feast 41 = .ok (.iaload, 1) := by decide +kernel
theorem dX12_feast_42 : decode cX12_feast 42 = .ok (.if_icmp .ge 51, 3) := by decide +kernel
theorem dX12_feast_45 : decode cX12_feast 45 = .ok (.iload_n 1, 1) := by decide +kernel
theorem dX12_feast_46 : decode cX12_feast 46 = .ok (.iload 4, 2) := by decide +kernel
theorem dX12_feast_48 : decode cX12_feast 48 = .ok (.invokestatic 305, 3) := by decide +kernel
theorem dX12_feast_51 : decode cX12_feast 51 = .ok (.ifCond .ne 6, 3) := by decide +kernel
theorem dX12_feast_54 : decode cX12_feast 54 = .ok (.goto 33, 3) := by decide +kernel
theorem dX12_feast_57 : decode cX12_feast 57 = .ok (.iload_n 3, 1) := by decide +kernel
theorem dX12_feast_58 : decode cX12_feast 58 = .ok (.aload_n 0, 1) := by decide +kernel
theorem dX12_feast_59 : decode cX12_feast 59 = .ok (.iload 4, 2) := by decide +kernel
theorem dX12_feast_61 : decode cX12_feast 61 = .ok (.iconst 1, 1) := by decide +kernel
theorem dX12_feast_62 : decode cX12_feast 62 = .ok (.invokevirtual 257, 3) := by decide +kernel
theorem dX12_feast_65 : decode cX12_feast 65 = .ok (.iload_n 2, 1) := by decide +kernel
theorem dX12_feast_66 : decode cX12_feast 66 = .ok (.if_icmp .ne 7, 3) := by decide +kernel
theorem dX12_feast_69 : decode cX12_feast 69 = .ok (.iconst 0, 1) := by decide +kernel
theorem dX12_feast_70 : decode cX12_feast 70 = .ok (.goto 7, 3) := by decide +kernel
theorem dX12_feast_73 : decode cX12_feast 73 = .ok (.iconst 1, 1) := by decide +kernel
theorem dX12_feast_74 : decode cX12_feast 74 = .ok (.iload 4, 2) := by decide +kernel
theorem dX12_feast_76 : decode cX12_feast 76 = .ok (.ishl, 1) := by decide +kernel
theorem dX12_feast_77 : decode cX12_feast 77 = .ok (.ior, 1) := by decide +kernel
theorem dX12_feast_78 : decode cX12_feast 78 = .ok (.istore_n 3, 1) := by decide +kernel
theorem dX12_feast_79 : decode cX12_feast 79 = .ok (.aload_n 0, 1) := by decide +kernel
theorem dX12_feast_80 : decode cX12_feast 80 = .ok (.iload 4, 2) := by decide +kernel
theorem dX12_feast_82 : decode cX12_feast 82 = .ok (.iconst 1, 1) := by decide +kernel
theorem dX12_feast_83 : decode cX12_feast 83 = .ok (.iload_n 2, 1) := by decide +kernel
theorem dX12_feast_84 : decode cX12_feast 84 = .ok (.invokevirtual 141, 3) := by decide +kernel
theorem dX12_feast_87 : decode cX12_feast 87 = .ok (.iinc 4 1, 3) := by decide +kernel
theorem dX12_feast_90 : decode cX12_feast 90 = .ok (.goto (-56), 3) := by decide +kernel
theorem dX12_feast_93 : decode cX12_feast 93 = .ok (.iload_n 3, 1) := by decide +kernel
theorem dX12_feast_94 : decode cX12_feast 94 = .ok (.ireturn, 1) := by decide +kernel
theorem dX12_expects_0 : decode cX12_expects 0 = .ok (.iconst 0, 1) := by decide +kernel
theorem dX12_expects_1 : decode cX12_expects 1 = .ok (.istore_n 3, 1) := by decide +kernel
theorem dX12_expects_2 : decode cX12_expects 2 = .ok (.iconst 0, 1) := by decide +kernel
theorem dX12_expects_3 : decode cX12_expects 3 = .ok (.istore 4, 2) := by decide +kernel
theorem dX12_expects_5 : decode cX12_expects 5 = .ok (.iload 4, 2) := by decide +kernel
theorem dX12_expects_7 : decode cX12_expects 7 = .ok (.aload_n 0, 1) := by decide +kernel
theorem dX12_expects_8 : decode cX12_expects 8 = .ok (.getfield 7, 3) := by decide +kernel
theorem dX12_expects_11 : decode cX12_expects 11 = .ok (.iconst 4, 1) := by decide +kernel
theorem dX12_expects_12 : decode cX12_expects 12 = .ok (.iaload, 1) := by decide +kernel
theorem dX12_expects_13 : decode cX12_expects 13 = .ok (.if_icmp .ge 66, 3) := by decide +kernel
theorem dX12_expects_16 : decode cX12_expects 16 = .ok (.iload_n 3, 1) := by decide +kernel
theorem dX12_expects_17 : decode cX12_expects 17 = .ok (.aload_n 0, 1) := by decide +kernel
theorem dX12_expects_18 : decode cX12_expects 18 = .ok (.getfield 7, 3) := by decide +kernel
theorem dX12_expects_21 : decode cX12_expects 21 = .ok (.bipush 20, 2) := by decide +kernel
theorem dX12_expects_23 : decode cX12_expects 23 = .ok (.iconst 3, 1) := by decide +kernel
theorem dX12_expects_24 : decode cX12_expects 24 = .ok (.iload 4, 2) := by decide +kernel
theorem dX12_expects_26 : decode cX12_expects 26 = .ok (.imul, 1) := by decide +kernel
theorem dX12_expects_27 : decode cX12_expects 27 = .ok (.iadd, 1) := by decide +kernel
theorem dX12_expects_28 : decode cX12_expects 28 = .ok (.iaload, 1) := by decide +kernel
theorem dX12_expects_29 : decode cX12_expects 29 = .ok (.iload_n 1, 1) := by decide +kernel
theorem dX12_expects_30 : decode cX12_expects 30 = .ok (.if_icmp .ne 40, 3) := by decide +kernel
theorem dX12_expects_33 : decode cX12_expects 33 = .ok (.aload_n 0, 1) := by decide +kernel
theorem dX12_expects_34 : decode cX12_expects 34 = .ok (.getfield 7, 3) := by decide +kernel
theorem dX12_expects_37 : decode cX12_expects 37 = .ok (.bipush 20, 2) := by decide +kernel
theorem dX12_expects_39 : decode cX12_expects 39 = .ok (.iconst 3, 1) := by decide +kernel
theorem dX12_expects_40 : decode cX12_expects 40 = .ok (.iload 4, 2) := by decide +kernel
theorem dX12_expects_42 : decode cX12_expects 42 = .ok (.imul, 1) := by decide +kernel
theorem dX12_expects_43 : decode cX12_expects 43 = .ok (.iadd, 1) := by decide +kernel
theorem dX12_expects_44 : decode cX12_expects 44 = .ok (.iconst 2, 1) := by decide +kernel
theorem dX12_expects_45 : decode cX12_expects 45 = .ok (.iadd, 1) := by decide +kernel
theorem dX12_expects_46 : decode cX12_expects 46 = .ok (.iaload, 1) := by decide +kernel
theorem dX12_expects_47 : decode cX12_expects 47 = .ok (.aload_n 0, 1) := by decide +kernel
theorem dX12_expects_48 : decode cX12_expects 48 = .ok (.iload_n 2, 1) := by decide +kernel
theorem dX12_expects_49 : decode cX12_expects 49 = .ok (.aload_n 0, 1) := by decide +kernel
theorem dX12_expects_50 : decode cX12_expects 50 = .ok (.getfield 7, 3) := by decide +kernel
theorem dX12_expects_53 : decode cX12_expects 53 = .ok (.bipush 20, 2) := by decide +kernel
theorem dX12_expects_55 : decode cX12_expects 55 = .ok (.iconst 3, 1) := by decide +kernel
theorem dX12_expects_56 : decode cX12_expects 56 = .ok (.iload 4, 2) := by decide +kernel
theorem dX12_expects_58 : decode cX12_expects 58 = .ok (.imul, 1) := by decide +kernel
theorem dX12_expects_59 : decode cX12_expects 59 = .ok (.iadd, 1) := by decide +kernel
theorem dX12_expects_60 : decode cX12_expects 60 = .ok (.iconst 1, 1) := by decide +kernel
theorem dX12_expects_61 : decode cX12_expects 61 = .ok (.iadd, 1) := by decide +kernel
theorem dX12_expects_62 : decode cX12_expects 62 = .ok (.iaload, 1) := by decide +kernel
theorem dX12_expects_63 : decode cX12_expects 63 = .ok (.invokevirtual 263, 3) := by decide +kernel
theorem dX12_expects_66 : decode cX12_expects 66 = .ok (.imul, 1) := by decide +kernel
theorem dX12_expects_67 : decode cX12_expects 67 = .ok (.goto 4, 3) := by decide +kernel
theorem dX12_expects_70 : decode cX12_expects 70 = .ok (.iconst 0, 1) := by decide +kernel
theorem dX12_expects_71 : decode cX12_expects 71 = .ok (.iadd, 1) := by decide +kernel
theorem dX12_expects_72 : decode cX12_expects 72 = .ok (.istore_n 3, 1) := by decide +kernel
theorem dX12_expects_73 : decode cX12_expects 73 = .ok (.iinc 4 1, 3) := by decide +kernel
theorem dX12_expects_76 : decode cX12_expects 76 = .ok (.goto (-71), 3) := by decide +kernel
theorem dX12_expects_79 : decode cX12_expects 79 = .ok (.iload_n 3, 1) := by decide +kernel
theorem dX12_expects_80 : decode cX12_expects 80 = .ok (.ireturn, 1) := by decide +kernel
theorem dX12_expected_0 : decode cX12_expected 0 = .ok (.aload_n 0, 1) := by decide +kernel
theorem dX12_expected_1 : decode cX12_expected 1 = .ok (.aload_n 0, 1) := by decide +kernel
theorem dX12_expected_2 : decode cX12_expected 2 = .ok (.iload_n 1, 1) := by decide +kernel
theorem dX12_expected_3 : decode cX12_expected 3 = .ok (.invokevirtual 266, 3) := by decide +kernel
theorem dX12_expected_6 : decode cX12_expected 6 = .ok (.ifCond .eq 10, 3) := by decide +kernel
theorem dX12_expected_9 : decode cX12_expected 9 = .ok (.iload_n 2, 1) := by decide +kernel
theorem dX12_expected_10 : decode cX12_expected 10 = .ok (.invokestatic 260, 3) := by decide +kernel
theorem dX12_expected_13 : decode cX12_expected 13 = .ok (.ifCond .ne 7, 3) := by decide +kernel
theorem dX12_expected_16 : decode cX12_expected 16 = .ok (.iconst 1, 1) := by decide +kernel
theorem dX12_expected_17 : decode cX12_expected 17 = .ok (.goto 4, 3) := by decide +kernel
