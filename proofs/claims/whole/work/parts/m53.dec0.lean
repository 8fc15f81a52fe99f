theorem dX0_init_0 : decode cX0_init 0 = .ok (.aload_n 0, 1) := by decide +kernel
theorem dX0_init_1 : decode cX0_init 1 = .ok (.invokespecial 3, 3) := by decide +kernel
theorem dX0_init_4 : decode cX0_init 4 = .ok (.aload_n 0, 1) := by decide +kernel
theorem dX0_init_5 : decode cX0_init 5 = .ok (.new 9, 3) := by decide +kernel
theorem dX0_init_8 : decode cX0_init 8 = .ok (.dup, 1) := by decide +kernel
theorem dX0_init_9 : decode cX0_init 9 = .ok (.invokespecial 11, 3) := by decide +kernel
theorem dX0_init_12 : decode cX0_init 12 = .ok (.putfield 12, 3) := by decide +kernel
theorem dX0_init_15 : decode cX0_init 15 = .ok (.aload_n 0, 1) := by decide +kernel
theorem dX0_init_16 : decode cX0_init 16 = .ok (.bipush 24, 2) := by decide +kernel
theorem dX0_init_18 : decode cX0_init 18 = .ok (.newarray .int, 2) := by decide +kernel
theorem dX0_init_20 : decode cX0_init 20 = .ok (.putfield 18, 3) := by decide +kernel
theorem dX0_init_23 : decode cX0_init 23 = .ok (.aload_n 0, 1) := by decide +kernel
theorem dX0_init_24 : decode cX0_init 24 = .ok (.bipush 24, 2) := by decide +kernel
theorem dX0_init_26 : decode cX0_init 26 = .ok (.newarray .int, 2) := by decide +kernel
theorem dX0_init_28 : decode cX0_init 28 = .ok (.putfield 22, 3) := by decide +kernel
theorem dX0_init_31 : decode cX0_init 31 = .ok (.aload_n 0, 1) := by decide +kernel
theorem dX0_init_32 : decode cX0_init 32 = .ok (.bipush 24, 2) := by decide +kernel
theorem dX0_init_34 : decode cX0_init 34 = .ok (.newarray .int, 2) := by decide +kernel
theorem dX0_init_36 : decode cX0_init 36 = .ok (.putfield 25, 3) := by decide +kernel
theorem dX0_init_39 : decode cX0_init 39 = .ok (.return_, 1) := by decide +kernel
theorem dX0_copyFrom_0 : decode cX0_copyFrom 0 = .ok (.aload_n 0, 1) := by decide +kernel
theorem dX0_copyFrom_1 : decode cX0_copyFrom 1 = .ok (.getfield 12, 3) := by decide +kernel
theorem dX0_copyFrom_4 : decode cX0_copyFrom 4 = .ok (.aload_n 1, 1) := by decide +kernel
theorem dX0_copyFrom_5 : decode cX0_copyFrom 5 = .ok (.getfield 12, 3) := by decide +kernel
theorem dX0_copyFrom_8 : decode cX0_copyFrom 8 = .ok (.invokevirtual 28, 3) := by decide +kernel
theorem dX0_copyFrom_11 : decode cX0_copyFrom 11 = .ok (.aload_n 0, 1) := by decide +kernel
theorem dX0_copyFrom_12 : decode cX0_copyFrom 12 = .ok (.aload_n 1, 1) := by decide +kernel
theorem dX0_copyFrom_13 : decode cX0_copyFrom 13 = .ok (.getfield 32, 3) := by decide +kernel
theorem dX0_copyFrom_16 : decode cX0_copyFrom 16 = .ok (.putfield 32, 3) := by decide +kernel
theorem dX0_copyFrom_19 : decode cX0_copyFrom 19 = .ok (.aload_n 0, 1) := by decide +kernel
theorem dX0_copyFrom_20 : decode cX0_copyFrom 20 = .ok (.aload_n 1, 1) := by decide +kernel
theorem dX0_copyFrom_21 : decode cX0_copyFrom 21 = .ok (.getfield 36, 3) := by decide +kernel
theorem dX0_copyFrom_24 : decode cX0_copyFrom 24 = .ok (.putfield 36, 3) := by decide +kernel
theorem dX0_copyFrom_27 : decode cX0_copyFrom 27 = .ok (.aload_n 1, 1) := by decide +kernel
theorem dX0_copyFrom_28 : decode cX0_copyFrom 28 = .ok (.getfield 18, 3) := by decide +kernel
theorem dX0_copyFrom_31 : decode cX0_copyFrom 31 = .ok (.iconst 0, 1) := by decide +kernel
theorem dX0_copyFrom_32 : decode cX0_copyFrom 32 = .ok (.aload_n 0, 1) := by decide +kernel
theorem dX0_copyFrom_33 : decode cX0_copyFrom 33 = .ok (.getfield 18, 3) := by decide +kernel
theorem dX0_copyFrom_36 : decode cX0_copyFrom 36 = .ok (.iconst 0, 1) := by decide +kernel
theorem dX0_copyFrom_37 : decode cX0_copyFrom 37 = .ok (.bipush 24, 2) := by decide +kernel
theorem dX0_copyFrom_39 : decode cX0_copyFrom 39 = .ok (.invokestatic 39, 3) := by decide +kernel
theorem dX0_copyFrom_42 : decode cX0_copyFrom 42 = .ok (.aload_n 1, 1) := by decide +kernel
theorem dX0_copyFrom_43 : decode cX0_copyFrom 43 = .ok (.getfield 22, 3) := by decide +kernel
theorem dX0_copyFrom_46 : decode cX0_copyFrom 46 = .ok (.iconst 0, 1) := by decide +kernel
theorem dX0_copyFrom_47 : decode cX0_copyFrom 47 = .ok (.aload_n 0, 1) := by decide +kernel
theorem dX0_copyFrom_48 : decode cX0_copyFrom 48 = .ok (.getfield 22, 3) := by decide +kernel
theorem dX0_copyFrom_51 : decode cX0_copyFrom 51 = .ok (.iconst 0, 1) := by decide +kernel
theorem dX0_copyFrom_52 : decode cX0_copyFrom 52 = .ok (.bipush 24, 2) := by decide +kernel
theorem dX0_copyFrom_54 : decode cX0_copyFrom 54 = .ok (.invokestatic 39, 3) := by decide +kernel
theorem dX0_copyFrom_57 : decode cX0_copyFrom 57 = .ok (.aload_n 1, 1) := by decide +kernel
theorem dX0_copyFrom_58 : decode cX0_copyFrom 58 = .ok (.getfield 25, 3) := by decide +kernel
theorem dX0_copyFrom_61 : decode cX0_copyFrom 61 = .ok (.iconst 0, 1) := by decide +kernel
theorem dX0_copyFrom_62 : decode cX0_copyFrom 62 = .ok (.aload_n 0, 1) := by decide +kernel
theorem dX0_copyFrom_63 : decode cX0_copyFrom 63 = .ok (.getfield 25, 3) := by decide +kernel
theorem dX0_copyFrom_66 : decode cX0_copyFrom 66 = .ok (.iconst 0, 1) := by decide +kernel
theorem dX0_copyFrom_67 : decode cX0_copyFrom 67 = .ok (.bipush 24, 2) := by decide +kernel
theorem dX0_copyFrom_69 : decode cX0_copyFrom 69 = .ok (.invokestatic 39, 3) := by decide +kernel
theorem dX0_copyFrom_72 : decode cX0_copyFrom 72 = .ok (.return_, 1) := by decide +kernel
theorem dX0_addHabit_0 : decode cX0_addHabit 0 = .ok (.aload_n 0, 1) := by decide +kernel
theorem dX0_addHabit_1 : decode cX0_addHabit 1 = .ok (.getfield 36, 3) := by decide +kernel
theorem dX0_addHabit_4 : decode cX0_addHabit 4 = .ok (.bipush 24, 2) := by decide +kernel
theorem dX0_addHabit_6 : decode cX0_addHabit 6 = .ok (.if_icmp .ge 43, 3) := by decide +kernel
theorem dX0_addHabit_9 : decode cX0_addHabit 9 = .ok (.aload_n 0, 1) := by decide +kernel
theorem dX0_addHabit_10 : decode cX0_addHabit 10 = .ok (.getfield 18, 3) := by decide +kernel
theorem dX0_addHabit_13 : decode cX0_addHabit 13 = .ok (.aload_n 0, 1) := by decide +kernel
theorem dX0_addHabit_14 : decode cX0_addHabit 14 = .ok (.getfield 36, 3) := by decide +kernel
theorem dX0_addHabit_17 : decode cX0_addHabit 17 = .ok (.iload_n 1, 1) := by decide +kernel
theorem dX0_addHabit_18 : decode cX0_addHabit 18 = .ok (.iastore, 1) := by decide +kernel
theorem dX0_addHabit_19 : decode cX0_addHabit 19 = .ok (.aload_n 0, 1) := by decide +kernel
theorem dX0_addHabit_20 : decode cX0_addHabit 20 = .ok (.getfield 22, 3) := by decide +kernel
theorem dX0_addHabit_23 : decode cX0_addHabit 23 = .ok (.aload_n 0, 1) := by decide +kernel
theorem dX0_addHabit_24 : decode cX0_addHabit 24 = .ok (.getfield 36, 3) := by decide +kernel
theorem dX0_addHabit_27 : decode cX0_addHabit 27 = .ok (.iload_n 2, 1) := by decide +kernel
theorem dX0_addHabit_28 : decode cX0_addHabit 28 = .ok (.iastore, 1) := by decide +kernel
theorem dX0_addHabit_29 : decode cX0_addHabit 29 = .ok (.aload_n 0, 1) := by decide +kernel
theorem dX0_addHabit_30 : decode cX0_addHabit 30 = .ok (.getfield 25, 3) := by decide +kernel
theorem dX0_addHabit_33 : decode cX0_addHabit 33 = .ok (.aload_n 0, 1) := by decide +kernel
theorem dX0_addHabit_34 : decode cX0_addHabit 34 = .ok (.getfield 36, 3) := by decide +kernel
theorem dX0_addHabit_37 : decode cX0_addHabit 37 = .ok (.iload_n 3, 1) := by decide +kernel
theorem dX0_addHabit_38 : decode cX0_addHabit 38 = .ok (.iastore, 1) := by decide +kernel
theorem dX0_addHabit_39 : decode cX0_addHabit 39 = .ok (.aload_n 0, 1) := by decide +kernel
theorem dX0_addHabit_40 : decode cX0_addHabit 40 = .ok (.dup, 1) := by decide +kernel
theorem dX0_addHabit_41 : decode cX0_addHabit 41 = .ok (.getfield 36, 3) := by decide +kernel
theorem dX0_addHabit_44 : decode cX0_addHabit 44 = .ok (.iconst 1, 1) := by decide +kernel
theorem dX0_addHabit_45 : decode cX0_addHabit 45 = .ok (.iadd, 1) := by decide +kernel
theorem dX0_addHabit_46 : decode cX0_addHabit 46 = .ok (.putfield 36, 3) := by decide +kernel
theorem dX0_addHabit_49 : decode cX0_addHabit 49 = .ok (.return_, 1) := by decide +kernel
theorem dX0_weightOf_0 : decode cX0_weightOf 0 = .ok (.iconst 0, 1) := by decide +kernel
theorem dX0_weightOf_1 : decode cX0_weightOf 1 = .ok (.istore_n 3, 1) := by decide +kernel
theorem dX0_weightOf_2 : decode cX0_weightOf 2 = .ok (.iconst 0, 1) := by decide +kernel
theorem dX0_weightOf_3 : decode cX0_weightOf 3 = .ok (.istore 4, 2) := by decide +kernel
theorem dX0_weightOf_5 : decode cX0_weightOf 5 = .ok (.iload 4, 2) := by decide +kernel
theorem dX0_weightOf_7 : decode cX0_weightOf 7 = .ok (.aload_n 0, 1) := by decide +kernel
theorem dX0_weightOf_8 : decode cX0_weightOf 8 = .ok (.getfield 36, 3) := by decide +kernel
theorem dX0_weightOf_11 : decode cX0_weightOf 11 = .ok (.if_icmp .ge 48, 3) := by decide +kernel
theorem dX0_weightOf_14 : decode cX0_weightOf 14 = .ok (.iload 4, 2) := by decide +kernel
theorem dX0_weightOf_16 : decode cX0_weightOf 16 = .ok (.bipush 24, 2) := by decide +kernel
theorem dX0_weightOf_18 : decode cX0_weightOf 18 = .ok (.if_icmp .ge 41, 3) := by decide +kernel
theorem dX0_weightOf_21 : decode cX0_weightOf 21 = .ok (.aload_n 0, 1) := by decide +kernel
theorem dX0_weightOf_22 : decode cX0_weightOf 22 = .ok (.getfield 18, 3) := by decide +kernel
theorem dX0_weightOf_25 : decode cX0_weightOf 25 = .ok (.iload 4, 2) := by decide +kernel
theorem dX0_weightOf_27 : decode cX0_weightOf 27 = .ok (.iaload, 1) := by decide +kernel
theorem dX0_weightOf_28 : decode cX0_weightOf 28 = .ok (.iload_n 1, 1) := by decide +kernel
theorem dX0_weightOf_29 : decode cX0_weightOf 29 = .ok (.if_icmp .ne 24, 3) := by decide +kernel
theorem dX0_weightOf_32 : decode cX0_weightOf 32 = .ok (.aload_n 0, 1) := by decide +kernel
theorem dX0_weightOf_33 : decode cX0_weightOf 33 = .ok (.getfield 22, 3) := by decide +kernel
theorem dX0_weightOf_36 : decode cX0_weightOf 36 = .ok (.iload 4, 2) := by decide +kernel
theorem dX0_weightOf_38 : decode cX0_weightOf 38 = .ok (.iaload, 1) := by decide +kernel
theorem dX0_weightOf_39 : decode cX0_weightOf 39 = .ok (.iload_n 2, 1) := by decide +kernel
theorem dX0_weightOf_40 : decode cX0_weightOf 40 = .ok (.if_icmp .ne 13, 3) := by decide +kernel
theorem dX0_weightOf_43 : decode cX0_weightOf 43 = .ok (.iload_n 3, 1) := by decide +kernel
theorem dX0_weightOf_44 : decode cX0_weightOf 44 = .ok (.aload_n 0, 1) := by decide +kernel
theorem dX0_weightOf_45 : decode cX0_weightOf 45 = .ok (.getfield 25, 3) := by decide +kernel
theorem dX0_weightOf_48 : decode cX0_weightOf 48 = .ok (.iload 4, 2) := by decide +kernel
theorem dX0_weightOf_50 : decode cX0_weightOf 50 = .ok (.iaload, 1) := by decide +kernel
theorem dX0_weightOf_51 : decode cX0_weightOf 51 = .ok (.iadd, 1) := by decide +kernel
theorem dX0_weightOf_52 : decode cX0_weightOf 52 = .ok (.istore_n 3, 1) := by decide +kernel
theorem dX0_weightOf_53 : decode cX0_weightOf 53 = .ok (.iinc 4 1, 3) := by decide +kernel
theorem dX0_weightOf_56 : decode cX0_weightOf 56 = .ok (.goto (-51), 3) := by decide +kernel
theorem dX0_weightOf_59 : decode cX0_weightOf 59 = .ok (.iload_n 3, 1) := by decide +kernel
theorem dX0_weightOf_60 : decode cX0_weightOf 60 = .ok (.ireturn, 1) := by decide +kernel
theorem dX0_allWeightIn_0 : decode cX0_allWeightIn 0 = .ok (.iconst 0, 1) := by decide +kernel
theorem dX0_allWeightIn_1 : decode cX0_allWeightIn 1 = .ok (.istore_n 2, 1) := by decide +kernel
theorem dX0_allWeightIn_2 : decode cX0_allWeightIn 2 = .ok (.iconst 0, 1) := by decide +kernel
theorem dX0_allWeightIn_3 : decode cX0_allWeightIn 3 = .ok (.istore_n 3, 1) := by decide +kernel
theorem dX0_allWeightIn_4 : decode cX0_allWeightIn 4 = .ok (.iload_n 3, 1) := by decide +kernel
theorem dX0_allWeightIn_5 : decode cX0_allWeightIn 5 = .ok (.aload_n 0, 1) := by decide +kernel
theorem dX0_allWeightIn_6 : decode cX0_allWeightIn 6 = .ok (.getfield 36, 3) := by decide +kernel
theorem dX0_allWeightIn_9 : decode cX0_allWeightIn 9 = .ok (.if_icmp .ge 34, 3) := by decide +kernel
theorem dX0_allWeightIn_12 : decode cX0_allWeightIn 12 = .ok (.iload_n 3, 1) := by decide +kernel
theorem dX0_allWeightIn_13 : decode cX0_allWeightIn 13 = .ok (.bipush 24, 2) := by decide +kernel
theorem dX0_allWeightIn_15 : decode cX0_allWeightIn 15 = .ok (.if_icmp .ge 28, 3) := by decide +kernel
theorem dX0_allWeightIn_18 : decode cX0_allWeightIn 18 = .ok (.aload_n 0, 1) := by decide +kernel
theorem dX0_allWeightIn_19 : decode cX0_allWeightIn 19 = .ok (.getfield 18, 3) := by decide +kernel
theorem dX0_allWeightIn_22 : decode cX0_allWeightIn 22 = .ok (.iload_n 3, 1) := by decide +kernel
theorem dX0_allWeightIn_23 : decode cX0_allWeightIn 23 = .ok (.iaload, 1) := by decide +kernel
theorem dX0_allWeightIn_24 : decode cX0_allWeightIn 24 = .ok (.iload_n 1, 1) := by decide +kernel
theorem dX0_allWeightIn_25 : decode cX0_allWeightIn 25 = .ok (.if_icmp .ne 12, 3) := by decide +kernel
theorem dX0_allWeightIn_28 : decode cX0_allWeightIn 28 = .ok (.iload_n 2, 1) := by decide +kernel
theorem dX0_allWeightIn_29 : decode cX0_allWeightIn 29 = .ok (.aload_n 0, 1) := by decide +kernel
theorem dX0_allWeightIn_30 : decode cX0_allWeightIn 30 = .ok (.getfield 25, 3) := by decide +kernel
theorem dX0_allWeightIn_33 : decode cX0_allWeightIn 33 = .ok (.iload_n 3, 1) := by decide +kernel
theorem dX0_allWeightIn_34 : decode cX0_allWeightIn 34 = .ok (.iaload, 1) := by decide +kernel
theorem dX0_allWeightIn_35 : decode cX0_allWeightIn 35 = .ok (.iadd, 1) := by decide +kernel
theorem dX0_allWeightIn_36 : decode cX0_allWeightIn 36 = .ok (.istore_n 2, 1) := by decide +kernel
theorem dX0_allWeightIn_37 : decode cX0_allWeightIn 37 = .ok (.iinc 3 1, 3) := by decide +kernel
theorem dX0_allWeightIn_40 : decode cX0_allWeightIn 40 = .ok (.goto (-36), 3) := by decide +kernel
theorem dX0_allWeightIn_43 : decode cX0_allWeightIn 43 = .ok (.iload_n 2, 1) := by decide +kernel
theorem dX0_allWeightIn_44 : decode cX0_allWeightIn 44 = .ok (.ireturn, 1) := by decide +kernel
theorem dX0_expectedOf_0 : decode cX0_expectedOf 0 = .ok (.iconst 0, 1) := by decide +kernel
theorem dX0_expectedOf_1 : decode cX0_expectedOf 1 = .ok (.istore_n 3, 1) := by decide +kernel
theorem dX0_expectedOf_2 : decode cX0_expectedOf 2 = .ok (.iconst 0, 1) := by decide +kernel
theorem dX0_expectedOf_3 : decode cX0_expectedOf 3 = .ok (.istore 4, 2) := by decide +kernel
theorem dX0_expectedOf_5 : decode cX0_expectedOf 5 = .ok (.iload 4, 2) := by decide +kernel
theorem dX0_expectedOf_7 : decode cX0_expectedOf 7 = .ok (.aload_n 0, 1) := by decide +kernel
theorem dX0_expectedOf_8 : decode cX0_expectedOf 8 = .ok (.getfield 36, 3) := by decide +kernel
theorem dX0_expectedOf_11 : decode cX0_expectedOf 11 = .ok (.if_icmp .ge 53, 3) := by decide +kernel
theorem dX0_expectedOf_14 : decode cX0_expectedOf 14 = .ok (.iload 4, 2) := by decide +kernel
theorem dX0_expectedOf_16 : decode cX0_expectedOf 16 = .ok (.bipush 24, 2) := by decide +kernel
theorem dX0_expectedOf_18 : decode cX0_expectedOf 18 = .ok (.if_icmp .ge 46, 3) := by decide +kernel
theorem dX0_expectedOf_21 : decode cX0_expectedOf 21 = .ok (.aload_n 0, 1) := by decide +kernel
theorem dX0_expectedOf_22 : decode cX0_expectedOf 22 = .ok (.getfield 18, 3) := by decide +kernel
theorem dX0_expectedOf_25 : decode cX0_expectedOf 25 = .ok (.iload 4, 2) := by decide +kernel
theorem dX0_expectedOf_27 : decode cX0_expectedOf 27 = .ok (.iaload, 1) := by decide +kernel
theorem dX0_expectedOf_28 : decode cX0_expectedOf 28 = .ok (.iload_n 1, 1) := by decide +kernel
theorem dX0_expectedOf_29 : decode cX0_expectedOf 29 = .ok (.if_icmp .ne 29, 3) := by decide +kernel
theorem dX0_expectedOf_32 : decode cX0_expectedOf 32 = .ok (.iload_n 3, 1) := by decide +kernel
theorem dX0_expectedOf_33 : decode cX0_expectedOf 33 = .ok (.aload_n 0, 1) := by decide +kernel
theorem dX0_expectedOf_34 : decode cX0_expectedOf 34 = .ok (.getfield 25, 3) := by decide +kernel
theorem dX0_expectedOf_37 : decode cX0_expectedOf 37 = .ok (.iload 4, 2) := by decide +kernel
theorem dX0_expectedOf_39 : decode cX0_expectedOf 39 = .ok (.iaload, 1) := by decide +kernel
theorem dX0_expectedOf_40 : decode cX0_expectedOf 40 = .ok (.aload_n 0, 1) := by decide +kernel
theorem dX0_expectedOf_41 : decode cX0_expectedOf 41 = .ok (.getfield 12, 3) := by decide +kernel
theorem dX0_expectedOf_44 : decode cX0_expectedOf 44 = .ok (.iload_n 2, 1) := by decide +kernel
theorem dX0_expectedOf_45 : decode cX0_expectedOf 45 = .ok (.aload_n 0, 1) := by decide +kernel
theorem dX0_expectedOf_46 : decode cX0_expectedOf 46 = .ok (.getfield 22, 3) := by decide +kernel
theorem dX0_expectedOf_49 : decode cX0_expectedOf 49 = .ok (.iload 4, 2) := by decide +kernel
theorem dX0_expectedOf_51 : decode cX0_expectedOf 51 = .ok (.iaload, 1) := by decide +kernel
theorem dX0_expectedOf_52 : decode cX0_expectedOf 52 = .ok (.invokevirtual 45, 3) := by decide +kernel
theorem dX0_expectedOf_55 : decode cX0_expectedOf 55 = .ok (.imul, 1) := by decide +kernel
theorem dX0_expectedOf_56 : decode cX0_expectedOf 56 = .ok (.iadd, 1) := by decide +kernel
theorem dX0_expectedOf_57 : decode cX0_expectedOf 57 = .ok (.istore_n 3, 1) := by decide +kernel
theorem dX0_expectedOf_58 : decode cX0_expectedOf 58 = .ok (.iinc 4 1, 3) := by decide +kernel
theorem dX0_expectedOf_61 : decode cX0_expectedOf 61 = .ok (.goto (-56), 3) := by decide +kernel
theorem dX0_expectedOf_64 : decode cX0_expectedOf 64 = .ok (.iload_n 3, 1) := by decide +kernel
theorem dX0_expectedOf_65 : decode cX0_expectedOf 65 = .ok (.ireturn, 1) := by decide +kernel
theorem dX0_bestIn_0 : decode cX0_bestIn 0 = .ok (.iconst 0, 1) := by decide +kernel
theorem dX0_bestIn_1 : decode cX0_bestIn 1 = .ok (.istore_n 2, 1) := by decide +kernel
theorem dX0_bestIn_2 : decode cX0_bestIn 2 = .ok (.aload_n 0, 1) := by decide +kernel
theorem dX0_bestIn_3 : decode cX0_bestIn 3 = .ok (.iload_n 1, 1) := by decide +kernel
theorem dX0_bestIn_4 : decode cX0_bestIn 4 = .ok (.iconst 0, 1) := by decide +kernel
theorem dX0_bestIn_5 : decode cX0_bestIn 5 = .ok (.invokevirtual 49, 3) := by decide +kernel
theorem dX0_bestIn_8 : decode cX0_bestIn 8 = .ok (.istore_n 3, 1) := by decide +kernel
theorem dX0_bestIn_9 : decode cX0_bestIn 9 = .ok (.iconst 1, 1) := by decide +kernel
theorem dX0_bestIn_10 : decode cX0_bestIn 10 = .ok (.istore 4, 2) := by decide +kernel
theorem dX0_bestIn_12 : decode cX0_bestIn 12 = .ok (.iload 4, 2) := by decide +kernel
theorem dX0_bestIn_14 : decode cX0_bestIn 14 = .ok (.bipush 32, 2) := by decide +kernel
theorem dX0_bestIn_16 : decode cX0_bestIn 16 = .ok (.if_icmp .ge 30, 3) := by decide +kernel
theorem dX0_bestIn_19 : decode cX0_bestIn 19 = .ok (.aload_n 0, 1) := by decide +kernel
theorem dX0_bestIn_20 : decode cX0_bestIn 20 = .ok (.iload_n 1, 1) := by decide +kernel
theorem dX0_bestIn_21 : decode cX0_bestIn 21 = .ok (.iload 4, 2) := by decide +kernel
theorem dX0_bestIn_23 : decode cX0_bestIn 23 = .ok (.invokevirtual 49, 3) := by decide +kernel
theorem dX0_bestIn_26 : decode cX0_bestIn 26 = .ok (.istore 5, 2) := by decide +kernel
theorem dX0_bestIn_28 : decode cX0_bestIn 28 = .ok (.iload 5, 2) := by decide +kernel
theorem dX0_bestIn_30 : decode cX0_bestIn 30 = .ok (.iload_n 3, 1) := by decide +kernel
theorem dX0_bestIn_31 : decode cX0_bestIn 31 = .ok (.if_icmp .ge 9, 3) := by decide +kernel
theorem dX0_bestIn_34 : decode cX0_bestIn 34 = .ok (.iload 4, 2) := by decide +kernel
theorem dX0_bestIn_36 : decode cX0_bestIn 36 = .ok (.istore_n 2, 1) := by decide +kernel
theorem dX0_bestIn_37 : decode cX0_bestIn 37 = .ok (.iload 5, 2) := by decide +kernel
theorem dX0_bestIn_39 : decode cX0_bestIn 39 = .ok (.istore_n 3, 1) := by decide +kernel
theorem dX0_bestIn_40 : decode cX0_bestIn 40 = .ok (.iinc 4 1, 3) := by decide +kernel
theorem dX0_bestIn_43 : decode cX0_bestIn 43 = .ok (.goto (-31), 3) := by decide +kernel
theorem dX0_bestIn_46 : decode cX0_bestIn 46 = .ok (.iload_n 2, 1) := by decide +kernel
theorem dX0_bestIn_47 : decode cX0_bestIn 47 = .ok (.ireturn, 1) := by decide +kernel
theorem dX0_greatestCostOf_0 : decode cX0_greatestCostOf 0 = .ok (.iconst 0, 1) := by decide +kernel
theorem dX0_greatestCostOf_1 : decode cX0_greatestCostOf 1 = .ok (.istore_n 2, 1) := by decide +kernel
theorem dX0_greatestCostOf_2 : decode cX0_greatestCostOf 2 = .ok (.iconst 0, 1) := by decide +kernel
theorem dX0_greatestCostOf_3 : decode cX0_greatestCostOf 3 = .ok (.istore_n 3, 1) := by decide +kernel
theorem dX0_greatestCostOf_4 : decode cX0_greatestCostOf 4 = .ok (.iload_n 3, 1) := by decide +kernel
theorem dX0_greatestCostOf_5 : decode cX0_greatestCostOf 5 = .ok (.aload_n 0, 1) := by decide +kernel
theorem dX0_greatestCostOf_6 : decode cX0_greatestCostOf 6 = .ok (.getfield 36, 3) := by decide +kernel
theorem dX0_greatestCostOf_9 : decode cX0_greatestCostOf 9 = .ok (.if_icmp .ge 34, 3) := by decide +kernel
theorem dX0_greatestCostOf_12 : decode cX0_greatestCostOf 12 = .ok (.iload_n 3, 1) := by decide +kernel
theorem dX0_greatestCostOf_13 : decode cX0_greatestCostOf 13 = .ok (.bipush 24, 2) := by decide +kernel
theorem dX0_greatestCostOf_15 : decode cX0_greatestCostOf 15 = .ok (.if_icmp .ge 28, 3) := by decide +kernel
theorem dX0_greatestCostOf_18 : decode cX0_greatestCostOf 18 = .ok (.iload_n 2, 1) := by decide +kernel
theorem dX0_greatestCostOf_19 : decode cX0_greatestCostOf 19 = .ok (.aload_n 0, 1) := by decide +kernel
theorem dX0_greatestCostOf_20 : decode cX0_greatestCostOf 20 = .ok (.getfield 12, 3) := by decide +kernel
theorem dX0_greatestCostOf_23 : decode cX0_greatestCostOf 23 = .ok (.iload_n 1, 1) := by decide +kernel
theorem dX0_greatestCostOf_24 : decode cX0_greatestCostOf 24 = .ok (.aload_n 0, 1) := by decide +kernel
theorem dX0_greatestCostOf_25 : decode cX0_greatestCostOf 25 = .ok (.getfield 22, 3) := by decide +kernel
theorem dX0_greatestCostOf_28 : decode cX0_greatestCostOf 28 = .ok (.iload_n 3, 1) := by decide +kernel
theorem dX0_greatestCostOf_29 : decode cX0_greatestCostOf 29 = .ok (.iaload, 1) := by decide +kernel
theorem dX0_greatestCostOf_30 : decode cX0_greatestCostOf 30 = .ok (.invokevirtual 45, 3) := by decide +kernel
theorem dX0_greatestCostOf_33 : decode cX0_greatestCostOf 33 = .ok (.invokestatic 52, 3) := by decide +kernel
theorem dX0_greatestCostOf_36 : decode cX0_greatestCostOf 36 = .ok (.istore_n 2, 1) := by decide +kernel
theorem dX0_greatestCostOf_37 : decode cX0_greatestCostOf 37 = .ok (.iinc 3 1, 3) := by decide +kernel
theorem dX0_greatestCostOf_40 : decode cX0_greatestCostOf 40 = .ok (.goto (-36), 3) := by decide +kernel
theorem dX0_greatestCostOf_43 : decode cX0_greatestCostOf 43 = .ok (.iload_n 2, 1) := by decide +kernel
theorem dX0_greatestCostOf_44 : decode cX0_greatestCostOf 44 = .ok (.ireturn, 1) := by decide +kernel
theorem dX0_safestOfAll_0 : decode cX0_safestOfAll 0 = .ok (.iconst 0, 1) := by decide +kernel
theorem dX0_safestOfAll_1 : decode cX0_safestOfAll 1 = .ok (.istore_n 1, 1) := by decide +kernel
theorem dX0_safestOfAll_2 : decode cX0_safestOfAll 2 = .ok (.aload_n 0, 1) := by decide +kernel
theorem dX0_safestOfAll_3 : decode cX0_safestOfAll 3 = .ok (.iconst 0, 1) := by decide +kernel
theorem dX0_safestOfAll_4 : decode cX0_safestOfAll 4 = .ok (.invokevirtual 57, 3) := by decide +kernel
theorem dX0_safestOfAll_7 : decode cX0_safestOfAll 7 = .ok (.istore_n 2, 1) := by decide +kernel
theorem dX0_safestOfAll_8 : decode cX0_safestOfAll 8 = .ok (.iconst 1, 1) := by decide +kernel
theorem dX0_safestOfAll_9 : decode cX0_safestOfAll 9 = .ok (.istore_n 3, 1) := by decide +kernel
theorem dX0_safestOfAll_10 : decode cX0_safestOfAll 10 = .ok (.iload_n 3, 1) := by decide +kernel
theorem dX0_safestOfAll_11 : decode cX0_safestOfAll 11 = .ok (.bipush 32, 2) := by decide +kernel
theorem dX0_safestOfAll_13 : decode cX0_safestOfAll 13 = .ok (.if_icmp .ge 27, 3) := by decide +kernel
theorem dX0_safestOfAll_16 : decode cX0_safestOfAll 16 = .ok (.aload_n 0, 1) := by decide +kernel
theorem dX0_safestOfAll_17 : decode cX0_safestOfAll 17 = .ok (.iload_n 3, 1) := by decide +kernel
theorem dX0_safestOfAll_18 : decode cX0_safestOfAll 18 = .ok (.invokevirtual 57, 3) := by decide +kernel
theorem dX0_safestOfAll_21 : decode cX0_safestOfAll 21 = .ok (.istore 4, 2) := by decide +kernel
theorem dX0_safestOfAll_23 : decode cX0_safestOfAll 23 = .ok (.iload 4, 2) := by decide +kernel
theorem dX0_safestOfAll_25 : decode cX0_safestOfAll 25 = .ok (.iload_n 2, 1) := by decide +kernel
theorem dX0_safestOfAll_26 : decode cX0_safestOfAll 26 = .ok (.if_icmp .ge 8, 3) := by decide +kernel
theorem dX0_safestOfAll_29 : decode cX0_safestOfAll 29 = .ok (.iload_n 3, 1) := by decide +kernel
theorem dX0_safestOfAll_30 : decode cX0_safestOfAll 30 = .ok (.istore_n 1, 1) := by decide +kernel
theorem dX0_safestOfAll_31 : decode cX0_safestOfAll 31 = .ok (.iload 4, 2) := by decide +kernel
theorem dX0_safestOfAll_33 : decode cX0_safestOfAll 33 = .ok (.istore_n 2, 1) := by decide +kernel
theorem dX0_safestOfAll_34 : decode cX0_safestOfAll 34 = .ok (.iinc 3 1, 3) := by decide +kernel
theorem dX0_safestOfAll_37 : decode cX0_safestOfAll 37 = .ok (.goto (-27), 3) := by decide +kernel
theorem dX0_safestOfAll_40 : decode cX0_safestOfAll 40 = .ok (.iload_n 1, 1) := by decide +kernel
theorem dX0_safestOfAll_41 : decode cX0_safestOfAll 41 = .ok (.ireturn, 1) := by decide +kernel
theorem dX1_init_0 : decode cX1_init 0 = .ok (.aload_n 0, 1) := by decide +kernel
theorem dX1_init_1 : decode cX1_init 1 = .ok (.invokespecial 3, 3) := by decide +kernel
theorem dX1_init_4 : decode cX1_init 4 = .ok (.aload_n 0, 1) := by decide +kernel
theorem dX1_init_5 : decode cX1_init 5 = .ok (.bipush 12, 2) := by decide +kernel
theorem dX1_init_7 : decode cX1_init 7 = .ok (.newarray .int, 2) := by decide +kernel
theorem dX1_init_9 : decode cX1_init 9 = .ok (.putfield 11, 3) := by decide +kernel
theorem dX1_init_12 : decode cX1_init 12 = .ok (.aload_n 0, 1) := by decide +kernel
theorem dX1_init_13 : decode cX1_init 13 = .ok (.bipush 12, 2) := by decide +kernel
theorem dX1_init_15 : decode cX1_init 15 = .ok (.newarray .int, 2) := by decide +kernel
theorem dX1_init_17 : decode cX1_init 17 = .ok (.putfield 15, 3) := by decide +kernel
theorem dX1_init_20 : decode cX1_init 20 = .ok (.aload_n 0, 1) := by decide +kernel
theorem dX1_init_21 : decode cX1_init 21 = .ok (.bipush 32, 2) := by decide +kernel
theorem dX1_init_23 : decode cX1_init 23 = .ok (.newarray .int, 2) := by decide +kernel
theorem dX1_init_25 : decode cX1_init 25 = .ok (.putfield 18, 3) := by decide +kernel
theorem dX1_init_28 : decode cX1_init 28 = .ok (.aload_n 0, 1) := by decide +kernel
theorem dX1_init_29 : decode cX1_init 29 = .ok (.iload_n 1, 1) := by decide +kernel
theorem dX1_init_30 : decode cX1_init 30 = .ok (.iconst 0, 1) := by decide +kernel
theorem dX1_init_31 : decode cX1_init 31 = .ok (.invokestatic 21, 3) := by decide +kernel
theorem dX1_init_34 : decode cX1_init 34 = .ok (.newarray .int, 2) := by decide +kernel
theorem dX1_init_36 : decode cX1_init 36 = .ok (.putfield 27, 3) := by decide +kernel
theorem dX1_init_39 : decode cX1_init 39 = .ok (.aload_n 0, 1) := by decide +kernel
theorem dX1_init_40 : decode cX1_init 40 = .ok (.iload_n 1, 1) := by decide +kernel
theorem dX1_init_41 : decode cX1_init 41 = .ok (.iconst 0, 1) := by decide +kernel
theorem dX1_init_42 : decode cX1_init 42 = .ok (.invokestatic 21, 3) := by decide +kernel
theorem dX1_init_45 : decode cX1_init 45 = .ok (.newarray .int, 2) := by decide +kernel
theorem dX1_init_47 : decode cX1_init 47 = .ok (.putfield 30, 3) := by decide +kernel
theorem dX1_init_50 : decode cX1_init 50 = .ok (.return_, 1) := by decide +kernel
theorem dX1_addStep_0 : decode cX1_addStep 0 = .ok (.aload_n 0, 1) := by decide +kernel
theorem dX1_addStep_1 : decode cX1_addStep 1 = .ok (.getfield 33, 3) := by decide +kernel
theorem dX1_addStep_4 : decode cX1_addStep 4 = .ok (.aload_n 0, 1) := by decide +kernel
theorem dX1_addStep_5 : decode cX1_addStep 5 = .ok (.getfield 27, 3) := by decide +kernel
theorem dX1_addStep_8 : decode cX1_addStep 8 = .ok (.arraylength, 1) := by decide +kernel
theorem dX1_addStep_9 : decode cX1_addStep 9 = .ok (.if_icmp .ge 45, 3) := by decide +kernel
theorem dX1_addStep_12 : decode cX1_addStep 12 = .ok (.aload_n 0, 1) := by decide +kernel
theorem dX1_addStep_13 : decode cX1_addStep 13 = .ok (.getfield 33, 3) := by decide +kernel
theorem dX1_addStep_16 : decode cX1_addStep 16 = .ok (.aload_n 0, 1) := by decide +kernel
theorem dX1_addStep_17 : decode cX1_addStep 17 = .ok (.getfield 30, 3) := by decide +kernel
theorem dX1_addStep_20 : decode cX1_addStep 20 = .ok (.arraylength, 1) := by decide +kernel
theorem dX1_addStep_21 : decode cX1_addStep 21 = .ok (.if_icmp .ge 33, 3) := by decide +kernel
theorem dX1_addStep_24 : decode cX1_addStep 24 = .ok (.aload_n 0, 1) := by decide +kernel
theorem dX1_addStep_25 : decode cX1_addStep 25 = .ok (.getfield 27, 3) := by decide +kernel
theorem dX1_addStep_28 : decode cX1_addStep 28 = .ok (.aload_n 0, 1) := by decide +kernel
theorem dX1_addStep_29 : decode cX1_addStep 29 = .ok (.getfield 33, 3) := by decide +kernel
theorem dX1_addStep_32 : decode cX1_addStep 32 = .ok (.iload_n 1, 1) := by decide +kernel
theorem dX1_addStep_33 : decode cX1_addStep 33 = .ok (.iastore, 1) := by decide +kernel
theorem dX1_addStep_34 : decode cX1_addStep 34 = .ok (.aload_n 0, 1) := by decide +kernel
theorem dX1_addStep_35 : decode cX1_addStep 35 = .ok (.getfield 30, 3) := by decide +kernel
theorem dX1_addStep_38 : decode cX1_addStep 38 = .ok (.aload_n 0, 1) := by decide +kernel
theorem dX1_addStep_39 : decode cX1_addStep 39 = .ok (.getfield 33, 3) := by decide +kernel
theorem dX1_addStep_42 : decode cX1_addStep 42 = .ok (.iload_n 2, 1) := by decide +kernel
theorem dX1_addStep_43 : decode cX1_addStep 43 = .ok (.iastore, 1) := by decide +kernel
theorem dX1_addStep_44 : decode cX1_addStep 44 = .ok (.aload_n 0, 1) := by decide +kernel
theorem dX1_addStep_45 : decode cX1_addStep 45 = .ok (.dup, 1) := by decide +kernel
theorem dX1_addStep_46 : decode cX1_addStep 46 = .ok (.getfield 33, 3) := by decide +kernel
theorem dX1_addStep_49 : decode cX1_addStep 49 = .ok (.iconst 1, 1) := by decide +kernel
theorem dX1_addStep_50 : decode cX1_addStep 50 = .ok (.iadd, 1) := by decide +kernel
theorem dX1_addStep_51 : decode cX1_addStep 51 = .ok (.putfield 33, 3) := by decide +kernel
theorem dX1_addStep_54 : decode cX1_addStep 54 = .ok (.return_, 1) := by decide +kernel
theorem dX1_addLine_0 : decode cX1_addLine 0 = .ok (.aload_n 0, 1) := by decide +kernel
theorem dX1_addLine_1 : decode cX1_addLine 1 = .ok (.getfield 37, 3) := by decide +kernel
theorem dX1_addLine_4 : decode cX1_addLine 4 = .ok (.bipush 12, 2) := by decide +kernel
theorem dX1_addLine_6 : decode cX1_addLine 6 = .ok (.if_icmp .ge 36, 3) := by decide +kernel
theorem dX1_addLine_9 : decode cX1_addLine 9 = .ok (.aload_n 0, 1) := by decide +kernel
theorem dX1_addLine_10 : decode cX1_addLine 10 = .ok (.getfield 11, 3) := by decide +kernel
theorem dX1_addLine_13 : decode cX1_addLine 13 = .ok (.aload_n 0, 1) := by decide +kernel
theorem dX1_addLine_14 : decode cX1_addLine 14 = .ok (.getfield 37, 3) := by decide +kernel
theorem dX1_addLine_17 : decode cX1_addLine 17 = .ok (.iload_n 1, 1) := by decide +kernel
theorem dX1_addLine_18 : decode cX1_addLine 18 = .ok (.iastore, 1) := by decide +kernel
theorem dX1_addLine_19 : decode cX1_addLine 19 = .ok (.aload_n 0, 1) := by decide +kernel
theorem dX1_addLine_20 : decode cX1_addLine 20 = .ok (.getfield 15, 3) := by decide +kernel
theorem dX1_addLine_23 : decode cX1_addLine 23 = .ok (.aload_n 0, 1) := by decide +kernel
theorem dX1_addLine_24 : decode cX1_addLine 24 = .ok (.getfield 37, 3) := by decide +kernel
theorem dX1_addLine_27 : decode cX1_addLine 27 = .ok (.aload_n 0, 1) := by decide +kernel
theorem dX1_addLine_28 : decode cX1_addLine 28 = .ok (.getfield 33, 3) := by decide +kernel
theorem dX1_addLine_31 : decode cX1_addLine 31 = .ok (.iastore, 1) := by decide +kernel
theorem dX1_addLine_32 : decode cX1_addLine 32 = .ok (.aload_n 0, 1) := by decide +kernel
theorem dX1_addLine_33 : decode cX1_addLine 33 = .ok (.dup, 1) := by decide +kernel
theorem dX1_addLine_34 : decode cX1_addLine 34 = .ok (.getfield 37, 3) := by decide +kernel
theorem dX1_addLine_37 : decode cX1_addLine 37 = .ok (.iconst 1, 1) := by decide +kernel
theorem dX1_addLine_38 : decode cX1_addLine 38 = .ok (.iadd, 1) := by decide +kernel
theorem dX1_addLine_39 : decode cX1_addLine 39 = .ok (.putfield 37, 3) := by decide +kernel
theorem dX1_addLine_42 : decode cX1_addLine 42 = .ok (.return_, 1) := by decide +kernel
theorem dX1_greetingFor_0 : decode cX1_greetingFor 0 = .ok (.iconst 0, 1) := by decide +kernel
theorem dX1_greetingFor_1 : decode cX1_greetingFor 1 = .ok (.istore 4, 2) := by decide +kernel
theorem dX1_greetingFor_3 : decode cX1_greetingFor 3 = .ok (.iconst 0, 1) := by decide +kernel
theorem dX1_greetingFor_4 : decode cX1_greetingFor 4 = .ok (.istore 5, 2) := by decide +kernel
theorem dX1_greetingFor_6 : decode cX1_greetingFor 6 = .ok (.iload 5, 2) := by decide +kernel
theorem dX1_greetingFor_8 : decode cX1_greetingFor 8 = .ok (.aload_n 0, 1) := by decide +kernel
theorem dX1_greetingFor_9 : decode cX1_greetingFor 9 = .ok (.getfield 37, 3) := by decide +kernel
theorem dX1_greetingFor_12 : decode cX1_greetingFor 12 = .ok (.if_icmp .ge 52, 3) := by decide +kernel
theorem dX1_greetingFor_15 : decode cX1_greetingFor 15 = .ok (.iload 5, 2) := by decide +kernel
theorem dX1_greetingFor_17 : decode cX1_greetingFor 17 = .ok (.bipush 12, 2) := by decide +kernel
theorem dX1_greetingFor_19 : decode cX1_greetingFor 19 = .ok (.if_icmp .ge 45, 3) := by decide +kernel
theorem dX1_greetingFor_22 : decode cX1_greetingFor 22 = .ok (.aload_n 0, 1) := by decide +kernel
theorem dX1_greetingFor_23 : decode cX1_greetingFor 23 = .ok (.iload 4, 2) := by decide +kernel
theorem dX1_greetingFor_25 : decode cX1_greetingFor 25 = .ok (.aload_n 0, 1) := by decide +kernel
theorem dX1_greetingFor_26 : decode cX1_greetingFor 26 = .ok (.getfield 15, 3) := by decide +kernel
theorem dX1_greetingFor_29 : decode cX1_greetingFor 29 = .ok (.iload 5, 2) := by decide +kernel
theorem dX1_greetingFor_31 : decode cX1_greetingFor 31 = .ok (.iaload, 1) := by decide +kernel
theorem dX1_greetingFor_32 : decode cX1_greetingFor 32 = .ok (.aload_n 1, 1) := by decide +kernel
theorem dX1_greetingFor_33 : decode cX1_greetingFor 33 = .ok (.iload_n 2, 1) := by decide +kernel
theorem dX1_greetingFor_34 : decode cX1_greetingFor 34 = .ok (.iload_n 3, 1) := by decide +kernel
theorem dX1_greetingFor_35 : decode cX1_greetingFor 35 = .ok (.invokevirtual 40, 3) := by decide +kernel
theorem dX1_greetingFor_38 : decode cX1_greetingFor 38 = .ok (.ifCond .eq 11, 3) := by decide +kernel
theorem dX1_greetingFor_41 : decode cX1_greetingFor 41 = .ok (.aload_n 0, 1) := by decide +kernel
theorem dX1_greetingFor_42 : decode cX1_greetingFor 42 = .ok (.getfield 11, 3) := by decide +kernel
theorem dX1_greetingFor_45 : decode cX1_greetingFor 45 = .ok (.iload 5, 2) := by decide +kernel
theorem dX1_greetingFor_47 : decode cX1_greetingFor 47 = .ok (.iaload, 1) := by decide +kernel
theorem dX1_greetingFor_48 : decode cX1_greetingFor 48 = .ok (.ireturn, 1) := by decide +kernel
theorem dX1_greetingFor_49 : decode cX1_greetingFor 49 = .ok (.aload_n 0, 1) := by decide +kernel
theorem dX1_greetingFor_50 : decode cX1_greetingFor 50 = .ok (.getfield 15, 3) := by decide +kernel
theorem dX1_greetingFor_53 : decode cX1_greetingFor 53 = .ok (.iload 5, 2) := by decide +kernel
theorem dX1_greetingFor_55 : decode cX1_greetingFor 55 = .ok (.iaload, 1) := by decide +kernel
theorem dX1_greetingFor_56 : decode cX1_greetingFor 56 = .ok (.istore 4, 2) := by decide +kernel
theorem dX1_greetingFor_58 : decode cX1_greetingFor 58 = .ok (.iinc 5 1, 3) := by decide +kernel
theorem dX1_greetingFor_61 : decode cX1_greetingFor 61 = .ok (.goto (-55), 3) := by decide +kernel
theorem dX1_greetingFor_64 : decode cX1_greetingFor 64 = .ok (.iconst (-1), 1) := by decide +kernel
theorem dX1_greetingFor_65 : decode cX1_greetingFor 65 = .ok (.ireturn, 1) := by decide +kernel
theorem dX1_holds_0 : decode cX1_holds 0 = .ok (.iload_n 1, 1) := by decide +kernel
theorem dX1_holds_1 : decode cX1_holds 1 = .ok (.iload_n 2, 1) := by decide +kernel
theorem dX1_holds_2 : decode cX1_holds 2 = .ok (.if_icmp .ne 5, 3) := by decide +kernel
theorem dX1_holds_5 : decode cX1_holds 5 = .ok (.iconst 1, 1) := by decide +kernel
theorem dX1_holds_6 : decode cX1_holds 6 = .ok (.ireturn, 1) := by decide +kernel
theorem dX1_holds_7 : decode cX1_holds 7 = .ok (.iconst 0, 1) := by decide +kernel
theorem dX1_holds_8 : decode cX1_holds 8 = .ok (.istore 6, 2) := by decide +kernel
theorem dX1_holds_10 : decode cX1_holds 10 = .ok (.iload_n 1, 1) := by decide +kernel
theorem dX1_holds_11 : decode cX1_holds 11 = .ok (.istore 7, 2) := by decide +kernel
theorem dX1_holds_13 : decode cX1_holds 13 = .ok (.iload 7, 2) := by decide +kernel
theorem dX1_holds_15 : decode cX1_holds 15 = .ok (.iload_n 2, 1) := by decide +kernel
theorem dX1_holds_16 : decode cX1_holds 16 = .ok (.if_icmp .ge 172, 3) := by decide +kernel
theorem dX1_holds_19 : decode cX1_holds 19 = .ok (.iload 7, 2) := by decide +kernel
theorem dX1_holds_21 : decode cX1_holds 21 = .ok (.aload_n 0, 1) := by decide +kernel
theorem dX1_holds_22 : decode cX1_holds 22 = .ok (.getfield 27, 3) := by decide +kernel
theorem dX1_holds_25 : decode cX1_holds 25 = .ok (.arraylength, 1) := by decide +kernel
theorem dX1_holds_26 : decode cX1_holds 26 = .ok (.if_icmp .ge 162, 3) := by decide +kernel
theorem dX1_holds_29 : decode cX1_holds 29 = .ok (.iload 7, 2) := by decide +kernel
theorem dX1_holds_31 : decode cX1_holds 31 = .ok (.aload_n 0, 1) := by decide +kernel
theorem dX1_holds_32 : decode cX1_holds 32 = .ok (.getfield 30, 3) := by decide +kernel
theorem dX1_holds_35 : decode cX1_holds 35 = .ok (.arraylength, 1) := by decide +kernel
theorem dX1_holds_36 : decode cX1_holds 36 = .ok (.if_icmp .ge 152, 3) := by decide +kernel
theorem dX1_holds_39 : decode cX1_holds 39 = .ok (.aload_n 0, 1) := by decide +kernel
theorem dX1_holds_40 : decode cX1_holds 40 = .ok (.getfield 27, 3) := by decide +kernel
theorem dX1_holds_43 : decode cX1_holds 43 = .ok (.iload 7, 2) := by decide +kernel
theorem dX1_holds_45 : decode cX1_holds 45 = .ok (.iaload, 1) := by decide +kernel
theorem dX1_holds_46 : decode cX1_holds 46 = .ok (.istore 8, 2) := by decide +kernel
theorem dX1_holds_48 : decode cX1_holds 48 = .ok (.iload 8, 2) := by decide +kernel
theorem dX1_holds_50 : decode cX1_holds 50 = .ok (.bipush 9, 2) := by decide +kernel
theorem dX1_holds_52 : decode cX1_holds 52 = .ok (.if_icmp .ge 48, 3) := by decide +kernel
theorem dX1_holds_55 : decode cX1_holds 55 = .ok (.iload 6, 2) := by decide +kernel
theorem dX1_holds_57 : decode cX1_holds 57 = .ok (.bipush 32, 2) := by decide +kernel
theorem dX1_holds_59 : decode cX1_holds 59 = .ok (.if_icmp .ge 41, 3) := by decide +kernel
theorem dX1_holds_62 : decode cX1_holds 62 = .ok (.aload_n 0, 1) := by decide +kernel
theorem dX1_holds_63 : decode cX1_holds 63 = .ok (.getfield 18, 3) := by decide +kernel
theorem dX1_holds_66 : decode cX1_holds 66 = .ok (.iload 6, 2) := by decide +kernel
theorem dX1_holds_68 : decode cX1_holds 68 = .ok (.iload 8, 2) := by decide +kernel
theorem dX1_holds_70 : decode cX1_holds 70 = .ok (.ifCond .ne 13, 3) := by decide +kernel
theorem dX1_holds_73 : decode cX1_holds 73 = .ok (.aload_n 0, 1) := by decide +kernel
theorem dX1_holds_74 : decode cX1_holds 74 = .ok (.getfield 30, 3) := by decide +kernel
theorem dX1_holds_77 : decode cX1_holds 77 = .ok (.iload 7, 2) := by decide +kernel
theorem dX1_holds_79 : decode cX1_holds 79 = .ok (.iaload, 1) := by decide +kernel
theorem dX1_holds_80 : decode cX1_holds 80 = .ok (.goto 13, 3) := by decide +kernel
theorem dX1_holds_83 : decode cX1_holds 83 = .ok (.iload 8, 2) := by decide +kernel
theorem dX1_holds_85 : decode cX1_holds 85 = .ok (.aload_n 3, 1) := by decide +kernel
theorem dX1_holds_86 : decode cX1_holds 86 = .ok (.iload 4, 2) := by decide +kernel
theorem dX1_holds_88 : decode cX1_holds 88 = .ok (.iload 5, 2) := by decide +kernel
theorem dX1_holds_90 : decode cX1_holds 90 = .ok (.invokestatic 44, 3) := by decide +kernel
theorem dX1_holds_93 : decode cX1_holds 93 = .ok (.iastore, 1) := by decide +kernel
theorem dX1_holds_94 : decode cX1_holds 94 = .ok (.iinc 6 1, 3) := by decide +kernel
theorem dX1_holds_97 : decode cX1_holds 97 = .ok (.goto 85, 3) := by decide +kernel
theorem dX1_holds_100 : decode cX1_holds 100 = .ok (.iload 8, 2) := by decide +kernel
theorem dX1_holds_102 : decode cX1_holds 102 = .ok (.bipush 9, 2) := by decide +kernel
theorem dX1_holds_104 : decode cX1_holds 104 = .ok (.if_icmp .ne 32, 3) := by decide +kernel
theorem dX1_holds_107 : decode cX1_holds 107 = .ok (.iload 6, 2) := by decide +kernel
theorem dX1_holds_109 : decode cX1_holds 109 = .ok (.iconst 1, 1) := by decide +kernel
theorem dX1_holds_110 : decode cX1_holds 110 = .ok (.if_icmp .lt 26, 3) := by decide +kernel
theorem dX1_holds_113 : decode cX1_holds 113 = .ok (.aload_n 0, 1) := by decide +kernel
theorem dX1_holds_114 : decode cX1_holds 114 = .ok (.getfield 18, 3) := by decide +kernel
theorem dX1_holds_117 : decode cX1_holds 117 = .ok (.iload 6, 2) := by decide +kernel
theorem dX1_holds_119 : decode cX1_holds 119 = .ok (.iconst 1, 1) := by decide +kernel
theorem dX1_holds_120 : decode cX1_holds 120 = .ok (.isub, 1) := by decide +kernel
theorem dX1_holds_121 : decode cX1_holds 121 = .ok (.iconst 1, 1) := by decide +kernel
theorem dX1_holds_122 : decode cX1_holds 122 = .ok (.aload_n 0, 1) := by decide +kernel
theorem dX1_holds_123 : decode cX1_holds 123 = .ok (.getfield 18, 3) := by decide +kernel
theorem dX1_holds_126 : decode cX1_holds 126 = .ok (.iload 6, 2) := by decide +kernel
theorem dX1_holds_128 : decode cX1_holds 128 = .ok (.iconst 1, 1) := by decide +kernel
theorem dX1_holds_129 : decode cX1_holds 129 = .ok (.isub, 1) := by decide +kernel
theorem dX1_holds_130 : decode cX1_holds 130 = .ok (.iaload, 1) := by decide +kernel
theorem dX1_holds_131 : decode cX1_holds 131 = .ok (.isub, 1) := by decide +kernel
theorem dX1_holds_132 : decode cX1_holds 132 = .ok (.iastore, 1) := by decide +kernel
theorem dX1_holds_133 : decode cX1_holds 133 = .ok (.goto 49, 3) := by decide +kernel
theorem dX1_holds_136 : decode cX1_holds 136 = .ok (.iload 8, 2) := by decide +kernel
theorem dX1_holds_138 : decode cX1_holds 138 = .ok (.bipush 9, 2) := by decide +kernel
theorem dX1_holds_140 : decode cX1_holds 140 = .ok (.if_icmp .le 42, 3) := by decide +kernel
theorem dX1_holds_143 : decode cX1_holds 143 = .ok (.iload 6, 2) := by decide +kernel
theorem dX1_holds_145 : decode cX1_holds 145 = .ok (.iconst 2, 1) := by decide +kernel
theorem dX1_holds_146 : decode cX1_holds 146 = .ok (.if_icmp .lt 36, 3) := by decide +kernel
theorem dX1_holds_149 : decode cX1_holds 149 = .ok (.iinc 6 (-1), 3) := by decide +kernel
theorem dX1_holds_152 : decode cX1_holds 152 = .ok (.aload_n 0, 1) := by decide +kernel
theorem dX1_holds_153 : decode cX1_holds 153 = .ok (.getfield 18, 3) := by decide +kernel
theorem dX1_holds_156 : decode cX1_holds 156 = .ok (.iload 6, 2) := by decide +kernel
theorem dX1_holds_158 : decode cX1_holds 158 = .ok (.iconst 1, 1) := by decide +kernel
theorem dX1_holds_159 : decode cX1_holds 159 = .ok (.isub, 1) := by decide +kernel
theorem dX1_holds_160 : decode cX1_holds 160 = .ok (.iload 8, 2) := by decide +kernel
theorem dX1_holds_162 : decode cX1_holds 162 = .ok (.aload_n 0, 1) := by decide +kernel
theorem dX1_holds_163 : decode cX1_holds 163 = .ok (.getfield 18, 3) := by decide +kernel
theorem dX1_holds_166 : decode cX1_holds 166 = .ok (.iload 6, 2) := by decide +kernel
theorem dX1_holds_168 : decode cX1_holds 168 = .ok (.iconst 1, 1) := by decide +kernel
theorem dX1_holds_169 : decode cX1_holds 169 = .ok (.isub, 1) := by decide +kernel
theorem dX1_holds_170 : decode cX1_holds 170 = .ok (.iaload, 1) := by decide +kernel
theorem dX1_holds_171 : decode cX1_holds 171 = .ok (.aload_n 0, 1) := by decide +kernel
theorem dX1_holds_172 : decode cX1_holds 172 = .ok (.getfield 18, 3) := by decide +kernel
theorem dX1_holds_175 : decode cX1_holds 175 = .ok (.iload 6, 2) := by decide +kernel
theorem dX1_holds_177 : decode cX1_holds 177 = .ok (.iaload, 1) := by decide +kernel
theorem dX1_holds_178 : decode cX1_holds 178 = .ok (.invokestatic 48, 3) := by decide +kernel
theorem dX1_holds_181 : decode cX1_holds 181 = .ok (.iastore, 1) := by decide +kernel
theorem dX1_holds_182 : decode cX1_holds 182 = .ok (.iinc 7 1, 3) := by decide +kernel
theorem dX1_holds_185 : decode cX1_holds 185 = .ok (.goto (-172), 3) := by decide +kernel
theorem dX1_holds_188 : decode cX1_holds 188 = .ok (.aload_n 0, 1) := by decide +kernel
theorem dX1_holds_189 : decode cX1_holds 189 = .ok (.getfield 18, 3) := by decide +kernel
theorem dX1_holds_192 : decode cX1_holds 192 = .ok (.iconst 0, 1) := by decide +kernel
theorem dX1_holds_193 : decode cX1_holds 193 = .ok (.iaload, 1) := by decide +kernel
theorem dX1_holds_194 : decode cX1_holds 194 = .ok (.ifCond .eq 7, 3) := by decide +kernel
theorem dX1_holds_197 : decode cX1_holds 197 = .ok (.iconst 1, 1) := by decide +kernel
theorem dX1_holds_198 : decode cX1_holds 198 = .ok (.goto 4, 3) := by decide +kernel
theorem dX1_holds_201 : decode cX1_holds 201 = .ok (.iconst 0, 1) := by decide +kernel
theorem dX1_holds_202 : decode cX1_holds 202 = .ok (.ireturn, 1) := by decide +kernel
theorem dX1_valueOf_0 : decode cX1_valueOf 0 = .ok (.aload_n 1, 1) := by decide +kernel
theorem dX1_valueOf_1 : decode cX1_valueOf 1 = .ok (.getfield 52, 3) := by decide +kernel
theorem dX1_valueOf_4 : decode cX1_valueOf 4 = .ok (.iload_n 2, 1) := by decide +kernel
theorem dX1_valueOf_5 : decode cX1_valueOf 5 = .ok (.aaload, 1) := by decide +kernel
theorem dX1_valueOf_6 : decode cX1_valueOf 6 = .ok (.astore 4, 2) := by decide +kernel
theorem dX1_valueOf_8 : decode cX1_valueOf 8 = .ok (.aload_n 1, 1) := by decide +kernel
theorem dX1_valueOf_9 : decode cX1_valueOf 9 = .ok (.getfield 52, 3) := by decide +kernel
theorem dX1_valueOf_12 : decode cX1_valueOf 12 = .ok (.iload_n 3, 1) := by decide +kernel
theorem dX1_valueOf_13 : decode cX1_valueOf 13 = .ok (.aaload, 1) := by decide +kernel
theorem dX1_valueOf_14 : decode cX1_valueOf 14 = .ok (.astore 5, 2) := by decide +kernel
theorem dX1_valueOf_16 : decode cX1_valueOf 16 = .ok (.iload_n 0, 1) := by decide +kernel
theorem dX1_valueOf_17 : decode cX1_valueOf 17 = .ok (.tableswitch 91 1 7 #[43, 45, 47, 53, 59, 67, 72], 43) := by decide +kernel
theorem dX1_valueOf_60 : decode cX1_valueOf 60 = .ok (.iload_n 2, 1) := by decide +kernel
theorem dX1_valueOf_61 : decode cX1_valueOf 61 = .ok (.ireturn, 1) := by decide +kernel
theorem dX1_valueOf_62 : decode cX1_valueOf 62 = .ok (.iload_n 3, 1) := by decide +kernel
theorem dX1_valueOf_63 : decode cX1_valueOf 63 = .ok (.ireturn, 1) := by decide +kernel
theorem dX1_valueOf_64 : decode cX1_valueOf 64 = .ok (.aload 4, 2) := by decide +kernel
theorem dX1_valueOf_66 : decode cX1_valueOf 66 = .ok (.getfield 58, 3) := by decide +kernel
theorem dX1_valueOf_69 : decode cX1_valueOf 69 = .ok (.ireturn, 1) := by decide +kernel
theorem dX1_valueOf_70 : decode cX1_valueOf 70 = .ok (.aload 5, 2) := by decide +kernel
theorem dX1_valueOf_72 : decode cX1_valueOf 72 = .ok (.getfield 58, 3) := by decide +kernel
theorem dX1_valueOf_75 : decode cX1_valueOf 75 = .ok (.ireturn, 1) := by decide +kernel
theorem dX1_valueOf_76 : decode cX1_valueOf 76 = .ok (.aload 4, 2) := by decide +kernel
theorem dX1_valueOf_78 : decode cX1_valueOf 78 = .ok (.getfield 63, 3) := by decide +kernel
theorem dX1_valueOf_81 : decode cX1_valueOf 81 = .ok (.iload_n 3, 1) := by decide +kernel
theorem dX1_valueOf_82 : decode cX1_valueOf 82 = .ok (.iaload, 1) := by decide +kernel
theorem dX1_valueOf_83 : decode cX1_valueOf 83 = .ok (.ireturn, 1) := by decide +kernel
theorem dX1_valueOf_84 : decode cX1_valueOf 84 = .ok (.aload_n 1, 1) := by decide +kernel
theorem dX1_valueOf_85 : decode cX1_valueOf 85 = .ok (.getfield 66, 3) := by decide +kernel
theorem dX1_valueOf_88 : decode cX1_valueOf 88 = .ok (.ireturn, 1) := by decide +kernel
theorem dX1_valueOf_89 : decode cX1_valueOf 89 = .ok (.aload 4, 2) := by decide +kernel
theorem dX1_valueOf_91 : decode cX1_valueOf 91 = .ok (.getfield 69, 3) := by decide +kernel
theorem dX1_valueOf_94 : decode cX1_valueOf 94 = .ok (.aload 5, 2) := by decide +kernel
theorem dX1_valueOf_96 : decode cX1_valueOf 96 = .ok (.getfield 69, 3) := by decide +kernel
theorem dX1_valueOf_99 : decode cX1_valueOf 99 = .ok (.if_icmp .ne 7, 3) := by decide +kernel
theorem dX1_valueOf_102 : decode cX1_valueOf 102 = .ok (.iconst 1, 1) := by decide +kernel
theorem dX1_valueOf_103 : decode cX1_valueOf 103 = .ok (.goto 4, 3) := by decide +kernel
theorem dX1_valueOf_106 : decode cX1_valueOf 106 = .ok (.iconst 0, 1) := by decide +kernel
theorem dX1_valueOf_107 : decode cX1_valueOf 107 = .ok (.ireturn, 1) := by decide +kernel
theorem dX1_valueOf_108 : decode cX1_valueOf 108 = .ok (.aload 4, 2) := by decide +kernel
theorem dX1_valueOf_110 : decode cX1_valueOf 110 = .ok (.getfield 72, 3) := by decide +kernel
theorem dX1_valueOf_113 : decode cX1_valueOf 113 = .ok (.ifCond .ne 11, 3) := by decide +kernel
theorem dX1_valueOf_116 : decode cX1_valueOf 116 = .ok (.aload 5, 2) := by decide +kernel
theorem dX1_valueOf_118 : decode cX1_valueOf 118 = .ok (.getfield 72, 3) := by decide +kernel
theorem dX1_valueOf_121 : decode cX1_valueOf 121 = .ok (.ifCond .eq 7, 3) := by decide +kernel
theorem dX1_valueOf_124 : decode cX1_valueOf 124 = .ok (.iconst 1, 1) := by decide +kernel
theorem dX1_valueOf_125 : decode cX1_valueOf 125 = .ok (.goto 4, 3) := by decide +kernel
theorem dX1_valueOf_128 : decode cX1_valueOf 128 = .ok (.iconst 0, 1) := by decide +kernel
theorem dX1_valueOf_129 : decode cX1_valueOf 129 = .ok (.ireturn, 1) := by decide +kernel
theorem dX1_joined_0 : decode cX1_joined 0 = .ok (.iload_n 0, 1) := by decide +kernel
theorem dX1_joined_1 : decode cX1_joined 1 = .ok (.tableswitch 61 10 13 #[31, 35, 46, 57], 31) := by decide +kernel
theorem dX1_joined_32 : decode cX1_joined 32 = .ok (.iload_n 1, 1) := by decide +kernel
theorem dX1_joined_33 : decode cX1_joined 33 = .ok (.iload_n 2, 1) := by decide +kernel
theorem dX1_joined_34 : decode cX1_joined 34 = .ok (.iadd, 1) := by decide +kernel
theorem dX1_joined_35 : decode cX1_joined 35 = .ok (.ireturn, 1) := by decide +kernel
theorem dX1_joined_36 : decode cX1_joined 36 = .ok (.iload_n 1, 1) := by decide +kernel
theorem dX1_joined_37 : decode cX1_joined 37 = .ok (.iload_n 2, 1) := by decide +kernel
theorem dX1_joined_38 : decode cX1_joined 38 = .ok (.if_icmp .ge 7, 3) := by decide +kernel
theorem dX1_joined_41 : decode cX1_joined 41 = .ok (.iconst 1, 1) := by decide +kernel
theorem dX1_joined_42 : decode cX1_joined 42 = .ok (.goto 4, 3) := by decide +kernel
theorem dX1_joined_45 : decode cX1_joined 45 = .ok (.iconst 0, 1) := by decide +kernel
theorem dX1_joined_46 : decode cX1_joined 46 = .ok (.ireturn, 1) := by decide +kernel
theorem dX1_joined_47 : decode cX1_joined 47 = .ok (.iload_n 1, 1) := by decide +kernel
theorem dX1_joined_48 : decode cX1_joined 48 = .ok (.iload_n 2, 1) := by decide +kernel
theorem dX1_joined_49 : decode cX1_joined 49 = .ok (.if_icmp .le 7, 3) := by decide +kernel
theorem dX1_joined_52 : decode cX1_joined 52 = .ok (.iconst 1, 1) := by decide +kernel
theorem dX1_joined_53 : decode cX1_joined 53 = .ok (.goto 4, 3) := by decide +kernel
theorem dX1_joined_56 : decode cX1_joined 56 = .ok (.iconst 0, 1) := by decide +kernel
theorem dX1_joined_57 : decode cX1_joined 57 = .ok (.ireturn, 1) := by decide +kernel
theorem dX1_joined_58 : decode cX1_joined 58 = .ok (.iload_n 1, 1) := by decide +kernel
theorem dX1_joined_59 : decode cX1_joined 59 = .ok (.iload_n 2, 1) := by decide +kernel
theorem dX1_joined_60 : decode cX1_joined 60 = .ok (.iand, 1) := by decide +kernel
theorem dX1_joined_61 : decode cX1_joined 61 = .ok (.ireturn, 1) := by decide +kernel
theorem dX1_joined_62 : decode cX1_joined 62 = .ok (.iload_n 1, 1) := by decide +kernel
theorem dX1_joined_63 : decode cX1_joined 63 = .ok (.iload_n 2, 1) := by decide +kernel
theorem dX1_joined_64 : decode cX1_joined 64 = .ok (.ior, 1) := by decide +kernel
theorem dX1_joined_65 : decode cX1_joined 65 = .ok (.ireturn, 1) := by decide +kernel
theorem dX2_init_0 : decode cX2_init 0 = .ok (.aload_n 0, 1) := by decide +kernel
theorem dX2_init_1 : decode cX2_init 1 = .ok (.aload_n 1, 1) := by decide +kernel
theorem dX2_init_2 : decode cX2_init 2 = .ok (.iload_n 2, 1) := by decide +kernel
theorem dX2_init_3 : decode cX2_init 3 = .ok (.invokespecial 1, 3) := by decide +kernel
theorem dX2_init_6 : decode cX2_init 6 = .ok (.aload_n 0, 1) := by decide +kernel
theorem dX2_init_7 : decode cX2_init 7 = .ok (.aload_n 3, 1) := by decide +kernel
theorem dX2_init_8 : decode cX2_init 8 = .ok (.putfield 7, 3) := by decide +kernel
theorem dX2_init_11 : decode cX2_init 11 = .ok (.return_, 1) := by decide +kernel
theorem dX2_readLine_0 : decode cX2_readLine 0 = .ok (.aload_n 0, 1) := by decide +kernel
theorem dX2_readLine_1 : decode cX2_readLine 1 = .ok (.invokevirtual 13, 3) := by decide +kernel
theorem dX2_readLine_4 : decode cX2_readLine 4 = .ok (.istore_n 1, 1) := by decide +kernel
theorem dX2_readLine_5 : decode cX2_readLine 5 = .ok (.aload_n 0, 1) := by decide +kernel
theorem dX2_readLine_6 : decode cX2_readLine 6 = .ok (.ldc 17, 2) := by decide +kernel
theorem dX2_readLine_8 : decode cX2_readLine 8 = .ok (.invokevirtual 19, 3) := by decide +kernel
theorem dX2_readLine_11 : decode cX2_readLine 11 = .ok (.ifCond .eq 8, 3) := by decide +kernel
theorem dX2_readLine_14 : decode cX2_readLine 14 = .ok (.aload_n 0, 1) := by decide +kernel
theorem dX2_readLine_15 : decode cX2_readLine 15 = .ok (.iconst 0, 1) := by decide +kernel
theorem dX2_readLine_16 : decode cX2_readLine 16 = .ok (.invokevirtual 23, 3) := by decide +kernel
theorem dX2_readLine_19 : decode cX2_readLine 19 = .ok (.aload_n 0, 1) := by decide +kernel
theorem dX2_readLine_20 : decode cX2_readLine 20 = .ok (.getfield 7, 3) := by decide +kernel
theorem dX2_readLine_23 : decode cX2_readLine 23 = .ok (.iload_n 1, 1) := by decide +kernel
theorem dX2_readLine_24 : decode cX2_readLine 24 = .ok (.invokevirtual 27, 3) := by decide +kernel
theorem dX2_readLine_27 : decode cX2_readLine 27 = .ok (.return_, 1) := by decide +kernel
theorem dX2_readAny_0 : decode cX2_readAny 0 = .ok (.aload_n 0, 1) := by decide +kernel
theorem dX2_readAny_1 : decode cX2_readAny 1 = .ok (.iload_n 1, 1) := by decide +kernel
theorem dX2_readAny_2 : decode cX2_readAny 2 = .ok (.invokevirtual 32, 3) := by decide +kernel
theorem dX2_readAny_5 : decode cX2_readAny 5 = .ok (.aload_n 0, 1) := by decide +kernel
theorem dX2_readAny_6 : decode cX2_readAny 6 = .ok (.invokevirtual 35, 3) := by decide +kernel
theorem dX2_readAny_9 : decode cX2_readAny 9 = .ok (.istore_n 2, 1) := by decide +kernel
theorem dX2_readAny_10 : decode cX2_readAny 10 = .ok (.iload_n 2, 1) := by decide +kernel
theorem dX2_readAny_11 : decode cX2_readAny 11 = .ok (.ifCond .le 33, 3) := by decide +kernel
theorem dX2_readAny_14 : decode cX2_readAny 14 = .ok (.aload_n 0, 1) := by decide +kernel
theorem dX2_readAny_15 : decode cX2_readAny 15 = .ok (.ldc 38, 2) := by decide +kernel
theorem dX2_readAny_17 : decode cX2_readAny 17 = .ok (.invokevirtual 19, 3) := by decide +kernel
theorem dX2_readAny_20 : decode cX2_readAny 20 = .ok (.ifCond .eq 24, 3) := by decide +kernel
theorem dX2_readAny_23 : decode cX2_readAny 23 = .ok (.aload_n 0, 1) := by decide +kernel
theorem dX2_readAny_24 : decode cX2_readAny 24 = .ok (.iload_n 1, 1) := by decide +kernel
theorem dX2_readAny_25 : decode cX2_readAny 25 = .ok (.invokevirtual 32, 3) := by decide +kernel
theorem dX2_readAny_28 : decode cX2_readAny 28 = .ok (.aload_n 0, 1) := by decide +kernel
theorem dX2_readAny_29 : decode cX2_readAny 29 = .ok (.getfield 7, 3) := by decide +kernel
theorem dX2_readAny_32 : decode cX2_readAny 32 = .ok (.bipush 14, 2) := by decide +kernel
theorem dX2_readAny_34 : decode cX2_readAny 34 = .ok (.iconst 0, 1) := by decide +kernel
theorem dX2_readAny_35 : decode cX2_readAny 35 = .ok (.invokevirtual 40, 3) := by decide +kernel
theorem dX2_readAny_38 : decode cX2_readAny 38 = .ok (.iinc 2 (-1), 3) := by decide +kernel
theorem dX2_readAny_41 : decode cX2_readAny 41 = .ok (.goto (-31), 3) := by decide +kernel
theorem dX2_readAny_44 : decode cX2_readAny 44 = .ok (.return_, 1) := by decide +kernel
theorem dX2_readAll_0 : decode cX2_readAll 0 = .ok (.aload_n 0, 1) := by decide +kernel
theorem dX2_readAll_1 : decode cX2_readAll 1 = .ok (.iload_n 1, 1) := by decide +kernel
theorem dX2_readAll_2 : decode cX2_readAll 2 = .ok (.invokevirtual 44, 3) := by decide +kernel
theorem dX2_readAll_5 : decode cX2_readAll 5 = .ok (.aload_n 0, 1) := by decide +kernel
theorem dX2_readAll_6 : decode cX2_readAll 6 = .ok (.invokevirtual 35, 3) := by decide +kernel
theorem dX2_readAll_9 : decode cX2_readAll 9 = .ok (.istore_n 2, 1) := by decide +kernel
theorem dX2_readAll_10 : decode cX2_readAll 10 = .ok (.iload_n 2, 1) := by decide +kernel
theorem dX2_readAll_11 : decode cX2_readAll 11 = .ok (.ifCond .le 33, 3) := by decide +kernel
theorem dX2_readAll_14 : decode cX2_readAll 14 = .ok (.aload_n 0, 1) := by decide +kernel
theorem dX2_readAll_15 : decode cX2_readAll 15 = .ok (.ldc 47, 2) := by decide +kernel
theorem dX2_readAll_17 : decode cX2_readAll 17 = .ok (.invokevirtual 19, 3) := by decide +kernel
theorem dX2_readAll_20 : decode cX2_readAll 20 = .ok (.ifCond .eq 24, 3) := by decide +kernel
theorem dX2_readAll_23 : decode cX2_readAll 23 = .ok (.aload_n 0, 1) := by decide +kernel
theorem dX2_readAll_24 : decode cX2_readAll 24 = .ok (.iload_n 1, 1) := by decide +kernel
theorem dX2_readAll_25 : decode cX2_readAll 25 = .ok (.invokevirtual 44, 3) := by decide +kernel
theorem dX2_readAll_28 : decode cX2_readAll 28 = .ok (.aload_n 0, 1) := by decide +kernel
theorem dX2_readAll_29 : decode cX2_readAll 29 = .ok (.getfield 7, 3) := by decide +kernel
theorem dX2_readAll_32 : decode cX2_readAll 32 = .ok (.bipush 13, 2) := by decide +kernel
theorem dX2_readAll_34 : decode cX2_readAll 34 = .ok (.iconst 0, 1) := by decide +kernel
theorem dX2_readAll_35 : decode cX2_readAll 35 = .ok (.invokevirtual 40, 3) := by decide +kernel
theorem dX2_readAll_38 : decode cX2_readAll 38 = .ok (.iinc 2 (-1), 3) := by decide +kernel
theorem dX2_readAll_41 : decode cX2_readAll 41 = .ok (.goto (-31), 3) := by decide +kernel
theorem dX2_readAll_44 : decode cX2_readAll 44 = .ok (.return_, 1) := by decide +kernel
theorem dX2_readAtom_0 : decode cX2_readAtom 0 = .ok (.aload_n 0, 1) := by decide +kernel
theorem dX2_readAtom_1 : decode cX2_readAtom 1 = .ok (.ldc 49, 2) := by decide +kernel
theorem dX2_readAtom_3 : decode cX2_readAtom 3 = .ok (.invokevirtual 19, 3) := by decide +kernel
theorem dX2_readAtom_6 : decode cX2_readAtom 6 = .ok (.istore_n 2, 1) := by decide +kernel
theorem dX2_readAtom_7 : decode cX2_readAtom 7 = .ok (.iload_n 2, 1) := by decide +kernel
theorem dX2_readAtom_8 : decode cX2_readAtom 8 = .ok (.ifCond .ne 12, 3) := by decide +kernel
theorem dX2_readAtom_11 : decode cX2_readAtom 11 = .ok (.aload_n 0, 1) := by decide +kernel
theorem dX2_readAtom_12 : decode cX2_readAtom 12 = .ok (.bipush 40, 2) := by decide +kernel
theorem dX2_readAtom_14 : decode cX2_readAtom 14 = .ok (.invokevirtual 51, 3) := by decide +kernel
theorem dX2_readAtom_17 : decode cX2_readAtom 17 = .ok (.ifCond .eq 14, 3) := by decide +kernel
theorem dX2_readAtom_20 : decode cX2_readAtom 20 = .ok (.aload_n 0, 1) := by decide +kernel
theorem dX2_readAtom_21 : decode cX2_readAtom 21 = .ok (.iload_n 2, 1) := by decide +kernel
theorem dX2_readAtom_22 : decode cX2_readAtom 22 = .ok (.iload_n 1, 1) := by decide +kernel
theorem dX2_readAtom_23 : decode cX2_readAtom 23 = .ok (.iconst 1, 1) := by decide +kernel
theorem dX2_readAtom_24 : decode cX2_readAtom 24 = .ok (.iadd, 1) := by decide +kernel
theorem dX2_readAtom_25 : decode cX2_readAtom 25 = .ok (.invokevirtual 55, 3) := by decide +kernel
theorem dX2_readAtom_28 : decode cX2_readAtom 28 = .ok (.goto 91, 3) := by decide +kernel
theorem dX2_readAtom_31 : decode cX2_readAtom 31 = .ok (.aload_n 0, 1) := by decide +kernel
theorem dX2_readAtom_32 : decode cX2_readAtom 32 = .ok (.ldc 59, 2) := by decide +kernel
theorem dX2_readAtom_34 : decode cX2_readAtom 34 = .ok (.invokevirtual 19, 3) := by decide +kernel
theorem dX2_readAtom_37 : decode cX2_readAtom 37 = .ok (.ifCond .eq 16, 3) := by decide +kernel
theorem dX2_readAtom_40 : decode cX2_readAtom 40 = .ok (.aload_n 0, 1) := by decide +kernel
theorem dX2_readAtom_41 : decode cX2_readAtom 41 = .ok (.getfield 7, 3) := by decide +kernel
theorem dX2_readAtom_44 : decode cX2_readAtom 44 = .ok (.bipush 7, 2) := by decide +kernel
theorem dX2_readAtom_46 : decode cX2_readAtom 46 = .ok (.iconst 0, 1) := by decide +kernel
theorem dX2_readAtom_47 : decode cX2_readAtom 47 = .ok (.invokevirtual 40, 3) := by decide +kernel
theorem dX2_readAtom_50 : decode cX2_readAtom 50 = .ok (.goto 69, 3) := by decide +kernel
theorem dX2_readAtom_53 : decode cX2_readAtom 53 = .ok (.aload_n 0, 1) := by decide +kernel
theorem dX2_readAtom_54 : decode cX2_readAtom 54 = .ok (.ldc 61, 2) := by decide +kernel
theorem dX2_readAtom_56 : decode cX2_readAtom 56 = .ok (.invokevirtual 19, 3) := by decide +kernel
theorem dX2_readAtom_59 : decode cX2_readAtom 59 = .ok (.ifCond .eq 16, 3) := by decide +kernel
theorem dX2_readAtom_62 : decode cX2_readAtom 62 = .ok (.aload_n 0, 1) := by decide +kernel
theorem dX2_readAtom_63 : decode cX2_readAtom 63 = .ok (.getfield 7, 3) := by decide +kernel
theorem dX2_readAtom_66 : decode cX2_readAtom 66 = .ok (.bipush 8, 2) := by decide +kernel
theorem dX2_readAtom_68 : decode cX2_readAtom 68 = .ok (.iconst 0, 1) := by decide +kernel
theorem dX2_readAtom_69 : decode cX2_readAtom 69 = .ok (.invokevirtual 40, 3) := by decide +kernel
theorem dX2_readAtom_72 : decode cX2_readAtom 72 = .ok (.goto 47, 3) := by decide +kernel
theorem dX2_readAtom_75 : decode cX2_readAtom 75 = .ok (.aload_n 0, 1) := by decide +kernel
theorem dX2_readAtom_76 : decode cX2_readAtom 76 = .ok (.invokevirtual 63, 3) := by decide +kernel
theorem dX2_readAtom_79 : decode cX2_readAtom 79 = .ok (.aload_n 0, 1) := by decide +kernel
theorem dX2_readAtom_80 : decode cX2_readAtom 80 = .ok (.bipush 60, 2) := by decide +kernel
theorem dX2_readAtom_82 : decode cX2_readAtom 82 = .ok (.invokevirtual 51, 3) := by decide +kernel
theorem dX2_readAtom_85 : decode cX2_readAtom 85 = .ok (.istore_n 3, 1) := by decide +kernel
theorem dX2_readAtom_86 : decode cX2_readAtom 86 = .ok (.iload_n 3, 1) := by decide +kernel
theorem dX2_readAtom_87 : decode cX2_readAtom 87 = .ok (.ifCond .ne 9, 3) := by decide +kernel
theorem dX2_readAtom_90 : decode cX2_readAtom 90 = .ok (.aload_n 0, 1) := by decide +kernel
theorem dX2_readAtom_91 : decode cX2_readAtom 91 = .ok (.bipush 62, 2) := by decide +kernel
theorem dX2_readAtom_93 : decode cX2_readAtom 93 = .ok (.invokevirtual 67, 3) := by decide +kernel
theorem dX2_readAtom_96 : decode cX2_readAtom 96 = .ok (.aload_n 0, 1) := by decide +kernel
theorem dX2_readAtom_97 : decode cX2_readAtom 97 = .ok (.invokevirtual 63, 3) := by decide +kernel
theorem dX2_readAtom_100 : decode cX2_readAtom 100 = .ok (.aload_n 0, 1) := by decide +kernel
theorem dX2_readAtom_101 : decode cX2_readAtom 101 = .ok (.getfield 7, 3) := by decide +kernel
theorem dX2_readAtom_104 : decode cX2_readAtom 104 = .ok (.iload_n 3, 1) := by decide +kernel
theorem dX2_readAtom_105 : decode cX2_readAtom 105 = .ok (.ifCond .eq 8, 3) := by decide +kernel
theorem dX2_readAtom_108 : decode cX2_readAtom 108 = .ok (.bipush 11, 2) := by decide +kernel
theorem dX2_readAtom_110 : decode cX2_readAtom 110 = .ok (.goto 5, 3) := by decide +kernel
theorem dX2_readAtom_113 : decode cX2_readAtom 113 = .ok (.bipush 12, 2) := by decide +kernel
theorem dX2_readAtom_115 : decode cX2_readAtom 115 = .ok (.iconst 0, 1) := by decide +kernel
theorem dX2_readAtom_116 : decode cX2_readAtom 116 = .ok (.invokevirtual 40, 3) := by decide +kernel
theorem dX2_readAtom_119 : decode cX2_readAtom 119 = .ok (.return_, 1) := by decide +kernel
theorem dX2_readDeeper_0 : decode cX2_readDeeper 0 = .ok (.iload_n 2, 1) := by decide +kernel
theorem dX2_readDeeper_1 : decode cX2_readDeeper 1 = .ok (.bipush 6, 2) := by decide +kernel
theorem dX2_readDeeper_3 : decode cX2_readDeeper 3 = .ok (.if_icmp .le 10, 3) := by decide +kernel
theorem dX2_readDeeper_6 : decode cX2_readDeeper 6 = .ok (.aload_n 0, 1) := by decide +kernel
theorem dX2_readDeeper_7 : decode cX2_readDeeper 7 = .ok (.invokevirtual 71, 3) := by decide +kernel
theorem dX2_readDeeper_10 : decode cX2_readDeeper 10 = .ok (.goto 36, 3) := by decide +kernel
theorem dX2_readDeeper_13 : decode cX2_readDeeper 13 = .ok (.iload_n 1, 1) := by decide +kernel
theorem dX2_readDeeper_14 : decode cX2_readDeeper 14 = .ok (.ifCond .eq 21, 3) := by decide +kernel
theorem dX2_readDeeper_17 : decode cX2_readDeeper 17 = .ok (.aload_n 0, 1) := by decide +kernel
theorem dX2_readDeeper_18 : decode cX2_readDeeper 18 = .ok (.iload_n 2, 1) := by decide +kernel
theorem dX2_readDeeper_19 : decode cX2_readDeeper 19 = .ok (.invokevirtual 44, 3) := by decide +kernel
theorem dX2_readDeeper_22 : decode cX2_readDeeper 22 = .ok (.aload_n 0, 1) := by decide +kernel
theorem dX2_readDeeper_23 : decode cX2_readDeeper 23 = .ok (.getfield 7, 3) := by decide +kernel
theorem dX2_readDeeper_26 : decode cX2_readDeeper 26 = .ok (.bipush 9, 2) := by decide +kernel
theorem dX2_readDeeper_28 : decode cX2_readDeeper 28 = .ok (.iconst 0, 1) := by decide +kernel
theorem dX2_readDeeper_29 : decode cX2_readDeeper 29 = .ok (.invokevirtual 40, 3) := by decide +kernel
theorem dX2_readDeeper_32 : decode cX2_readDeeper 32 = .ok (.goto 14, 3) := by decide +kernel
theorem dX2_readDeeper_35 : decode cX2_readDeeper 35 = .ok (.aload_n 0, 1) := by decide +kernel
theorem dX2_readDeeper_36 : decode cX2_readDeeper 36 = .ok (.iload_n 2, 1) := by decide +kernel
theorem dX2_readDeeper_37 : decode cX2_readDeeper 37 = .ok (.invokevirtual 23, 3) := by decide +kernel
theorem dX2_readDeeper_40 : decode cX2_readDeeper 40 = .ok (.aload_n 0, 1) := by decide +kernel
theorem dX2_readDeeper_41 : decode cX2_readDeeper 41 = .ok (.bipush 41, 2) := by decide +kernel
theorem dX2_readDeeper_43 : decode cX2_readDeeper 43 = .ok (.invokevirtual 67, 3) := by decide +kernel
theorem dX2_readDeeper_46 : decode cX2_readDeeper 46 = .ok (.return_, 1) := by decide +kernel
theorem dX2_readSum_0 : decode cX2_readSum 0 = .ok (.aload_n 0, 1) := by decide +kernel
theorem dX2_readSum_1 : decode cX2_readSum 1 = .ok (.invokevirtual 74, 3) := by decide +kernel
theorem dX2_readSum_4 : decode cX2_readSum 4 = .ok (.aload_n 0, 1) := by decide +kernel
theorem dX2_readSum_5 : decode cX2_readSum 5 = .ok (.invokevirtual 35, 3) := by decide +kernel
theorem dX2_readSum_8 : decode cX2_readSum 8 = .ok (.istore_n 1, 1) := by decide +kernel
theorem dX2_readSum_9 : decode cX2_readSum 9 = .ok (.iload_n 1, 1) := by decide +kernel
theorem dX2_readSum_10 : decode cX2_readSum 10 = .ok (.ifCond .le 32, 3) := by decide +kernel
theorem dX2_readSum_13 : decode cX2_readSum 13 = .ok (.aload_n 0, 1) := by decide +kernel
theorem dX2_readSum_14 : decode cX2_readSum 14 = .ok (.bipush 43, 2) := by decide +kernel
theorem dX2_readSum_16 : decode cX2_readSum 16 = .ok (.invokevirtual 51, 3) := by decide +kernel
theorem dX2_readSum_19 : decode cX2_readSum 19 = .ok (.ifCond .eq 23, 3) := by decide +kernel
theorem dX2_readSum_22 : decode cX2_readSum 22 = .ok (.aload_n 0, 1) := by decide +kernel
theorem dX2_readSum_23 : decode cX2_readSum 23 = .ok (.invokevirtual 74, 3) := by decide +kernel
theorem dX2_readSum_26 : decode cX2_readSum 26 = .ok (.aload_n 0, 1) := by decide +kernel
theorem dX2_readSum_27 : decode cX2_readSum 27 = .ok (.getfield 7, 3) := by decide +kernel
theorem dX2_readSum_30 : decode cX2_readSum 30 = .ok (.bipush 10, 2) := by decide +kernel
theorem dX2_readSum_32 : decode cX2_readSum 32 = .ok (.iconst 0, 1) := by decide +kernel
theorem dX2_readSum_33 : decode cX2_readSum 33 = .ok (.invokevirtual 40, 3) := by decide +kernel
theorem dX2_readSum_36 : decode cX2_readSum 36 = .ok (.iinc 1 (-1), 3) := by decide +kernel
theorem dX2_readSum_39 : decode cX2_readSum 39 = .ok (.goto (-30), 3) := by decide +kernel
theorem dX2_readSum_42 : decode cX2_readSum 42 = .ok (.return_, 1) := by decide +kernel
theorem dX2_readPart_0 : decode cX2_readPart 0 = .ok (.aload_n 0, 1) := by decide +kernel
theorem dX2_readPart_1 : decode cX2_readPart 1 = .ok (.ldc 77, 2) := by decide +kernel
theorem dX2_readPart_3 : decode cX2_readPart 3 = .ok (.invokevirtual 19, 3) := by decide +kernel
theorem dX2_readPart_6 : decode cX2_readPart 6 = .ok (.ifCond .eq 7, 3) := by decide +kernel
theorem dX2_readPart_9 : decode cX2_readPart 9 = .ok (.iconst 1, 1) := by decide +kernel
theorem dX2_readPart_10 : decode cX2_readPart 10 = .ok (.goto 70, 3) := by decide +kernel
theorem dX2_readPart_13 : decode cX2_readPart 13 = .ok (.aload_n 0, 1) := by decide +kernel
theorem dX2_readPart_14 : decode cX2_readPart 14 = .ok (.ldc 79, 2) := by decide +kernel
theorem dX2_readPart_16 : decode cX2_readPart 16 = .ok (.invokevirtual 19, 3) := by decide +kernel
theorem dX2_readPart_19 : decode cX2_readPart 19 = .ok (.ifCond .eq 7, 3) := by decide +kernel
theorem dX2_readPart_22 : decode cX2_readPart 22 = .ok (.iconst 2, 1) := by decide +kernel
theorem dX2_readPart_23 : decode cX2_readPart 23 = .ok (.goto 57, 3) := by decide +kernel
theorem dX2_readPart_26 : decode cX2_readPart 26 = .ok (.aload_n 0, 1) := by decide +kernel
theorem dX2_readPart_27 : decode cX2_readPart 27 = .ok (.ldc 81, 2) := by decide +kernel
theorem dX2_readPart_29 : decode cX2_readPart 29 = .ok (.invokevirtual 19, 3) := by decide +kernel
theorem dX2_readPart_32 : decode cX2_readPart 32 = .ok (.ifCond .eq 7, 3) := by decide +kernel
theorem dX2_readPart_35 : decode cX2_readPart 35 = .ok (.iconst 3, 1) := by decide +kernel
theorem dX2_readPart_36 : decode cX2_readPart 36 = .ok (.goto 44, 3) := by decide +kernel
theorem dX2_readPart_39 : decode cX2_readPart 39 = .ok (.aload_n 0, 1) := by decide +kernel
theorem dX2_readPart_40 : decode cX2_readPart 40 = .ok (.ldc 83, 2) := by decide +kernel
theorem dX2_readPart_42 : decode cX2_readPart 42 = .ok (.invokevirtual 19, 3) := by decide +kernel
theorem dX2_readPart_45 : decode cX2_readPart 45 = .ok (.ifCond .eq 7, 3) := by decide +kernel
theorem dX2_readPart_48 : decode cX2_readPart 48 = .ok (.iconst 4, 1) := by decide +kernel
theorem dX2_readPart_49 : decode cX2_readPart 49 = .ok (.goto 31, 3) := by decide +kernel
theorem dX2_readPart_52 : decode cX2_readPart 52 = .ok (.aload_n 0, 1) := by decide +kernel
theorem dX2_readPart_53 : decode cX2_readPart 53 = .ok (.ldc 85, 2) := by decide +kernel
theorem dX2_readPart_55 : decode cX2_readPart 55 = .ok (.invokevirtual 19, 3) := by decide +kernel
theorem dX2_readPart_58 : decode cX2_readPart 58 = .ok (.ifCond .eq 7, 3) := by decide +kernel
theorem dX2_readPart_61 : decode cX2_readPart 61 = .ok (.iconst 5, 1) := by decide +kernel
theorem dX2_readPart_62 : decode cX2_readPart 62 = .ok (.goto 18, 3) := by decide +kernel
theorem dX2_readPart_65 : decode cX2_readPart 65 = .ok (.aload_n 0, 1) := by decide +kernel
theorem dX2_readPart_66 : decode cX2_readPart 66 = .ok (.ldc 87, 2) := by decide +kernel
theorem dX2_readPart_68 : decode cX2_readPart 68 = .ok (.invokevirtual 19, 3) := by decide +kernel
theorem dX2_readPart_71 : decode cX2_readPart 71 = .ok (.ifCond .eq 8, 3) := by decide +kernel
theorem dX2_readPart_74 : decode cX2_readPart 74 = .ok (.bipush 6, 2) := by decide +kernel
theorem dX2_readPart_76 : decode cX2_readPart 76 = .ok (.goto 4, 3) := by decide +kernel
theorem dX2_readPart_79 : decode cX2_readPart 79 = .ok (.iconst 0, 1) := by decide +kernel
theorem dX2_readPart_80 : decode cX2_readPart 80 = .ok (.istore_n 1, 1) := by decide +kernel
theorem dX2_readPart_81 : decode cX2_readPart 81 = .ok (.aload_n 0, 1) := by decide +kernel
theorem dX2_readPart_82 : decode cX2_readPart 82 = .ok (.getfield 7, 3) := by decide +kernel
theorem dX2_readPart_85 : decode cX2_readPart 85 = .ok (.iload_n 1, 1) := by decide +kernel
theorem dX2_readPart_86 : decode cX2_readPart 86 = .ok (.iload_n 1, 1) := by decide +kernel
theorem dX2_readPart_87 : decode cX2_readPart 87 = .ok (.ifCond .ne 14, 3) := by decide +kernel
theorem dX2_readPart_90 : decode cX2_readPart 90 = .ok (.aload_n 0, 1) := by decide +kernel
theorem dX2_readPart_91 : decode cX2_readPart 91 = .ok (.iconst 0, 1) := by decide +kernel
theorem dX2_readPart_92 : decode cX2_readPart 92 = .ok (.sipush 999, 3) := by decide +kernel
theorem dX2_readPart_95 : decode cX2_readPart 95 = .ok (.invokevirtual 89, 3) := by decide +kernel
theorem dX2_readPart_98 : decode cX2_readPart 98 = .ok (.goto 4, 3) := by decide +kernel
theorem dX2_readPart_101 : decode cX2_readPart 101 = .ok (.iconst 0, 1) := by decide +kernel
theorem dX2_readPart_102 : decode cX2_readPart 102 = .ok (.invokevirtual 40, 3) := by decide +kernel
theorem dX2_readPart_105 : decode cX2_readPart 105 = .ok (.return_, 1) := by decide +kernel
theorem dX3_init_0 : decode cX3_init 0 = .ok (.aload_n 0, 1) := by decide +kernel
theorem dX3_init_1 : decode cX3_init 1 = .ok (.invokespecial 3, 3) := by decide +kernel
theorem dX3_init_4 : decode cX3_init 4 = .ok (.aload_n 0, 1) := by decide +kernel
theorem dX3_init_5 : decode cX3_init 5 = .ok (.sipush 480, 3) := by decide +kernel
theorem dX3_init_8 : decode cX3_init 8 = .ok (.newarray .int, 2) := by decide +kernel
theorem dX3_init_10 : decode cX3_init 10 = .ok (.putfield 11, 3) := by decide +kernel
theorem dX3_init_13 : decode cX3_init 13 = .ok (.return_, 1) := by decide +kernel
theorem dX3_copyFrom_0 : decode cX3_copyFrom 0 = .ok (.aload_n 0, 1) := by decide +kernel
theorem dX3_copyFrom_1 : decode cX3_copyFrom 1 = .ok (.aload_n 1, 1) := by decide +kernel
theorem dX3_copyFrom_2 : decode cX3_copyFrom 2 = .ok (.getfield 15, 3) := by decide +kernel
theorem dX3_copyFrom_5 : decode cX3_copyFrom 5 = .ok (.putfield 15, 3) := by decide +kernel
theorem dX3_copyFrom_8 : decode cX3_copyFrom 8 = .ok (.aload_n 0, 1) := by decide +kernel
theorem dX3_copyFrom_9 : decode cX3_copyFrom 9 = .ok (.aload_n 1, 1) := by decide +kernel
theorem dX3_copyFrom_10 : decode cX3_copyFrom 10 = .ok (.getfield 19, 3) := by decide +kernel
theorem dX3_copyFrom_13 : decode cX3_copyFrom 13 = .ok (.putfield 19, 3) := by decide +kernel
theorem dX3_copyFrom_16 : decode cX3_copyFrom 16 = .ok (.aload_n 1, 1) := by decide +kernel
theorem dX3_copyFrom_17 : decode cX3_copyFrom 17 = .ok (.getfield 11, 3) := by decide +kernel
theorem dX3_copyFrom_20 : decode cX3_copyFrom 20 = .ok (.iconst 0, 1) := by decide +kernel
theorem dX3_copyFrom_21 : decode cX3_copyFrom 21 = .ok (.aload_n 0, 1) := by decide +kernel
theorem dX3_copyFrom_22 : decode cX3_copyFrom 22 = .ok (.getfield 11, 3) := by decide +kernel
theorem dX3_copyFrom_25 : decode cX3_copyFrom 25 = .ok (.iconst 0, 1) := by decide +kernel
theorem dX3_copyFrom_26 : decode cX3_copyFrom 26 = .ok (.sipush 480, 3) := by decide +kernel
theorem dX3_copyFrom_29 : decode cX3_copyFrom 29 = .ok (.invokestatic 22, 3) := by decide +kernel
theorem dX3_copyFrom_32 : decode cX3_copyFrom 32 = .ok (.return_, 1) := by decide +kernel
theorem dX3_openRow_0 : decode cX3_openRow 0 = .ok (.aload_n 0, 1) := by decide +kernel
theorem dX3_openRow_1 : decode cX3_openRow 1 = .ok (.aload_n 0, 1) := by decide +kernel
theorem dX3_openRow_2 : decode cX3_openRow 2 = .ok (.getfield 19, 3) := by decide +kernel
theorem dX3_openRow_5 : decode cX3_openRow 5 = .ok (.iconst 1, 1) := by decide +kernel
theorem dX3_openRow_6 : decode cX3_openRow 6 = .ok (.iadd, 1) := by decide +kernel
theorem dX3_openRow_7 : decode cX3_openRow 7 = .ok (.bipush 60, 2) := by decide +kernel
theorem dX3_openRow_9 : decode cX3_openRow 9 = .ok (.irem, 1) := by decide +kernel
theorem dX3_openRow_10 : decode cX3_openRow 10 = .ok (.putfield 19, 3) := by decide +kernel
theorem dX3_openRow_13 : decode cX3_openRow 13 = .ok (.aload_n 0, 1) := by decide +kernel
theorem dX3_openRow_14 : decode cX3_openRow 14 = .ok (.aload_n 0, 1) := by decide +kernel
theorem dX3_openRow_15 : decode cX3_openRow 15 = .ok (.getfield 15, 3) := by decide +kernel
theorem dX3_openRow_18 : decode cX3_openRow 18 = .ok (.iconst 1, 1) := by decide +kernel
theorem dX3_openRow_19 : decode cX3_openRow 19 = .ok (.iadd, 1) := by decide +kernel
theorem dX3_openRow_20 : decode cX3_openRow 20 = .ok (.bipush 60, 2) := by decide +kernel
theorem dX3_openRow_22 : decode cX3_openRow 22 = .ok (.invokestatic 28, 3) := by decide +kernel
theorem dX3_openRow_25 : decode cX3_openRow 25 = .ok (.putfield 15, 3) := by decide +kernel
theorem dX3_openRow_28 : decode cX3_openRow 28 = .ok (.return_, 1) := by decide +kernel
theorem dX3_put_0 : decode cX3_put 0 = .ok (.aload_n 0, 1) := by decide +kernel
theorem dX3_put_1 : decode cX3_put 1 = .ok (.getfield 11, 3) := by decide +kernel
theorem dX3_put_4 : decode cX3_put 4 = .ok (.aload_n 0, 1) := by decide +kernel
theorem dX3_put_5 : decode cX3_put 5 = .ok (.getfield 19, 3) := by decide +kernel
theorem dX3_put_8 : decode cX3_put 8 = .ok (.bipush 8, 2) := by decide +kernel
theorem dX3_put_10 : decode cX3_put 10 = .ok (.imul, 1) := by decide +kernel
theorem dX3_put_11 : decode cX3_put 11 = .ok (.iload_n 1, 1) := by decide +kernel
theorem dX3_put_12 : decode cX3_put 12 = .ok (.iadd, 1) := by decide +kernel
theorem dX3_put_13 : decode cX3_put 13 = .ok (.iload_n 2, 1) := by decide +kernel
theorem dX3_put_14 : decode cX3_put 14 = .ok (.iastore, 1) := by decide +kernel
theorem dX3_put_15 : decode cX3_put 15 = .ok (.return_, 1) := by decide +kernel
theorem dX3_cellOf_0 : decode cX3_cellOf 0 = .ok (.iload_n 1, 1) := by decide +kernel
theorem dX3_cellOf_1 : decode cX3_cellOf 1 = .ok (.ifCond .lt 11, 3) := by decide +kernel
theorem dX3_cellOf_4 : decode cX3_cellOf 4 = .ok (.iload_n 1, 1) := by decide +kernel
theorem dX3_cellOf_5 : decode cX3_cellOf 5 = .ok (.aload_n 0, 1) := by decide +kernel
theorem dX3_cellOf_6 : decode cX3_cellOf 6 = .ok (.getfield 15, 3) := by decide +kernel
theorem dX3_cellOf_9 : decode cX3_cellOf 9 = .ok (.if_icmp .lt 5, 3) := by decide +kernel
theorem dX3_cellOf_12 : decode cX3_cellOf 12 = .ok (.iconst (-1), 1) := by decide +kernel
theorem dX3_cellOf_13 : decode cX3_cellOf 13 = .ok (.ireturn, 1) := by decide +kernel
theorem dX3_cellOf_14 : decode cX3_cellOf 14 = .ok (.aload_n 0, 1) := by decide +kernel
theorem dX3_cellOf_15 : decode cX3_cellOf 15 = .ok (.getfield 19, 3) := by decide +kernel
theorem dX3_cellOf_18 : decode cX3_cellOf 18 = .ok (.iload_n 1, 1) := by decide +kernel
theorem dX3_cellOf_19 : decode cX3_cellOf 19 = .ok (.isub, 1) := by decide +kernel
theorem dX3_cellOf_20 : decode cX3_cellOf 20 = .ok (.bipush 60, 2) := by decide +kernel
theorem dX3_cellOf_22 : decode cX3_cellOf 22 = .ok (.invokestatic 34, 3) := by decide +kernel
theorem dX3_cellOf_25 : decode cX3_cellOf 25 = .ok (.istore_n 3, 1) := by decide +kernel
theorem dX3_cellOf_26 : decode cX3_cellOf 26 = .ok (.aload_n 0, 1) := by decide +kernel
theorem dX3_cellOf_27 : decode cX3_cellOf 27 = .ok (.getfield 11, 3) := by decide +kernel
theorem dX3_cellOf_30 : decode cX3_cellOf 30 = .ok (.iload_n 3, 1) := by decide +kernel
theorem dX3_cellOf_31 : decode cX3_cellOf 31 = .ok (.bipush 8, 2) := by decide +kernel
theorem dX3_cellOf_33 : decode cX3_cellOf 33 = .ok (.imul, 1) := by decide +kernel
theorem dX3_cellOf_34 : decode cX3_cellOf 34 = .ok (.iload_n 2, 1) := by decide +kernel
theorem dX3_cellOf_35 : decode cX3_cellOf 35 = .ok (.iadd, 1) := by decide +kernel
theorem dX3_cellOf_36 : decode cX3_cellOf 36 = .ok (.iaload, 1) := by decide +kernel
theorem dX3_cellOf_37 : decode cX3_cellOf 37 = .ok (.ireturn, 1) := by decide +kernel
theorem dX3_timeBefore_0 : decode cX3_timeBefore 0 = .ok (.iload_n 1, 1) := by decide +kernel
theorem dX3_timeBefore_1 : decode cX3_timeBefore 1 = .ok (.iconst 1, 1) := by decide +kernel
theorem dX3_timeBefore_2 : decode cX3_timeBefore 2 = .ok (.iadd, 1) := by decide +kernel
theorem dX3_timeBefore_3 : decode cX3_timeBefore 3 = .ok (.istore_n 2, 1) := by decide +kernel
theorem dX3_timeBefore_4 : decode cX3_timeBefore 4 = .ok (.iload_n 2, 1) := by decide +kernel
theorem dX3_timeBefore_5 : decode cX3_timeBefore 5 = .ok (.aload_n 0, 1) := by decide +kernel
theorem dX3_timeBefore_6 : decode cX3_timeBefore 6 = .ok (.getfield 15, 3) := by decide +kernel
theorem dX3_timeBefore_9 : decode cX3_timeBefore 9 = .ok (.if_icmp .ge 41, 3) := by decide +kernel
theorem dX3_timeBefore_12 : decode cX3_timeBefore 12 = .ok (.aload_n 0, 1) := by decide +kernel
theorem dX3_timeBefore_13 : decode cX3_timeBefore 13 = .ok (.iload_n 2, 1) := by decide +kernel
theorem dX3_timeBefore_14 : decode cX3_timeBefore 14 = .ok (.iconst 1, 1) := by decide +kernel
theorem dX3_timeBefore_15 : decode cX3_timeBefore 15 = .ok (.invokevirtual 37, 3) := by decide +kernel
theorem dX3_timeBefore_18 : decode cX3_timeBefore 18 = .ok (.aload_n 0, 1) := by decide +kernel
theorem dX3_timeBefore_19 : decode cX3_timeBefore 19 = .ok (.iload_n 1, 1) := by decide +kernel
theorem dX3_timeBefore_20 : decode cX3_timeBefore 20 = .ok (.iconst 1, 1) := by decide +kernel
theorem dX3_timeBefore_21 : decode cX3_timeBefore 21 = .ok (.invokevirtual 37, 3) := by decide +kernel
theorem dX3_timeBefore_24 : decode cX3_timeBefore 24 = .ok (.if_icmp .ne 20, 3) := by decide +kernel
theorem dX3_timeBefore_27 : decode cX3_timeBefore 27 = .ok (.aload_n 0, 1) := by decide +kernel
theorem dX3_timeBefore_28 : decode cX3_timeBefore 28 = .ok (.iload_n 2, 1) := by decide +kernel
theorem dX3_timeBefore_29 : decode cX3_timeBefore 29 = .ok (.iconst 2, 1) := by decide +kernel
theorem dX3_timeBefore_30 : decode cX3_timeBefore 30 = .ok (.invokevirtual 37, 3) := by decide +kernel
theorem dX3_timeBefore_33 : decode cX3_timeBefore 33 = .ok (.aload_n 0, 1) := by decide +kernel
theorem dX3_timeBefore_34 : decode cX3_timeBefore 34 = .ok (.iload_n 1, 1) := by decide +kernel
theorem dX3_timeBefore_35 : decode cX3_timeBefore 35 = .ok (.iconst 2, 1) := by decide +kernel
theorem dX3_timeBefore_36 : decode cX3_timeBefore 36 = .ok (.invokevirtual 37, 3) := by decide +kernel
theorem dX3_timeBefore_39 : decode cX3_timeBefore 39 = .ok (.if_icmp .ne 5, 3) := by decide +kernel
theorem dX3_timeBefore_42 : decode cX3_timeBefore 42 = .ok (.iload_n 2, 1) := by decide +kernel
theorem dX3_timeBefore_43 : decode cX3_timeBefore 43 = .ok (.ireturn, 1) := by decide +kernel
theorem dX3_timeBefore_44 : decode cX3_timeBefore 44 = .ok (.iinc 2 1, 3) := by decide +kernel
theorem dX3_timeBefore_47 : decode cX3_timeBefore 47 = .ok (.goto (-43), 3) := by decide +kernel
theorem dX3_timeBefore_50 : decode cX3_timeBefore 50 = .ok (.iconst (-1), 1) := by decide +kernel
theorem dX3_timeBefore_51 : decode cX3_timeBefore 51 = .ok (.ireturn, 1) := by decide +kernel
theorem dX3_beganUnlike_0 : decode cX3_beganUnlike 0 = .ok (.iload_n 2, 1) := by decide +kernel
theorem dX3_beganUnlike_1 : decode cX3_beganUnlike 1 = .ok (.iconst (-1), 1) := by decide +kernel
theorem dX3_beganUnlike_2 : decode cX3_beganUnlike 2 = .ok (.if_icmp .eq 22, 3) := by decide +kernel
theorem dX3_beganUnlike_5 : decode cX3_beganUnlike 5 = .ok (.aload_n 0, 1) := by decide +kernel
theorem dX3_beganUnlike_6 : decode cX3_beganUnlike 6 = .ok (.iload_n 1, 1) := by decide +kernel
theorem dX3_beganUnlike_7 : decode cX3_beganUnlike 7 = .ok (.iload_n 3, 1) := by decide +kernel
theorem dX3_beganUnlike_8 : decode cX3_beganUnlike 8 = .ok (.invokevirtual 37, 3) := by decide +kernel
theorem dX3_beganUnlike_11 : decode cX3_beganUnlike 11 = .ok (.aload_n 0, 1) := by decide +kernel
theorem dX3_beganUnlike_12 : decode cX3_beganUnlike 12 = .ok (.iload_n 2, 1) := by decide +kernel
theorem dX3_beganUnlike_13 : decode cX3_beganUnlike 13 = .ok (.iload_n 3, 1) := by decide +kernel
theorem dX3_beganUnlike_14 : decode cX3_beganUnlike 14 = .ok (.invokevirtual 37, 3) := by decide +kernel
theorem dX3_beganUnlike_17 : decode cX3_beganUnlike 17 = .ok (.if_icmp .eq 7, 3) := by decide +kernel
theorem dX3_beganUnlike_20 : decode cX3_beganUnlike 20 = .ok (.iconst 1, 1) := by decide +kernel
theorem dX3_beganUnlike_21 : decode cX3_beganUnlike 21 = .ok (.goto 4, 3) := by decide +kernel
theorem dX3_beganUnlike_24 : decode cX3_beganUnlike 24 = .ok (.iconst 0, 1) := by decide +kernel
theorem dX3_beganUnlike_25 : decode cX3_beganUnlike 25 = .ok (.ireturn, 1) := by decide +kernel
theorem dX4_init_0 : decode cX4_init 0 = .ok (.aload_n 0, 1) := by decide +kernel
theorem dX4_init_1 : decode cX4_init 1 = .ok (.invokespecial 1, 3) := by decide +kernel
theorem dX4_init_4 : decode cX4_init 4 = .ok (.aload_n 0, 1) := by decide +kernel
theorem dX4_init_5 : decode cX4_init 5 = .ok (.bipush 10, 2) := by decide +kernel
theorem dX4_init_7 : decode cX4_init 7 = .ok (.putfield 7, 3) := by decide +kernel
theorem dX4_init_10 : decode cX4_init 10 = .ok (.aload_n 0, 1) := by decide +kernel
theorem dX4_init_11 : decode cX4_init 11 = .ok (.iconst 2, 1) := by decide +kernel
theorem dX4_init_12 : decode cX4_init 12 = .ok (.putfield 13, 3) := by decide +kernel
theorem dX4_init_15 : decode cX4_init 15 = .ok (.aload_n 0, 1) := by decide +kernel
theorem dX4_init_16 : decode cX4_init 16 = .ok (.iconst 5, 1) := by decide +kernel
theorem dX4_init_17 : decode cX4_init 17 = .ok (.putfield 16, 3) := by decide +kernel
theorem dX4_init_20 : decode cX4_init 20 = .ok (.return_, 1) := by decide +kernel
theorem dX4_codeOf_0 : decode cX4_codeOf 0 = .ok (.bipush 8, 2) := by decide +kernel
theorem dX4_codeOf_2 : decode cX4_codeOf 2 = .ok (.iload_n 0, 1) := by decide +kernel
theorem dX4_codeOf_3 : decode cX4_codeOf 3 = .ok (.imul, 1) := by decide +kernel
theorem dX4_codeOf_4 : decode cX4_codeOf 4 = .ok (.iconst 2, 1) := by decide +kernel
theorem dX4_codeOf_5 : decode cX4_codeOf 5 = .ok (.iload_n 1, 1) := by decide +kernel
theorem dX4_codeOf_6 : decode cX4_codeOf 6 = .ok (.iconst 1, 1) := by decide +kernel
theorem dX4_codeOf_7 : decode cX4_codeOf 7 = .ok (.isub, 1) := by decide +kernel
theorem dX4_codeOf_8 : decode cX4_codeOf 8 = .ok (.imul, 1) := by decide +kernel
theorem dX4_codeOf_9 : decode cX4_codeOf 9 = .ok (.iadd, 1) := by decide +kernel
theorem dX4_codeOf_10 : decode cX4_codeOf 10 = .ok (.iload_n 2, 1) := by decide +kernel
theorem dX4_codeOf_11 : decode cX4_codeOf 11 = .ok (.iadd, 1) := by decide +kernel
theorem dX4_codeOf_12 : decode cX4_codeOf 12 = .ok (.ireturn, 1) := by decide +kernel
theorem dX4_kindOf_0 : decode cX4_kindOf 0 = .ok (.iload_n 0, 1) := by decide +kernel
theorem dX4_kindOf_1 : decode cX4_kindOf 1 = .ok (.iconst 3, 1) := by decide +kernel
theorem dX4_kindOf_2 : decode cX4_kindOf 2 = .ok (.ishr, 1) := by decide +kernel
theorem dX4_kindOf_3 : decode cX4_kindOf 3 = .ok (.ireturn, 1) := by decide +kernel
theorem dX4_countOf_0 : decode cX4_countOf 0 = .ok (.iload_n 0, 1) := by decide +kernel
theorem dX4_countOf_1 : decode cX4_countOf 1 = .ok (.iconst 1, 1) := by decide +kernel
theorem dX4_countOf_2 : decode cX4_countOf 2 = .ok (.ishr, 1) := by decide +kernel
theorem dX4_countOf_3 : decode cX4_countOf 3 = .ok (.iconst 3, 1) := by decide +kernel
theorem dX4_countOf_4 : decode cX4_countOf 4 = .ok (.iand, 1) := by decide +kernel
theorem dX4_countOf_5 : decode cX4_countOf 5 = .ok (.iconst 1, 1) := by decide +kernel
theorem dX4_countOf_6 : decode cX4_countOf 6 = .ok (.iadd, 1) := by decide +kernel
theorem dX4_countOf_7 : decode cX4_countOf 7 = .ok (.ireturn, 1) := by decide +kernel
theorem dX4_sideOf_0 : decode cX4_sideOf 0 = .ok (.iload_n 0, 1) := by decide +kernel
theorem dX4_sideOf_1 : decode cX4_sideOf 1 = .ok (.iconst 1, 1) := by decide +kernel
theorem dX4_sideOf_2 : decode cX4_sideOf 2 = .ok (.iand, 1) := by decide +kernel
theorem dX4_sideOf_3 : decode cX4_sideOf 3 = .ok (.ireturn, 1) := by decide +kernel
theorem dX4_costOf_0 : decode cX4_costOf 0 = .ok (.iload_n 1, 1) := by decide +kernel
theorem dX4_costOf_1 : decode cX4_costOf 1 = .ok (.invokestatic 19, 3) := by decide +kernel
theorem dX4_costOf_4 : decode cX4_costOf 4 = .ok (.iload_n 2, 1) := by decide +kernel
theorem dX4_costOf_5 : decode cX4_costOf 5 = .ok (.invokestatic 19, 3) := by decide +kernel
theorem dX4_costOf_8 : decode cX4_costOf 8 = .ok (.if_icmp .eq 8, 3) := by decide +kernel
theorem dX4_costOf_11 : decode cX4_costOf 11 = .ok (.aload_n 0, 1) := by decide +kernel
theorem dX4_costOf_12 : decode cX4_costOf 12 = .ok (.getfield 7, 3) := by decide +kernel
theorem dX4_costOf_15 : decode cX4_costOf 15 = .ok (.ireturn, 1) := by decide +kernel
theorem dX4_costOf_16 : decode cX4_costOf 16 = .ok (.iload_n 1, 1) := by decide +kernel
theorem dX4_costOf_17 : decode cX4_costOf 17 = .ok (.invokestatic 19, 3) := by decide +kernel
theorem dX4_costOf_20 : decode cX4_costOf 20 = .ok (.iconst 2, 1) := by decide +kernel
theorem dX4_costOf_21 : decode cX4_costOf 21 = .ok (.if_icmp .eq 5, 3) := by decide +kernel
theorem dX4_costOf_24 : decode cX4_costOf 24 = .ok (.iconst 0, 1) := by decide +kernel
theorem dX4_costOf_25 : decode cX4_costOf 25 = .ok (.ireturn, 1) := by decide +kernel
theorem dX4_costOf_26 : decode cX4_costOf 26 = .ok (.iload_n 1, 1) := by decide +kernel
theorem dX4_costOf_27 : decode cX4_costOf 27 = .ok (.invokestatic 23, 3) := by decide +kernel
theorem dX4_costOf_30 : decode cX4_costOf 30 = .ok (.iload_n 2, 1) := by decide +kernel
theorem dX4_costOf_31 : decode cX4_costOf 31 = .ok (.invokestatic 23, 3) := by decide +kernel
theorem dX4_costOf_34 : decode cX4_costOf 34 = .ok (.isub, 1) := by decide +kernel
theorem dX4_costOf_35 : decode cX4_costOf 35 = .ok (.invokestatic 26, 3) := by decide +kernel
theorem dX4_costOf_38 : decode cX4_costOf 38 = .ok (.istore_n 3, 1) := by decide +kernel
theorem dX4_costOf_39 : decode cX4_costOf 39 = .ok (.aload_n 0, 1) := by decide +kernel
theorem dX4_costOf_40 : decode cX4_costOf 40 = .ok (.getfield 13, 3) := by decide +kernel
theorem dX4_costOf_43 : decode cX4_costOf 43 = .ok (.iload_n 3, 1) := by decide +kernel
theorem dX4_costOf_44 : decode cX4_costOf 44 = .ok (.imul, 1) := by decide +kernel
theorem dX4_costOf_45 : decode cX4_costOf 45 = .ok (.iload_n 1, 1) := by decide +kernel
theorem dX4_costOf_46 : decode cX4_costOf 46 = .ok (.invokestatic 31, 3) := by decide +kernel
theorem dX4_costOf_49 : decode cX4_costOf 49 = .ok (.iload_n 2, 1) := by decide +kernel
theorem dX4_costOf_50 : decode cX4_costOf 50 = .ok (.invokestatic 31, 3) := by decide +kernel
theorem dX4_costOf_53 : decode cX4_costOf 53 = .ok (.if_icmp .ne 7, 3) := by decide +kernel
theorem dX4_costOf_56 : decode cX4_costOf 56 = .ok (.iconst 0, 1) := by decide +kernel
theorem dX4_costOf_57 : decode cX4_costOf 57 = .ok (.goto 7, 3) := by decide +kernel
theorem dX4_costOf_60 : decode cX4_costOf 60 = .ok (.aload_n 0, 1) := by decide +kernel
theorem dX4_costOf_61 : decode cX4_costOf 61 = .ok (.getfield 16, 3) := by decide +kernel
theorem dX4_costOf_64 : decode cX4_costOf 64 = .ok (.iadd, 1) := by decide +kernel
theorem dX4_costOf_65 : decode cX4_costOf 65 = .ok (.ireturn, 1) := by decide +kernel
theorem dX4_copyFrom_0 : decode cX4_copyFrom 0 = .ok (.aload_n 0, 1) := by decide +kernel
theorem dX4_copyFrom_1 : decode cX4_copyFrom 1 = .ok (.aload_n 1, 1) := by decide +kernel
theorem dX4_copyFrom_2 : decode cX4_copyFrom 2 = .ok (.getfield 7, 3) := by decide +kernel
theorem dX4_copyFrom_5 : decode cX4_copyFrom 5 = .ok (.putfield 7, 3) := by decide +kernel
theorem dX4_copyFrom_8 : decode cX4_copyFrom 8 = .ok (.aload_n 0, 1) := by decide +kernel
theorem dX4_copyFrom_9 : decode cX4_copyFrom 9 = .ok (.aload_n 1, 1) := by decide +kernel
theorem dX4_copyFrom_10 : decode cX4_copyFrom 10 = .ok (.getfield 13, 3) := by decide +kernel
theorem dX4_copyFrom_13 : decode cX4_copyFrom 13 = .ok (.putfield 13, 3) := by decide +kernel
theorem dX4_copyFrom_16 : decode cX4_copyFrom 16 = .ok (.aload_n 0, 1) := by decide +kernel
theorem dX4_copyFrom_17 : decode cX4_copyFrom 17 = .ok (.aload_n 1, 1) := by decide +kernel
theorem dX4_copyFrom_18 : decode cX4_copyFrom 18 = .ok (.getfield 16, 3) := by decide +kernel
theorem dX4_copyFrom_21 : decode cX4_copyFrom 21 = .ok (.putfield 16, 3) := by decide +kernel
theorem dX4_copyFrom_24 : decode cX4_copyFrom 24 = .ok (.return_, 1) := by decide +kernel
theorem dX5_init_0 : decode cX5_init 0 = .ok (.aload_n 0, 1) := by decide +kernel
theorem dX5_init_1 : decode cX5_init 1 = .ok (.invokespecial 3, 3) := by decide +kernel
theorem dX5_init_4 : decode cX5_init 4 = .ok (.aload_n 0, 1) := by decide +kernel
theorem dX5_init_5 : decode cX5_init 5 = .ok (.iconst (-1), 1) := by decide +kernel
theorem dX5_init_6 : decode cX5_init 6 = .ok (.putfield 9, 3) := by decide +kernel
theorem dX5_init_9 : decode cX5_init 9 = .ok (.aload_n 0, 1) := by decide +kernel
theorem dX5_init_10 : decode cX5_init 10 = .ok (.iconst (-1), 1) := by decide +kernel
theorem dX5_init_11 : decode cX5_init 11 = .ok (.putfield 15, 3) := by decide +kernel
theorem dX5_init_14 : decode cX5_init 14 = .ok (.aload_n 0, 1) := by decide +kernel
theorem dX5_init_15 : decode cX5_init 15 = .ok (.bipush 10, 2) := by decide +kernel
theorem dX5_init_17 : decode cX5_init 17 = .ok (.newarray .int, 2) := by decide +kernel
theorem dX5_init_19 : decode cX5_init 19 = .ok (.putfield 18, 3) := by decide +kernel
theorem dX5_init_22 : decode cX5_init 22 = .ok (.aload_n 0, 1) := by decide +kernel
theorem dX5_init_23 : decode cX5_init 23 = .ok (.bipush 10, 2) := by decide +kernel
theorem dX5_init_25 : decode cX5_init 25 = .ok (.newarray .int, 2) := by decide +kernel
theorem dX5_init_27 : decode cX5_init 27 = .ok (.putfield 22, 3) := by decide +kernel
theorem dX5_init_30 : decode cX5_init 30 = .ok (.aload_n 0, 1) := by decide +kernel
theorem dX5_init_31 : decode cX5_init 31 = .ok (.getfield 22, 3) := by decide +kernel
theorem dX5_init_34 : decode cX5_init 34 = .ok (.iconst (-1), 1) := by decide +kernel
theorem dX5_init_35 : decode cX5_init 35 = .ok (.invokestatic 25, 3) := by decide +kernel
theorem dX5_init_38 : decode cX5_init 38 = .ok (.return_, 1) := by decide +kernel
theorem dX5_copyFrom_0 : decode cX5_copyFrom 0 = .ok (.aload_n 0, 1) := by decide +kernel
theorem dX5_copyFrom_1 : decode cX5_copyFrom 1 = .ok (.aload_n 1, 1) := by decide +kernel
theorem dX5_copyFrom_2 : decode cX5_copyFrom 2 = .ok (.getfield 31, 3) := by decide +kernel
theorem dX5_copyFrom_5 : decode cX5_copyFrom 5 = .ok (.putfield 31, 3) := by decide +kernel
theorem dX5_copyFrom_8 : decode cX5_copyFrom 8 = .ok (.aload_n 0, 1) := by decide +kernel
theorem dX5_copyFrom_9 : decode cX5_copyFrom 9 = .ok (.aload_n 1, 1) := by decide +kernel
theorem dX5_copyFrom_10 : decode cX5_copyFrom 10 = .ok (.getfield 34, 3) := by decide +kernel
theorem dX5_copyFrom_13 : decode cX5_copyFrom 13 = .ok (.putfield 34, 3) := by decide +kernel
theorem dX5_copyFrom_16 : decode cX5_copyFrom 16 = .ok (.aload_n 0, 1) := by decide +kernel
theorem dX5_copyFrom_17 : decode cX5_copyFrom 17 = .ok (.aload_n 1, 1) := by decide +kernel
theorem dX5_copyFrom_18 : decode cX5_copyFrom 18 = .ok (.getfield 37, 3) := by decide +kernel
theorem dX5_copyFrom_21 : decode cX5_copyFrom 21 = .ok (.putfield 37, 3) := by decide +kernel
theorem dX5_copyFrom_24 : decode cX5_copyFrom 24 = .ok (.aload_n 0, 1) := by decide +kernel
theorem dX5_copyFrom_25 : decode cX5_copyFrom 25 = .ok (.aload_n 1, 1) := by decide +kernel
theorem dX5_copyFrom_26 : decode cX5_copyFrom 26 = .ok (.getfield 40, 3) := by decide +kernel
theorem dX5_copyFrom_29 : decode cX5_copyFrom 29 = .ok (.putfield 40, 3) := by decide +kernel
theorem dX5_copyFrom_32 : decode cX5_copyFrom 32 = .ok (.aload_n 0, 1) := by decide +kernel
theorem dX5_copyFrom_33 : decode cX5_copyFrom 33 = .ok (.aload_n 1, 1) := by decide +kernel
theorem dX5_copyFrom_34 : decode cX5_copyFrom 34 = .ok (.getfield 43, 3) := by decide +kernel
theorem dX5_copyFrom_37 : decode cX5_copyFrom 37 = .ok (.putfield 43, 3) := by decide +kernel
theorem dX5_copyFrom_40 : decode cX5_copyFrom 40 = .ok (.aload_n 0, 1) := by decide +kernel
theorem dX5_copyFrom_41 : decode cX5_copyFrom 41 = .ok (.aload_n 1, 1) := by decide +kernel
theorem dX5_copyFrom_42 : decode cX5_copyFrom 42 = .ok (.getfield 47, 3) := by decide +kernel
theorem dX5_copyFrom_45 : decode cX5_copyFrom 45 = .ok (.putfield 47, 3) := by decide +kernel
theorem dX5_copyFrom_48 : decode cX5_copyFrom 48 = .ok (.aload_n 0, 1) := by decide +kernel
theorem dX5_copyFrom_49 : decode cX5_copyFrom 49 = .ok (.aload_n 1, 1) := by decide +kernel
theorem dX5_copyFrom_50 : decode cX5_copyFrom 50 = .ok (.getfield 9, 3) := by decide +kernel
theorem dX5_copyFrom_53 : decode cX5_copyFrom 53 = .ok (.putfield 9, 3) := by decide +kernel
theorem dX5_copyFrom_56 : decode cX5_copyFrom 56 = .ok (.aload_n 0, 1) := by decide +kernel
theorem dX5_copyFrom_57 : decode cX5_copyFrom 57 = .ok (.aload_n 1, 1) := by decide +kernel
theorem dX5_copyFrom_58 : decode cX5_copyFrom 58 = .ok (.getfield 15, 3) := by decide +kernel
theorem dX5_copyFrom_61 : decode cX5_copyFrom 61 = .ok (.putfield 15, 3) := by decide +kernel
theorem dX5_copyFrom_64 : decode cX5_copyFrom 64 = .ok (.aload_n 1, 1) := by decide +kernel
theorem dX5_copyFrom_65 : decode cX5_copyFrom 65 = .ok (.getfield 18, 3) := by decide +kernel
theorem dX5_copyFrom_68 : decode cX5_copyFrom 68 = .ok (.iconst 0, 1) := by decide +kernel
theorem dX5_copyFrom_69 : decode cX5_copyFrom 69 = .ok (.aload_n 0, 1) := by decide +kernel
theorem dX5_copyFrom_70 : decode cX5_copyFrom 70 = .ok (.getfield 18, 3) := by decide +kernel
theorem dX5_copyFrom_73 : decode cX5_copyFrom 73 = .ok (.iconst 0, 1) := by decide +kernel
theorem dX5_copyFrom_74 : decode cX5_copyFrom 74 = .ok (.bipush 10, 2) := by decide +kernel
theorem dX5_copyFrom_76 : decode cX5_copyFrom 76 = .ok (.invokestatic 50, 3) := by decide +kernel
theorem dX5_copyFrom_79 : decode cX5_copyFrom 79 = .ok (.aload_n 1, 1) := by decide +kernel
theorem dX5_copyFrom_80 : decode cX5_copyFrom 80 = .ok (.getfield 22, 3) := by decide +kernel
theorem dX5_copyFrom_83 : decode cX5_copyFrom 83 = .ok (.iconst 0, 1) := by decide +kernel
theorem dX5_copyFrom_84 : decode cX5_copyFrom 84 = .ok (.aload_n 0, 1) := by decide +kernel
theorem dX5_copyFrom_85 : decode cX5_copyFrom 85 = .ok (.getfield 22, 3) := by decide +kernel
theorem dX5_copyFrom_88 : decode cX5_copyFrom 88 = .ok (.iconst 0, 1) := by decide +kernel
theorem dX5_copyFrom_89 : decode cX5_copyFrom 89 = .ok (.bipush 10, 2) := by decide +kernel
theorem dX5_copyFrom_91 : decode cX5_copyFrom 91 = .ok (.invokestatic 50, 3) := by decide +kernel
theorem dX5_copyFrom_94 : decode cX5_copyFrom 94 = .ok (.return_, 1) := by decide +kernel
theorem dX5_meetings_0 : decode cX5_meetings 0 = .ok (.iconst 0, 1) := by decide +kernel
theorem dX5_meetings_1 : decode cX5_meetings 1 = .ok (.istore_n 1, 1) := by decide +kernel
theorem dX5_meetings_2 : decode cX5_meetings 2 = .ok (.iconst 0, 1) := by decide +kernel
theorem dX5_meetings_3 : decode cX5_meetings 3 = .ok (.istore_n 2, 1) := by decide +kernel
theorem dX5_meetings_4 : decode cX5_meetings 4 = .ok (.iload_n 2, 1) := by decide +kernel
theorem dX5_meetings_5 : decode cX5_meetings 5 = .ok (.bipush 10, 2) := by decide +kernel
theorem dX5_meetings_7 : decode cX5_meetings 7 = .ok (.if_icmp .ge 18, 3) := by decide +kernel
theorem dX5_meetings_10 : decode cX5_meetings 10 = .ok (.iload_n 1, 1) := by decide +kernel
theorem dX5_meetings_11 : decode cX5_meetings 11 = .ok (.aload_n 0, 1) := by decide +kernel
theorem dX5_meetings_12 : decode cX5_meetings 12 = .ok (.getfield 18, 3) := by decide +kernel
theorem dX5_meetings_15 : decode cX5_meetings 15 = .ok (.iload_n 2, 1) := by decide +kernel
theorem dX5_meetings_16 : decode cX5_meetings 16 = .ok (.iaload, 1) := by decide +kernel
theorem dX5_meetings_17 : decode cX5_meetings 17 = .ok (.iadd, 1) := by decide +kernel
theorem dX5_meetings_18 : decode cX5_meetings 18 = .ok (.istore_n 1, 1) := by decide +kernel
theorem dX5_meetings_19 : decode cX5_meetings 19 = .ok (.iinc 2 1, 3) := by decide +kernel
theorem dX5_meetings_22 : decode cX5_meetings 22 = .ok (.goto (-18), 3) := by decide +kernel
theorem dX5_meetings_25 : decode cX5_meetings 25 = .ok (.iload_n 1, 1) := by decide +kernel
theorem dX5_meetings_26 : decode cX5_meetings 26 = .ok (.ireturn, 1) := by decide +kernel
theorem dX5_learn_0 : decode cX5_learn 0 = .ok (.aload_n 0, 1) := by decide +kernel
theorem dX5_learn_1 : decode cX5_learn 1 = .ok (.getfield 18, 3) := by decide +kernel
theorem dX5_learn_4 : decode cX5_learn 4 = .ok (.iload_n 1, 1) := by decide +kernel
theorem dX5_learn_5 : decode cX5_learn 5 = .ok (.dup2, 1) := by decide +kernel
theorem dX5_learn_6 : decode cX5_learn 6 = .ok (.iaload, 1) := by decide +kernel
theorem dX5_learn_7 : decode cX5_learn 7 = .ok (.iconst 1, 1) := by decide +kernel
theorem dX5_learn_8 : decode cX5_learn 8 = .ok (.iadd, 1) := by decide +kernel
theorem dX5_learn_9 : decode cX5_learn 9 = .ok (.iastore, 1) := by decide +kernel
theorem dX5_learn_10 : decode cX5_learn 10 = .ok (.aload_n 0, 1) := by decide +kernel
theorem dX5_learn_11 : decode cX5_learn 11 = .ok (.getfield 22, 3) := by decide +kernel
theorem dX5_learn_14 : decode cX5_learn 14 = .ok (.iload_n 1, 1) := by decide +kernel
theorem dX5_learn_15 : decode cX5_learn 15 = .ok (.iload_n 2, 1) := by decide +kernel
theorem dX5_learn_16 : decode cX5_learn 16 = .ok (.iastore, 1) := by decide +kernel
theorem dX5_learn_17 : decode cX5_learn 17 = .ok (.iload_n 2, 1) := by decide +kernel
theorem dX5_learn_18 : decode cX5_learn 18 = .ok (.aload_n 0, 1) := by decide +kernel
theorem dX5_learn_19 : decode cX5_learn 19 = .ok (.getfield 9, 3) := by decide +kernel
theorem dX5_learn_22 : decode cX5_learn 22 = .ok (.if_icmp .ne 16, 3) := by decide +kernel
theorem dX5_learn_25 : decode cX5_learn 25 = .ok (.iload_n 2, 1) := by decide +kernel
theorem dX5_learn_26 : decode cX5_learn 26 = .ok (.aload_n 0, 1) := by decide +kernel
theorem dX5_learn_27 : decode cX5_learn 27 = .ok (.getfield 15, 3) := by decide +kernel
theorem dX5_learn_30 : decode cX5_learn 30 = .ok (.if_icmp .ne 8, 3) := by decide +kernel
theorem dX5_learn_33 : decode cX5_learn 33 = .ok (.aload_n 0, 1) := by decide +kernel
theorem dX5_learn_34 : decode cX5_learn 34 = .ok (.iload_n 2, 1) := by decide +kernel
theorem dX5_learn_35 : decode cX5_learn 35 = .ok (.putfield 34, 3) := by decide +kernel
theorem dX5_learn_38 : decode cX5_learn 38 = .ok (.aload_n 0, 1) := by decide +kernel
theorem dX5_learn_39 : decode cX5_learn 39 = .ok (.aload_n 0, 1) := by decide +kernel
theorem dX5_learn_40 : decode cX5_learn 40 = .ok (.getfield 9, 3) := by decide +kernel
theorem dX5_learn_43 : decode cX5_learn 43 = .ok (.putfield 15, 3) := by decide +kernel
theorem dX5_learn_46 : decode cX5_learn 46 = .ok (.aload_n 0, 1) := by decide +kernel
theorem dX5_learn_47 : decode cX5_learn 47 = .ok (.iload_n 2, 1) := by decide +kernel
theorem dX5_learn_48 : decode cX5_learn 48 = .ok (.putfield 9, 3) := by decide +kernel
theorem dX5_learn_51 : decode cX5_learn 51 = .ok (.return_, 1) := by decide +kernel
theorem dX6_init_0 : decode cX6_init 0 = .ok (.aload_n 0, 1) := by decide +kernel
theorem dX6_init_1 : decode cX6_init 1 = .ok (.invokespecial 3, 3) := by decide +kernel
theorem dX6_init_4 : decode cX6_init 4 = .ok (.aload_n 0, 1) := by decide +kernel
theorem dX6_init_5 : decode cX6_init 5 = .ok (.bipush 8, 2) := by decide +kernel
theorem dX6_init_7 : decode cX6_init 7 = .ok (.newarray .int, 2) := by decide +kernel
theorem dX6_init_9 : decode cX6_init 9 = .ok (.putfield 11, 3) := by decide +kernel
theorem dX6_init_12 : decode cX6_init 12 = .ok (.aload_n 0, 1) := by decide +kernel
theorem dX6_init_13 : decode cX6_init 13 = .ok (.bipush 8, 2) := by decide +kernel
theorem dX6_init_15 : decode cX6_init 15 = .ok (.newarray .int, 2) := by decide +kernel
theorem dX6_init_17 : decode cX6_init 17 = .ok (.putfield 15, 3) := by decide +kernel
theorem dX6_init_20 : decode cX6_init 20 = .ok (.aload_n 0, 1) := by decide +kernel
theorem dX6_init_21 : decode cX6_init 21 = .ok (.bipush 8, 2) := by decide +kernel
theorem dX6_init_23 : decode cX6_init 23 = .ok (.newarray .int, 2) := by decide +kernel
theorem dX6_init_25 : decode cX6_init 25 = .ok (.putfield 18, 3) := by decide +kernel
theorem dX6_init_28 : decode cX6_init 28 = .ok (.return_, 1) := by decide +kernel
theorem dX6_seatAll_0 : decode cX6_seatAll 0 = .ok (.aload_n 0, 1) := by decide +kernel
theorem dX6_seatAll_1 : decode cX6_seatAll 1 = .ok (.aload_n 1, 1) := by decide +kernel
theorem dX6_seatAll_2 : decode cX6_seatAll 2 = .ok (.putfield 21, 3) := by decide +kernel
theorem dX6_seatAll_5 : decode cX6_seatAll 5 = .ok (.aload_n 0, 1) := by decide +kernel
theorem dX6_seatAll_6 : decode cX6_seatAll 6 = .ok (.iconst 0, 1) := by decide +kernel
theorem dX6_seatAll_7 : decode cX6_seatAll 7 = .ok (.putfield 25, 3) := by decide +kernel
theorem dX6_seatAll_10 : decode cX6_seatAll 10 = .ok (.iconst 0, 1) := by decide +kernel
theorem dX6_seatAll_11 : decode cX6_seatAll 11 = .ok (.istore_n 3, 1) := by decide +kernel
theorem dX6_seatAll_12 : decode cX6_seatAll 12 = .ok (.iload_n 3, 1) := by decide +kernel
theorem dX6_seatAll_13 : decode cX6_seatAll 13 = .ok (.bipush 10, 2) := by decide +kernel
theorem dX6_seatAll_15 : decode cX6_seatAll 15 = .ok (.if_icmp .ge 46, 3) := by decide +kernel
theorem dX6_seatAll_18 : decode cX6_seatAll 18 = .ok (.iload_n 2, 1) := by decide +kernel
theorem dX6_seatAll_19 : decode cX6_seatAll 19 = .ok (.iload_n 3, 1) := by decide +kernel
theorem dX6_seatAll_20 : decode cX6_seatAll 20 = .ok (.invokestatic 29, 3) := by decide +kernel
theorem dX6_seatAll_23 : decode cX6_seatAll 23 = .ok (.ifCond .eq 32, 3) := by decide +kernel
theorem dX6_seatAll_26 : decode cX6_seatAll 26 = .ok (.aload_n 0, 1) := by decide +kernel
theorem dX6_seatAll_27 : decode cX6_seatAll 27 = .ok (.getfield 25, 3) := by decide +kernel
theorem dX6_seatAll_30 : decode cX6_seatAll 30 = .ok (.bipush 8, 2) := by decide +kernel
theorem dX6_seatAll_32 : decode cX6_seatAll 32 = .ok (.if_icmp .ge 23, 3) := by decide +kernel
theorem dX6_seatAll_35 : decode cX6_seatAll 35 = .ok (.aload_n 0, 1) := by decide +kernel
theorem dX6_seatAll_36 : decode cX6_seatAll 36 = .ok (.getfield 11, 3) := by decide +kernel
theorem dX6_seatAll_39 : decode cX6_seatAll 39 = .ok (.aload_n 0, 1) := by decide +kernel
theorem dX6_seatAll_40 : decode cX6_seatAll 40 = .ok (.getfield 25, 3) := by decide +kernel
theorem dX6_seatAll_43 : decode cX6_seatAll 43 = .ok (.iload_n 3, 1) := by decide +kernel
theorem dX6_seatAll_44 : decode cX6_seatAll 44 = .ok (.iastore, 1) := by decide +kernel
theorem dX6_seatAll_45 : decode cX6_seatAll 45 = .ok (.aload_n 0, 1) := by decide +kernel
theorem dX6_seatAll_46 : decode cX6_seatAll 46 = .ok (.dup, 1) := by decide +kernel
theorem dX6_seatAll_47 : decode cX6_seatAll 47 = .ok (.getfield 25, 3) := by decide +kernel
theorem dX6_seatAll_50 : decode cX6_seatAll 50 = .ok (.iconst 1, 1) := by decide +kernel
theorem dX6_seatAll_51 : decode cX6_seatAll 51 = .ok (.iadd, 1) := by decide +kernel
theorem dX6_seatAll_52 : decode cX6_seatAll 52 = .ok (.putfield 25, 3) := by decide +kernel
theorem dX6_seatAll_55 : decode cX6_seatAll 55 = .ok (.iinc 3 1, 3) := by decide +kernel
theorem dX6_seatAll_58 : decode cX6_seatAll 58 = .ok (.goto (-46), 3) := by decide +kernel
theorem dX6_seatAll_61 : decode cX6_seatAll 61 = .ok (.aload_n 0, 1) := by decide +kernel
theorem dX6_seatAll_62 : decode cX6_seatAll 62 = .ok (.iconst 0, 1) := by decide +kernel
theorem dX6_seatAll_63 : decode cX6_seatAll 63 = .ok (.putfield 33, 3) := by decide +kernel
theorem dX6_seatAll_66 : decode cX6_seatAll 66 = .ok (.aload_n 0, 1) := by decide +kernel
theorem dX6_seatAll_67 : decode cX6_seatAll 67 = .ok (.getfield 25, 3) := by decide +kernel
theorem dX6_seatAll_70 : decode cX6_seatAll 70 = .ok (.ifCond .le 28, 3) := by decide +kernel
theorem dX6_seatAll_73 : decode cX6_seatAll 73 = .ok (.aload_n 0, 1) := by decide +kernel
theorem dX6_seatAll_74 : decode cX6_seatAll 74 = .ok (.ldc 36, 2) := by decide +kernel
theorem dX6_seatAll_76 : decode cX6_seatAll 76 = .ok (.putfield 33, 3) := by decide +kernel
theorem dX6_seatAll_79 : decode cX6_seatAll 79 = .ok (.aload_n 0, 1) := by decide +kernel
theorem dX6_seatAll_80 : decode cX6_seatAll 80 = .ok (.getfield 15, 3) := by decide +kernel
theorem dX6_seatAll_83 : decode cX6_seatAll 83 = .ok (.iconst 0, 1) := by decide +kernel
theorem dX6_seatAll_84 : decode cX6_seatAll 84 = .ok (.aload_n 0, 1) := by decide +kernel
theorem dX6_seatAll_85 : decode cX6_seatAll 85 = .ok (.getfield 11, 3) := by decide +kernel
theorem dX6_seatAll_88 : decode cX6_seatAll 88 = .ok (.iconst 0, 1) := by decide +kernel
theorem dX6_seatAll_89 : decode cX6_seatAll 89 = .ok (.iaload, 1) := by decide +kernel
theorem dX6_seatAll_90 : decode cX6_seatAll 90 = .ok (.iastore, 1) := by decide +kernel
theorem dX6_seatAll_91 : decode cX6_seatAll 91 = .ok (.aload_n 0, 1) := by decide +kernel
theorem dX6_seatAll_92 : decode cX6_seatAll 92 = .ok (.iconst 1, 1) := by decide +kernel
theorem dX6_seatAll_93 : decode cX6_seatAll 93 = .ok (.iconst 1, 1) := by decide +kernel
theorem dX6_seatAll_94 : decode cX6_seatAll 94 = .ok (.iconst 0, 1) := by decide +kernel
theorem dX6_seatAll_95 : decode cX6_seatAll 95 = .ok (.invokestatic 37, 3) := by decide +kernel
theorem dX6_seatAll_98 : decode cX6_seatAll 98 = .ok (.return_, 1) := by decide +kernel
theorem dX6_guestAt_0 : decode cX6_guestAt 0 = .ok (.iload_n 1, 1) := by decide +kernel
theorem dX6_guestAt_1 : decode cX6_guestAt 1 = .ok (.ifCond .lt 20, 3) := by decide +kernel
theorem dX6_guestAt_4 : decode cX6_guestAt 4 = .ok (.iload_n 1, 1) := by decide +kernel
theorem dX6_guestAt_5 : decode cX6_guestAt 5 = .ok (.aload_n 0, 1) := by decide +kernel
theorem dX6_guestAt_6 : decode cX6_guestAt 6 = .ok (.getfield 25, 3) := by decide +kernel
theorem dX6_guestAt_9 : decode cX6_guestAt 9 = .ok (.if_icmp .ge 12, 3) := by decide +kernel
theorem dX6_guestAt_12 : decode cX6_guestAt 12 = .ok (.aload_n 0, 1) := by decide +kernel
theorem dX6_guestAt_13 : decode cX6_guestAt 13 = .ok (.getfield 18, 3) := by decide +kernel
theorem dX6_guestAt_16 : decode cX6_guestAt 16 = .ok (.iload_n 1, 1) := by decide +kernel
theorem dX6_guestAt_17 : decode cX6_guestAt 17 = .ok (.iaload, 1) := by decide +kernel
theorem dX6_guestAt_18 : decode cX6_guestAt 18 = .ok (.goto 4, 3) := by decide +kernel
theorem dX6_guestAt_21 : decode cX6_guestAt 21 = .ok (.iconst (-1), 1) := by decide +kernel
theorem dX6_guestAt_22 : decode cX6_guestAt 22 = .ok (.ireturn, 1) := by decide +kernel
theorem dX6_seatNext_0 : decode cX6_seatNext 0 = .ok (.iload_n 1, 1) := by decide +kernel
theorem dX6_seatNext_1 : decode cX6_seatNext 1 = .ok (.iconst 1, 1) := by decide +kernel
theorem dX6_seatNext_2 : decode cX6_seatNext 2 = .ok (.if_icmp .lt 11, 3) := by decide +kernel
theorem dX6_seatNext_5 : decode cX6_seatNext 5 = .ok (.iload_n 3, 1) := by decide +kernel
theorem dX6_seatNext_6 : decode cX6_seatNext 6 = .ok (.aload_n 0, 1) := by decide +kernel
theorem dX6_seatNext_7 : decode cX6_seatNext 7 = .ok (.getfield 33, 3) := by decide +kernel
theorem dX6_seatNext_10 : decode cX6_seatNext 10 = .ok (.if_icmp .lt 4, 3) := by decide +kernel
theorem dX6_seatNext_13 : decode cX6_seatNext 13 = .ok (.return_, 1) := by decide +kernel
theorem dX6_seatNext_14 : decode cX6_seatNext 14 = .ok (.iload_n 1, 1) := by decide +kernel
theorem dX6_seatNext_15 : decode cX6_seatNext 15 = .ok (.aload_n 0, 1) := by decide +kernel
theorem dX6_seatNext_16 : decode cX6_seatNext 16 = .ok (.getfield 25, 3) := by decide +kernel
theorem dX6_seatNext_19 : decode cX6_seatNext 19 = .ok (.if_icmp .lt 9, 3) := by decide +kernel
theorem dX6_seatNext_22 : decode cX6_seatNext 22 = .ok (.aload_n 0, 1) := by decide +kernel
theorem dX6_seatNext_23 : decode cX6_seatNext 23 = .ok (.iload_n 3, 1) := by decide +kernel
theorem dX6_seatNext_24 : decode cX6_seatNext 24 = .ok (.invokevirtual 41, 3) := by decide +kernel
theorem dX6_seatNext_27 : decode cX6_seatNext 27 = .ok (.return_, 1) := by decide +kernel
theorem dX6_seatNext_28 : decode cX6_seatNext 28 = .ok (.iconst 1, 1) := by decide +kernel
theorem dX6_seatNext_29 : decode cX6_seatNext 29 = .ok (.istore 4, 2) := by decide +kernel
theorem dX6_seatNext_31 : decode cX6_seatNext 31 = .ok (.iload 4, 2) := by decide +kernel
theorem dX6_seatNext_33 : decode cX6_seatNext 33 = .ok (.aload_n 0, 1) := by decide +kernel
theorem dX6_seatNext_34 : decode cX6_seatNext 34 = .ok (.getfield 25, 3) := by decide +kernel
theorem dX6_seatNext_37 : decode cX6_seatNext 37 = .ok (.if_icmp .ge 72, 3) := by decide +kernel
theorem dX6_seatNext_40 : decode cX6_seatNext 40 = .ok (.iload_n 2, 1) := by decide +kernel
theorem dX6_seatNext_41 : decode cX6_seatNext 41 = .ok (.iload 4, 2) := by decide +kernel
theorem dX6_seatNext_43 : decode cX6_seatNext 43 = .ok (.invokestatic 29, 3) := by decide +kernel
theorem dX6_seatNext_46 : decode cX6_seatNext 46 = .ok (.ifCond .ne 57, 3) := by decide +kernel
theorem dX6_seatNext_49 : decode cX6_seatNext 49 = .ok (.aload_n 0, 1) := by decide +kernel
theorem dX6_seatNext_50 : decode cX6_seatNext 50 = .ok (.getfield 15, 3) := by decide +kernel
theorem dX6_seatNext_53 : decode cX6_seatNext 53 = .ok (.iload_n 1, 1) := by decide +kernel
theorem dX6_seatNext_54 : decode cX6_seatNext 54 = .ok (.aload_n 0, 1) := by decide +kernel
theorem dX6_seatNext_55 : decode cX6_seatNext 55 = .ok (.getfield 11, 3) := by decide +kernel
theorem dX6_seatNext_58 : decode cX6_seatNext 58 = .ok (.iload 4, 2) := by decide +kernel
theorem dX6_seatNext_60 : decode cX6_seatNext 60 = .ok (.iaload, 1) := by decide +kernel
theorem dX6_seatNext_61 : decode cX6_seatNext 61 = .ok (.iastore, 1) := by decide +kernel
theorem dX6_seatNext_62 : decode cX6_seatNext 62 = .ok (.aload_n 0, 1) := by decide +kernel
theorem dX6_seatNext_63 : decode cX6_seatNext 63 = .ok (.getfield 21, 3) := by decide +kernel
theorem dX6_seatNext_66 : decode cX6_seatNext 66 = .ok (.aload_n 0, 1) := by decide +kernel
theorem dX6_seatNext_67 : decode cX6_seatNext 67 = .ok (.getfield 15, 3) := by decide +kernel
theorem dX6_seatNext_70 : decode cX6_seatNext 70 = .ok (.iload_n 1, 1) := by decide +kernel
theorem dX6_seatNext_71 : decode cX6_seatNext 71 = .ok (.iconst 1, 1) := by decide +kernel
theorem dX6_seatNext_72 : decode cX6_seatNext 72 = .ok (.isub, 1) := by decide +kernel
theorem dX6_seatNext_73 : decode cX6_seatNext 73 = .ok (.iaload, 1) := by decide +kernel
theorem dX6_seatNext_74 : decode cX6_seatNext 74 = .ok (.aload_n 0, 1) := by decide +kernel
theorem dX6_seatNext_75 : decode cX6_seatNext 75 = .ok (.getfield 11, 3) := by decide +kernel
theorem dX6_seatNext_78 : decode cX6_seatNext 78 = .ok (.iload 4, 2) := by decide +kernel
theorem dX6_seatNext_80 : decode cX6_seatNext 80 = .ok (.iaload, 1) := by decide +kernel
theorem dX6_seatNext_81 : decode cX6_seatNext 81 = .ok (.invokevirtual 45, 3) := by decide +kernel
theorem dX6_seatNext_84 : decode cX6_seatNext 84 = .ok (.istore 5, 2) := by decide +kernel
theorem dX6_seatNext_86 : decode cX6_seatNext 86 = .ok (.aload_n 0, 1) := by decide +kernel
theorem dX6_seatNext_87 : decode cX6_seatNext 87 = .ok (.iload_n 1, 1) := by decide +kernel
theorem dX6_seatNext_88 : decode cX6_seatNext 88 = .ok (.iconst 1, 1) := by decide +kernel
theorem dX6_seatNext_89 : decode cX6_seatNext 89 = .ok (.iadd, 1) := by decide +kernel
theorem dX6_seatNext_90 : decode cX6_seatNext 90 = .ok (.iload_n 2, 1) := by decide +kernel
theorem dX6_seatNext_91 : decode cX6_seatNext 91 = .ok (.iconst 1, 1) := by decide +kernel
theorem dX6_seatNext_92 : decode cX6_seatNext 92 = .ok (.iload 4, 2) := by decide +kernel
theorem dX6_seatNext_94 : decode cX6_seatNext 94 = .ok (.ishl, 1) := by decide +kernel
theorem dX6_seatNext_95 : decode cX6_seatNext 95 = .ok (.ior, 1) := by decide +kernel
theorem dX6_seatNext_96 : decode cX6_seatNext 96 = .ok (.iload_n 3, 1) := by decide +kernel
theorem dX6_seatNext_97 : decode cX6_seatNext 97 = .ok (.iload 5, 2) := by decide +kernel
theorem dX6_seatNext_99 : decode cX6_seatNext 99 = .ok (.iadd, 1) := by decide +kernel
theorem dX6_seatNext_100 : decode cX6_seatNext 100 = .ok (.invokestatic 37, 3) := by decide +kernel
theorem dX6_seatNext_103 : decode cX6_seatNext 103 = .ok (.iinc 4 1, 3) := by decide +kernel
theorem dX6_seatNext_106 : decode cX6_seatNext 106 = .ok (.goto (-75), 3) := by decide +kernel
theorem dX6_seatNext_109 : decode cX6_seatNext 109 = .ok (.return_, 1) := by decide +kernel
theorem dX6_closeRing_0 : decode cX6_closeRing 0 = .ok (.aload_n 0, 1) := by decide +kernel
theorem dX6_closeRing_1 : decode cX6_closeRing 1 = .ok (.getfield 25, 3) := by decide +kernel
theorem dX6_closeRing_4 : decode cX6_closeRing 4 = .ok (.iconst 2, 1) := by decide +kernel
theorem dX6_closeRing_5 : decode cX6_closeRing 5 = .ok (.if_icmp .le 30, 3) := by decide +kernel
theorem dX6_closeRing_8 : decode cX6_closeRing 8 = .ok (.aload_n 0, 1) := by decide +kernel
theorem dX6_closeRing_9 : decode cX6_closeRing 9 = .ok (.getfield 21, 3) := by decide +kernel
theorem dX6_closeRing_12 : decode cX6_closeRing 12 = .ok (.aload_n 0, 1) := by decide +kernel
theorem dX6_closeRing_13 : decode cX6_closeRing 13 = .ok (.getfield 15, 3) := by decide +kernel
theorem dX6_closeRing_16 : decode cX6_closeRing 16 = .ok (.aload_n 0, 1) := by decide +kernel
theorem dX6_closeRing_17 : decode cX6_closeRing 17 = .ok (.getfield 25, 3) := by decide +kernel
theorem dX6_closeRing_20 : decode cX6_closeRing 20 = .ok (.iconst 1, 1) := by decide +kernel
theorem dX6_closeRing_21 : decode cX6_closeRing 21 = .ok (.isub, 1) := by decide +kernel
theorem dX6_closeRing_22 : decode cX6_closeRing 22 = .ok (.iaload, 1) := by decide +kernel
theorem dX6_closeRing_23 : decode cX6_closeRing 23 = .ok (.aload_n 0, 1) := by decide +kernel
theorem dX6_closeRing_24 : decode cX6_closeRing 24 = .ok (.getfield 15, 3) := by decide +kernel
theorem dX6_closeRing_27 : decode cX6_closeRing 27 = .ok (.iconst 0, 1) := by decide +kernel
theorem dX6_closeRing_28 : decode cX6_closeRing 28 = .ok (.iaload, 1) := by decide +kernel
theorem dX6_closeRing_29 : decode cX6_closeRing 29 = .ok (.invokevirtual 45, 3) := by decide +kernel
theorem dX6_closeRing_32 : decode cX6_closeRing 32 = .ok (.goto 4, 3) := by decide +kernel
theorem dX6_closeRing_35 : decode cX6_closeRing 35 = .ok (.iconst 0, 1) := by decide +kernel
theorem dX6_closeRing_36 : decode cX6_closeRing 36 = .ok (.istore_n 2, 1) := by decide +kernel
theorem dX6_closeRing_37 : decode cX6_closeRing 37 = .ok (.iload_n 1, 1) := by decide +kernel
theorem dX6_closeRing_38 : decode cX6_closeRing 38 = .ok (.iload_n 2, 1) := by decide +kernel
theorem dX6_closeRing_39 : decode cX6_closeRing 39 = .ok (.iadd, 1) := by decide +kernel
theorem dX6_closeRing_40 : decode cX6_closeRing 40 = .ok (.aload_n 0, 1) := by decide +kernel
theorem dX6_closeRing_41 : decode cX6_closeRing 41 = .ok (.getfield 33, 3) := by decide +kernel
theorem dX6_closeRing_44 : decode cX6_closeRing 44 = .ok (.if_icmp .ge 25, 3) := by decide +kernel
theorem dX6_closeRing_47 : decode cX6_closeRing 47 = .ok (.aload_n 0, 1) := by decide +kernel
theorem dX6_closeRing_48 : decode cX6_closeRing 48 = .ok (.iload_n 1, 1) := by decide +kernel
theorem dX6_closeRing_49 : decode cX6_closeRing 49 = .ok (.iload_n 2, 1) := by decide +kernel
theorem dX6_closeRing_50 : decode cX6_closeRing 50 = .ok (.iadd, 1) := by decide +kernel
theorem dX6_closeRing_51 : decode cX6_closeRing 51 = .ok (.putfield 33, 3) := by decide +kernel
theorem dX6_closeRing_54 : decode cX6_closeRing 54 = .ok (.aload_n 0, 1) := by decide +kernel
theorem dX6_closeRing_55 : decode cX6_closeRing 55 = .ok (.getfield 15, 3) := by decide +kernel
theorem dX6_closeRing_58 : decode cX6_closeRing 58 = .ok (.iconst 0, 1) := by decide +kernel
theorem dX6_closeRing_59 : decode cX6_closeRing 59 = .ok (.aload_n 0, 1) := by decide +kernel
theorem dX6_closeRing_60 : decode cX6_closeRing 60 = .ok (.getfield 18, 3) := by decide +kernel
theorem dX6_closeRing_63 : decode cX6_closeRing 63 = .ok (.iconst 0, 1) := by decide +kernel
theorem dX6_closeRing_64 : decode cX6_closeRing 64 = .ok (.bipush 8, 2) := by decide +kernel
theorem dX6_closeRing_66 : decode cX6_closeRing 66 = .ok (.invokestatic 51, 3) := by decide +kernel
theorem dX6_closeRing_69 : decode cX6_closeRing 69 = .ok (.return_, 1) := by decide +kernel
theorem dX7_init_0 : decode cX7_init 0 = .ok (.aload_n 0, 1) := by decide +kernel
theorem dX7_init_1 : decode cX7_init 1 = .ok (.invokespecial 3, 3) := by decide +kernel
theorem dX7_init_4 : decode cX7_init 4 = .ok (.aload_n 0, 1) := by decide +kernel
theorem dX7_init_5 : decode cX7_init 5 = .ok (.iconst (-1), 1) := by decide +kernel
theorem dX7_init_6 : decode cX7_init 6 = .ok (.putfield 9, 3) := by decide +kernel
theorem dX7_init_9 : decode cX7_init 9 = .ok (.aload_n 0, 1) := by decide +kernel
theorem dX7_init_10 : decode cX7_init 10 = .ok (.aload_n 1, 1) := by decide +kernel
theorem dX7_init_11 : decode cX7_init 11 = .ok (.putfield 15, 3) := by decide +kernel
theorem dX7_init_14 : decode cX7_init 14 = .ok (.aload_n 0, 1) := by decide +kernel
theorem dX7_init_15 : decode cX7_init 15 = .ok (.iload_n 2, 1) := by decide +kernel
theorem dX7_init_16 : decode cX7_init 16 = .ok (.aload_n 1, 1) := by decide +kernel
theorem dX7_init_17 : decode cX7_init 17 = .ok (.arraylength, 1) := by decide +kernel
theorem dX7_init_18 : decode cX7_init 18 = .ok (.invokestatic 19, 3) := by decide +kernel
theorem dX7_init_21 : decode cX7_init 21 = .ok (.putfield 25, 3) := by decide +kernel
theorem dX7_init_24 : decode cX7_init 24 = .ok (.return_, 1) := by decide +kernel
theorem dX7_readLines_0 : decode cX7_readLines 0 = .ok (.aload_n 0, 1) := by decide +kernel
theorem dX7_readLines_1 : decode cX7_readLines 1 = .ok (.invokevirtual 28, 3) := by decide +kernel
theorem dX7_readLines_4 : decode cX7_readLines 4 = .ok (.aload_n 0, 1) := by decide +kernel
theorem dX7_readLines_5 : decode cX7_readLines 5 = .ok (.getfield 31, 3) := by decide +kernel
theorem dX7_readLines_8 : decode cX7_readLines 8 = .ok (.aload_n 0, 1) := by decide +kernel
theorem dX7_readLines_9 : decode cX7_readLines 9 = .ok (.getfield 25, 3) := by decide +kernel
theorem dX7_readLines_12 : decode cX7_readLines 12 = .ok (.if_icmp .ge 7, 3) := by decide +kernel
theorem dX7_readLines_15 : decode cX7_readLines 15 = .ok (.iconst 1, 1) := by decide +kernel
theorem dX7_readLines_16 : decode cX7_readLines 16 = .ok (.goto 4, 3) := by decide +kernel
theorem dX7_readLines_19 : decode cX7_readLines 19 = .ok (.iconst 0, 1) := by decide +kernel
theorem dX7_readLines_20 : decode cX7_readLines 20 = .ok (.istore_n 2, 1) := by decide +kernel
theorem dX7_readLines_21 : decode cX7_readLines 21 = .ok (.iconst 0, 1) := by decide +kernel
theorem dX7_readLines_22 : decode cX7_readLines 22 = .ok (.istore_n 3, 1) := by decide +kernel
theorem dX7_readLines_23 : decode cX7_readLines 23 = .ok (.iload_n 3, 1) := by decide +kernel
theorem dX7_readLines_24 : decode cX7_readLines 24 = .ok (.iload_n 1, 1) := by decide +kernel
theorem dX7_readLines_25 : decode cX7_readLines 25 = .ok (.if_icmp .ge 52, 3) := by decide +kernel
theorem dX7_readLines_28 : decode cX7_readLines 28 = .ok (.iload_n 2, 1) := by decide +kernel
theorem dX7_readLines_29 : decode cX7_readLines 29 = .ok (.ifCond .eq 48, 3) := by decide +kernel
theorem dX7_readLines_32 : decode cX7_readLines 32 = .ok (.aload_n 0, 1) := by decide +kernel
theorem dX7_readLines_33 : decode cX7_readLines 33 = .ok (.getfield 9, 3) := by decide +kernel
theorem dX7_readLines_36 : decode cX7_readLines 36 = .ok (.iconst (-1), 1) := by decide +kernel
theorem dX7_readLines_37 : decode cX7_readLines 37 = .ok (.if_icmp .ne 40, 3) := by decide +kernel
theorem dX7_readLines_40 : decode cX7_readLines 40 = .ok (.aload_n 0, 1) := by decide +kernel
theorem dX7_readLines_41 : decode cX7_readLines 41 = .ok (.invokevirtual 34, 3) := by decide +kernel
theorem dX7_readLines_44 : decode cX7_readLines 44 = .ok (.aload_n 0, 1) := by decide +kernel
theorem dX7_readLines_45 : decode cX7_readLines 45 = .ok (.getfield 31, 3) := by decide +kernel
theorem dX7_readLines_48 : decode cX7_readLines 48 = .ok (.aload_n 0, 1) := by decide +kernel
theorem dX7_readLines_49 : decode cX7_readLines 49 = .ok (.getfield 25, 3) := by decide +kernel
theorem dX7_readLines_52 : decode cX7_readLines 52 = .ok (.if_icmp .ge 7, 3) := by decide +kernel
theorem dX7_readLines_55 : decode cX7_readLines 55 = .ok (.iconst 1, 1) := by decide +kernel
theorem dX7_readLines_56 : decode cX7_readLines 56 = .ok (.goto 4, 3) := by decide +kernel
theorem dX7_readLines_59 : decode cX7_readLines 59 = .ok (.iconst 0, 1) := by decide +kernel
theorem dX7_readLines_60 : decode cX7_readLines 60 = .ok (.istore_n 2, 1) := by decide +kernel
theorem dX7_readLines_61 : decode cX7_readLines 61 = .ok (.iload_n 2, 1) := by decide +kernel
theorem dX7_readLines_62 : decode cX7_readLines 62 = .ok (.ifCond .eq 9, 3) := by decide +kernel
theorem dX7_readLines_65 : decode cX7_readLines 65 = .ok (.aload_n 0, 1) := by decide +kernel
theorem dX7_readLines_66 : decode cX7_readLines 66 = .ok (.bipush 59, 2) := by decide +kernel
theorem dX7_readLines_68 : decode cX7_readLines 68 = .ok (.invokevirtual 37, 3) := by decide +kernel
theorem dX7_readLines_71 : decode cX7_readLines 71 = .ok (.iinc 3 1, 3) := by decide +kernel
theorem dX7_readLines_74 : decode cX7_readLines 74 = .ok (.goto (-51), 3) := by decide +kernel
theorem dX7_readLines_77 : decode cX7_readLines 77 = .ok (.iload_n 2, 1) := by decide +kernel
theorem dX7_readLines_78 : decode cX7_readLines 78 = .ok (.ifCond .eq 7, 3) := by decide +kernel
theorem dX7_readLines_81 : decode cX7_readLines 81 = .ok (.aload_n 0, 1) := by decide +kernel
theorem dX7_readLines_82 : decode cX7_readLines 82 = .ok (.invokevirtual 41, 3) := by decide +kernel
theorem dX7_readLines_85 : decode cX7_readLines 85 = .ok (.aload_n 0, 1) := by decide +kernel
theorem dX7_readLines_86 : decode cX7_readLines 86 = .ok (.getfield 9, 3) := by decide +kernel
theorem dX7_readLines_89 : decode cX7_readLines 89 = .ok (.iconst (-1), 1) := by decide +kernel
theorem dX7_readLines_90 : decode cX7_readLines 90 = .ok (.if_icmp .ne 7, 3) := by decide +kernel
theorem dX7_readLines_93 : decode cX7_readLines 93 = .ok (.iconst 1, 1) := by decide +kernel
theorem dX7_readLines_94 : decode cX7_readLines 94 = .ok (.goto 4, 3) := by decide +kernel
theorem dX7_readLines_97 : decode cX7_readLines 97 = .ok (.iconst 0, 1) := by decide +kernel
theorem dX7_readLines_98 : decode cX7_readLines 98 = .ok (.ireturn, 1) := by decide +kernel
theorem dX7_isWrong_0 : decode cX7_isWrong 0 = .ok (.aload_n 0, 1) := by decide +kernel
theorem dX7_isWrong_1 : decode cX7_isWrong 1 = .ok (.getfield 9, 3) := by decide +kernel
theorem dX7_isWrong_4 : decode cX7_isWrong 4 = .ok (.iconst (-1), 1) := by decide +kernel
theorem dX7_isWrong_5 : decode cX7_isWrong 5 = .ok (.if_icmp .eq 7, 3) := by decide +kernel
theorem dX7_isWrong_8 : decode cX7_isWrong 8 = .ok (.iconst 1, 1) := by decide +kernel
theorem dX7_isWrong_9 : decode cX7_isWrong 9 = .ok (.goto 4, 3) := by decide +kernel
theorem dX7_isWrong_12 : decode cX7_isWrong 12 = .ok (.iconst 0, 1) := by decide +kernel
theorem dX7_isWrong_13 : decode cX7_isWrong 13 = .ok (.ireturn, 1) := by decide +kernel
theorem dX7_nextIsWrong_0 : decode cX7_nextIsWrong 0 = .ok (.aload_n 0, 1) := by decide +kernel
theorem dX7_nextIsWrong_1 : decode cX7_nextIsWrong 1 = .ok (.getfield 9, 3) := by decide +kernel
theorem dX7_nextIsWrong_4 : decode cX7_nextIsWrong 4 = .ok (.iconst (-1), 1) := by decide +kernel
theorem dX7_nextIsWrong_5 : decode cX7_nextIsWrong 5 = .ok (.if_icmp .ne 11, 3) := by decide +kernel
theorem dX7_nextIsWrong_8 : decode cX7_nextIsWrong 8 = .ok (.aload_n 0, 1) := by decide +kernel
theorem dX7_nextIsWrong_9 : decode cX7_nextIsWrong 9 = .ok (.aload_n 0, 1) := by decide +kernel
theorem dX7_nextIsWrong_10 : decode cX7_nextIsWrong 10 = .ok (.getfield 31, 3) := by decide +kernel
theorem dX7_nextIsWrong_13 : decode cX7_nextIsWrong 13 = .ok (.putfield 9, 3) := by decide +kernel
theorem dX7_nextIsWrong_16 : decode cX7_nextIsWrong 16 = .ok (.return_, 1) := by decide +kernel
theorem dX7_takenIsWrong_0 : decode cX7_takenIsWrong 0 = .ok (.aload_n 0, 1) := by decide +kernel
theorem dX7_takenIsWrong_1 : decode cX7_takenIsWrong 1 = .ok (.getfield 9, 3) := by decide +kernel
theorem dX7_takenIsWrong_4 : decode cX7_takenIsWrong 4 = .ok (.iconst (-1), 1) := by decide +kernel
theorem dX7_takenIsWrong_5 : decode cX7_takenIsWrong 5 = .ok (.if_icmp .ne 11, 3) := by decide +kernel
theorem dX7_takenIsWrong_8 : decode cX7_takenIsWrong 8 = .ok (.aload_n 0, 1) := by decide +kernel
theorem dX7_takenIsWrong_9 : decode cX7_takenIsWrong 9 = .ok (.aload_n 0, 1) := by decide +kernel
theorem dX7_takenIsWrong_10 : decode cX7_takenIsWrong 10 = .ok (.getfield 44, 3) := by decide +kernel
theorem dX7_takenIsWrong_13 : decode cX7_takenIsWrong 13 = .ok (.putfield 9, 3) := by decide +kernel
theorem dX7_takenIsWrong_16 : decode cX7_takenIsWrong 16 = .ok (.return_, 1) := by decide +kernel
theorem dX7_bytesLeft_0 : decode cX7_bytesLeft 0 = .ok (.aload_n 0, 1) := by decide +kernel
theorem dX7_bytesLeft_1 : decode cX7_bytesLeft 1 = .ok (.getfield 25, 3) := by decide +kernel
theorem dX7_bytesLeft_4 : decode cX7_bytesLeft 4 = .ok (.aload_n 0, 1) := by decide +kernel
theorem dX7_bytesLeft_5 : decode cX7_bytesLeft 5 = .ok (.getfield 31, 3) := by decide +kernel
theorem dX7_bytesLeft_8 : decode cX7_bytesLeft 8 = .ok (.isub, 1) := by decide +kernel
theorem dX7_bytesLeft_9 : decode cX7_bytesLeft 9 = .ok (.ireturn, 1) := by decide +kernel
theorem dX7_goOn_0 : decode cX7_goOn 0 = .ok (.aload_n 0, 1) := by decide +kernel
theorem dX7_goOn_1 : decode cX7_goOn 1 = .ok (.aload_n 0, 1) := by decide +kernel
theorem dX7_goOn_2 : decode cX7_goOn 2 = .ok (.getfield 31, 3) := by decide +kernel
theorem dX7_goOn_5 : decode cX7_goOn 5 = .ok (.putfield 44, 3) := by decide +kernel
theorem dX7_goOn_8 : decode cX7_goOn 8 = .ok (.aload_n 0, 1) := by decide +kernel
theorem dX7_goOn_9 : decode cX7_goOn 9 = .ok (.aload_n 0, 1) := by decide +kernel
theorem dX7_goOn_10 : decode cX7_goOn 10 = .ok (.getfield 47, 3) := by decide +kernel
theorem dX7_goOn_13 : decode cX7_goOn 13 = .ok (.putfield 31, 3) := by decide +kernel
theorem dX7_goOn_16 : decode cX7_goOn 16 = .ok (.aload_n 0, 1) := by decide +kernel
theorem dX7_goOn_17 : decode cX7_goOn 17 = .ok (.getfield 31, 3) := by decide +kernel
theorem dX7_goOn_20 : decode cX7_goOn 20 = .ok (.aload_n 0, 1) := by decide +kernel
theorem dX7_goOn_21 : decode cX7_goOn 21 = .ok (.getfield 25, 3) := by decide +kernel
theorem dX7_goOn_24 : decode cX7_goOn 24 = .ok (.if_icmp .ge 30, 3) := by decide +kernel
theorem dX7_goOn_27 : decode cX7_goOn 27 = .ok (.aload_n 0, 1) := by decide +kernel
theorem dX7_goOn_28 : decode cX7_goOn 28 = .ok (.getfield 15, 3) := by decide +kernel
theorem dX7_goOn_31 : decode cX7_goOn 31 = .ok (.aload_n 0, 1) := by decide +kernel
theorem dX7_goOn_32 : decode cX7_goOn 32 = .ok (.getfield 31, 3) := by decide +kernel
theorem dX7_goOn_35 : decode cX7_goOn 35 = .ok (.iaload, 1) := by decide +kernel
theorem dX7_goOn_36 : decode cX7_goOn 36 = .ok (.bipush 32, 2) := by decide +kernel
theorem dX7_goOn_38 : decode cX7_goOn 38 = .ok (.if_icmp .ne 16, 3) := by decide +kernel
theorem dX7_goOn_41 : decode cX7_goOn 41 = .ok (.aload_n 0, 1) := by decide +kernel
theorem dX7_goOn_42 : decode cX7_goOn 42 = .ok (.dup, 1) := by decide +kernel
theorem dX7_goOn_43 : decode cX7_goOn 43 = .ok (.getfield 31, 3) := by decide +kernel
theorem dX7_goOn_46 : decode cX7_goOn 46 = .ok (.iconst 1, 1) := by decide +kernel
theorem dX7_goOn_47 : decode cX7_goOn 47 = .ok (.iadd, 1) := by decide +kernel
theorem dX7_goOn_48 : decode cX7_goOn 48 = .ok (.putfield 31, 3) := by decide +kernel
theorem dX7_goOn_51 : decode cX7_goOn 51 = .ok (.goto (-35), 3) := by decide +kernel
theorem dX7_goOn_54 : decode cX7_goOn 54 = .ok (.aload_n 0, 1) := by decide +kernel
theorem dX7_goOn_55 : decode cX7_goOn 55 = .ok (.aload_n 0, 1) := by decide +kernel
theorem dX7_goOn_56 : decode cX7_goOn 56 = .ok (.getfield 31, 3) := by decide +kernel
theorem dX7_goOn_59 : decode cX7_goOn 59 = .ok (.putfield 47, 3) := by decide +kernel
theorem dX7_goOn_62 : decode cX7_goOn 62 = .ok (.aload_n 0, 1) := by decide +kernel
theorem dX7_goOn_63 : decode cX7_goOn 63 = .ok (.getfield 47, 3) := by decide +kernel
theorem dX7_goOn_66 : decode cX7_goOn 66 = .ok (.aload_n 0, 1) := by decide +kernel
theorem dX7_goOn_67 : decode cX7_goOn 67 = .ok (.getfield 25, 3) := by decide +kernel
theorem dX7_goOn_70 : decode cX7_goOn 70 = .ok (.if_icmp .ge 44, 3) := by decide +kernel
theorem dX7_goOn_73 : decode cX7_goOn 73 = .ok (.aload_n 0, 1) := by decide +kernel
theorem dX7_goOn_74 : decode cX7_goOn 74 = .ok (.getfield 15, 3) := by decide +kernel
theorem dX7_goOn_77 : decode cX7_goOn 77 = .ok (.aload_n 0, 1) := by decide +kernel
theorem dX7_goOn_78 : decode cX7_goOn 78 = .ok (.getfield 47, 3) := by decide +kernel
theorem dX7_goOn_81 : decode cX7_goOn 81 = .ok (.iaload, 1) := by decide +kernel
theorem dX7_goOn_82 : decode cX7_goOn 82 = .ok (.bipush 97, 2) := by decide +kernel
theorem dX7_goOn_84 : decode cX7_goOn 84 = .ok (.if_icmp .lt 30, 3) := by decide +kernel
theorem dX7_goOn_87 : decode cX7_goOn 87 = .ok (.aload_n 0, 1) := by decide +kernel
theorem dX7_goOn_88 : decode cX7_goOn 88 = .ok (.getfield 15, 3) := by decide +kernel
theorem dX7_goOn_91 : decode cX7_goOn 91 = .ok (.aload_n 0, 1) := by decide +kernel
theorem dX7_goOn_92 : decode cX7_goOn 92 = .ok (.getfield 47, 3) := by decide +kernel
theorem dX7_goOn_95 : decode cX7_goOn 95 = .ok (.iaload, 1) := by decide +kernel
theorem dX7_goOn_96 : decode cX7_goOn 96 = .ok (.bipush 122, 2) := by decide +kernel
theorem dX7_goOn_98 : decode cX7_goOn 98 = .ok (.if_icmp .gt 16, 3) := by decide +kernel
theorem dX7_goOn_101 : decode cX7_goOn 101 = .ok (.aload_n 0, 1) := by decide +kernel
theorem dX7_goOn_102 : decode cX7_goOn 102 = .ok (.dup, 1) := by decide +kernel
theorem dX7_goOn_103 : decode cX7_goOn 103 = .ok (.getfield 47, 3) := by decide +kernel
theorem dX7_goOn_106 : decode cX7_goOn 106 = .ok (.iconst 1, 1) := by decide +kernel
theorem dX7_goOn_107 : decode cX7_goOn 107 = .ok (.iadd, 1) := by decide +kernel
theorem dX7_goOn_108 : decode cX7_goOn 108 = .ok (.putfield 47, 3) := by decide +kernel
theorem dX7_goOn_111 : decode cX7_goOn 111 = .ok (.goto (-49), 3) := by decide +kernel
theorem dX7_goOn_114 : decode cX7_goOn 114 = .ok (.aload_n 0, 1) := by decide +kernel
theorem dX7_goOn_115 : decode cX7_goOn 115 = .ok (.getfield 47, 3) := by decide +kernel
theorem dX7_goOn_118 : decode cX7_goOn 118 = .ok (.aload_n 0, 1) := by decide +kernel
theorem dX7_goOn_119 : decode cX7_goOn 119 = .ok (.getfield 31, 3) := by decide +kernel
theorem dX7_goOn_122 : decode cX7_goOn 122 = .ok (.if_icmp .ne 55, 3) := by decide +kernel
theorem dX7_goOn_125 : decode cX7_goOn 125 = .ok (.aload_n 0, 1) := by decide +kernel
theorem dX7_goOn_126 : decode cX7_goOn 126 = .ok (.getfield 47, 3) := by decide +kernel
theorem dX7_goOn_129 : decode cX7_goOn 129 = .ok (.aload_n 0, 1) := by decide +kernel
theorem dX7_goOn_130 : decode cX7_goOn 130 = .ok (.getfield 25, 3) := by decide +kernel
theorem dX7_goOn_133 : decode cX7_goOn 133 = .ok (.if_icmp .ge 44, 3) := by decide +kernel
theorem dX7_goOn_136 : decode cX7_goOn 136 = .ok (.aload_n 0, 1) := by decide +kernel
theorem dX7_goOn_137 : decode cX7_goOn 137 = .ok (.getfield 15, 3) := by decide +kernel
theorem dX7_goOn_140 : decode cX7_goOn 140 = .ok (.aload_n 0, 1) := by decide +kernel
theorem dX7_goOn_141 : decode cX7_goOn 141 = .ok (.getfield 47, 3) := by decide +kernel
theorem dX7_goOn_144 : decode cX7_goOn 144 = .ok (.iaload, 1) := by decide +kernel
theorem dX7_goOn_145 : decode cX7_goOn 145 = .ok (.bipush 48, 2) := by decide +kernel
theorem dX7_goOn_147 : decode cX7_goOn 147 = .ok (.if_icmp .lt 30, 3) := by decide +kernel
theorem dX7_goOn_150 : decode cX7_goOn 150 = .ok (.aload_n 0, 1) := by decide +kernel
theorem dX7_goOn_151 : decode cX7_goOn 151 = .ok (.getfield 15, 3) := by decide +kernel
theorem dX7_goOn_154 : decode cX7_goOn 154 = .ok (.aload_n 0, 1) := by decide +kernel
theorem dX7_goOn_155 : decode cX7_goOn 155 = .ok (.getfield 47, 3) := by decide +kernel
theorem dX7_goOn_158 : decode cX7_goOn 158 = .ok (.iaload, 1) := by decide +kernel
theorem dX7_goOn_159 : decode cX7_goOn 159 = .ok (.bipush 57, 2) := by decide +kernel
theorem dX7_goOn_161 : decode cX7_goOn 161 = .ok (.if_icmp .gt 16, 3) := by decide +kernel
theorem dX7_goOn_164 : decode cX7_goOn 164 = .ok (.aload_n 0, 1) := by decide +kernel
theorem dX7_goOn_165 : decode cX7_goOn 165 = .ok (.dup, 1) := by decide +kernel
theorem dX7_goOn_166 : decode cX7_goOn 166 = .ok (.getfield 47, 3) := by decide +kernel
theorem dX7_goOn_169 : decode cX7_goOn 169 = .ok (.iconst 1, 1) := by decide +kernel
theorem dX7_goOn_170 : decode cX7_goOn 170 = .ok (.iadd, 1) := by decide +kernel
theorem dX7_goOn_171 : decode cX7_goOn 171 = .ok (.putfield 47, 3) := by decide +kernel
theorem dX7_goOn_174 : decode cX7_goOn 174 = .ok (.goto (-49), 3) := by decide +kernel
theorem dX7_goOn_177 : decode cX7_goOn 177 = .ok (.aload_n 0, 1) := by decide +kernel
theorem dX7_goOn_178 : decode cX7_goOn 178 = .ok (.getfield 47, 3) := by decide +kernel
theorem dX7_goOn_181 : decode cX7_goOn 181 = .ok (.aload_n 0, 1) := by decide +kernel
theorem dX7_goOn_182 : decode cX7_goOn 182 = .ok (.getfield 31, 3) := by decide +kernel
theorem dX7_goOn_185 : decode cX7_goOn 185 = .ok (.if_icmp .ne 24, 3) := by decide +kernel
theorem dX7_goOn_188 : decode cX7_goOn 188 = .ok (.aload_n 0, 1) := by decide +kernel
theorem dX7_goOn_189 : decode cX7_goOn 189 = .ok (.getfield 47, 3) := by decide +kernel
theorem dX7_goOn_192 : decode cX7_goOn 192 = .ok (.aload_n 0, 1) := by decide +kernel
theorem dX7_goOn_193 : decode cX7_goOn 193 = .ok (.getfield 25, 3) := by decide +kernel
theorem dX7_goOn_196 : decode cX7_goOn 196 = .ok (.if_icmp .ge 13, 3) := by decide +kernel
theorem dX7_goOn_199 : decode cX7_goOn 199 = .ok (.aload_n 0, 1) := by decide +kernel
theorem dX7_goOn_200 : decode cX7_goOn 200 = .ok (.dup, 1) := by decide +kernel
theorem dX7_goOn_201 : decode cX7_goOn 201 = .ok (.getfield 47, 3) := by decide +kernel
theorem dX7_goOn_204 : decode cX7_goOn 204 = .ok (.iconst 1, 1) := by decide +kernel
theorem dX7_goOn_205 : decode cX7_goOn 205 = .ok (.iadd, 1) := by decide +kernel
theorem dX7_goOn_206 : decode cX7_goOn 206 = .ok (.putfield 47, 3) := by decide +kernel
theorem dX7_goOn_209 : decode cX7_goOn 209 = .ok (.return_, 1) := by decide +kernel
theorem dX7_takeWord_0 : decode cX7_takeWord 0 = .ok (.aload_n 0, 1) := by decide +kernel
theorem dX7_takeWord_1 : decode cX7_takeWord 1 = .ok (.getfield 9, 3) := by decide +kernel
theorem dX7_takeWord_4 : decode cX7_takeWord 4 = .ok (.iconst (-1), 1) := by decide +kernel
theorem dX7_takeWord_5 : decode cX7_takeWord 5 = .ok (.if_icmp .ne 19, 3) := by decide +kernel
theorem dX7_takeWord_8 : decode cX7_takeWord 8 = .ok (.aload_n 0, 1) := by decide +kernel
theorem dX7_takeWord_9 : decode cX7_takeWord 9 = .ok (.getfield 47, 3) := by decide +kernel
theorem dX7_takeWord_12 : decode cX7_takeWord 12 = .ok (.aload_n 0, 1) := by decide +kernel
theorem dX7_takeWord_13 : decode cX7_takeWord 13 = .ok (.getfield 31, 3) := by decide +kernel
theorem dX7_takeWord_16 : decode cX7_takeWord 16 = .ok (.isub, 1) := by decide +kernel
theorem dX7_takeWord_17 : decode cX7_takeWord 17 = .ok (.aload_n 1, 1) := by decide +kernel
theorem dX7_takeWord_18 : decode cX7_takeWord 18 = .ok (.invokevirtual 50, 3) := by decide +kernel
theorem dX7_takeWord_21 : decode cX7_takeWord 21 = .ok (.if_icmp .eq 5, 3) := by decide +kernel
theorem dX7_takeWord_24 : decode cX7_takeWord 24 = .ok (.iconst 0, 1) := by decide +kernel
theorem dX7_takeWord_25 : decode cX7_takeWord 25 = .ok (.ireturn, 1) := by decide +kernel
theorem dX7_takeWord_26 : decode cX7_takeWord 26 = .ok (.iconst 0, 1) := by decide +kernel
theorem dX7_takeWord_27 : decode cX7_takeWord 27 = .ok (.istore_n 2, 1) := by decide +kernel
theorem dX7_takeWord_28 : decode cX7_takeWord 28 = .ok (.iload_n 2, 1) := by decide +kernel
theorem dX7_takeWord_29 : decode cX7_takeWord 29 = .ok (.aload_n 1, 1) := by decide +kernel
theorem dX7_takeWord_30 : decode cX7_takeWord 30 = .ok (.invokevirtual 50, 3) := by decide +kernel
theorem dX7_takeWord_33 : decode cX7_takeWord 33 = .ok (.if_icmp .ge 43, 3) := by decide +kernel
theorem dX7_takeWord_36 : decode cX7_takeWord 36 = .ok (.aload_n 0, 1) := by decide +kernel
theorem dX7_takeWord_37 : decode cX7_takeWord 37 = .ok (.getfield 31, 3) := by decide +kernel
theorem dX7_takeWord_40 : decode cX7_takeWord 40 = .ok (.iload_n 2, 1) := by decide +kernel
theorem dX7_takeWord_41 : decode cX7_takeWord 41 = .ok (.iadd, 1) := by decide +kernel
theorem dX7_takeWord_42 : decode cX7_takeWord 42 = .ok (.aload_n 0, 1) := by decide +kernel
theorem dX7_takeWord_43 : decode cX7_takeWord 43 = .ok (.getfield 25, 3) := by decide +kernel
theorem dX7_takeWord_46 : decode cX7_takeWord 46 = .ok (.if_icmp .ge 30, 3) := by decide +kernel
theorem dX7_takeWord_49 : decode cX7_takeWord 49 = .ok (.aload_n 0, 1) := by decide +kernel
theorem dX7_takeWord_50 : decode cX7_takeWord 50 = .ok (.getfield 15, 3) := by decide +kernel
theorem dX7_takeWord_53 : decode cX7_takeWord 53 = .ok (.aload_n 0, 1) := by decide +kernel
theorem dX7_takeWord_54 : decode cX7_takeWord 54 = .ok (.getfield 31, 3) := by decide +kernel
theorem dX7_takeWord_57 : decode cX7_takeWord 57 = .ok (.iload_n 2, 1) := by decide +kernel
theorem dX7_takeWord_58 : decode cX7_takeWord 58 = .ok (.iadd, 1) := by decide +kernel
theorem dX7_takeWord_59 : decode cX7_takeWord 59 = .ok (.iaload, 1) := by decide +kernel
theorem dX7_takeWord_60 : decode cX7_takeWord 60 = .ok (.aload_n 1, 1) := by decide +kernel
theorem dX7_takeWord_61 : decode cX7_takeWord 61 = .ok (.iload_n 2, 1) := by decide +kernel
theorem dX7_takeWord_62 : decode cX7_takeWord 62 = .ok (.invokevirtual 55, 3) := by decide +kernel
theorem dX7_takeWord_65 : decode cX7_takeWord 65 = .ok (.if_icmp .eq 5, 3) := by decide +kernel
theorem dX7_takeWord_68 : decode cX7_takeWord 68 = .ok (.iconst 0, 1) := by decide +kernel
theorem dX7_takeWord_69 : decode cX7_takeWord 69 = .ok (.ireturn, 1) := by decide +kernel
theorem dX7_takeWord_70 : decode cX7_takeWord 70 = .ok (.iinc 2 1, 3) := by decide +kernel
theorem dX7_takeWord_73 : decode cX7_takeWord 73 = .ok (.goto (-45), 3) := by decide +kernel
theorem dX7_takeWord_76 : decode cX7_takeWord 76 = .ok (.aload_n 0, 1) := by decide +kernel
theorem dX7_takeWord_77 : decode cX7_takeWord 77 = .ok (.invokevirtual 28, 3) := by decide +kernel
theorem dX7_takeWord_80 : decode cX7_takeWord 80 = .ok (.iconst 1, 1) := by decide +kernel
theorem dX7_takeWord_81 : decode cX7_takeWord 81 = .ok (.ireturn, 1) := by decide +kernel
theorem dX7_readWord_0 : decode cX7_readWord 0 = .ok (.aload_n 0, 1) := by decide +kernel
theorem dX7_readWord_1 : decode cX7_readWord 1 = .ok (.aload_n 1, 1) := by decide +kernel
theorem dX7_readWord_2 : decode cX7_readWord 2 = .ok (.invokevirtual 59, 3) := by decide +kernel
theorem dX7_readWord_5 : decode cX7_readWord 5 = .ok (.ifCond .ne 7, 3) := by decide +kernel
theorem dX7_readWord_8 : decode cX7_readWord 8 = .ok (.aload_n 0, 1) := by decide +kernel
theorem dX7_readWord_9 : decode cX7_readWord 9 = .ok (.invokevirtual 41, 3) := by decide +kernel
theorem dX7_readWord_12 : decode cX7_readWord 12 = .ok (.return_, 1) := by decide +kernel
theorem dX7_takeSign_0 : decode cX7_takeSign 0 = .ok (.aload_n 0, 1) := by decide +kernel
theorem dX7_takeSign_1 : decode cX7_takeSign 1 = .ok (.getfield 9, 3) := by decide +kernel
theorem dX7_takeSign_4 : decode cX7_takeSign 4 = .ok (.iconst (-1), 1) := by decide +kernel
theorem dX7_takeSign_5 : decode cX7_takeSign 5 = .ok (.if_icmp .ne 31, 3) := by decide +kernel
theorem dX7_takeSign_8 : decode cX7_takeSign 8 = .ok (.aload_n 0, 1) := by decide +kernel
theorem dX7_takeSign_9 : decode cX7_takeSign 9 = .ok (.getfield 31, 3) := by decide +kernel
theorem dX7_takeSign_12 : decode cX7_takeSign 12 = .ok (.aload_n 0, 1) := by decide +kernel
theorem dX7_takeSign_13 : decode cX7_takeSign 13 = .ok (.getfield 25, 3) := by decide +kernel
theorem dX7_takeSign_16 : decode cX7_takeSign 16 = .ok (.if_icmp .ge 20, 3) := by decide +kernel
theorem dX7_takeSign_19 : decode cX7_takeSign 19 = .ok (.aload_n 0, 1) := by decide +kernel
theorem dX7_takeSign_20 : decode cX7_takeSign 20 = .ok (.getfield 15, 3) := by decide +kernel
theorem dX7_takeSign_23 : decode cX7_takeSign 23 = .ok (.aload_n 0, 1) := by decide +kernel
theorem dX7_takeSign_24 : decode cX7_takeSign 24 = .ok (.getfield 31, 3) := by decide +kernel
theorem dX7_takeSign_27 : decode cX7_takeSign 27 = .ok (.iaload, 1) := by decide +kernel
theorem dX7_takeSign_28 : decode cX7_takeSign 28 = .ok (.iload_n 1, 1) := by decide +kernel
theorem dX7_takeSign_29 : decode cX7_takeSign 29 = .ok (.if_icmp .ne 7, 3) := by decide +kernel
theorem dX7_takeSign_32 : decode cX7_takeSign 32 = .ok (.iconst 1, 1) := by decide +kernel
theorem dX7_takeSign_33 : decode cX7_takeSign 33 = .ok (.goto 4, 3) := by decide +kernel
theorem dX7_takeSign_36 : decode cX7_takeSign 36 = .ok (.iconst 0, 1) := by decide +kernel
theorem dX7_takeSign_37 : decode cX7_takeSign 37 = .ok (.istore_n 2, 1) := by decide +kernel
theorem dX7_takeSign_38 : decode cX7_takeSign 38 = .ok (.iload_n 2, 1) := by decide +kernel
theorem dX7_takeSign_39 : decode cX7_takeSign 39 = .ok (.ifCond .eq 7, 3) := by decide +kernel
theorem dX7_takeSign_42 : decode cX7_takeSign 42 = .ok (.aload_n 0, 1) := by decide +kernel
theorem dX7_takeSign_43 : decode cX7_takeSign 43 = .ok (.invokevirtual 28, 3) := by decide +kernel
theorem dX7_takeSign_46 : decode cX7_takeSign 46 = .ok (.iload_n 2, 1) := by decide +kernel
theorem dX7_takeSign_47 : decode cX7_takeSign 47 = .ok (.ireturn, 1) := by decide +kernel
theorem dX7_readSign_0 : decode cX7_readSign 0 = .ok (.aload_n 0, 1) := by decide +kernel
theorem dX7_readSign_1 : decode cX7_readSign 1 = .ok (.iload_n 1, 1) := by decide +kernel
theorem dX7_readSign_2 : decode cX7_readSign 2 = .ok (.invokevirtual 63, 3) := by decide +kernel
theorem dX7_readSign_5 : decode cX7_readSign 5 = .ok (.ifCond .ne 7, 3) := by decide +kernel
theorem dX7_readSign_8 : decode cX7_readSign 8 = .ok (.aload_n 0, 1) := by decide +kernel
theorem dX7_readSign_9 : decode cX7_readSign 9 = .ok (.invokevirtual 41, 3) := by decide +kernel
theorem dX7_readSign_12 : decode cX7_readSign 12 = .ok (.return_, 1) := by decide +kernel
theorem dX7_isNumberNext_0 : decode cX7_isNumberNext 0 = .ok (.aload_n 0, 1) := by decide +kernel
theorem dX7_isNumberNext_1 : decode cX7_isNumberNext 1 = .ok (.getfield 31, 3) := by decide +kernel
theorem dX7_isNumberNext_4 : decode cX7_isNumberNext 4 = .ok (.aload_n 0, 1) := by decide +kernel
theorem dX7_isNumberNext_5 : decode cX7_isNumberNext 5 = .ok (.getfield 25, 3) := by decide +kernel
theorem dX7_isNumberNext_8 : decode cX7_isNumberNext 8 = .ok (.if_icmp .ge 35, 3) := by decide +kernel
theorem dX7_isNumberNext_11 : decode cX7_isNumberNext 11 = .ok (.aload_n 0, 1) := by decide +kernel
theorem dX7_isNumberNext_12 : decode cX7_isNumberNext 12 = .ok (.getfield 15, 3) := by decide +kernel
theorem dX7_isNumberNext_15 : decode cX7_isNumberNext 15 = .ok (.aload_n 0, 1) := by decide +kernel
theorem dX7_isNumberNext_16 : decode cX7_isNumberNext 16 = .ok (.getfield 31, 3) := by decide +kernel
theorem dX7_isNumberNext_19 : decode cX7_isNumberNext 19 = .ok (.iaload, 1) := by decide +kernel
theorem dX7_isNumberNext_20 : decode cX7_isNumberNext 20 = .ok (.bipush 48, 2) := by decide +kernel
theorem dX7_isNumberNext_22 : decode cX7_isNumberNext 22 = .ok (.if_icmp .lt 21, 3) := by decide +kernel
theorem dX7_isNumberNext_25 : decode cX7_isNumberNext 25 = .ok (.aload_n 0, 1) := by decide +kernel
theorem dX7_isNumberNext_26 : decode cX7_isNumberNext 26 = .ok (.getfield 15, 3) := by decide +kernel
theorem dX7_isNumberNext_29 : decode cX7_isNumberNext 29 = .ok (.aload_n 0, 1) := by decide +kernel
theorem dX7_isNumberNext_30 : decode cX7_isNumberNext 30 = .ok (.getfield 31, 3) := by decide +kernel
theorem dX7_isNumberNext_33 : decode cX7_isNumberNext 33 = .ok (.iaload, 1) := by decide +kernel
theorem dX7_isNumberNext_34 : decode cX7_isNumberNext 34 = .ok (.bipush 57, 2) := by decide +kernel
theorem dX7_isNumberNext_36 : decode cX7_isNumberNext 36 = .ok (.if_icmp .gt 7, 3) := by decide +kernel
theorem dX7_isNumberNext_39 : decode cX7_isNumberNext 39 = .ok (.iconst 1, 1) := by decide +kernel
theorem dX7_isNumberNext_40 : decode cX7_isNumberNext 40 = .ok (.goto 4, 3) := by decide +kernel
theorem dX7_isNumberNext_43 : decode cX7_isNumberNext 43 = .ok (.iconst 0, 1) := by decide +kernel
theorem dX7_isNumberNext_44 : decode cX7_isNumberNext 44 = .ok (.ireturn, 1) := by decide +kernel
theorem dX7_readNumber_0 : decode cX7_readNumber 0 = .ok (.aload_n 0, 1) := by decide +kernel
theorem dX7_readNumber_1 : decode cX7_readNumber 1 = .ok (.invokevirtual 67, 3) := by decide +kernel
theorem dX7_readNumber_4 : decode cX7_readNumber 4 = .ok (.ifCond .eq 20, 3) := by decide +kernel
theorem dX7_readNumber_7 : decode cX7_readNumber 7 = .ok (.aload_n 0, 1) := by decide +kernel
theorem dX7_readNumber_8 : decode cX7_readNumber 8 = .ok (.getfield 47, 3) := by decide +kernel
theorem dX7_readNumber_11 : decode cX7_readNumber 11 = .ok (.aload_n 0, 1) := by decide +kernel
theorem dX7_readNumber_12 : decode cX7_readNumber 12 = .ok (.getfield 31, 3) := by decide +kernel
theorem dX7_readNumber_15 : decode cX7_readNumber 15 = .ok (.isub, 1) := by decide +kernel
theorem dX7_readNumber_16 : decode cX7_readNumber 16 = .ok (.iconst 3, 1) := by decide +kernel
theorem dX7_readNumber_17 : decode cX7_readNumber 17 = .ok (.if_icmp .gt 7, 3) := by decide +kernel
theorem dX7_readNumber_20 : decode cX7_readNumber 20 = .ok (.iconst 0, 1) := by decide +kernel
theorem dX7_readNumber_21 : decode cX7_readNumber 21 = .ok (.goto 4, 3) := by decide +kernel
theorem dX7_readNumber_24 : decode cX7_readNumber 24 = .ok (.iconst (-1), 1) := by decide +kernel
theorem dX7_readNumber_25 : decode cX7_readNumber 25 = .ok (.istore_n 3, 1) := by decide +kernel
theorem dX7_readNumber_26 : decode cX7_readNumber 26 = .ok (.aload_n 0, 1) := by decide +kernel
theorem dX7_readNumber_27 : decode cX7_readNumber 27 = .ok (.getfield 31, 3) := by decide +kernel
theorem dX7_readNumber_30 : decode cX7_readNumber 30 = .ok (.istore 4, 2) := by decide +kernel
theorem dX7_readNumber_32 : decode cX7_readNumber 32 = .ok (.iload_n 3, 1) := by decide +kernel
theorem dX7_readNumber_33 : decode cX7_readNumber 33 = .ok (.iconst (-1), 1) := by decide +kernel
theorem dX7_readNumber_34 : decode cX7_readNumber 34 = .ok (.if_icmp .eq 43, 3) := by decide +kernel
theorem dX7_readNumber_37 : decode cX7_readNumber 37 = .ok (.iload 4, 2) := by decide +kernel
theorem dX7_readNumber_39 : decode cX7_readNumber 39 = .ok (.aload_n 0, 1) := by decide +kernel
theorem dX7_readNumber_40 : decode cX7_readNumber 40 = .ok (.getfield 47, 3) := by decide +kernel
theorem dX7_readNumber_43 : decode cX7_readNumber 43 = .ok (.if_icmp .ge 34, 3) := by decide +kernel
theorem dX7_readNumber_46 : decode cX7_readNumber 46 = .ok (.iload 4, 2) := by decide +kernel
theorem dX7_readNumber_48 : decode cX7_readNumber 48 = .ok (.aload_n 0, 1) := by decide +kernel
theorem dX7_readNumber_49 : decode cX7_readNumber 49 = .ok (.getfield 25, 3) := by decide +kernel
theorem dX7_readNumber_52 : decode cX7_readNumber 52 = .ok (.if_icmp .ge 25, 3) := by decide +kernel
theorem dX7_readNumber_55 : decode cX7_readNumber 55 = .ok (.bipush 10, 2) := by decide +kernel
theorem dX7_readNumber_57 : decode cX7_readNumber 57 = .ok (.iload_n 3, 1) := by decide +kernel
theorem dX7_readNumber_58 : decode cX7_readNumber 58 = .ok (.imul, 1) := by decide +kernel
theorem dX7_readNumber_59 : decode cX7_readNumber 59 = .ok (.aload_n 0, 1) := by decide +kernel
theorem dX7_readNumber_60 : decode cX7_readNumber 60 = .ok (.getfield 15, 3) := by decide +kernel
theorem dX7_readNumber_63 : decode cX7_readNumber 63 = .ok (.iload 4, 2) := by decide +kernel
theorem dX7_readNumber_65 : decode cX7_readNumber 65 = .ok (.iaload, 1) := by decide +kernel
theorem dX7_readNumber_66 : decode cX7_readNumber 66 = .ok (.iadd, 1) := by decide +kernel
theorem dX7_readNumber_67 : decode cX7_readNumber 67 = .ok (.bipush 48, 2) := by decide +kernel
theorem dX7_readNumber_69 : decode cX7_readNumber 69 = .ok (.isub, 1) := by decide +kernel
theorem dX7_readNumber_70 : decode cX7_readNumber 70 = .ok (.istore_n 3, 1) := by decide +kernel
theorem dX7_readNumber_71 : decode cX7_readNumber 71 = .ok (.iinc 4 1, 3) := by decide +kernel
theorem dX7_readNumber_74 : decode cX7_readNumber 74 = .ok (.goto (-42), 3) := by decide +kernel
theorem dX7_readNumber_77 : decode cX7_readNumber 77 = .ok (.aload_n 0, 1) := by decide +kernel
theorem dX7_readNumber_78 : decode cX7_readNumber 78 = .ok (.getfield 9, 3) := by decide +kernel
theorem dX7_readNumber_81 : decode cX7_readNumber 81 = .ok (.iconst (-1), 1) := by decide +kernel
theorem dX7_readNumber_82 : decode cX7_readNumber 82 = .ok (.if_icmp .ne 13, 3) := by decide +kernel
theorem dX7_readNumber_85 : decode cX7_readNumber 85 = .ok (.iload_n 3, 1) := by decide +kernel
theorem dX7_readNumber_86 : decode cX7_readNumber 86 = .ok (.iload_n 1, 1) := by decide +kernel
theorem dX7_readNumber_87 : decode cX7_readNumber 87 = .ok (.if_icmp .lt 8, 3) := by decide +kernel
theorem dX7_readNumber_90 : decode cX7_readNumber 90 = .ok (.iload_n 3, 1) := by decide +kernel
theorem dX7_readNumber_91 : decode cX7_readNumber 91 = .ok (.iload_n 2, 1) := by decide +kernel
theorem dX7_readNumber_92 : decode cX7_readNumber 92 = .ok (.if_icmp .le 9, 3) := by decide +kernel
theorem dX7_readNumber_95 : decode cX7_readNumber 95 = .ok (.aload_n 0, 1) := by decide +kernel
theorem dX7_readNumber_96 : decode cX7_readNumber 96 = .ok (.invokevirtual 41, 3) := by decide +kernel
theorem dX7_readNumber_99 : decode cX7_readNumber 99 = .ok (.iconst (-1), 1) := by decide +kernel
theorem dX7_readNumber_100 : decode cX7_readNumber 100 = .ok (.ireturn, 1) := by decide +kernel
theorem dX7_readNumber_101 : decode cX7_readNumber 101 = .ok (.aload_n 0, 1) := by decide +kernel
theorem dX7_readNumber_102 : decode cX7_readNumber 102 = .ok (.invokevirtual 28, 3) := by decide +kernel
theorem dX7_readNumber_105 : decode cX7_readNumber 105 = .ok (.iload_n 3, 1) := by decide +kernel
theorem dX7_readNumber_106 : decode cX7_readNumber 106 = .ok (.ireturn, 1) := by decide +kernel
theorem dX7_readGreeting_0 : decode cX7_readGreeting 0 = .ok (.aload_n 0, 1) := by decide +kernel
theorem dX7_readGreeting_1 : decode cX7_readGreeting 1 = .ok (.ldc 71, 2) := by decide +kernel
theorem dX7_readGreeting_3 : decode cX7_readGreeting 3 = .ok (.invokevirtual 59, 3) := by decide +kernel
theorem dX7_readGreeting_6 : decode cX7_readGreeting 6 = .ok (.ifCond .eq 10, 3) := by decide +kernel
theorem dX7_readGreeting_9 : decode cX7_readGreeting 9 = .ok (.iconst 0, 1) := by decide +kernel
theorem dX7_readGreeting_10 : decode cX7_readGreeting 10 = .ok (.iconst 1, 1) := by decide +kernel
theorem dX7_readGreeting_11 : decode cX7_readGreeting 11 = .ok (.iconst 0, 1) := by decide +kernel
theorem dX7_readGreeting_12 : decode cX7_readGreeting 12 = .ok (.invokestatic 75, 3) := by decide +kernel
theorem dX7_readGreeting_15 : decode cX7_readGreeting 15 = .ok (.ireturn, 1) := by decide +kernel
theorem dX7_readGreeting_16 : decode cX7_readGreeting 16 = .ok (.aload_n 0, 1) := by decide +kernel
theorem dX7_readGreeting_17 : decode cX7_readGreeting 17 = .ok (.ldc 79, 2) := by decide +kernel
theorem dX7_readGreeting_19 : decode cX7_readGreeting 19 = .ok (.invokevirtual 59, 3) := by decide +kernel
theorem dX7_readGreeting_22 : decode cX7_readGreeting 22 = .ok (.ifCond .eq 10, 3) := by decide +kernel
theorem dX7_readGreeting_25 : decode cX7_readGreeting 25 = .ok (.iconst 1, 1) := by decide +kernel
theorem dX7_readGreeting_26 : decode cX7_readGreeting 26 = .ok (.iconst 1, 1) := by decide +kernel
theorem dX7_readGreeting_27 : decode cX7_readGreeting 27 = .ok (.iconst 0, 1) := by decide +kernel
theorem dX7_readGreeting_28 : decode cX7_readGreeting 28 = .ok (.invokestatic 75, 3) := by decide +kernel
theorem dX7_readGreeting_31 : decode cX7_readGreeting 31 = .ok (.ireturn, 1) := by decide +kernel
theorem dX7_readGreeting_32 : decode cX7_readGreeting 32 = .ok (.aload_n 0, 1) := by decide +kernel
theorem dX7_readGreeting_33 : decode cX7_readGreeting 33 = .ok (.ldc 81, 2) := by decide +kernel
theorem dX7_readGreeting_35 : decode cX7_readGreeting 35 = .ok (.invokevirtual 59, 3) := by decide +kernel
theorem dX7_readGreeting_38 : decode cX7_readGreeting 38 = .ok (.ifCond .eq 10, 3) := by decide +kernel
theorem dX7_readGreeting_41 : decode cX7_readGreeting 41 = .ok (.iconst 3, 1) := by decide +kernel
theorem dX7_readGreeting_42 : decode cX7_readGreeting 42 = .ok (.iconst 1, 1) := by decide +kernel
theorem dX7_readGreeting_43 : decode cX7_readGreeting 43 = .ok (.iconst 0, 1) := by decide +kernel
theorem dX7_readGreeting_44 : decode cX7_readGreeting 44 = .ok (.invokestatic 75, 3) := by decide +kernel
theorem dX7_readGreeting_47 : decode cX7_readGreeting 47 = .ok (.ireturn, 1) := by decide +kernel
theorem dX7_readGreeting_48 : decode cX7_readGreeting 48 = .ok (.aload_n 0, 1) := by decide +kernel
theorem dX7_readGreeting_49 : decode cX7_readGreeting 49 = .ok (.ldc 83, 2) := by decide +kernel
theorem dX7_readGreeting_51 : decode cX7_readGreeting 51 = .ok (.invokevirtual 85, 3) := by decide +kernel
theorem dX7_readGreeting_54 : decode cX7_readGreeting 54 = .ok (.aload_n 0, 1) := by decide +kernel
theorem dX7_readGreeting_55 : decode cX7_readGreeting 55 = .ok (.iconst 1, 1) := by decide +kernel
theorem dX7_readGreeting_56 : decode cX7_readGreeting 56 = .ok (.iconst 4, 1) := by decide +kernel
theorem dX7_readGreeting_57 : decode cX7_readGreeting 57 = .ok (.invokevirtual 89, 3) := by decide +kernel
theorem dX7_readGreeting_60 : decode cX7_readGreeting 60 = .ok (.istore_n 1, 1) := by decide +kernel
theorem dX7_readGreeting_61 : decode cX7_readGreeting 61 = .ok (.aload_n 0, 1) := by decide +kernel
theorem dX7_readGreeting_62 : decode cX7_readGreeting 62 = .ok (.ldc 92, 2) := by decide +kernel
theorem dX7_readGreeting_64 : decode cX7_readGreeting 64 = .ok (.invokevirtual 59, 3) := by decide +kernel
theorem dX7_readGreeting_67 : decode cX7_readGreeting 67 = .ok (.istore_n 2, 1) := by decide +kernel
theorem dX7_readGreeting_68 : decode cX7_readGreeting 68 = .ok (.iload_n 2, 1) := by decide +kernel
theorem dX7_readGreeting_69 : decode cX7_readGreeting 69 = .ok (.ifCond .ne 9, 3) := by decide +kernel
theorem dX7_readGreeting_72 : decode cX7_readGreeting 72 = .ok (.aload_n 0, 1) := by decide +kernel
theorem dX7_readGreeting_73 : decode cX7_readGreeting 73 = .ok (.ldc 94, 2) := by decide +kernel
theorem dX7_readGreeting_75 : decode cX7_readGreeting 75 = .ok (.invokevirtual 85, 3) := by decide +kernel
theorem dX7_readGreeting_78 : decode cX7_readGreeting 78 = .ok (.aload_n 0, 1) := by decide +kernel
theorem dX7_readGreeting_79 : decode cX7_readGreeting 79 = .ok (.getfield 9, 3) := by decide +kernel
theorem dX7_readGreeting_82 : decode cX7_readGreeting 82 = .ok (.iconst (-1), 1) := by decide +kernel
theorem dX7_readGreeting_83 : decode cX7_readGreeting 83 = .ok (.if_icmp .eq 7, 3) := by decide +kernel
theorem dX7_readGreeting_86 : decode cX7_readGreeting 86 = .ok (.iconst (-1), 1) := by decide +kernel
theorem dX7_readGreeting_87 : decode cX7_readGreeting 87 = .ok (.goto 17, 3) := by decide +kernel
theorem dX7_readGreeting_90 : decode cX7_readGreeting 90 = .ok (.iconst 2, 1) := by decide +kernel
theorem dX7_readGreeting_91 : decode cX7_readGreeting 91 = .ok (.iload_n 1, 1) := by decide +kernel
theorem dX7_readGreeting_92 : decode cX7_readGreeting 92 = .ok (.iload_n 2, 1) := by decide +kernel
theorem dX7_readGreeting_93 : decode cX7_readGreeting 93 = .ok (.ifCond .eq 7, 3) := by decide +kernel
theorem dX7_readGreeting_96 : decode cX7_readGreeting 96 = .ok (.iconst 0, 1) := by decide +kernel
theorem dX7_readGreeting_97 : decode cX7_readGreeting 97 = .ok (.goto 4, 3) := by decide +kernel
theorem dX7_readGreeting_100 : decode cX7_readGreeting 100 = .ok (.iconst 1, 1) := by decide +kernel
theorem dX7_readGreeting_101 : decode cX7_readGreeting 101 = .ok (.invokestatic 75, 3) := by decide +kernel
theorem dX7_readGreeting_104 : decode cX7_readGreeting 104 = .ok (.ireturn, 1) := by decide +kernel
theorem dX8_init_0 : decode cX8_init 0 = .ok (.aload_n 0, 1) := by decide +kernel
theorem dX8_init_1 : decode cX8_init 1 = .ok (.invokespecial 3, 3) := by decide +kernel
theorem dX8_init_4 : decode cX8_init 4 = .ok (.aload_n 0, 1) := by decide +kernel
theorem dX8_init_5 : decode cX8_init 5 = .ok (.new 9, 3) := by decide +kernel
theorem dX8_init_8 : decode cX8_init 8 = .ok (.dup, 1) := by decide +kernel
theorem dX8_init_9 : decode cX8_init 9 = .ok (.invokespecial 11, 3) := by decide +kernel
theorem dX8_init_12 : decode cX8_init 12 = .ok (.putfield 12, 3) := by decide +kernel
theorem dX8_init_15 : decode cX8_init 15 = .ok (.aload_n 0, 1) := by decide +kernel
theorem dX8_init_16 : decode cX8_init 16 = .ok (.bipush 10, 2) := by decide +kernel
theorem dX8_init_18 : decode cX8_init 18 = .ok (.anewarray 18, 3) := by decide +kernel
theorem dX8_init_21 : decode cX8_init 21 = .ok (.putfield 20, 3) := by decide +kernel
theorem dX8_init_24 : decode cX8_init 24 = .ok (.aload_n 0, 1) := by decide +kernel
theorem dX8_init_25 : decode cX8_init 25 = .ok (.bipush 24, 2) := by decide +kernel
theorem dX8_init_27 : decode cX8_init 27 = .ok (.newarray .int, 2) := by decide +kernel
theorem dX8_init_29 : decode cX8_init 29 = .ok (.putfield 24, 3) := by decide +kernel
theorem dX8_init_32 : decode cX8_init 32 = .ok (.aload_n 0, 1) := by decide +kernel
theorem dX8_init_33 : decode cX8_init 33 = .ok (.bipush 24, 2) := by decide +kernel
theorem dX8_init_35 : decode cX8_init 35 = .ok (.newarray .int, 2) := by decide +kernel
theorem dX8_init_37 : decode cX8_init 37 = .ok (.putfield 28, 3) := by decide +kernel
theorem dX8_init_40 : decode cX8_init 40 = .ok (.aload_n 0, 1) := by decide +kernel
theorem dX8_init_41 : decode cX8_init 41 = .ok (.iconst 1, 1) := by decide +kernel
theorem dX8_init_42 : decode cX8_init 42 = .ok (.putfield 31, 3) := by decide +kernel
theorem dX8_init_45 : decode cX8_init 45 = .ok (.aload_n 0, 1) := by decide +kernel
theorem dX8_init_46 : decode cX8_init 46 = .ok (.new 35, 3) := by decide +kernel
theorem dX8_init_49 : decode cX8_init 49 = .ok (.dup, 1) := by decide +kernel
theorem dX8_init_50 : decode cX8_init 50 = .ok (.invokespecial 37, 3) := by decide +kernel
theorem dX8_init_53 : decode cX8_init 53 = .ok (.putfield 38, 3) := by decide +kernel
theorem dX8_init_56 : decode cX8_init 56 = .ok (.iconst 0, 1) := by decide +kernel
theorem dX8_init_57 : decode cX8_init 57 = .ok (.istore_n 1, 1) := by decide +kernel
theorem dX8_init_58 : decode cX8_init 58 = .ok (.iload_n 1, 1) := by decide +kernel
theorem dX8_init_59 : decode cX8_init 59 = .ok (.bipush 10, 2) := by decide +kernel
theorem dX8_init_61 : decode cX8_init 61 = .ok (.if_icmp .ge 22, 3) := by decide +kernel
theorem dX8_init_64 : decode cX8_init 64 = .ok (.aload_n 0, 1) := by decide +kernel
theorem dX8_init_65 : decode cX8_init 65 = .ok (.getfield 20, 3) := by decide +kernel
theorem dX8_init_68 : decode cX8_init 68 = .ok (.iload_n 1, 1) := by decide +kernel
theorem dX8_init_69 : decode cX8_init 69 = .ok (.new 18, 3) := by decide +kernel
theorem dX8_init_72 : decode cX8_init 72 = .ok (.dup, 1) := by decide +kernel
theorem dX8_init_73 : decode cX8_init 73 = .ok (.invokespecial 42, 3) := by decide +kernel
theorem dX8_init_76 : decode cX8_init 76 = .ok (.aastore, 1) := by decide +kernel
theorem dX8_init_77 : decode cX8_init 77 = .ok (.iinc 1 1, 3) := by decide +kernel
theorem dX8_init_80 : decode cX8_init 80 = .ok (.goto (-22), 3) := by decide +kernel
theorem dX8_init_83 : decode cX8_init 83 = .ok (.return_, 1) := by decide +kernel
theorem dX8_copyFrom_0 : decode cX8_copyFrom 0 = .ok (.aload_n 0, 1) := by decide +kernel
theorem dX8_copyFrom_1 : decode cX8_copyFrom 1 = .ok (.getfield 12, 3) := by decide +kernel
theorem dX8_copyFrom_4 : decode cX8_copyFrom 4 = .ok (.aload_n 1, 1) := by decide +kernel
theorem dX8_copyFrom_5 : decode cX8_copyFrom 5 = .ok (.getfield 12, 3) := by decide +kernel
theorem dX8_copyFrom_8 : decode cX8_copyFrom 8 = .ok (.invokevirtual 43, 3) := by decide +kernel
theorem dX8_copyFrom_11 : decode cX8_copyFrom 11 = .ok (.iconst 0, 1) := by decide +kernel
theorem dX8_copyFrom_12 : decode cX8_copyFrom 12 = .ok (.istore_n 2, 1) := by decide +kernel
theorem dX8_copyFrom_13 : decode cX8_copyFrom 13 = .ok (.iload_n 2, 1) := by decide +kernel
theorem dX8_copyFrom_14 : decode cX8_copyFrom 14 = .ok (.bipush 10, 2) := by decide +kernel
theorem dX8_copyFrom_16 : decode cX8_copyFrom 16 = .ok (.if_icmp .ge 24, 3) := by decide +kernel
theorem dX8_copyFrom_19 : decode cX8_copyFrom 19 = .ok (.aload_n 0, 1) := by decide +kernel
theorem dX8_copyFrom_20 : decode cX8_copyFrom 20 = .ok (.getfield 20, 3) := by decide +kernel
theorem dX8_copyFrom_23 : decode cX8_copyFrom 23 = .ok (.iload_n 2, 1) := by decide +kernel
theorem dX8_copyFrom_24 : decode cX8_copyFrom 24 = .ok (.aaload, 1) := by decide +kernel
theorem dX8_copyFrom_25 : decode cX8_copyFrom 25 = .ok (.aload_n 1, 1) := by decide +kernel
theorem dX8_copyFrom_26 : decode cX8_copyFrom 26 = .ok (.getfield 20, 3) := by decide +kernel
theorem dX8_copyFrom_29 : decode cX8_copyFrom 29 = .ok (.iload_n 2, 1) := by decide +kernel
theorem dX8_copyFrom_30 : decode cX8_copyFrom 30 = .ok (.aaload, 1) := by decide +kernel
theorem dX8_copyFrom_31 : decode cX8_copyFrom 31 = .ok (.invokevirtual 47, 3) := by decide +kernel
theorem dX8_copyFrom_34 : decode cX8_copyFrom 34 = .ok (.iinc 2 1, 3) := by decide +kernel
theorem dX8_copyFrom_37 : decode cX8_copyFrom 37 = .ok (.goto (-24), 3) := by decide +kernel
theorem dX8_copyFrom_40 : decode cX8_copyFrom 40 = .ok (.aload_n 0, 1) := by decide +kernel
theorem dX8_copyFrom_41 : decode cX8_copyFrom 41 = .ok (.aload_n 1, 1) := by decide +kernel
theorem dX8_copyFrom_42 : decode cX8_copyFrom 42 = .ok (.getfield 50, 3) := by decide +kernel
theorem dX8_copyFrom_45 : decode cX8_copyFrom 45 = .ok (.putfield 50, 3) := by decide +kernel
theorem dX8_copyFrom_48 : decode cX8_copyFrom 48 = .ok (.aload_n 1, 1) := by decide +kernel
theorem dX8_copyFrom_49 : decode cX8_copyFrom 49 = .ok (.getfield 24, 3) := by decide +kernel
theorem dX8_copyFrom_52 : decode cX8_copyFrom 52 = .ok (.iconst 0, 1) := by decide +kernel
theorem dX8_copyFrom_53 : decode cX8_copyFrom 53 = .ok (.aload_n 0, 1) := by decide +kernel
theorem dX8_copyFrom_54 : decode cX8_copyFrom 54 = .ok (.getfield 24, 3) := by decide +kernel
theorem dX8_copyFrom_57 : decode cX8_copyFrom 57 = .ok (.iconst 0, 1) := by decide +kernel
theorem dX8_copyFrom_58 : decode cX8_copyFrom 58 = .ok (.bipush 24, 2) := by decide +kernel
theorem dX8_copyFrom_60 : decode cX8_copyFrom 60 = .ok (.invokestatic 53, 3) := by decide +kernel
theorem dX8_copyFrom_63 : decode cX8_copyFrom 63 = .ok (.aload_n 1, 1) := by decide +kernel
theorem dX8_copyFrom_64 : decode cX8_copyFrom 64 = .ok (.getfield 28, 3) := by decide +kernel
theorem dX8_copyFrom_67 : decode cX8_copyFrom 67 = .ok (.iconst 0, 1) := by decide +kernel
theorem dX8_copyFrom_68 : decode cX8_copyFrom 68 = .ok (.aload_n 0, 1) := by decide +kernel
theorem dX8_copyFrom_69 : decode cX8_copyFrom 69 = .ok (.getfield 28, 3) := by decide +kernel
theorem dX8_copyFrom_72 : decode cX8_copyFrom 72 = .ok (.iconst 0, 1) := by decide +kernel
theorem dX8_copyFrom_73 : decode cX8_copyFrom 73 = .ok (.bipush 24, 2) := by decide +kernel
theorem dX8_copyFrom_75 : decode cX8_copyFrom 75 = .ok (.invokestatic 53, 3) := by decide +kernel
theorem dX8_copyFrom_78 : decode cX8_copyFrom 78 = .ok (.aload_n 0, 1) := by decide +kernel
theorem dX8_copyFrom_79 : decode cX8_copyFrom 79 = .ok (.aload_n 1, 1) := by decide +kernel
theorem dX8_copyFrom_80 : decode cX8_copyFrom 80 = .ok (.getfield 59, 3) := by decide +kernel
theorem dX8_copyFrom_83 : decode cX8_copyFrom 83 = .ok (.putfield 59, 3) := by decide +kernel
theorem dX8_copyFrom_86 : decode cX8_copyFrom 86 = .ok (.aload_n 0, 1) := by decide +kernel
theorem dX8_copyFrom_87 : decode cX8_copyFrom 87 = .ok (.aload_n 1, 1) := by decide +kernel
theorem dX8_copyFrom_88 : decode cX8_copyFrom 88 = .ok (.getfield 62, 3) := by decide +kernel
theorem dX8_copyFrom_91 : decode cX8_copyFrom 91 = .ok (.putfield 62, 3) := by decide +kernel
theorem dX8_copyFrom_94 : decode cX8_copyFrom 94 = .ok (.aload_n 0, 1) := by decide +kernel
theorem dX8_copyFrom_95 : decode cX8_copyFrom 95 = .ok (.aload_n 1, 1) := by decide +kernel
theorem dX8_copyFrom_96 : decode cX8_copyFrom 96 = .ok (.getfield 66, 3) := by decide +kernel
theorem dX8_copyFrom_99 : decode cX8_copyFrom 99 = .ok (.putfield 66, 3) := by decide +kernel
theorem dX8_copyFrom_102 : decode cX8_copyFrom 102 = .ok (.aload_n 0, 1) := by decide +kernel
theorem dX8_copyFrom_103 : decode cX8_copyFrom 103 = .ok (.aload_n 1, 1) := by decide +kernel
theorem dX8_copyFrom_104 : decode cX8_copyFrom 104 = .ok (.getfield 31, 3) := by decide +kernel
theorem dX8_copyFrom_107 : decode cX8_copyFrom 107 = .ok (.putfield 31, 3) := by decide +kernel
theorem dX8_copyFrom_110 : decode cX8_copyFrom 110 = .ok (.aload_n 0, 1) := by decide +kernel
theorem dX8_copyFrom_111 : decode cX8_copyFrom 111 = .ok (.aload_n 1, 1) := by decide +kernel
theorem dX8_copyFrom_112 : decode cX8_copyFrom 112 = .ok (.getfield 69, 3) := by decide +kernel
theorem dX8_copyFrom_115 : decode cX8_copyFrom 115 = .ok (.putfield 69, 3) := by decide +kernel
theorem dX8_copyFrom_118 : decode cX8_copyFrom 118 = .ok (.aload_n 0, 1) := by decide +kernel
theorem dX8_copyFrom_119 : decode cX8_copyFrom 119 = .ok (.aload_n 1, 1) := by decide +kernel
theorem dX8_copyFrom_120 : decode cX8_copyFrom 120 = .ok (.getfield 72, 3) := by decide +kernel
theorem dX8_copyFrom_123 : decode cX8_copyFrom 123 = .ok (.putfield 72, 3) := by decide +kernel
theorem dX8_copyFrom_126 : decode cX8_copyFrom 126 = .ok (.aload_n 0, 1) := by decide +kernel
theorem dX8_copyFrom_127 : decode cX8_copyFrom 127 = .ok (.aload_n 1, 1) := by decide +kernel
theorem dX8_copyFrom_128 : decode cX8_copyFrom 128 = .ok (.getfield 75, 3) := by decide +kernel
theorem dX8_copyFrom_131 : decode cX8_copyFrom 131 = .ok (.putfield 75, 3) := by decide +kernel
theorem dX8_copyFrom_134 : decode cX8_copyFrom 134 = .ok (.aload_n 0, 1) := by decide +kernel
theorem dX8_copyFrom_135 : decode cX8_copyFrom 135 = .ok (.aload_n 1, 1) := by decide +kernel
theorem dX8_copyFrom_136 : decode cX8_copyFrom 136 = .ok (.getfield 78, 3) := by decide +kernel
theorem dX8_copyFrom_139 : decode cX8_copyFrom 139 = .ok (.putfield 78, 3) := by decide +kernel
theorem dX8_copyFrom_142 : decode cX8_copyFrom 142 = .ok (.aload_n 0, 1) := by decide +kernel
theorem dX8_copyFrom_143 : decode cX8_copyFrom 143 = .ok (.aload_n 1, 1) := by decide +kernel
theorem dX8_copyFrom_144 : decode cX8_copyFrom 144 = .ok (.getfield 81, 3) := by decide +kernel
theorem dX8_copyFrom_147 : decode cX8_copyFrom 147 = .ok (.putfield 81, 3) := by decide +kernel
theorem dX8_copyFrom_150 : decode cX8_copyFrom 150 = .ok (.aload_n 0, 1) := by decide +kernel
theorem dX8_copyFrom_151 : decode cX8_copyFrom 151 = .ok (.getfield 38, 3) := by decide +kernel
theorem dX8_copyFrom_154 : decode cX8_copyFrom 154 = .ok (.aload_n 1, 1) := by decide +kernel
theorem dX8_copyFrom_155 : decode cX8_copyFrom 155 = .ok (.getfield 38, 3) := by decide +kernel
theorem dX8_copyFrom_158 : decode cX8_copyFrom 158 = .ok (.invokevirtual 84, 3) := by decide +kernel
theorem dX8_copyFrom_161 : decode cX8_copyFrom 161 = .ok (.return_, 1) := by decide +kernel
theorem dX8_addPerson_0 : decode cX8_addPerson 0 = .ok (.aload_n 0, 1) := by decide +kernel
theorem dX8_addPerson_1 : decode cX8_addPerson 1 = .ok (.getfield 50, 3) := by decide +kernel
theorem dX8_addPerson_4 : decode cX8_addPerson 4 = .ok (.bipush 10, 2) := by decide +kernel
theorem dX8_addPerson_6 : decode cX8_addPerson 6 = .ok (.if_icmp .ge 49, 3) := by decide +kernel
theorem dX8_addPerson_9 : decode cX8_addPerson 9 = .ok (.aload_n 0, 1) := by decide +kernel
theorem dX8_addPerson_10 : decode cX8_addPerson 10 = .ok (.getfield 20, 3) := by decide +kernel
theorem dX8_addPerson_13 : decode cX8_addPerson 13 = .ok (.aload_n 0, 1) := by decide +kernel
theorem dX8_addPerson_14 : decode cX8_addPerson 14 = .ok (.getfield 50, 3) := by decide +kernel
theorem dX8_addPerson_17 : decode cX8_addPerson 17 = .ok (.aaload, 1) := by decide +kernel
theorem dX8_addPerson_18 : decode cX8_addPerson 18 = .ok (.astore 5, 2) := by decide +kernel
theorem dX8_addPerson_20 : decode cX8_addPerson 20 = .ok (.aload 5, 2) := by decide +kernel
theorem dX8_addPerson_22 : decode cX8_addPerson 22 = .ok (.iload_n 1, 1) := by decide +kernel
theorem dX8_addPerson_23 : decode cX8_addPerson 23 = .ok (.putfield 87, 3) := by decide +kernel
theorem dX8_addPerson_26 : decode cX8_addPerson 26 = .ok (.aload 5, 2) := by decide +kernel
theorem dX8_addPerson_28 : decode cX8_addPerson 28 = .ok (.iload_n 2, 1) := by decide +kernel
theorem dX8_addPerson_29 : decode cX8_addPerson 29 = .ok (.putfield 90, 3) := by decide +kernel
theorem dX8_addPerson_32 : decode cX8_addPerson 32 = .ok (.aload 5, 2) := by decide +kernel
theorem dX8_addPerson_34 : decode cX8_addPerson 34 = .ok (.iload_n 3, 1) := by decide +kernel
theorem dX8_addPerson_35 : decode cX8_addPerson 35 = .ok (.putfield 93, 3) := by decide +kernel
theorem dX8_addPerson_38 : decode cX8_addPerson 38 = .ok (.aload 5, 2) := by decide +kernel
theorem dX8_addPerson_40 : decode cX8_addPerson 40 = .ok (.iload 4, 2) := by decide +kernel
theorem dX8_addPerson_42 : decode cX8_addPerson 42 = .ok (.putfield 96, 3) := by decide +kernel
theorem dX8_addPerson_45 : decode cX8_addPerson 45 = .ok (.aload_n 0, 1) := by decide +kernel
theorem dX8_addPerson_46 : decode cX8_addPerson 46 = .ok (.dup, 1) := by decide +kernel
theorem dX8_addPerson_47 : decode cX8_addPerson 47 = .ok (.getfield 50, 3) := by decide +kernel
theorem dX8_addPerson_50 : decode cX8_addPerson 50 = .ok (.iconst 1, 1) := by decide +kernel
theorem dX8_addPerson_51 : decode cX8_addPerson 51 = .ok (.iadd, 1) := by decide +kernel
theorem dX8_addPerson_52 : decode cX8_addPerson 52 = .ok (.putfield 50, 3) := by decide +kernel
theorem dX8_addPerson_55 : decode cX8_addPerson 55 = .ok (.return_, 1) := by decide +kernel
theorem dX8_areTied_0 : decode cX8_areTied 0 = .ok (.aload_n 0, 1) := by decide +kernel
theorem dX8_areTied_1 : decode cX8_areTied 1 = .ok (.getfield 20, 3) := by decide +kernel
theorem dX8_areTied_4 : decode cX8_areTied 4 = .ok (.iload_n 1, 1) := by decide +kernel
theorem dX8_areTied_5 : decode cX8_areTied 5 = .ok (.aaload, 1) := by decide +kernel
theorem dX8_areTied_6 : decode cX8_areTied 6 = .ok (.getfield 99, 3) := by decide +kernel
theorem dX8_areTied_9 : decode cX8_areTied 9 = .ok (.iload_n 2, 1) := by decide +kernel
theorem dX8_areTied_10 : decode cX8_areTied 10 = .ok (.invokestatic 102, 3) := by decide +kernel
theorem dX8_areTied_13 : decode cX8_areTied 13 = .ok (.ireturn, 1) := by decide +kernel
theorem dX8_addTie_0 : decode cX8_addTie 0 = .ok (.aload_n 0, 1) := by decide +kernel
theorem dX8_addTie_1 : decode cX8_addTie 1 = .ok (.getfield 59, 3) := by decide +kernel
theorem dX8_addTie_4 : decode cX8_addTie 4 = .ok (.bipush 24, 2) := by decide +kernel
theorem dX8_addTie_6 : decode cX8_addTie 6 = .ok (.if_icmp .ge 67, 3) := by decide +kernel
theorem dX8_addTie_9 : decode cX8_addTie 9 = .ok (.aload_n 0, 1) := by decide +kernel
theorem dX8_addTie_10 : decode cX8_addTie 10 = .ok (.getfield 24, 3) := by decide +kernel
theorem dX8_addTie_13 : decode cX8_addTie 13 = .ok (.aload_n 0, 1) := by decide +kernel
theorem dX8_addTie_14 : decode cX8_addTie 14 = .ok (.getfield 59, 3) := by decide +kernel
theorem dX8_addTie_17 : decode cX8_addTie 17 = .ok (.iload_n 1, 1) := by decide +kernel
theorem dX8_addTie_18 : decode cX8_addTie 18 = .ok (.iastore, 1) := by decide +kernel
theorem dX8_addTie_19 : decode cX8_addTie 19 = .ok (.aload_n 0, 1) := by decide +kernel
theorem dX8_addTie_20 : decode cX8_addTie 20 = .ok (.getfield 28, 3) := by decide +kernel
theorem dX8_addTie_23 : decode cX8_addTie 23 = .ok (.aload_n 0, 1) := by decide +kernel
theorem dX8_addTie_24 : decode cX8_addTie 24 = .ok (.getfield 59, 3) := by decide +kernel
theorem dX8_addTie_27 : decode cX8_addTie 27 = .ok (.iload_n 2, 1) := by decide +kernel
theorem dX8_addTie_28 : decode cX8_addTie 28 = .ok (.iastore, 1) := by decide +kernel
theorem dX8_addTie_29 : decode cX8_addTie 29 = .ok (.aload_n 0, 1) := by decide +kernel
theorem dX8_addTie_30 : decode cX8_addTie 30 = .ok (.dup, 1) := by decide +kernel
theorem dX8_addTie_31 : decode cX8_addTie 31 = .ok (.getfield 59, 3) := by decide +kernel
theorem dX8_addTie_34 : decode cX8_addTie 34 = .ok (.iconst 1, 1) := by decide +kernel
theorem dX8_addTie_35 : decode cX8_addTie 35 = .ok (.iadd, 1) := by decide +kernel
theorem dX8_addTie_36 : decode cX8_addTie 36 = .ok (.putfield 59, 3) := by decide +kernel
theorem dX8_addTie_39 : decode cX8_addTie 39 = .ok (.aload_n 0, 1) := by decide +kernel
theorem dX8_addTie_40 : decode cX8_addTie 40 = .ok (.getfield 20, 3) := by decide +kernel
theorem dX8_addTie_43 : decode cX8_addTie 43 = .ok (.iload_n 1, 1) := by decide +kernel
theorem dX8_addTie_44 : decode cX8_addTie 44 = .ok (.aaload, 1) := by decide +kernel
theorem dX8_addTie_45 : decode cX8_addTie 45 = .ok (.dup, 1) := by decide +kernel
theorem dX8_addTie_46 : decode cX8_addTie 46 = .ok (.getfield 99, 3) := by decide +kernel
theorem dX8_addTie_49 : decode cX8_addTie 49 = .ok (.iconst 1, 1) := by decide +kernel
theorem dX8_addTie_50 : decode cX8_addTie 50 = .ok (.iload_n 2, 1) := by decide +kernel
theorem dX8_addTie_51 : decode cX8_addTie 51 = .ok (.ishl, 1) := by decide +kernel
theorem dX8_addTie_52 : decode cX8_addTie 52 = .ok (.ior, 1) := by decide +kernel
theorem dX8_addTie_53 : decode cX8_addTie 53 = .ok (.putfield 99, 3) := by decide +kernel
theorem dX8_addTie_56 : decode cX8_addTie 56 = .ok (.aload_n 0, 1) := by decide +kernel
theorem dX8_addTie_57 : decode cX8_addTie 57 = .ok (.getfield 20, 3) := by decide +kernel
theorem dX8_addTie_60 : decode cX8_addTie 60 = .ok (.iload_n 2, 1) := by decide +kernel
theorem dX8_addTie_61 : decode cX8_addTie 61 = .ok (.aaload, 1) := by decide +kernel
theorem dX8_addTie_62 : decode cX8_addTie 62 = .ok (.dup, 1) := by decide +kernel
theorem dX8_addTie_63 : decode cX8_addTie 63 = .ok (.getfield 99, 3) := by decide +kernel
theorem dX8_addTie_66 : decode cX8_addTie 66 = .ok (.iconst 1, 1) := by decide +kernel
theorem dX8_addTie_67 : decode cX8_addTie 67 = .ok (.iload_n 1, 1) := by decide +kernel
theorem dX8_addTie_68 : decode cX8_addTie 68 = .ok (.ishl, 1) := by decide +kernel
theorem dX8_addTie_69 : decode cX8_addTie 69 = .ok (.ior, 1) := by decide +kernel
theorem dX8_addTie_70 : decode cX8_addTie 70 = .ok (.putfield 99, 3) := by decide +kernel
theorem dX8_addTie_73 : decode cX8_addTie 73 = .ok (.return_, 1) := by decide +kernel
theorem dX8_removeTie_0 : decode cX8_removeTie 0 = .ok (.aload_n 0, 1) := by decide +kernel
theorem dX8_removeTie_1 : decode cX8_removeTie 1 = .ok (.getfield 24, 3) := by decide +kernel
theorem dX8_removeTie_4 : decode cX8_removeTie 4 = .ok (.iload_n 1, 1) := by decide +kernel
theorem dX8_removeTie_5 : decode cX8_removeTie 5 = .ok (.iaload, 1) := by decide +kernel
theorem dX8_removeTie_6 : decode cX8_removeTie 6 = .ok (.istore_n 2, 1) := by decide +kernel
theorem dX8_removeTie_7 : decode cX8_removeTie 7 = .ok (.aload_n 0, 1) := by decide +kernel
theorem dX8_removeTie_8 : decode cX8_removeTie 8 = .ok (.getfield 28, 3) := by decide +kernel
theorem dX8_removeTie_11 : decode cX8_removeTie 11 = .ok (.iload_n 1, 1) := by decide +kernel
theorem dX8_removeTie_12 : decode cX8_removeTie 12 = .ok (.iaload, 1) := by decide +kernel
theorem dX8_removeTie_13 : decode cX8_removeTie 13 = .ok (.istore_n 3, 1) := by decide +kernel
theorem dX8_removeTie_14 : decode cX8_removeTie 14 = .ok (.aload_n 0, 1) := by decide +kernel
theorem dX8_removeTie_15 : decode cX8_removeTie 15 = .ok (.getfield 20, 3) := by decide +kernel
theorem dX8_removeTie_18 : decode cX8_removeTie 18 = .ok (.iload_n 2, 1) := by decide +kernel
theorem dX8_removeTie_19 : decode cX8_removeTie 19 = .ok (.aaload, 1) := by decide +kernel
theorem dX8_removeTie_20 : decode cX8_removeTie 20 = .ok (.dup, 1) := by decide +kernel
theorem dX8_removeTie_21 : decode cX8_removeTie 21 = .ok (.getfield 99, 3) := by decide +kernel
theorem dX8_removeTie_24 : decode cX8_removeTie 24 = .ok (.iconst 1, 1) := by decide +kernel
theorem dX8_removeTie_25 : decode cX8_removeTie 25 = .ok (.iload_n 3, 1) := by decide +kernel
theorem dX8_removeTie_26 : decode cX8_removeTie 26 = .ok (.ishl, 1) := by decide +kernel
theorem dX8_removeTie_27 : decode cX8_removeTie 27 = .ok (.iconst (-1), 1) := by decide +kernel
theorem dX8_removeTie_28 : decode cX8_removeTie 28 = .ok (.ixor, 1) := by decide +kernel
theorem dX8_removeTie_29 : decode cX8_removeTie 29 = .ok (.iand, 1) := by decide +kernel
theorem dX8_removeTie_30 : decode cX8_removeTie 30 = .ok (.putfield 99, 3) := by decide +kernel
theorem dX8_removeTie_33 : decode cX8_removeTie 33 = .ok (.aload_n 0, 1) := by decide +kernel
theorem dX8_removeTie_34 : decode cX8_removeTie 34 = .ok (.getfield 20, 3) := by decide +kernel
theorem dX8_removeTie_37 : decode cX8_removeTie 37 = .ok (.iload_n 3, 1) := by decide +kernel
theorem dX8_removeTie_38 : decode cX8_removeTie 38 = .ok (.aaload, 1) := by decide +kernel
theorem dX8_removeTie_39 : decode cX8_removeTie 39 = .ok (.dup, 1) := by decide +kernel
theorem dX8_removeTie_40 : decode cX8_removeTie 40 = .ok (.getfield 99, 3) := by decide +kernel
theorem dX8_removeTie_43 : decode cX8_removeTie 43 = .ok (.iconst 1, 1) := by decide +kernel
theorem dX8_removeTie_44 : decode cX8_removeTie 44 = .ok (.iload_n 2, 1) := by decide +kernel
theorem dX8_removeTie_45 : decode cX8_removeTie 45 = .ok (.ishl, 1) := by decide +kernel
theorem dX8_removeTie_46 : decode cX8_removeTie 46 = .ok (.iconst (-1), 1) := by decide +kernel
theorem dX8_removeTie_47 : decode cX8_removeTie 47 = .ok (.ixor, 1) := by decide +kernel
theorem dX8_removeTie_48 : decode cX8_removeTie 48 = .ok (.iand, 1) := by decide +kernel
theorem dX8_removeTie_49 : decode cX8_removeTie 49 = .ok (.putfield 99, 3) := by decide +kernel
theorem dX8_removeTie_52 : decode cX8_removeTie 52 = .ok (.iload_n 1, 1) := by decide +kernel
theorem dX8_removeTie_53 : decode cX8_removeTie 53 = .ok (.iconst 1, 1) := by decide +kernel
theorem dX8_removeTie_54 : decode cX8_removeTie 54 = .ok (.iadd, 1) := by decide +kernel
theorem dX8_removeTie_55 : decode cX8_removeTie 55 = .ok (.istore 4, 2) := by decide +kernel
theorem dX8_removeTie_57 : decode cX8_removeTie 57 = .ok (.iload 4, 2) := by decide +kernel
theorem dX8_removeTie_59 : decode cX8_removeTie 59 = .ok (.aload_n 0, 1) := by decide +kernel
theorem dX8_removeTie_60 : decode cX8_removeTie 60 = .ok (.getfield 59, 3) := by decide +kernel
theorem dX8_removeTie_63 : decode cX8_removeTie 63 = .ok (.if_icmp .ge 41, 3) := by decide +kernel
theorem dX8_removeTie_66 : decode cX8_removeTie 66 = .ok (.aload_n 0, 1) := by decide +kernel
theorem dX8_removeTie_67 : decode cX8_removeTie 67 = .ok (.getfield 24, 3) := by decide +kernel
theorem dX8_removeTie_70 : decode cX8_removeTie 70 = .ok (.iload 4, 2) := by decide +kernel
theorem dX8_removeTie_72 : decode cX8_removeTie 72 = .ok (.iconst 1, 1) := by decide +kernel
theorem dX8_removeTie_73 : decode cX8_removeTie 73 = .ok (.isub, 1) := by decide +kernel
theorem dX8_removeTie_74 : decode cX8_removeTie 74 = .ok (.aload_n 0, 1) := by decide +kernel
theorem dX8_removeTie_75 : decode cX8_removeTie 75 = .ok (.getfield 24, 3) := by decide +kernel
theorem dX8_removeTie_78 : decode cX8_removeTie 78 = .ok (.iload 4, 2) := by decide +kernel
theorem dX8_removeTie_80 : decode cX8_removeTie 80 = .ok (.iaload, 1) := by decide +kernel
theorem dX8_removeTie_81 : decode cX8_removeTie 81 = .ok (.iastore, 1) := by decide +kernel
theorem dX8_removeTie_82 : decode cX8_removeTie 82 = .ok (.aload_n 0, 1) := by decide +kernel
theorem dX8_removeTie_83 : decode cX8_removeTie 83 = .ok (.getfield 28, 3) := by decide +kernel
theorem dX8_removeTie_86 : decode cX8_removeTie 86 = .ok (.iload 4, 2) := by decide +kernel
theorem dX8_removeTie_88 : decode cX8_removeTie 88 = .ok (.iconst 1, 1) := by decide +kernel
theorem dX8_removeTie_89 : decode cX8_removeTie 89 = .ok (.isub, 1) := by decide +kernel
theorem dX8_removeTie_90 : decode cX8_removeTie 90 = .ok (.aload_n 0, 1) := by decide +kernel
theorem dX8_removeTie_91 : decode cX8_removeTie 91 = .ok (.getfield 28, 3) := by decide +kernel
theorem dX8_removeTie_94 : decode cX8_removeTie 94 = .ok (.iload 4, 2) := by decide +kernel
theorem dX8_removeTie_96 : decode cX8_removeTie 96 = .ok (.iaload, 1) := by decide +kernel
theorem dX8_removeTie_97 : decode cX8_removeTie 97 = .ok (.iastore, 1) := by decide +kernel
theorem dX8_removeTie_98 : decode cX8_removeTie 98 = .ok (.iinc 4 1, 3) := by decide +kernel
theorem dX8_removeTie_101 : decode cX8_removeTie 101 = .ok (.goto (-44), 3) := by decide +kernel
theorem dX8_removeTie_104 : decode cX8_removeTie 104 = .ok (.aload_n 0, 1) := by decide +kernel
theorem dX8_removeTie_105 : decode cX8_removeTie 105 = .ok (.dup, 1) := by decide +kernel
theorem dX8_removeTie_106 : decode cX8_removeTie 106 = .ok (.getfield 59, 3) := by decide +kernel
theorem dX8_removeTie_109 : decode cX8_removeTie 109 = .ok (.iconst 1, 1) := by decide +kernel
theorem dX8_removeTie_110 : decode cX8_removeTie 110 = .ok (.isub, 1) := by decide +kernel
theorem dX8_removeTie_111 : decode cX8_removeTie 111 = .ok (.putfield 59, 3) := by decide +kernel
theorem dX8_removeTie_114 : decode cX8_removeTie 114 = .ok (.return_, 1) := by decide +kernel
theorem dX8_everybody_0 : decode cX8_everybody 0 = .ok (.iconst 1, 1) := by decide +kernel
theorem dX8_everybody_1 : decode cX8_everybody 1 = .ok (.aload_n 0, 1) := by decide +kernel
theorem dX8_everybody_2 : decode cX8_everybody 2 = .ok (.getfield 50, 3) := by decide +kernel
theorem dX8_everybody_5 : decode cX8_everybody 5 = .ok (.ishl, 1) := by decide +kernel
theorem dX8_everybody_6 : decode cX8_everybody 6 = .ok (.iconst 1, 1) := by decide +kernel
theorem dX8_everybody_7 : decode cX8_everybody 7 = .ok (.isub, 1) := by decide +kernel
theorem dX8_everybody_8 : decode cX8_everybody 8 = .ok (.ireturn, 1) := by decide +kernel
theorem dX8_peopleTied_0 : decode cX8_peopleTied 0 = .ok (.iconst 0, 1) := by decide +kernel
theorem dX8_peopleTied_1 : decode cX8_peopleTied 1 = .ok (.istore_n 1, 1) := by decide +kernel
theorem dX8_peopleTied_2 : decode cX8_peopleTied 2 = .ok (.iconst 0, 1) := by decide +kernel
theorem dX8_peopleTied_3 : decode cX8_peopleTied 3 = .ok (.istore_n 2, 1) := by decide +kernel
theorem dX8_peopleTied_4 : decode cX8_peopleTied 4 = .ok (.iload_n 2, 1) := by decide +kernel
theorem dX8_peopleTied_5 : decode cX8_peopleTied 5 = .ok (.aload_n 0, 1) := by decide +kernel
theorem dX8_peopleTied_6 : decode cX8_peopleTied 6 = .ok (.getfield 50, 3) := by decide +kernel
theorem dX8_peopleTied_9 : decode cX8_peopleTied 9 = .ok (.if_icmp .ge 21, 3) := by decide +kernel
theorem dX8_peopleTied_12 : decode cX8_peopleTied 12 = .ok (.iload_n 1, 1) := by decide +kernel
theorem dX8_peopleTied_13 : decode cX8_peopleTied 13 = .ok (.aload_n 0, 1) := by decide +kernel
theorem dX8_peopleTied_14 : decode cX8_peopleTied 14 = .ok (.getfield 20, 3) := by decide +kernel
theorem dX8_peopleTied_17 : decode cX8_peopleTied 17 = .ok (.iload_n 2, 1) := by decide +kernel
theorem dX8_peopleTied_18 : decode cX8_peopleTied 18 = .ok (.aaload, 1) := by decide +kernel
theorem dX8_peopleTied_19 : decode cX8_peopleTied 19 = .ok (.getfield 99, 3) := by decide +kernel
theorem dX8_peopleTied_22 : decode cX8_peopleTied 22 = .ok (.ior, 1) := by decide +kernel
theorem dX8_peopleTied_23 : decode cX8_peopleTied 23 = .ok (.istore_n 1, 1) := by decide +kernel
theorem dX8_peopleTied_24 : decode cX8_peopleTied 24 = .ok (.iinc 2 1, 3) := by decide +kernel
theorem dX8_peopleTied_27 : decode cX8_peopleTied 27 = .ok (.goto (-23), 3) := by decide +kernel
theorem dX8_peopleTied_30 : decode cX8_peopleTied 30 = .ok (.iload_n 1, 1) := by decide +kernel
theorem dX8_peopleTied_31 : decode cX8_peopleTied 31 = .ok (.ireturn, 1) := by decide +kernel
theorem dX8_peopleWithCold_0 : decode cX8_peopleWithCold 0 = .ok (.iconst 0, 1) := by decide +kernel
theorem dX8_peopleWithCold_1 : decode cX8_peopleWithCold 1 = .ok (.istore_n 1, 1) := by decide +kernel
theorem dX8_peopleWithCold_2 : decode cX8_peopleWithCold 2 = .ok (.iconst 0, 1) := by decide +kernel
theorem dX8_peopleWithCold_3 : decode cX8_peopleWithCold 3 = .ok (.istore_n 2, 1) := by decide +kernel
theorem dX8_peopleWithCold_4 : decode cX8_peopleWithCold 4 = .ok (.iload_n 2, 1) := by decide +kernel
theorem dX8_peopleWithCold_5 : decode cX8_peopleWithCold 5 = .ok (.aload_n 0, 1) := by decide +kernel
theorem dX8_peopleWithCold_6 : decode cX8_peopleWithCold 6 = .ok (.getfield 50, 3) := by decide +kernel
theorem dX8_peopleWithCold_9 : decode cX8_peopleWithCold 9 = .ok (.if_icmp .ge 31, 3) := by decide +kernel
theorem dX8_peopleWithCold_12 : decode cX8_peopleWithCold 12 = .ok (.iload_n 1, 1) := by decide +kernel
theorem dX8_peopleWithCold_13 : decode cX8_peopleWithCold 13 = .ok (.aload_n 0, 1) := by decide +kernel
theorem dX8_peopleWithCold_14 : decode cX8_peopleWithCold 14 = .ok (.getfield 20, 3) := by decide +kernel
theorem dX8_peopleWithCold_17 : decode cX8_peopleWithCold 17 = .ok (.iload_n 2, 1) := by decide +kernel
theorem dX8_peopleWithCold_18 : decode cX8_peopleWithCold 18 = .ok (.aaload, 1) := by decide +kernel
theorem dX8_peopleWithCold_19 : decode cX8_peopleWithCold 19 = .ok (.getfield 106, 3) := by decide +kernel
theorem dX8_peopleWithCold_22 : decode cX8_peopleWithCold 22 = .ok (.ifCond .eq 9, 3) := by decide +kernel
theorem dX8_peopleWithCold_25 : decode cX8_peopleWithCold 25 = .ok (.iconst 1, 1) := by decide +kernel
theorem dX8_peopleWithCold_26 : decode cX8_peopleWithCold 26 = .ok (.iload_n 2, 1) := by decide +kernel
theorem dX8_peopleWithCold_27 : decode cX8_peopleWithCold 27 = .ok (.ishl, 1) := by decide +kernel
theorem dX8_peopleWithCold_28 : decode cX8_peopleWithCold 28 = .ok (.goto 4, 3) := by decide +kernel
theorem dX8_peopleWithCold_31 : decode cX8_peopleWithCold 31 = .ok (.iconst 0, 1) := by decide +kernel
theorem dX8_peopleWithCold_32 : decode cX8_peopleWithCold 32 = .ok (.ior, 1) := by decide +kernel
theorem dX8_peopleWithCold_33 : decode cX8_peopleWithCold 33 = .ok (.istore_n 1, 1) := by decide +kernel
theorem dX8_peopleWithCold_34 : decode cX8_peopleWithCold 34 = .ok (.iinc 2 1, 3) := by decide +kernel
theorem dX8_peopleWithCold_37 : decode cX8_peopleWithCold 37 = .ok (.goto (-33), 3) := by decide +kernel
theorem dX8_peopleWithCold_40 : decode cX8_peopleWithCold 40 = .ok (.iload_n 1, 1) := by decide +kernel
theorem dX8_peopleWithCold_41 : decode cX8_peopleWithCold 41 = .ok (.ireturn, 1) := by decide +kernel
theorem dX8_greetingFor_0 : decode cX8_greetingFor 0 = .ok (.aload_n 0, 1) := by decide +kernel
theorem dX8_greetingFor_1 : decode cX8_greetingFor 1 = .ok (.getfield 62, 3) := by decide +kernel
theorem dX8_greetingFor_4 : decode cX8_greetingFor 4 = .ok (.ifnonnull 7, 3) := by decide +kernel
theorem dX8_greetingFor_7 : decode cX8_greetingFor 7 = .ok (.iconst (-1), 1) := by decide +kernel
theorem dX8_greetingFor_8 : decode cX8_greetingFor 8 = .ok (.goto 13, 3) := by decide +kernel
theorem dX8_greetingFor_11 : decode cX8_greetingFor 11 = .ok (.aload_n 0, 1) := by decide +kernel
theorem dX8_greetingFor_12 : decode cX8_greetingFor 12 = .ok (.getfield 62, 3) := by decide +kernel
theorem dX8_greetingFor_15 : decode cX8_greetingFor 15 = .ok (.aload_n 0, 1) := by decide +kernel
theorem dX8_greetingFor_16 : decode cX8_greetingFor 16 = .ok (.iload_n 1, 1) := by decide +kernel
theorem dX8_greetingFor_17 : decode cX8_greetingFor 17 = .ok (.iload_n 2, 1) := by decide +kernel
theorem dX8_greetingFor_18 : decode cX8_greetingFor 18 = .ok (.invokevirtual 110, 3) := by decide +kernel
theorem dX8_greetingFor_21 : decode cX8_greetingFor 21 = .ok (.istore_n 3, 1) := by decide +kernel
theorem dX8_greetingFor_22 : decode cX8_greetingFor 22 = .ok (.iload_n 3, 1) := by decide +kernel
theorem dX8_greetingFor_23 : decode cX8_greetingFor 23 = .ok (.iconst (-1), 1) := by decide +kernel
theorem dX8_greetingFor_24 : decode cX8_greetingFor 24 = .ok (.if_icmp .eq 5, 3) := by decide +kernel
theorem dX8_greetingFor_27 : decode cX8_greetingFor 27 = .ok (.iload_n 3, 1) := by decide +kernel
theorem dX8_greetingFor_28 : decode cX8_greetingFor 28 = .ok (.ireturn, 1) := by decide +kernel
theorem dX8_greetingFor_29 : decode cX8_greetingFor 29 = .ok (.aload_n 0, 1) := by decide +kernel
theorem dX8_greetingFor_30 : decode cX8_greetingFor 30 = .ok (.getfield 20, 3) := by decide +kernel
theorem dX8_greetingFor_33 : decode cX8_greetingFor 33 = .ok (.iload_n 1, 1) := by decide +kernel
theorem dX8_greetingFor_34 : decode cX8_greetingFor 34 = .ok (.aaload, 1) := by decide +kernel
theorem dX8_greetingFor_35 : decode cX8_greetingFor 35 = .ok (.getfield 116, 3) := by decide +kernel
theorem dX8_greetingFor_38 : decode cX8_greetingFor 38 = .ok (.iload_n 2, 1) := by decide +kernel
theorem dX8_greetingFor_39 : decode cX8_greetingFor 39 = .ok (.iaload, 1) := by decide +kernel
theorem dX8_greetingFor_40 : decode cX8_greetingFor 40 = .ok (.istore 4, 2) := by decide +kernel
theorem dX8_greetingFor_42 : decode cX8_greetingFor 42 = .ok (.iload 4, 2) := by decide +kernel
theorem dX8_greetingFor_44 : decode cX8_greetingFor 44 = .ok (.iconst (-1), 1) := by decide +kernel
theorem dX8_greetingFor_45 : decode cX8_greetingFor 45 = .ok (.if_icmp .eq 8, 3) := by decide +kernel
theorem dX8_greetingFor_48 : decode cX8_greetingFor 48 = .ok (.iload 4, 2) := by decide +kernel
theorem dX8_greetingFor_50 : decode cX8_greetingFor 50 = .ok (.goto 12, 3) := by decide +kernel
theorem dX8_greetingFor_53 : decode cX8_greetingFor 53 = .ok (.aload_n 0, 1) := by decide +kernel
theorem dX8_greetingFor_54 : decode cX8_greetingFor 54 = .ok (.getfield 20, 3) := by decide +kernel
theorem dX8_greetingFor_57 : decode cX8_greetingFor 57 = .ok (.iload_n 1, 1) := by decide +kernel
theorem dX8_greetingFor_58 : decode cX8_greetingFor 58 = .ok (.aaload, 1) := by decide +kernel
theorem dX8_greetingFor_59 : decode cX8_greetingFor 59 = .ok (.getfield 90, 3) := by decide +kernel
theorem dX8_greetingFor_62 : decode cX8_greetingFor 62 = .ok (.ireturn, 1) := by decide +kernel
theorem dX8_passRounds_0 : decode cX8_passRounds 0 = .ok (.iconst 0, 1) := by decide +kernel
theorem dX8_passRounds_1 : decode cX8_passRounds 1 = .ok (.istore_n 2, 1) := by decide +kernel
theorem dX8_passRounds_2 : decode cX8_passRounds 2 = .ok (.iconst 0, 1) := by decide +kernel
theorem dX8_passRounds_3 : decode cX8_passRounds 3 = .ok (.istore_n 3, 1) := by decide +kernel
theorem dX8_passRounds_4 : decode cX8_passRounds 4 = .ok (.iload_n 3, 1) := by decide +kernel
theorem dX8_passRounds_5 : decode cX8_passRounds 5 = .ok (.iload_n 1, 1) := by decide +kernel
theorem dX8_passRounds_6 : decode cX8_passRounds 6 = .ok (.if_icmp .ge 58, 3) := by decide +kernel
theorem dX8_passRounds_9 : decode cX8_passRounds 9 = .ok (.iconst 0, 1) := by decide +kernel
theorem dX8_passRounds_10 : decode cX8_passRounds 10 = .ok (.istore 4, 2) := by decide +kernel
theorem dX8_passRounds_12 : decode cX8_passRounds 12 = .ok (.iload 4, 2) := by decide +kernel
theorem dX8_passRounds_14 : decode cX8_passRounds 14 = .ok (.aload_n 0, 1) := by decide +kernel
theorem dX8_passRounds_15 : decode cX8_passRounds 15 = .ok (.getfield 59, 3) := by decide +kernel
theorem dX8_passRounds_18 : decode cX8_passRounds 18 = .ok (.if_icmp .ge 30, 3) := by decide +kernel
theorem dX8_passRounds_21 : decode cX8_passRounds 21 = .ok (.iload_n 2, 1) := by decide +kernel
theorem dX8_passRounds_22 : decode cX8_passRounds 22 = .ok (.aload_n 0, 1) := by decide +kernel
theorem dX8_passRounds_23 : decode cX8_passRounds 23 = .ok (.aload_n 0, 1) := by decide +kernel
theorem dX8_passRounds_24 : decode cX8_passRounds 24 = .ok (.getfield 24, 3) := by decide +kernel
theorem dX8_passRounds_27 : decode cX8_passRounds 27 = .ok (.iload 4, 2) := by decide +kernel
theorem dX8_passRounds_29 : decode cX8_passRounds 29 = .ok (.iaload, 1) := by decide +kernel
theorem dX8_passRounds_30 : decode cX8_passRounds 30 = .ok (.aload_n 0, 1) := by decide +kernel
theorem dX8_passRounds_31 : decode cX8_passRounds 31 = .ok (.getfield 28, 3) := by decide +kernel
theorem dX8_passRounds_34 : decode cX8_passRounds 34 = .ok (.iload 4, 2) := by decide +kernel
theorem dX8_passRounds_36 : decode cX8_passRounds 36 = .ok (.iaload, 1) := by decide +kernel
theorem dX8_passRounds_37 : decode cX8_passRounds 37 = .ok (.invokevirtual 119, 3) := by decide +kernel
theorem dX8_passRounds_40 : decode cX8_passRounds 40 = .ok (.iadd, 1) := by decide +kernel
theorem dX8_passRounds_41 : decode cX8_passRounds 41 = .ok (.istore_n 2, 1) := by decide +kernel
theorem dX8_passRounds_42 : decode cX8_passRounds 42 = .ok (.iinc 4 1, 3) := by decide +kernel
theorem dX8_passRounds_45 : decode cX8_passRounds 45 = .ok (.goto (-33), 3) := by decide +kernel
theorem dX8_passRounds_48 : decode cX8_passRounds 48 = .ok (.aload_n 0, 1) := by decide +kernel
theorem dX8_passRounds_49 : decode cX8_passRounds 49 = .ok (.dup, 1) := by decide +kernel
theorem dX8_passRounds_50 : decode cX8_passRounds 50 = .ok (.getfield 69, 3) := by decide +kernel
theorem dX8_passRounds_53 : decode cX8_passRounds 53 = .ok (.iconst 1, 1) := by decide +kernel
theorem dX8_passRounds_54 : decode cX8_passRounds 54 = .ok (.iadd, 1) := by decide +kernel
theorem dX8_passRounds_55 : decode cX8_passRounds 55 = .ok (.putfield 69, 3) := by decide +kernel
theorem dX8_passRounds_58 : decode cX8_passRounds 58 = .ok (.iinc 3 1, 3) := by decide +kernel
theorem dX8_passRounds_61 : decode cX8_passRounds 61 = .ok (.goto (-57), 3) := by decide +kernel
theorem dX8_passRounds_64 : decode cX8_passRounds 64 = .ok (.iload_n 2, 1) := by decide +kernel
theorem dX8_passRounds_65 : decode cX8_passRounds 65 = .ok (.ireturn, 1) := by decide +kernel
theorem dX8_meetOnce_0 : decode cX8_meetOnce 0 = .ok (.iload_n 1, 1) := by decide +kernel
theorem dX8_meetOnce_1 : decode cX8_meetOnce 1 = .ok (.iload_n 2, 1) := by decide +kernel
theorem dX8_meetOnce_2 : decode cX8_meetOnce 2 = .ok (.invokestatic 123, 3) := by decide +kernel
theorem dX8_meetOnce_5 : decode cX8_meetOnce 5 = .ok (.istore_n 3, 1) := by decide +kernel
theorem dX8_meetOnce_6 : decode cX8_meetOnce 6 = .ok (.iload_n 1, 1) := by decide +kernel
theorem dX8_meetOnce_7 : decode cX8_meetOnce 7 = .ok (.iload_n 2, 1) := by decide +kernel
theorem dX8_meetOnce_8 : decode cX8_meetOnce 8 = .ok (.invokestatic 128, 3) := by decide +kernel
theorem dX8_meetOnce_11 : decode cX8_meetOnce 11 = .ok (.istore 4, 2) := by decide +kernel
theorem dX8_meetOnce_13 : decode cX8_meetOnce 13 = .ok (.aload_n 0, 1) := by decide +kernel
theorem dX8_meetOnce_14 : decode cX8_meetOnce 14 = .ok (.iload_n 3, 1) := by decide +kernel
theorem dX8_meetOnce_15 : decode cX8_meetOnce 15 = .ok (.iload 4, 2) := by decide +kernel
theorem dX8_meetOnce_17 : decode cX8_meetOnce 17 = .ok (.invokevirtual 131, 3) := by decide +kernel
theorem dX8_meetOnce_20 : decode cX8_meetOnce 20 = .ok (.istore 5, 2) := by decide +kernel
theorem dX8_meetOnce_22 : decode cX8_meetOnce 22 = .ok (.aload_n 0, 1) := by decide +kernel
theorem dX8_meetOnce_23 : decode cX8_meetOnce 23 = .ok (.iload 4, 2) := by decide +kernel
theorem dX8_meetOnce_25 : decode cX8_meetOnce 25 = .ok (.iload_n 3, 1) := by decide +kernel
theorem dX8_meetOnce_26 : decode cX8_meetOnce 26 = .ok (.invokevirtual 131, 3) := by decide +kernel
theorem dX8_meetOnce_29 : decode cX8_meetOnce 29 = .ok (.istore 6, 2) := by decide +kernel
theorem dX8_meetOnce_31 : decode cX8_meetOnce 31 = .ok (.aload_n 0, 1) := by decide +kernel
theorem dX8_meetOnce_32 : decode cX8_meetOnce 32 = .ok (.getfield 12, 3) := by decide +kernel
theorem dX8_meetOnce_35 : decode cX8_meetOnce 35 = .ok (.getfield 133, 3) := by decide +kernel
theorem dX8_meetOnce_38 : decode cX8_meetOnce 38 = .ok (.iload 5, 2) := by decide +kernel
theorem dX8_meetOnce_40 : decode cX8_meetOnce 40 = .ok (.iload 6, 2) := by decide +kernel
theorem dX8_meetOnce_42 : decode cX8_meetOnce 42 = .ok (.invokevirtual 137, 3) := by decide +kernel
theorem dX8_meetOnce_45 : decode cX8_meetOnce 45 = .ok (.istore 7, 2) := by decide +kernel
theorem dX8_meetOnce_47 : decode cX8_meetOnce 47 = .ok (.iload 7, 2) := by decide +kernel
theorem dX8_meetOnce_49 : decode cX8_meetOnce 49 = .ok (.ifCond .le 13, 3) := by decide +kernel
theorem dX8_meetOnce_52 : decode cX8_meetOnce 52 = .ok (.aload_n 0, 1) := by decide +kernel
theorem dX8_meetOnce_53 : decode cX8_meetOnce 53 = .ok (.iload_n 3, 1) := by decide +kernel
theorem dX8_meetOnce_54 : decode cX8_meetOnce 54 = .ok (.iload 4, 2) := by decide +kernel
theorem dX8_meetOnce_56 : decode cX8_meetOnce 56 = .ok (.invokevirtual 142, 3) := by decide +kernel
theorem dX8_meetOnce_59 : decode cX8_meetOnce 59 = .ok (.goto 4, 3) := by decide +kernel
theorem dX8_meetOnce_62 : decode cX8_meetOnce 62 = .ok (.iconst (-1), 1) := by decide +kernel
theorem dX8_meetOnce_63 : decode cX8_meetOnce 63 = .ok (.istore 8, 2) := by decide +kernel
theorem dX8_meetOnce_65 : decode cX8_meetOnce 65 = .ok (.iload 8, 2) := by decide +kernel
theorem dX8_meetOnce_67 : decode cX8_meetOnce 67 = .ok (.iload_n 3, 1) := by decide +kernel
theorem dX8_meetOnce_68 : decode cX8_meetOnce 68 = .ok (.if_icmp .ne 8, 3) := by decide +kernel
theorem dX8_meetOnce_71 : decode cX8_meetOnce 71 = .ok (.iload 6, 2) := by decide +kernel
theorem dX8_meetOnce_73 : decode cX8_meetOnce 73 = .ok (.goto 5, 3) := by decide +kernel
theorem dX8_meetOnce_76 : decode cX8_meetOnce 76 = .ok (.iload 5, 2) := by decide +kernel
theorem dX8_meetOnce_78 : decode cX8_meetOnce 78 = .ok (.istore 9, 2) := by decide +kernel
theorem dX8_meetOnce_80 : decode cX8_meetOnce 80 = .ok (.iload 8, 2) := by decide +kernel
theorem dX8_meetOnce_82 : decode cX8_meetOnce 82 = .ok (.iload 4, 2) := by decide +kernel
theorem dX8_meetOnce_84 : decode cX8_meetOnce 84 = .ok (.if_icmp .ne 8, 3) := by decide +kernel
theorem dX8_meetOnce_87 : decode cX8_meetOnce 87 = .ok (.iload 5, 2) := by decide +kernel
theorem dX8_meetOnce_89 : decode cX8_meetOnce 89 = .ok (.goto 5, 3) := by decide +kernel
theorem dX8_meetOnce_92 : decode cX8_meetOnce 92 = .ok (.iload 6, 2) := by decide +kernel
theorem dX8_meetOnce_94 : decode cX8_meetOnce 94 = .ok (.istore 10, 2) := by decide +kernel
theorem dX8_meetOnce_96 : decode cX8_meetOnce 96 = .ok (.iload 8, 2) := by decide +kernel
theorem dX8_meetOnce_98 : decode cX8_meetOnce 98 = .ok (.iconst (-1), 1) := by decide +kernel
theorem dX8_meetOnce_99 : decode cX8_meetOnce 99 = .ok (.if_icmp .eq 19, 3) := by decide +kernel
theorem dX8_meetOnce_102 : decode cX8_meetOnce 102 = .ok (.iload 7, 2) := by decide +kernel
theorem dX8_meetOnce_104 : decode cX8_meetOnce 104 = .ok (.iconst 2, 1) := by decide +kernel
theorem dX8_meetOnce_105 : decode cX8_meetOnce 105 = .ok (.idiv, 1) := by decide +kernel
theorem dX8_meetOnce_106 : decode cX8_meetOnce 106 = .ok (.istore 7, 2) := by decide +kernel
theorem dX8_meetOnce_108 : decode cX8_meetOnce 108 = .ok (.aload_n 0, 1) := by decide +kernel
theorem dX8_meetOnce_109 : decode cX8_meetOnce 109 = .ok (.dup, 1) := by decide +kernel
theorem dX8_meetOnce_110 : decode cX8_meetOnce 110 = .ok (.getfield 78, 3) := by decide +kernel
theorem dX8_meetOnce_113 : decode cX8_meetOnce 113 = .ok (.iconst 1, 1) := by decide +kernel
theorem dX8_meetOnce_114 : decode cX8_meetOnce 114 = .ok (.iadd, 1) := by decide +kernel
theorem dX8_meetOnce_115 : decode cX8_meetOnce 115 = .ok (.putfield 78, 3) := by decide +kernel
theorem dX8_meetOnce_118 : decode cX8_meetOnce 118 = .ok (.aload_n 0, 1) := by decide +kernel
theorem dX8_meetOnce_119 : decode cX8_meetOnce 119 = .ok (.iload_n 3, 1) := by decide +kernel
theorem dX8_meetOnce_120 : decode cX8_meetOnce 120 = .ok (.iload 4, 2) := by decide +kernel
theorem dX8_meetOnce_122 : decode cX8_meetOnce 122 = .ok (.iload 7, 2) := by decide +kernel
theorem dX8_meetOnce_124 : decode cX8_meetOnce 124 = .ok (.invokevirtual 145, 3) := by decide +kernel
theorem dX8_meetOnce_127 : decode cX8_meetOnce 127 = .ok (.aload_n 0, 1) := by decide +kernel
theorem dX8_meetOnce_128 : decode cX8_meetOnce 128 = .ok (.getfield 38, 3) := by decide +kernel
theorem dX8_meetOnce_131 : decode cX8_meetOnce 131 = .ok (.iconst 3, 1) := by decide +kernel
theorem dX8_meetOnce_132 : decode cX8_meetOnce 132 = .ok (.iload 5, 2) := by decide +kernel
theorem dX8_meetOnce_134 : decode cX8_meetOnce 134 = .ok (.invokevirtual 149, 3) := by decide +kernel
theorem dX8_meetOnce_137 : decode cX8_meetOnce 137 = .ok (.aload_n 0, 1) := by decide +kernel
theorem dX8_meetOnce_138 : decode cX8_meetOnce 138 = .ok (.getfield 38, 3) := by decide +kernel
theorem dX8_meetOnce_141 : decode cX8_meetOnce 141 = .ok (.iconst 4, 1) := by decide +kernel
theorem dX8_meetOnce_142 : decode cX8_meetOnce 142 = .ok (.iload 6, 2) := by decide +kernel
theorem dX8_meetOnce_144 : decode cX8_meetOnce 144 = .ok (.invokevirtual 149, 3) := by decide +kernel
theorem dX8_meetOnce_147 : decode cX8_meetOnce 147 = .ok (.aload_n 0, 1) := by decide +kernel
theorem dX8_meetOnce_148 : decode cX8_meetOnce 148 = .ok (.getfield 38, 3) := by decide +kernel
theorem dX8_meetOnce_151 : decode cX8_meetOnce 151 = .ok (.iconst 5, 1) := by decide +kernel
theorem dX8_meetOnce_152 : decode cX8_meetOnce 152 = .ok (.iload 9, 2) := by decide +kernel
theorem dX8_meetOnce_154 : decode cX8_meetOnce 154 = .ok (.invokevirtual 149, 3) := by decide +kernel
theorem dX8_meetOnce_157 : decode cX8_meetOnce 157 = .ok (.aload_n 0, 1) := by decide +kernel
theorem dX8_meetOnce_158 : decode cX8_meetOnce 158 = .ok (.getfield 38, 3) := by decide +kernel
theorem dX8_meetOnce_161 : decode cX8_meetOnce 161 = .ok (.bipush 6, 2) := by decide +kernel
theorem dX8_meetOnce_163 : decode cX8_meetOnce 163 = .ok (.iload 10, 2) := by decide +kernel
theorem dX8_meetOnce_165 : decode cX8_meetOnce 165 = .ok (.invokevirtual 149, 3) := by decide +kernel
theorem dX8_meetOnce_168 : decode cX8_meetOnce 168 = .ok (.aload_n 0, 1) := by decide +kernel
theorem dX8_meetOnce_169 : decode cX8_meetOnce 169 = .ok (.getfield 20, 3) := by decide +kernel
theorem dX8_meetOnce_172 : decode cX8_meetOnce 172 = .ok (.iload_n 3, 1) := by decide +kernel
theorem dX8_meetOnce_173 : decode cX8_meetOnce 173 = .ok (.aaload, 1) := by decide +kernel
theorem dX8_meetOnce_174 : decode cX8_meetOnce 174 = .ok (.iload 4, 2) := by decide +kernel
theorem dX8_meetOnce_176 : decode cX8_meetOnce 176 = .ok (.iload 10, 2) := by decide +kernel
theorem dX8_meetOnce_178 : decode cX8_meetOnce 178 = .ok (.invokevirtual 153, 3) := by decide +kernel
theorem dX8_meetOnce_181 : decode cX8_meetOnce 181 = .ok (.aload_n 0, 1) := by decide +kernel
theorem dX8_meetOnce_182 : decode cX8_meetOnce 182 = .ok (.getfield 20, 3) := by decide +kernel
theorem dX8_meetOnce_185 : decode cX8_meetOnce 185 = .ok (.iload 4, 2) := by decide +kernel
theorem dX8_meetOnce_187 : decode cX8_meetOnce 187 = .ok (.aaload, 1) := by decide +kernel
theorem dX8_meetOnce_188 : decode cX8_meetOnce 188 = .ok (.iload_n 3, 1) := by decide +kernel
theorem dX8_meetOnce_189 : decode cX8_meetOnce 189 = .ok (.iload 9, 2) := by decide +kernel
theorem dX8_meetOnce_191 : decode cX8_meetOnce 191 = .ok (.invokevirtual 153, 3) := by decide +kernel
theorem dX8_meetOnce_194 : decode cX8_meetOnce 194 = .ok (.aload_n 0, 1) := by decide +kernel
theorem dX8_meetOnce_195 : decode cX8_meetOnce 195 = .ok (.getfield 20, 3) := by decide +kernel
theorem dX8_meetOnce_198 : decode cX8_meetOnce 198 = .ok (.iload_n 3, 1) := by decide +kernel
theorem dX8_meetOnce_199 : decode cX8_meetOnce 199 = .ok (.aaload, 1) := by decide +kernel
theorem dX8_meetOnce_200 : decode cX8_meetOnce 200 = .ok (.aload_n 0, 1) := by decide +kernel
theorem dX8_meetOnce_201 : decode cX8_meetOnce 201 = .ok (.getfield 20, 3) := by decide +kernel
theorem dX8_meetOnce_204 : decode cX8_meetOnce 204 = .ok (.iload 4, 2) := by decide +kernel
theorem dX8_meetOnce_206 : decode cX8_meetOnce 206 = .ok (.aaload, 1) := by decide +kernel
theorem dX8_meetOnce_207 : decode cX8_meetOnce 207 = .ok (.iload 9, 2) := by decide +kernel
theorem dX8_meetOnce_209 : decode cX8_meetOnce 209 = .ok (.iload 10, 2) := by decide +kernel
theorem dX8_meetOnce_211 : decode cX8_meetOnce 211 = .ok (.invokestatic 156, 3) := by decide +kernel
theorem dX8_meetOnce_214 : decode cX8_meetOnce 214 = .ok (.aload_n 0, 1) := by decide +kernel
theorem dX8_meetOnce_215 : decode cX8_meetOnce 215 = .ok (.dup, 1) := by decide +kernel
theorem dX8_meetOnce_216 : decode cX8_meetOnce 216 = .ok (.getfield 81, 3) := by decide +kernel
theorem dX8_meetOnce_219 : decode cX8_meetOnce 219 = .ok (.iload 9, 2) := by decide +kernel
theorem dX8_meetOnce_221 : decode cX8_meetOnce 221 = .ok (.invokestatic 160, 3) := by decide +kernel
theorem dX8_meetOnce_224 : decode cX8_meetOnce 224 = .ok (.iload 10, 2) := by decide +kernel
theorem dX8_meetOnce_226 : decode cX8_meetOnce 226 = .ok (.invokestatic 160, 3) := by decide +kernel
theorem dX8_meetOnce_229 : decode cX8_meetOnce 229 = .ok (.invokestatic 128, 3) := by decide +kernel
theorem dX8_meetOnce_232 : decode cX8_meetOnce 232 = .ok (.iadd, 1) := by decide +kernel
theorem dX8_meetOnce_233 : decode cX8_meetOnce 233 = .ok (.putfield 81, 3) := by decide +kernel
theorem dX8_meetOnce_236 : decode cX8_meetOnce 236 = .ok (.iload 7, 2) := by decide +kernel
theorem dX8_meetOnce_238 : decode cX8_meetOnce 238 = .ok (.ireturn, 1) := by decide +kernel
theorem dX8_writeDown_0 : decode cX8_writeDown 0 = .ok (.aload_n 0, 1) := by decide +kernel
theorem dX8_writeDown_1 : decode cX8_writeDown 1 = .ok (.dup, 1) := by decide +kernel
theorem dX8_writeDown_2 : decode cX8_writeDown 2 = .ok (.getfield 72, 3) := by decide +kernel
theorem dX8_writeDown_5 : decode cX8_writeDown 5 = .ok (.iconst 1, 1) := by decide +kernel
theorem dX8_writeDown_6 : decode cX8_writeDown 6 = .ok (.iadd, 1) := by decide +kernel
theorem dX8_writeDown_7 : decode cX8_writeDown 7 = .ok (.putfield 72, 3) := by decide +kernel
theorem dX8_writeDown_10 : decode cX8_writeDown 10 = .ok (.aload_n 0, 1) := by decide +kernel
theorem dX8_writeDown_11 : decode cX8_writeDown 11 = .ok (.dup, 1) := by decide +kernel
theorem dX8_writeDown_12 : decode cX8_writeDown 12 = .ok (.getfield 75, 3) := by decide +kernel
theorem dX8_writeDown_15 : decode cX8_writeDown 15 = .ok (.iload_n 3, 1) := by decide +kernel
theorem dX8_writeDown_16 : decode cX8_writeDown 16 = .ok (.iadd, 1) := by decide +kernel
theorem dX8_writeDown_17 : decode cX8_writeDown 17 = .ok (.putfield 75, 3) := by decide +kernel
theorem dX8_writeDown_20 : decode cX8_writeDown 20 = .ok (.aload_n 0, 1) := by decide +kernel
theorem dX8_writeDown_21 : decode cX8_writeDown 21 = .ok (.getfield 38, 3) := by decide +kernel
theorem dX8_writeDown_24 : decode cX8_writeDown 24 = .ok (.invokevirtual 164, 3) := by decide +kernel
theorem dX8_writeDown_27 : decode cX8_writeDown 27 = .ok (.aload_n 0, 1) := by decide +kernel
theorem dX8_writeDown_28 : decode cX8_writeDown 28 = .ok (.getfield 38, 3) := by decide +kernel
theorem dX8_writeDown_31 : decode cX8_writeDown 31 = .ok (.iconst 0, 1) := by decide +kernel
theorem dX8_writeDown_32 : decode cX8_writeDown 32 = .ok (.aload_n 0, 1) := by decide +kernel
theorem dX8_writeDown_33 : decode cX8_writeDown 33 = .ok (.getfield 69, 3) := by decide +kernel
theorem dX8_writeDown_36 : decode cX8_writeDown 36 = .ok (.invokevirtual 149, 3) := by decide +kernel
theorem dX8_writeDown_39 : decode cX8_writeDown 39 = .ok (.aload_n 0, 1) := by decide +kernel
theorem dX8_writeDown_40 : decode cX8_writeDown 40 = .ok (.getfield 38, 3) := by decide +kernel
theorem dX8_writeDown_43 : decode cX8_writeDown 43 = .ok (.iconst 1, 1) := by decide +kernel
theorem dX8_writeDown_44 : decode cX8_writeDown 44 = .ok (.iload_n 1, 1) := by decide +kernel
theorem dX8_writeDown_45 : decode cX8_writeDown 45 = .ok (.invokevirtual 149, 3) := by decide +kernel
theorem dX8_writeDown_48 : decode cX8_writeDown 48 = .ok (.aload_n 0, 1) := by decide +kernel
theorem dX8_writeDown_49 : decode cX8_writeDown 49 = .ok (.getfield 38, 3) := by decide +kernel
theorem dX8_writeDown_52 : decode cX8_writeDown 52 = .ok (.iconst 2, 1) := by decide +kernel
theorem dX8_writeDown_53 : decode cX8_writeDown 53 = .ok (.iload_n 2, 1) := by decide +kernel
theorem dX8_writeDown_54 : decode cX8_writeDown 54 = .ok (.invokevirtual 149, 3) := by decide +kernel
theorem dX8_writeDown_57 : decode cX8_writeDown 57 = .ok (.aload_n 0, 1) := by decide +kernel
theorem dX8_writeDown_58 : decode cX8_writeDown 58 = .ok (.getfield 38, 3) := by decide +kernel
theorem dX8_writeDown_61 : decode cX8_writeDown 61 = .ok (.bipush 7, 2) := by decide +kernel
theorem dX8_writeDown_63 : decode cX8_writeDown 63 = .ok (.iload_n 3, 1) := by decide +kernel
theorem dX8_writeDown_64 : decode cX8_writeDown 64 = .ok (.invokevirtual 149, 3) := by decide +kernel
theorem dX8_writeDown_67 : decode cX8_writeDown 67 = .ok (.return_, 1) := by decide +kernel
theorem dX8_passColdOn_0 : decode cX8_passColdOn 0 = .ok (.iload_n 2, 1) := by decide +kernel
theorem dX8_passColdOn_1 : decode cX8_passColdOn 1 = .ok (.invokestatic 167, 3) := by decide +kernel
theorem dX8_passColdOn_4 : decode cX8_passColdOn 4 = .ok (.ifCond .eq 10, 3) := by decide +kernel
theorem dX8_passColdOn_7 : decode cX8_passColdOn 7 = .ok (.iload_n 3, 1) := by decide +kernel
theorem dX8_passColdOn_8 : decode cX8_passColdOn 8 = .ok (.invokestatic 167, 3) := by decide +kernel
theorem dX8_passColdOn_11 : decode cX8_passColdOn 11 = .ok (.ifCond .ne 7, 3) := by decide +kernel
theorem dX8_passColdOn_14 : decode cX8_passColdOn 14 = .ok (.iconst 1, 1) := by decide +kernel
theorem dX8_passColdOn_15 : decode cX8_passColdOn 15 = .ok (.goto 4, 3) := by decide +kernel
theorem dX8_passColdOn_18 : decode cX8_passColdOn 18 = .ok (.iconst 0, 1) := by decide +kernel
theorem dX8_passColdOn_19 : decode cX8_passColdOn 19 = .ok (.istore 4, 2) := by decide +kernel
theorem dX8_passColdOn_21 : decode cX8_passColdOn 21 = .ok (.iload 4, 2) := by decide +kernel
theorem dX8_passColdOn_23 : decode cX8_passColdOn 23 = .ok (.ifCond .ne 27, 3) := by decide +kernel
theorem dX8_passColdOn_26 : decode cX8_passColdOn 26 = .ok (.aload_n 0, 1) := by decide +kernel
theorem dX8_passColdOn_27 : decode cX8_passColdOn 27 = .ok (.getfield 106, 3) := by decide +kernel
theorem dX8_passColdOn_30 : decode cX8_passColdOn 30 = .ok (.ifCond .ne 10, 3) := by decide +kernel
theorem dX8_passColdOn_33 : decode cX8_passColdOn 33 = .ok (.aload_n 1, 1) := by decide +kernel
theorem dX8_passColdOn_34 : decode cX8_passColdOn 34 = .ok (.getfield 106, 3) := by decide +kernel
theorem dX8_passColdOn_37 : decode cX8_passColdOn 37 = .ok (.ifCond .eq 13, 3) := by decide +kernel
theorem dX8_passColdOn_40 : decode cX8_passColdOn 40 = .ok (.aload_n 0, 1) := by decide +kernel
theorem dX8_passColdOn_41 : decode cX8_passColdOn 41 = .ok (.iconst 1, 1) := by decide +kernel
theorem dX8_passColdOn_42 : decode cX8_passColdOn 42 = .ok (.putfield 106, 3) := by decide +kernel
theorem dX8_passColdOn_45 : decode cX8_passColdOn 45 = .ok (.aload_n 1, 1) := by decide +kernel
theorem dX8_passColdOn_46 : decode cX8_passColdOn 46 = .ok (.iconst 1, 1) := by decide +kernel
theorem dX8_passColdOn_47 : decode cX8_passColdOn 47 = .ok (.putfield 106, 3) := by decide +kernel
theorem dX8_passColdOn_50 : decode cX8_passColdOn 50 = .ok (.return_, 1) := by decide +kernel
theorem dX8_whoYields_0 : decode cX8_whoYields 0 = .ok (.aload_n 0, 1) := by decide +kernel
theorem dX8_whoYields_1 : decode cX8_whoYields 1 = .ok (.getfield 20, 3) := by decide +kernel
theorem dX8_whoYields_4 : decode cX8_whoYields 4 = .ok (.iload_n 2, 1) := by decide +kernel
theorem dX8_whoYields_5 : decode cX8_whoYields 5 = .ok (.aaload, 1) := by decide +kernel
theorem dX8_whoYields_6 : decode cX8_whoYields 6 = .ok (.getfield 93, 3) := by decide +kernel
theorem dX8_whoYields_9 : decode cX8_whoYields 9 = .ok (.aload_n 0, 1) := by decide +kernel
theorem dX8_whoYields_10 : decode cX8_whoYields 10 = .ok (.getfield 20, 3) := by decide +kernel
theorem dX8_whoYields_13 : decode cX8_whoYields 13 = .ok (.iload_n 1, 1) := by decide +kernel
theorem dX8_whoYields_14 : decode cX8_whoYields 14 = .ok (.aaload, 1) := by decide +kernel
theorem dX8_whoYields_15 : decode cX8_whoYields 15 = .ok (.getfield 93, 3) := by decide +kernel
theorem dX8_whoYields_18 : decode cX8_whoYields 18 = .ok (.if_icmp .ge 7, 3) := by decide +kernel
theorem dX8_whoYields_21 : decode cX8_whoYields 21 = .ok (.iload_n 2, 1) := by decide +kernel
theorem dX8_whoYields_22 : decode cX8_whoYields 22 = .ok (.goto 4, 3) := by decide +kernel
theorem dX8_whoYields_25 : decode cX8_whoYields 25 = .ok (.iload_n 1, 1) := by decide +kernel
theorem dX8_whoYields_26 : decode cX8_whoYields 26 = .ok (.istore_n 3, 1) := by decide +kernel
theorem dX8_whoYields_27 : decode cX8_whoYields 27 = .ok (.iload_n 1, 1) := by decide +kernel
theorem dX8_whoYields_28 : decode cX8_whoYields 28 = .ok (.iload_n 2, 1) := by decide +kernel
theorem dX8_whoYields_29 : decode cX8_whoYields 29 = .ok (.iadd, 1) := by decide +kernel
theorem dX8_whoYields_30 : decode cX8_whoYields 30 = .ok (.iload_n 3, 1) := by decide +kernel
theorem dX8_whoYields_31 : decode cX8_whoYields 31 = .ok (.isub, 1) := by decide +kernel
theorem dX8_whoYields_32 : decode cX8_whoYields 32 = .ok (.istore 4, 2) := by decide +kernel
theorem dX8_whoYields_34 : decode cX8_whoYields 34 = .ok (.aload_n 0, 1) := by decide +kernel
theorem dX8_whoYields_35 : decode cX8_whoYields 35 = .ok (.invokevirtual 170, 3) := by decide +kernel
theorem dX8_whoYields_38 : decode cX8_whoYields 38 = .ok (.aload_n 0, 1) := by decide +kernel
theorem dX8_whoYields_39 : decode cX8_whoYields 39 = .ok (.getfield 20, 3) := by decide +kernel
theorem dX8_whoYields_42 : decode cX8_whoYields 42 = .ok (.iload_n 3, 1) := by decide +kernel
theorem dX8_whoYields_43 : decode cX8_whoYields 43 = .ok (.aaload, 1) := by decide +kernel
theorem dX8_whoYields_44 : decode cX8_whoYields 44 = .ok (.getfield 96, 3) := by decide +kernel
theorem dX8_whoYields_47 : decode cX8_whoYields 47 = .ok (.if_icmp .ge 5, 3) := by decide +kernel
theorem dX8_whoYields_50 : decode cX8_whoYields 50 = .ok (.iload_n 3, 1) := by decide +kernel
theorem dX8_whoYields_51 : decode cX8_whoYields 51 = .ok (.ireturn, 1) := by decide +kernel
theorem dX8_whoYields_52 : decode cX8_whoYields 52 = .ok (.aload_n 0, 1) := by decide +kernel
theorem dX8_whoYields_53 : decode cX8_whoYields 53 = .ok (.invokevirtual 170, 3) := by decide +kernel
theorem dX8_whoYields_56 : decode cX8_whoYields 56 = .ok (.aload_n 0, 1) := by decide +kernel
theorem dX8_whoYields_57 : decode cX8_whoYields 57 = .ok (.getfield 20, 3) := by decide +kernel
theorem dX8_whoYields_60 : decode cX8_whoYields 60 = .ok (.iload 4, 2) := by decide +kernel
theorem dX8_whoYields_62 : decode cX8_whoYields 62 = .ok (.aaload, 1) := by decide +kernel
theorem dX8_whoYields_63 : decode cX8_whoYields 63 = .ok (.getfield 96, 3) := by decide +kernel
theorem dX8_whoYields_66 : decode cX8_whoYields 66 = .ok (.if_icmp .ge 8, 3) := by decide +kernel
theorem dX8_whoYields_69 : decode cX8_whoYields 69 = .ok (.iload 4, 2) := by decide +kernel
theorem dX8_whoYields_71 : decode cX8_whoYields 71 = .ok (.goto 4, 3) := by decide +kernel
theorem dX8_whoYields_74 : decode cX8_whoYields 74 = .ok (.iconst (-1), 1) := by decide +kernel
theorem dX8_whoYields_75 : decode cX8_whoYields 75 = .ok (.ireturn, 1) := by decide +kernel
theorem dX8_drawBelow100_0 : decode cX8_drawBelow100 0 = .ok (.aload_n 0, 1) := by decide +kernel
theorem dX8_drawBelow100_1 : decode cX8_drawBelow100 1 = .ok (.ldc 174, 2) := by decide +kernel
theorem dX8_drawBelow100_3 : decode cX8_drawBelow100 3 = .ok (.aload_n 0, 1) := by decide +kernel
theorem dX8_drawBelow100_4 : decode cX8_drawBelow100 4 = .ok (.getfield 31, 3) := by decide +kernel
theorem dX8_drawBelow100_7 : decode cX8_drawBelow100 7 = .ok (.imul, 1) := by decide +kernel
theorem dX8_drawBelow100_8 : decode cX8_drawBelow100 8 = .ok (.sipush 12345, 3) := by decide +kernel
theorem dX8_drawBelow100_11 : decode cX8_drawBelow100 11 = .ok (.iadd, 1) := by decide +kernel
theorem dX8_drawBelow100_12 : decode cX8_drawBelow100 12 = .ok (.putfield 31, 3) := by decide +kernel
theorem dX8_drawBelow100_15 : decode cX8_drawBelow100 15 = .ok (.aload_n 0, 1) := by decide +kernel
theorem dX8_drawBelow100_16 : decode cX8_drawBelow100 16 = .ok (.getfield 31, 3) := by decide +kernel
theorem dX8_drawBelow100_19 : decode cX8_drawBelow100 19 = .ok (.bipush 16, 2) := by decide +kernel
theorem dX8_drawBelow100_21 : decode cX8_drawBelow100 21 = .ok (.iushr, 1) := by decide +kernel
theorem dX8_drawBelow100_22 : decode cX8_drawBelow100 22 = .ok (.sipush 32767, 3) := by decide +kernel
theorem dX8_drawBelow100_25 : decode cX8_drawBelow100 25 = .ok (.iand, 1) := by decide +kernel
theorem dX8_drawBelow100_26 : decode cX8_drawBelow100 26 = .ok (.bipush 100, 2) := by decide +kernel
theorem dX8_drawBelow100_28 : decode cX8_drawBelow100 28 = .ok (.irem, 1) := by decide +kernel
theorem dX8_drawBelow100_29 : decode cX8_drawBelow100 29 = .ok (.ireturn, 1) := by decide +kernel
theorem dX8_costOfOwns_0 : decode cX8_costOfOwns 0 = .ok (.aload_n 0, 1) := by decide +kernel
theorem dX8_costOfOwns_1 : decode cX8_costOfOwns 1 = .ok (.getfield 12, 3) := by decide +kernel
theorem dX8_costOfOwns_4 : decode cX8_costOfOwns 4 = .ok (.getfield 133, 3) := by decide +kernel
theorem dX8_costOfOwns_7 : decode cX8_costOfOwns 7 = .ok (.aload_n 0, 1) := by decide +kernel
theorem dX8_costOfOwns_8 : decode cX8_costOfOwns 8 = .ok (.getfield 20, 3) := by decide +kernel
theorem dX8_costOfOwns_11 : decode cX8_costOfOwns 11 = .ok (.iload_n 1, 1) := by decide +kernel
theorem dX8_costOfOwns_12 : decode cX8_costOfOwns 12 = .ok (.aaload, 1) := by decide +kernel
theorem dX8_costOfOwns_13 : decode cX8_costOfOwns 13 = .ok (.getfield 90, 3) := by decide +kernel
theorem dX8_costOfOwns_16 : decode cX8_costOfOwns 16 = .ok (.aload_n 0, 1) := by decide +kernel
theorem dX8_costOfOwns_17 : decode cX8_costOfOwns 17 = .ok (.getfield 20, 3) := by decide +kernel
theorem dX8_costOfOwns_20 : decode cX8_costOfOwns 20 = .ok (.iload_n 2, 1) := by decide +kernel
theorem dX8_costOfOwns_21 : decode cX8_costOfOwns 21 = .ok (.aaload, 1) := by decide +kernel
theorem dX8_costOfOwns_22 : decode cX8_costOfOwns 22 = .ok (.getfield 90, 3) := by decide +kernel
theorem dX8_costOfOwns_25 : decode cX8_costOfOwns 25 = .ok (.invokevirtual 137, 3) := by decide +kernel
theorem dX8_costOfOwns_28 : decode cX8_costOfOwns 28 = .ok (.ireturn, 1) := by decide +kernel
theorem dX8_expectedByAll_0 : decode cX8_expectedByAll 0 = .ok (.iconst 0, 1) := by decide +kernel
theorem dX8_expectedByAll_1 : decode cX8_expectedByAll 1 = .ok (.istore_n 2, 1) := by decide +kernel
theorem dX8_expectedByAll_2 : decode cX8_expectedByAll 2 = .ok (.iconst 0, 1) := by decide +kernel
theorem dX8_expectedByAll_3 : decode cX8_expectedByAll 3 = .ok (.istore_n 3, 1) := by decide +kernel
theorem dX8_expectedByAll_4 : decode cX8_expectedByAll 4 = .ok (.iload_n 3, 1) := by decide +kernel
theorem dX8_expectedByAll_5 : decode cX8_expectedByAll 5 = .ok (.aload_n 0, 1) := by decide +kernel
theorem dX8_expectedByAll_6 : decode cX8_expectedByAll 6 = .ok (.getfield 50, 3) := by decide +kernel
theorem dX8_expectedByAll_9 : decode cX8_expectedByAll 9 = .ok (.if_icmp .ge 29, 3) := by decide +kernel
theorem dX8_expectedByAll_12 : decode cX8_expectedByAll 12 = .ok (.iload_n 2, 1) := by decide +kernel
theorem dX8_expectedByAll_13 : decode cX8_expectedByAll 13 = .ok (.aload_n 0, 1) := by decide +kernel
theorem dX8_expectedByAll_14 : decode cX8_expectedByAll 14 = .ok (.getfield 12, 3) := by decide +kernel
theorem dX8_expectedByAll_17 : decode cX8_expectedByAll 17 = .ok (.aload_n 0, 1) := by decide +kernel
theorem dX8_expectedByAll_18 : decode cX8_expectedByAll 18 = .ok (.getfield 20, 3) := by decide +kernel
theorem dX8_expectedByAll_21 : decode cX8_expectedByAll 21 = .ok (.iload_n 3, 1) := by decide +kernel
theorem dX8_expectedByAll_22 : decode cX8_expectedByAll 22 = .ok (.aaload, 1) := by decide +kernel
theorem dX8_expectedByAll_23 : decode cX8_expectedByAll 23 = .ok (.getfield 87, 3) := by decide +kernel
theorem dX8_expectedByAll_26 : decode cX8_expectedByAll 26 = .ok (.iload_n 1, 1) := by decide +kernel
theorem dX8_expectedByAll_27 : decode cX8_expectedByAll 27 = .ok (.invokevirtual 175, 3) := by decide +kernel
theorem dX8_expectedByAll_30 : decode cX8_expectedByAll 30 = .ok (.iadd, 1) := by decide +kernel
theorem dX8_expectedByAll_31 : decode cX8_expectedByAll 31 = .ok (.istore_n 2, 1) := by decide +kernel
theorem dX8_expectedByAll_32 : decode cX8_expectedByAll 32 = .ok (.iinc 3 1, 3) := by decide +kernel
theorem dX8_expectedByAll_35 : decode cX8_expectedByAll 35 = .ok (.goto (-31), 3) := by decide +kernel
theorem dX8_expectedByAll_38 : decode cX8_expectedByAll 38 = .ok (.iload_n 2, 1) := by decide +kernel
theorem dX8_expectedByAll_39 : decode cX8_expectedByAll 39 = .ok (.ireturn, 1) := by decide +kernel
theorem dX8_costByRule_0 : decode cX8_costByRule 0 = .ok (.iconst 0, 1) := by decide +kernel
theorem dX8_costByRule_1 : decode cX8_costByRule 1 = .ok (.istore_n 2, 1) := by decide +kernel
theorem dX8_costByRule_2 : decode cX8_costByRule 2 = .ok (.iconst 0, 1) := by decide +kernel
theorem dX8_costByRule_3 : decode cX8_costByRule 3 = .ok (.istore_n 3, 1) := by decide +kernel
theorem dX8_costByRule_4 : decode cX8_costByRule 4 = .ok (.iload_n 3, 1) := by decide +kernel
theorem dX8_costByRule_5 : decode cX8_costByRule 5 = .ok (.aload_n 0, 1) := by decide +kernel
theorem dX8_costByRule_6 : decode cX8_costByRule 6 = .ok (.getfield 59, 3) := by decide +kernel
theorem dX8_costByRule_9 : decode cX8_costByRule 9 = .ok (.if_icmp .ge 113, 3) := by decide +kernel
theorem dX8_costByRule_12 : decode cX8_costByRule 12 = .ok (.aload_n 0, 1) := by decide +kernel
theorem dX8_costByRule_13 : decode cX8_costByRule 13 = .ok (.getfield 24, 3) := by decide +kernel
theorem dX8_costByRule_16 : decode cX8_costByRule 16 = .ok (.iload_n 3, 1) := by decide +kernel
theorem dX8_costByRule_17 : decode cX8_costByRule 17 = .ok (.iaload, 1) := by decide +kernel
theorem dX8_costByRule_18 : decode cX8_costByRule 18 = .ok (.aload_n 0, 1) := by decide +kernel
theorem dX8_costByRule_19 : decode cX8_costByRule 19 = .ok (.getfield 28, 3) := by decide +kernel
theorem dX8_costByRule_22 : decode cX8_costByRule 22 = .ok (.iload_n 3, 1) := by decide +kernel
theorem dX8_costByRule_23 : decode cX8_costByRule 23 = .ok (.iaload, 1) := by decide +kernel
theorem dX8_costByRule_24 : decode cX8_costByRule 24 = .ok (.invokestatic 123, 3) := by decide +kernel
theorem dX8_costByRule_27 : decode cX8_costByRule 27 = .ok (.istore 4, 2) := by decide +kernel
theorem dX8_costByRule_29 : decode cX8_costByRule 29 = .ok (.aload_n 0, 1) := by decide +kernel
theorem dX8_costByRule_30 : decode cX8_costByRule 30 = .ok (.getfield 24, 3) := by decide +kernel
theorem dX8_costByRule_33 : decode cX8_costByRule 33 = .ok (.iload_n 3, 1) := by decide +kernel
theorem dX8_costByRule_34 : decode cX8_costByRule 34 = .ok (.iaload, 1) := by decide +kernel
theorem dX8_costByRule_35 : decode cX8_costByRule 35 = .ok (.aload_n 0, 1) := by decide +kernel
theorem dX8_costByRule_36 : decode cX8_costByRule 36 = .ok (.getfield 28, 3) := by decide +kernel
theorem dX8_costByRule_39 : decode cX8_costByRule 39 = .ok (.iload_n 3, 1) := by decide +kernel
theorem dX8_costByRule_40 : decode cX8_costByRule 40 = .ok (.iaload, 1) := by decide +kernel
theorem dX8_costByRule_41 : decode cX8_costByRule 41 = .ok (.invokestatic 128, 3) := by decide +kernel
theorem dX8_costByRule_44 : decode cX8_costByRule 44 = .ok (.istore 5, 2) := by decide +kernel
theorem dX8_costByRule_46 : decode cX8_costByRule 46 = .ok (.aload_n 0, 1) := by decide +kernel
theorem dX8_costByRule_47 : decode cX8_costByRule 47 = .ok (.getfield 12, 3) := by decide +kernel
theorem dX8_costByRule_50 : decode cX8_costByRule 50 = .ok (.getfield 133, 3) := by decide +kernel
theorem dX8_costByRule_53 : decode cX8_costByRule 53 = .ok (.aload_n 0, 1) := by decide +kernel
theorem dX8_costByRule_54 : decode cX8_costByRule 54 = .ok (.iload 4, 2) := by decide +kernel
theorem dX8_costByRule_56 : decode cX8_costByRule 56 = .ok (.iload 5, 2) := by decide +kernel
theorem dX8_costByRule_58 : decode cX8_costByRule 58 = .ok (.invokevirtual 131, 3) := by decide +kernel
theorem dX8_costByRule_61 : decode cX8_costByRule 61 = .ok (.aload_n 0, 1) := by decide +kernel
theorem dX8_costByRule_62 : decode cX8_costByRule 62 = .ok (.iload 5, 2) := by decide +kernel
theorem dX8_costByRule_64 : decode cX8_costByRule 64 = .ok (.iload 4, 2) := by decide +kernel
theorem dX8_costByRule_66 : decode cX8_costByRule 66 = .ok (.invokevirtual 131, 3) := by decide +kernel
theorem dX8_costByRule_69 : decode cX8_costByRule 69 = .ok (.invokevirtual 137, 3) := by decide +kernel
theorem dX8_costByRule_72 : decode cX8_costByRule 72 = .ok (.istore 6, 2) := by decide +kernel
theorem dX8_costByRule_74 : decode cX8_costByRule 74 = .ok (.aload_n 0, 1) := by decide +kernel
theorem dX8_costByRule_75 : decode cX8_costByRule 75 = .ok (.iload_n 1, 1) := by decide +kernel
theorem dX8_costByRule_76 : decode cX8_costByRule 76 = .ok (.iload 4, 2) := by decide +kernel
theorem dX8_costByRule_78 : decode cX8_costByRule 78 = .ok (.iload 5, 2) := by decide +kernel
theorem dX8_costByRule_80 : decode cX8_costByRule 80 = .ok (.invokevirtual 178, 3) := by decide +kernel
theorem dX8_costByRule_83 : decode cX8_costByRule 83 = .ok (.iload 4, 2) := by decide +kernel
theorem dX8_costByRule_85 : decode cX8_costByRule 85 = .ok (.if_icmp .ne 8, 3) := by decide +kernel
theorem dX8_costByRule_88 : decode cX8_costByRule 88 = .ok (.iload 5, 2) := by decide +kernel
theorem dX8_costByRule_90 : decode cX8_costByRule 90 = .ok (.goto 5, 3) := by decide +kernel
theorem dX8_costByRule_93 : decode cX8_costByRule 93 = .ok (.iload 4, 2) := by decide +kernel
theorem dX8_costByRule_95 : decode cX8_costByRule 95 = .ok (.istore 7, 2) := by decide +kernel
theorem dX8_costByRule_97 : decode cX8_costByRule 97 = .ok (.iload_n 2, 1) := by decide +kernel
theorem dX8_costByRule_98 : decode cX8_costByRule 98 = .ok (.iload 6, 2) := by decide +kernel
theorem dX8_costByRule_100 : decode cX8_costByRule 100 = .ok (.bipush 100, 2) := by decide +kernel
theorem dX8_costByRule_102 : decode cX8_costByRule 102 = .ok (.aload_n 0, 1) := by decide +kernel
theorem dX8_costByRule_103 : decode cX8_costByRule 103 = .ok (.getfield 20, 3) := by decide +kernel
theorem dX8_costByRule_106 : decode cX8_costByRule 106 = .ok (.iload 7, 2) := by decide +kernel
theorem dX8_costByRule_108 : decode cX8_costByRule 108 = .ok (.aaload, 1) := by decide +kernel
theorem dX8_costByRule_109 : decode cX8_costByRule 109 = .ok (.getfield 96, 3) := by decide +kernel
theorem dX8_costByRule_112 : decode cX8_costByRule 112 = .ok (.isub, 1) := by decide +kernel
theorem dX8_costByRule_113 : decode cX8_costByRule 113 = .ok (.imul, 1) := by decide +kernel
theorem dX8_costByRule_114 : decode cX8_costByRule 114 = .ok (.iadd, 1) := by decide +kernel
theorem dX8_costByRule_115 : decode cX8_costByRule 115 = .ok (.istore_n 2, 1) := by decide +kernel
theorem dX8_costByRule_116 : decode cX8_costByRule 116 = .ok (.iinc 3 1, 3) := by decide +kernel
theorem dX8_costByRule_119 : decode cX8_costByRule 119 = .ok (.goto (-115), 3) := by decide +kernel
theorem dX8_costByRule_122 : decode cX8_costByRule 122 = .ok (.iload_n 2, 1) := by decide +kernel
theorem dX8_costByRule_123 : decode cX8_costByRule 123 = .ok (.ireturn, 1) := by decide +kernel
theorem dX8_beginner_0 : decode cX8_beginner 0 = .ok (.aload_n 0, 1) := by decide +kernel
theorem dX8_beginner_1 : decode cX8_beginner 1 = .ok (.getfield 20, 3) := by decide +kernel
theorem dX8_beginner_4 : decode cX8_beginner 4 = .ok (.iload_n 2, 1) := by decide +kernel
theorem dX8_beginner_5 : decode cX8_beginner 5 = .ok (.aaload, 1) := by decide +kernel
theorem dX8_beginner_6 : decode cX8_beginner 6 = .ok (.getfield 93, 3) := by decide +kernel
theorem dX8_beginner_9 : decode cX8_beginner 9 = .ok (.istore 4, 2) := by decide +kernel
theorem dX8_beginner_11 : decode cX8_beginner 11 = .ok (.aload_n 0, 1) := by decide +kernel
theorem dX8_beginner_12 : decode cX8_beginner 12 = .ok (.getfield 20, 3) := by decide +kernel
theorem dX8_beginner_15 : decode cX8_beginner 15 = .ok (.iload_n 3, 1) := by decide +kernel
theorem dX8_beginner_16 : decode cX8_beginner 16 = .ok (.aaload, 1) := by decide +kernel
theorem dX8_beginner_17 : decode cX8_beginner 17 = .ok (.getfield 93, 3) := by decide +kernel
theorem dX8_beginner_20 : decode cX8_beginner 20 = .ok (.istore 5, 2) := by decide +kernel
theorem dX8_beginner_22 : decode cX8_beginner 22 = .ok (.iload_n 1, 1) := by decide +kernel
theorem dX8_beginner_23 : decode cX8_beginner 23 = .ok (.ifCond .ne 18, 3) := by decide +kernel
theorem dX8_beginner_26 : decode cX8_beginner 26 = .ok (.iload 5, 2) := by decide +kernel
theorem dX8_beginner_28 : decode cX8_beginner 28 = .ok (.iload 4, 2) := by decide +kernel
theorem dX8_beginner_30 : decode cX8_beginner 30 = .ok (.if_icmp .le 7, 3) := by decide +kernel
theorem dX8_beginner_33 : decode cX8_beginner 33 = .ok (.iconst 1, 1) := by decide +kernel
theorem dX8_beginner_34 : decode cX8_beginner 34 = .ok (.goto 24, 3) := by decide +kernel
theorem dX8_beginner_37 : decode cX8_beginner 37 = .ok (.iconst 0, 1) := by decide +kernel
theorem dX8_beginner_38 : decode cX8_beginner 38 = .ok (.goto 20, 3) := by decide +kernel
theorem dX8_beginner_41 : decode cX8_beginner 41 = .ok (.iload_n 1, 1) := by decide +kernel
theorem dX8_beginner_42 : decode cX8_beginner 42 = .ok (.iconst 1, 1) := by decide +kernel
theorem dX8_beginner_43 : decode cX8_beginner 43 = .ok (.if_icmp .ne 14, 3) := by decide +kernel
theorem dX8_beginner_46 : decode cX8_beginner 46 = .ok (.iload 5, 2) := by decide +kernel
theorem dX8_beginner_48 : decode cX8_beginner 48 = .ok (.iload 4, 2) := by decide +kernel
theorem dX8_beginner_50 : decode cX8_beginner 50 = .ok (.if_icmp .ge 7, 3) := by decide +kernel
theorem dX8_beginner_53 : decode cX8_beginner 53 = .ok (.iconst 1, 1) := by decide +kernel
theorem dX8_beginner_54 : decode cX8_beginner 54 = .ok (.goto 4, 3) := by decide +kernel
theorem dX8_beginner_57 : decode cX8_beginner 57 = .ok (.iconst 0, 1) := by decide +kernel
theorem dX8_beginner_58 : decode cX8_beginner 58 = .ok (.istore 6, 2) := by decide +kernel
theorem dX8_beginner_60 : decode cX8_beginner 60 = .ok (.iload 6, 2) := by decide +kernel
theorem dX8_beginner_62 : decode cX8_beginner 62 = .ok (.ifCond .eq 7, 3) := by decide +kernel
theorem dX8_beginner_65 : decode cX8_beginner 65 = .ok (.iload_n 3, 1) := by decide +kernel
theorem dX8_beginner_66 : decode cX8_beginner 66 = .ok (.goto 4, 3) := by decide +kernel
theorem dX8_beginner_69 : decode cX8_beginner 69 = .ok (.iload_n 2, 1) := by decide +kernel
theorem dX8_beginner_70 : decode cX8_beginner 70 = .ok (.ireturn, 1) := by decide +kernel
theorem dX8_coldsAfter_0 : decode cX8_coldsAfter 0 = .ok (.aload_n 0, 1) := by decide +kernel
theorem dX8_coldsAfter_1 : decode cX8_coldsAfter 1 = .ok (.invokevirtual 182, 3) := by decide +kernel
theorem dX8_coldsAfter_4 : decode cX8_coldsAfter 4 = .ok (.istore_n 3, 1) := by decide +kernel
theorem dX8_coldsAfter_5 : decode cX8_coldsAfter 5 = .ok (.iconst 0, 1) := by decide +kernel
theorem dX8_coldsAfter_6 : decode cX8_coldsAfter 6 = .ok (.istore 4, 2) := by decide +kernel
theorem dX8_coldsAfter_8 : decode cX8_coldsAfter 8 = .ok (.iload 4, 2) := by decide +kernel
theorem dX8_coldsAfter_10 : decode cX8_coldsAfter 10 = .ok (.iload_n 2, 1) := by decide +kernel
theorem dX8_coldsAfter_11 : decode cX8_coldsAfter 11 = .ok (.if_icmp .ge 78, 3) := by decide +kernel
theorem dX8_coldsAfter_14 : decode cX8_coldsAfter 14 = .ok (.iload_n 3, 1) := by decide +kernel
theorem dX8_coldsAfter_15 : decode cX8_coldsAfter 15 = .ok (.istore 5, 2) := by decide +kernel
theorem dX8_coldsAfter_17 : decode cX8_coldsAfter 17 = .ok (.iconst 0, 1) := by decide +kernel
theorem dX8_coldsAfter_18 : decode cX8_coldsAfter 18 = .ok (.istore 6, 2) := by decide +kernel
theorem dX8_coldsAfter_20 : decode cX8_coldsAfter 20 = .ok (.iload 6, 2) := by decide +kernel
theorem dX8_coldsAfter_22 : decode cX8_coldsAfter 22 = .ok (.aload_n 0, 1) := by decide +kernel
theorem dX8_coldsAfter_23 : decode cX8_coldsAfter 23 = .ok (.getfield 59, 3) := by decide +kernel
theorem dX8_coldsAfter_26 : decode cX8_coldsAfter 26 = .ok (.if_icmp .ge 49, 3) := by decide +kernel
theorem dX8_coldsAfter_29 : decode cX8_coldsAfter 29 = .ok (.iconst 1, 1) := by decide +kernel
theorem dX8_coldsAfter_30 : decode cX8_coldsAfter 30 = .ok (.aload_n 0, 1) := by decide +kernel
theorem dX8_coldsAfter_31 : decode cX8_coldsAfter 31 = .ok (.getfield 24, 3) := by decide +kernel
theorem dX8_coldsAfter_34 : decode cX8_coldsAfter 34 = .ok (.iload 6, 2) := by decide +kernel
theorem dX8_coldsAfter_36 : decode cX8_coldsAfter 36 = .ok (.iaload, 1) := by decide +kernel
theorem dX8_coldsAfter_37 : decode cX8_coldsAfter 37 = .ok (.ishl, 1) := by decide +kernel
theorem dX8_coldsAfter_38 : decode cX8_coldsAfter 38 = .ok (.iconst 1, 1) := by decide +kernel
theorem dX8_coldsAfter_39 : decode cX8_coldsAfter 39 = .ok (.aload_n 0, 1) := by decide +kernel
theorem dX8_coldsAfter_40 : decode cX8_coldsAfter 40 = .ok (.getfield 28, 3) := by decide +kernel
theorem dX8_coldsAfter_43 : decode cX8_coldsAfter 43 = .ok (.iload 6, 2) := by decide +kernel
theorem dX8_coldsAfter_45 : decode cX8_coldsAfter 45 = .ok (.iaload, 1) := by decide +kernel
theorem dX8_coldsAfter_46 : decode cX8_coldsAfter 46 = .ok (.ishl, 1) := by decide +kernel
theorem dX8_coldsAfter_47 : decode cX8_coldsAfter 47 = .ok (.ior, 1) := by decide +kernel
theorem dX8_coldsAfter_48 : decode cX8_coldsAfter 48 = .ok (.istore 7, 2) := by decide +kernel
theorem dX8_coldsAfter_50 : decode cX8_coldsAfter 50 = .ok (.iload 7, 2) := by decide +kernel
theorem dX8_coldsAfter_52 : decode cX8_coldsAfter 52 = .ok (.iload_n 1, 1) := by decide +kernel
theorem dX8_coldsAfter_53 : decode cX8_coldsAfter 53 = .ok (.iand, 1) := by decide +kernel
theorem dX8_coldsAfter_54 : decode cX8_coldsAfter 54 = .ok (.ifCond .ne 15, 3) := by decide +kernel
theorem dX8_coldsAfter_57 : decode cX8_coldsAfter 57 = .ok (.iload 7, 2) := by decide +kernel
theorem dX8_coldsAfter_59 : decode cX8_coldsAfter 59 = .ok (.iload_n 3, 1) := by decide +kernel
theorem dX8_coldsAfter_60 : decode cX8_coldsAfter 60 = .ok (.iand, 1) := by decide +kernel
theorem dX8_coldsAfter_61 : decode cX8_coldsAfter 61 = .ok (.ifCond .eq 8, 3) := by decide +kernel
theorem dX8_coldsAfter_64 : decode cX8_coldsAfter 64 = .ok (.iload_n 3, 1) := by decide +kernel
theorem dX8_coldsAfter_65 : decode cX8_coldsAfter 65 = .ok (.iload 7, 2) := by decide +kernel
theorem dX8_coldsAfter_67 : decode cX8_coldsAfter 67 = .ok (.ior, 1) := by decide +kernel
theorem dX8_coldsAfter_68 : decode cX8_coldsAfter 68 = .ok (.istore_n 3, 1) := by decide +kernel
theorem dX8_coldsAfter_69 : decode cX8_coldsAfter 69 = .ok (.iinc 6 1, 3) := by decide +kernel
theorem dX8_coldsAfter_72 : decode cX8_coldsAfter 72 = .ok (.goto (-52), 3) := by decide +kernel
theorem dX8_coldsAfter_75 : decode cX8_coldsAfter 75 = .ok (.iload_n 3, 1) := by decide +kernel
theorem dX8_coldsAfter_76 : decode cX8_coldsAfter 76 = .ok (.iload 5, 2) := by decide +kernel
theorem dX8_coldsAfter_78 : decode cX8_coldsAfter 78 = .ok (.if_icmp .ne 5, 3) := by decide +kernel
theorem dX8_coldsAfter_81 : decode cX8_coldsAfter 81 = .ok (.iload_n 3, 1) := by decide +kernel
theorem dX8_coldsAfter_82 : decode cX8_coldsAfter 82 = .ok (.ireturn, 1) := by decide +kernel
theorem dX8_coldsAfter_83 : decode cX8_coldsAfter 83 = .ok (.iinc 4 1, 3) := by decide +kernel
theorem dX8_coldsAfter_86 : decode cX8_coldsAfter 86 = .ok (.goto (-78), 3) := by decide +kernel
theorem dX8_coldsAfter_89 : decode cX8_coldsAfter 89 = .ok (.iload_n 3, 1) := by decide +kernel
theorem dX8_coldsAfter_90 : decode cX8_coldsAfter 90 = .ok (.ireturn, 1) := by decide +kernel
theorem dX9_init_0 : decode cX9_init 0 = .ok (.aload_n 0, 1) := by decide +kernel
theorem dX9_init_1 : decode cX9_init 1 = .ok (.aload_n 1, 1) := by decide +kernel
theorem dX9_init_2 : decode cX9_init 2 = .ok (.iload_n 2, 1) := by decide +kernel
theorem dX9_init_3 : decode cX9_init 3 = .ok (.invokespecial 3, 3) := by decide +kernel
