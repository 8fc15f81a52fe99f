theorem dX9_init_6 : decode cX9_init 6 = .ok (.aload_n 0, 1) := by decide +kernel
theorem dX9_init_7 : decode cX9_init 7 = .ok (.aload_n 3, 1) := by decide +kernel
theorem dX9_init_8 : decode cX9_init 8 = .ok (.putfield 9, 3) := by decide +kernel
theorem dX9_init_11 : decode cX9_init 11 = .ok (.return_, 1) := by decide +kernel
theorem dX9_readLine_0 : decode cX9_readLine 0 = .ok (.aload_n 0, 1) := by decide +kernel
theorem dX9_readLine_1 : decode cX9_readLine 1 = .ok (.ldc 15, 2) := by decide +kernel
theorem dX9_readLine_3 : decode cX9_readLine 3 = .ok (.invokevirtual 17, 3) := by decide +kernel
theorem dX9_readLine_6 : decode cX9_readLine 6 = .ok (.ifCond .eq 10, 3) := by decide +kernel
theorem dX9_readLine_9 : decode cX9_readLine 9 = .ok (.aload_n 0, 1) := by decide +kernel
theorem dX9_readLine_10 : decode cX9_readLine 10 = .ok (.invokevirtual 21, 3) := by decide +kernel
theorem dX9_readLine_13 : decode cX9_readLine 13 = .ok (.goto 71, 3) := by decide +kernel
theorem dX9_readLine_16 : decode cX9_readLine 16 = .ok (.aload_n 0, 1) := by decide +kernel
theorem dX9_readLine_17 : decode cX9_readLine 17 = .ok (.ldc 25, 2) := by decide +kernel
theorem dX9_readLine_19 : decode cX9_readLine 19 = .ok (.invokevirtual 17, 3) := by decide +kernel
theorem dX9_readLine_22 : decode cX9_readLine 22 = .ok (.ifCond .eq 10, 3) := by decide +kernel
theorem dX9_readLine_25 : decode cX9_readLine 25 = .ok (.aload_n 0, 1) := by decide +kernel
theorem dX9_readLine_26 : decode cX9_readLine 26 = .ok (.invokevirtual 27, 3) := by decide +kernel
theorem dX9_readLine_29 : decode cX9_readLine 29 = .ok (.goto 55, 3) := by decide +kernel
theorem dX9_readLine_32 : decode cX9_readLine 32 = .ok (.aload_n 0, 1) := by decide +kernel
theorem dX9_readLine_33 : decode cX9_readLine 33 = .ok (.ldc 30, 2) := by decide +kernel
theorem dX9_readLine_35 : decode cX9_readLine 35 = .ok (.invokevirtual 17, 3) := by decide +kernel
theorem dX9_readLine_38 : decode cX9_readLine 38 = .ok (.ifCond .eq 10, 3) := by decide +kernel
theorem dX9_readLine_41 : decode cX9_readLine 41 = .ok (.aload_n 0, 1) := by decide +kernel
theorem dX9_readLine_42 : decode cX9_readLine 42 = .ok (.invokevirtual 32, 3) := by decide +kernel
theorem dX9_readLine_45 : decode cX9_readLine 45 = .ok (.goto 39, 3) := by decide +kernel
theorem dX9_readLine_48 : decode cX9_readLine 48 = .ok (.aload_n 0, 1) := by decide +kernel
theorem dX9_readLine_49 : decode cX9_readLine 49 = .ok (.ldc 35, 2) := by decide +kernel
theorem dX9_readLine_51 : decode cX9_readLine 51 = .ok (.invokevirtual 17, 3) := by decide +kernel
theorem dX9_readLine_54 : decode cX9_readLine 54 = .ok (.ifCond .eq 10, 3) := by decide +kernel
theorem dX9_readLine_57 : decode cX9_readLine 57 = .ok (.aload_n 0, 1) := by decide +kernel
theorem dX9_readLine_58 : decode cX9_readLine 58 = .ok (.invokevirtual 37, 3) := by decide +kernel
theorem dX9_readLine_61 : decode cX9_readLine 61 = .ok (.goto 23, 3) := by decide +kernel
theorem dX9_readLine_64 : decode cX9_readLine 64 = .ok (.aload_n 0, 1) := by decide +kernel
theorem dX9_readLine_65 : decode cX9_readLine 65 = .ok (.ldc 40, 2) := by decide +kernel
theorem dX9_readLine_67 : decode cX9_readLine 67 = .ok (.invokevirtual 17, 3) := by decide +kernel
theorem dX9_readLine_70 : decode cX9_readLine 70 = .ok (.ifCond .eq 10, 3) := by decide +kernel
theorem dX9_readLine_73 : decode cX9_readLine 73 = .ok (.aload_n 0, 1) := by decide +kernel
theorem dX9_readLine_74 : decode cX9_readLine 74 = .ok (.invokevirtual 42, 3) := by decide +kernel
theorem dX9_readLine_77 : decode cX9_readLine 77 = .ok (.goto 7, 3) := by decide +kernel
theorem dX9_readLine_80 : decode cX9_readLine 80 = .ok (.aload_n 0, 1) := by decide +kernel
theorem dX9_readLine_81 : decode cX9_readLine 81 = .ok (.invokevirtual 45, 3) := by decide +kernel
theorem dX9_readLine_84 : decode cX9_readLine 84 = .ok (.return_, 1) := by decide +kernel
theorem dX9_readLand_0 : decode cX9_readLand 0 = .ok (.aload_n 0, 1) := by decide +kernel
theorem dX9_readLand_1 : decode cX9_readLand 1 = .ok (.getfield 9, 3) := by decide +kernel
theorem dX9_readLand_4 : decode cX9_readLand 4 = .ok (.getfield 48, 3) := by decide +kernel
theorem dX9_readLand_7 : decode cX9_readLand 7 = .ok (.getfield 54, 3) := by decide +kernel
theorem dX9_readLand_10 : decode cX9_readLand 10 = .ok (.bipush 6, 2) := by decide +kernel
theorem dX9_readLand_12 : decode cX9_readLand 12 = .ok (.if_icmp .lt 10, 3) := by decide +kernel
theorem dX9_readLand_15 : decode cX9_readLand 15 = .ok (.aload_n 0, 1) := by decide +kernel
theorem dX9_readLand_16 : decode cX9_readLand 16 = .ok (.invokevirtual 60, 3) := by decide +kernel
theorem dX9_readLand_19 : decode cX9_readLand 19 = .ok (.goto 19, 3) := by decide +kernel
theorem dX9_readLand_22 : decode cX9_readLand 22 = .ok (.aload_n 0, 1) := by decide +kernel
theorem dX9_readLand_23 : decode cX9_readLand 23 = .ok (.getfield 9, 3) := by decide +kernel
theorem dX9_readLand_26 : decode cX9_readLand 26 = .ok (.getfield 48, 3) := by decide +kernel
theorem dX9_readLand_29 : decode cX9_readLand 29 = .ok (.dup, 1) := by decide +kernel
theorem dX9_readLand_30 : decode cX9_readLand 30 = .ok (.getfield 54, 3) := by decide +kernel
theorem dX9_readLand_33 : decode cX9_readLand 33 = .ok (.iconst 1, 1) := by decide +kernel
theorem dX9_readLand_34 : decode cX9_readLand 34 = .ok (.iadd, 1) := by decide +kernel
theorem dX9_readLand_35 : decode cX9_readLand 35 = .ok (.putfield 54, 3) := by decide +kernel
theorem dX9_readLand_38 : decode cX9_readLand 38 = .ok (.return_, 1) := by decide +kernel
theorem dX9_readHabit_0 : decode cX9_readHabit 0 = .ok (.aload_n 0, 1) := by decide +kernel
theorem dX9_readHabit_1 : decode cX9_readHabit 1 = .ok (.getfield 9, 3) := by decide +kernel
theorem dX9_readHabit_4 : decode cX9_readHabit 4 = .ok (.getfield 48, 3) := by decide +kernel
theorem dX9_readHabit_7 : decode cX9_readHabit 7 = .ok (.getfield 63, 3) := by decide +kernel
theorem dX9_readHabit_10 : decode cX9_readHabit 10 = .ok (.bipush 24, 2) := by decide +kernel
theorem dX9_readHabit_12 : decode cX9_readHabit 12 = .ok (.if_icmp .lt 7, 3) := by decide +kernel
theorem dX9_readHabit_15 : decode cX9_readHabit 15 = .ok (.aload_n 0, 1) := by decide +kernel
theorem dX9_readHabit_16 : decode cX9_readHabit 16 = .ok (.invokevirtual 60, 3) := by decide +kernel
theorem dX9_readHabit_19 : decode cX9_readHabit 19 = .ok (.aload_n 0, 1) := by decide +kernel
theorem dX9_readHabit_20 : decode cX9_readHabit 20 = .ok (.iconst 0, 1) := by decide +kernel
theorem dX9_readHabit_21 : decode cX9_readHabit 21 = .ok (.aload_n 0, 1) := by decide +kernel
theorem dX9_readHabit_22 : decode cX9_readHabit 22 = .ok (.getfield 9, 3) := by decide +kernel
theorem dX9_readHabit_25 : decode cX9_readHabit 25 = .ok (.getfield 48, 3) := by decide +kernel
theorem dX9_readHabit_28 : decode cX9_readHabit 28 = .ok (.getfield 54, 3) := by decide +kernel
theorem dX9_readHabit_31 : decode cX9_readHabit 31 = .ok (.iconst 1, 1) := by decide +kernel
theorem dX9_readHabit_32 : decode cX9_readHabit 32 = .ok (.isub, 1) := by decide +kernel
theorem dX9_readHabit_33 : decode cX9_readHabit 33 = .ok (.invokevirtual 66, 3) := by decide +kernel
theorem dX9_readHabit_36 : decode cX9_readHabit 36 = .ok (.istore_n 1, 1) := by decide +kernel
theorem dX9_readHabit_37 : decode cX9_readHabit 37 = .ok (.aload_n 0, 1) := by decide +kernel
theorem dX9_readHabit_38 : decode cX9_readHabit 38 = .ok (.invokevirtual 70, 3) := by decide +kernel
theorem dX9_readHabit_41 : decode cX9_readHabit 41 = .ok (.istore_n 2, 1) := by decide +kernel
theorem dX9_readHabit_42 : decode cX9_readHabit 42 = .ok (.aload_n 0, 1) := by decide +kernel
theorem dX9_readHabit_43 : decode cX9_readHabit 43 = .ok (.ldc 74, 2) := by decide +kernel
theorem dX9_readHabit_45 : decode cX9_readHabit 45 = .ok (.invokevirtual 76, 3) := by decide +kernel
theorem dX9_readHabit_48 : decode cX9_readHabit 48 = .ok (.aload_n 0, 1) := by decide +kernel
theorem dX9_readHabit_49 : decode cX9_readHabit 49 = .ok (.iconst 1, 1) := by decide +kernel
theorem dX9_readHabit_50 : decode cX9_readHabit 50 = .ok (.bipush 9, 2) := by decide +kernel
theorem dX9_readHabit_52 : decode cX9_readHabit 52 = .ok (.invokevirtual 66, 3) := by decide +kernel
theorem dX9_readHabit_55 : decode cX9_readHabit 55 = .ok (.istore_n 3, 1) := by decide +kernel
theorem dX9_readHabit_56 : decode cX9_readHabit 56 = .ok (.aload_n 0, 1) := by decide +kernel
theorem dX9_readHabit_57 : decode cX9_readHabit 57 = .ok (.invokevirtual 80, 3) := by decide +kernel
theorem dX9_readHabit_60 : decode cX9_readHabit 60 = .ok (.ifCond .ne 16, 3) := by decide +kernel
theorem dX9_readHabit_63 : decode cX9_readHabit 63 = .ok (.aload_n 0, 1) := by decide +kernel
theorem dX9_readHabit_64 : decode cX9_readHabit 64 = .ok (.getfield 9, 3) := by decide +kernel
theorem dX9_readHabit_67 : decode cX9_readHabit 67 = .ok (.getfield 48, 3) := by decide +kernel
theorem dX9_readHabit_70 : decode cX9_readHabit 70 = .ok (.iload_n 1, 1) := by decide +kernel
theorem dX9_readHabit_71 : decode cX9_readHabit 71 = .ok (.iload_n 2, 1) := by decide +kernel
theorem dX9_readHabit_72 : decode cX9_readHabit 72 = .ok (.iload_n 3, 1) := by decide +kernel
theorem dX9_readHabit_73 : decode cX9_readHabit 73 = .ok (.invokevirtual 84, 3) := by decide +kernel
theorem dX9_readHabit_76 : decode cX9_readHabit 76 = .ok (.return_, 1) := by decide +kernel
theorem dX9_readPerson_0 : decode cX9_readPerson 0 = .ok (.aload_n 0, 1) := by decide +kernel
theorem dX9_readPerson_1 : decode cX9_readPerson 1 = .ok (.getfield 9, 3) := by decide +kernel
theorem dX9_readPerson_4 : decode cX9_readPerson 4 = .ok (.getfield 88, 3) := by decide +kernel
theorem dX9_readPerson_7 : decode cX9_readPerson 7 = .ok (.bipush 10, 2) := by decide +kernel
theorem dX9_readPerson_9 : decode cX9_readPerson 9 = .ok (.if_icmp .lt 7, 3) := by decide +kernel
theorem dX9_readPerson_12 : decode cX9_readPerson 12 = .ok (.aload_n 0, 1) := by decide +kernel
theorem dX9_readPerson_13 : decode cX9_readPerson 13 = .ok (.invokevirtual 60, 3) := by decide +kernel
theorem dX9_readPerson_16 : decode cX9_readPerson 16 = .ok (.aload_n 0, 1) := by decide +kernel
theorem dX9_readPerson_17 : decode cX9_readPerson 17 = .ok (.iconst 0, 1) := by decide +kernel
theorem dX9_readPerson_18 : decode cX9_readPerson 18 = .ok (.aload_n 0, 1) := by decide +kernel
theorem dX9_readPerson_19 : decode cX9_readPerson 19 = .ok (.getfield 9, 3) := by decide +kernel
theorem dX9_readPerson_22 : decode cX9_readPerson 22 = .ok (.getfield 48, 3) := by decide +kernel
theorem dX9_readPerson_25 : decode cX9_readPerson 25 = .ok (.getfield 54, 3) := by decide +kernel
theorem dX9_readPerson_28 : decode cX9_readPerson 28 = .ok (.iconst 1, 1) := by decide +kernel
theorem dX9_readPerson_29 : decode cX9_readPerson 29 = .ok (.isub, 1) := by decide +kernel
theorem dX9_readPerson_30 : decode cX9_readPerson 30 = .ok (.invokevirtual 66, 3) := by decide +kernel
theorem dX9_readPerson_33 : decode cX9_readPerson 33 = .ok (.istore_n 1, 1) := by decide +kernel
theorem dX9_readPerson_34 : decode cX9_readPerson 34 = .ok (.aload_n 0, 1) := by decide +kernel
theorem dX9_readPerson_35 : decode cX9_readPerson 35 = .ok (.invokevirtual 70, 3) := by decide +kernel
theorem dX9_readPerson_38 : decode cX9_readPerson 38 = .ok (.istore_n 2, 1) := by decide +kernel
theorem dX9_readPerson_39 : decode cX9_readPerson 39 = .ok (.aload_n 0, 1) := by decide +kernel
theorem dX9_readPerson_40 : decode cX9_readPerson 40 = .ok (.ldc 91, 2) := by decide +kernel
theorem dX9_readPerson_42 : decode cX9_readPerson 42 = .ok (.invokevirtual 76, 3) := by decide +kernel
theorem dX9_readPerson_45 : decode cX9_readPerson 45 = .ok (.aload_n 0, 1) := by decide +kernel
theorem dX9_readPerson_46 : decode cX9_readPerson 46 = .ok (.iconst 0, 1) := by decide +kernel
theorem dX9_readPerson_47 : decode cX9_readPerson 47 = .ok (.bipush 9, 2) := by decide +kernel
theorem dX9_readPerson_49 : decode cX9_readPerson 49 = .ok (.invokevirtual 66, 3) := by decide +kernel
theorem dX9_readPerson_52 : decode cX9_readPerson 52 = .ok (.istore_n 3, 1) := by decide +kernel
theorem dX9_readPerson_53 : decode cX9_readPerson 53 = .ok (.aload_n 0, 1) := by decide +kernel
theorem dX9_readPerson_54 : decode cX9_readPerson 54 = .ok (.ldc 95, 2) := by decide +kernel
theorem dX9_readPerson_56 : decode cX9_readPerson 56 = .ok (.invokevirtual 76, 3) := by decide +kernel
theorem dX9_readPerson_59 : decode cX9_readPerson 59 = .ok (.aload_n 0, 1) := by decide +kernel
theorem dX9_readPerson_60 : decode cX9_readPerson 60 = .ok (.iconst 0, 1) := by decide +kernel
theorem dX9_readPerson_61 : decode cX9_readPerson 61 = .ok (.bipush 100, 2) := by decide +kernel
theorem dX9_readPerson_63 : decode cX9_readPerson 63 = .ok (.invokevirtual 66, 3) := by decide +kernel
theorem dX9_readPerson_66 : decode cX9_readPerson 66 = .ok (.istore 4, 2) := by decide +kernel
theorem dX9_readPerson_68 : decode cX9_readPerson 68 = .ok (.aload_n 0, 1) := by decide +kernel
theorem dX9_readPerson_69 : decode cX9_readPerson 69 = .ok (.invokevirtual 80, 3) := by decide +kernel
theorem dX9_readPerson_72 : decode cX9_readPerson 72 = .ok (.ifCond .ne 15, 3) := by decide +kernel
theorem dX9_readPerson_75 : decode cX9_readPerson 75 = .ok (.aload_n 0, 1) := by decide +kernel
theorem dX9_readPerson_76 : decode cX9_readPerson 76 = .ok (.getfield 9, 3) := by decide +kernel
theorem dX9_readPerson_79 : decode cX9_readPerson 79 = .ok (.iload_n 1, 1) := by decide +kernel
theorem dX9_readPerson_80 : decode cX9_readPerson 80 = .ok (.iload_n 2, 1) := by decide +kernel
theorem dX9_readPerson_81 : decode cX9_readPerson 81 = .ok (.iload_n 3, 1) := by decide +kernel
theorem dX9_readPerson_82 : decode cX9_readPerson 82 = .ok (.iload 4, 2) := by decide +kernel
theorem dX9_readPerson_84 : decode cX9_readPerson 84 = .ok (.invokevirtual 97, 3) := by decide +kernel
theorem dX9_readPerson_87 : decode cX9_readPerson 87 = .ok (.return_, 1) := by decide +kernel
theorem dX9_readCold_0 : decode cX9_readCold 0 = .ok (.aload_n 0, 1) := by decide +kernel
theorem dX9_readCold_1 : decode cX9_readCold 1 = .ok (.iconst 0, 1) := by decide +kernel
theorem dX9_readCold_2 : decode cX9_readCold 2 = .ok (.aload_n 0, 1) := by decide +kernel
theorem dX9_readCold_3 : decode cX9_readCold 3 = .ok (.getfield 9, 3) := by decide +kernel
theorem dX9_readCold_6 : decode cX9_readCold 6 = .ok (.getfield 88, 3) := by decide +kernel
theorem dX9_readCold_9 : decode cX9_readCold 9 = .ok (.iconst 1, 1) := by decide +kernel
theorem dX9_readCold_10 : decode cX9_readCold 10 = .ok (.isub, 1) := by decide +kernel
theorem dX9_readCold_11 : decode cX9_readCold 11 = .ok (.invokevirtual 66, 3) := by decide +kernel
theorem dX9_readCold_14 : decode cX9_readCold 14 = .ok (.istore_n 1, 1) := by decide +kernel
theorem dX9_readCold_15 : decode cX9_readCold 15 = .ok (.aload_n 0, 1) := by decide +kernel
theorem dX9_readCold_16 : decode cX9_readCold 16 = .ok (.invokevirtual 80, 3) := by decide +kernel
theorem dX9_readCold_19 : decode cX9_readCold 19 = .ok (.ifCond .ne 16, 3) := by decide +kernel
theorem dX9_readCold_22 : decode cX9_readCold 22 = .ok (.aload_n 0, 1) := by decide +kernel
theorem dX9_readCold_23 : decode cX9_readCold 23 = .ok (.getfield 9, 3) := by decide +kernel
theorem dX9_readCold_26 : decode cX9_readCold 26 = .ok (.getfield 101, 3) := by decide +kernel
theorem dX9_readCold_29 : decode cX9_readCold 29 = .ok (.iload_n 1, 1) := by decide +kernel
theorem dX9_readCold_30 : decode cX9_readCold 30 = .ok (.aaload, 1) := by decide +kernel
theorem dX9_readCold_31 : decode cX9_readCold 31 = .ok (.iconst 1, 1) := by decide +kernel
theorem dX9_readCold_32 : decode cX9_readCold 32 = .ok (.putfield 105, 3) := by decide +kernel
theorem dX9_readCold_35 : decode cX9_readCold 35 = .ok (.return_, 1) := by decide +kernel
theorem dX9_readTie_0 : decode cX9_readTie 0 = .ok (.aload_n 0, 1) := by decide +kernel
theorem dX9_readTie_1 : decode cX9_readTie 1 = .ok (.getfield 9, 3) := by decide +kernel
theorem dX9_readTie_4 : decode cX9_readTie 4 = .ok (.getfield 109, 3) := by decide +kernel
theorem dX9_readTie_7 : decode cX9_readTie 7 = .ok (.bipush 24, 2) := by decide +kernel
theorem dX9_readTie_9 : decode cX9_readTie 9 = .ok (.if_icmp .lt 7, 3) := by decide +kernel
theorem dX9_readTie_12 : decode cX9_readTie 12 = .ok (.aload_n 0, 1) := by decide +kernel
theorem dX9_readTie_13 : decode cX9_readTie 13 = .ok (.invokevirtual 60, 3) := by decide +kernel
theorem dX9_readTie_16 : decode cX9_readTie 16 = .ok (.aload_n 0, 1) := by decide +kernel
theorem dX9_readTie_17 : decode cX9_readTie 17 = .ok (.iconst 0, 1) := by decide +kernel
theorem dX9_readTie_18 : decode cX9_readTie 18 = .ok (.aload_n 0, 1) := by decide +kernel
theorem dX9_readTie_19 : decode cX9_readTie 19 = .ok (.getfield 9, 3) := by decide +kernel
theorem dX9_readTie_22 : decode cX9_readTie 22 = .ok (.getfield 88, 3) := by decide +kernel
theorem dX9_readTie_25 : decode cX9_readTie 25 = .ok (.iconst 1, 1) := by decide +kernel
theorem dX9_readTie_26 : decode cX9_readTie 26 = .ok (.isub, 1) := by decide +kernel
theorem dX9_readTie_27 : decode cX9_readTie 27 = .ok (.invokevirtual 66, 3) := by decide +kernel
theorem dX9_readTie_30 : decode cX9_readTie 30 = .ok (.istore_n 1, 1) := by decide +kernel
theorem dX9_readTie_31 : decode cX9_readTie 31 = .ok (.aload_n 0, 1) := by decide +kernel
theorem dX9_readTie_32 : decode cX9_readTie 32 = .ok (.iconst 0, 1) := by decide +kernel
theorem dX9_readTie_33 : decode cX9_readTie 33 = .ok (.aload_n 0, 1) := by decide +kernel
theorem dX9_readTie_34 : decode cX9_readTie 34 = .ok (.getfield 9, 3) := by decide +kernel
theorem dX9_readTie_37 : decode cX9_readTie 37 = .ok (.getfield 88, 3) := by decide +kernel
theorem dX9_readTie_40 : decode cX9_readTie 40 = .ok (.iconst 1, 1) := by decide +kernel
theorem dX9_readTie_41 : decode cX9_readTie 41 = .ok (.isub, 1) := by decide +kernel
theorem dX9_readTie_42 : decode cX9_readTie 42 = .ok (.invokevirtual 66, 3) := by decide +kernel
theorem dX9_readTie_45 : decode cX9_readTie 45 = .ok (.istore_n 2, 1) := by decide +kernel
theorem dX9_readTie_46 : decode cX9_readTie 46 = .ok (.aload_n 0, 1) := by decide +kernel
theorem dX9_readTie_47 : decode cX9_readTie 47 = .ok (.invokevirtual 80, 3) := by decide +kernel
theorem dX9_readTie_50 : decode cX9_readTie 50 = .ok (.ifCond .eq 4, 3) := by decide +kernel
theorem dX9_readTie_53 : decode cX9_readTie 53 = .ok (.return_, 1) := by decide +kernel
theorem dX9_readTie_54 : decode cX9_readTie 54 = .ok (.iload_n 1, 1) := by decide +kernel
theorem dX9_readTie_55 : decode cX9_readTie 55 = .ok (.iload_n 2, 1) := by decide +kernel
theorem dX9_readTie_56 : decode cX9_readTie 56 = .ok (.if_icmp .eq 15, 3) := by decide +kernel
theorem dX9_readTie_59 : decode cX9_readTie 59 = .ok (.aload_n 0, 1) := by decide +kernel
theorem dX9_readTie_60 : decode cX9_readTie 60 = .ok (.getfield 9, 3) := by decide +kernel
theorem dX9_readTie_63 : decode cX9_readTie 63 = .ok (.iload_n 1, 1) := by decide +kernel
theorem dX9_readTie_64 : decode cX9_readTie 64 = .ok (.iload_n 2, 1) := by decide +kernel
theorem dX9_readTie_65 : decode cX9_readTie 65 = .ok (.invokevirtual 112, 3) := by decide +kernel
theorem dX9_readTie_68 : decode cX9_readTie 68 = .ok (.ifCond .eq 10, 3) := by decide +kernel
theorem dX9_readTie_71 : decode cX9_readTie 71 = .ok (.aload_n 0, 1) := by decide +kernel
theorem dX9_readTie_72 : decode cX9_readTie 72 = .ok (.invokevirtual 60, 3) := by decide +kernel
theorem dX9_readTie_75 : decode cX9_readTie 75 = .ok (.goto 12, 3) := by decide +kernel
theorem dX9_readTie_78 : decode cX9_readTie 78 = .ok (.aload_n 0, 1) := by decide +kernel
theorem dX9_readTie_79 : decode cX9_readTie 79 = .ok (.getfield 9, 3) := by decide +kernel
theorem dX9_readTie_82 : decode cX9_readTie 82 = .ok (.iload_n 1, 1) := by decide +kernel
theorem dX9_readTie_83 : decode cX9_readTie 83 = .ok (.iload_n 2, 1) := by decide +kernel
theorem dX9_readTie_84 : decode cX9_readTie 84 = .ok (.invokevirtual 116, 3) := by decide +kernel
theorem dX9_readTie_87 : decode cX9_readTie 87 = .ok (.return_, 1) := by decide +kernel
theorem dX9_readPrice_0 : decode cX9_readPrice 0 = .ok (.aload_n 0, 1) := by decide +kernel
theorem dX9_readPrice_1 : decode cX9_readPrice 1 = .ok (.ldc 120, 2) := by decide +kernel
theorem dX9_readPrice_3 : decode cX9_readPrice 3 = .ok (.invokevirtual 17, 3) := by decide +kernel
theorem dX9_readPrice_6 : decode cX9_readPrice 6 = .ok (.istore_n 1, 1) := by decide +kernel
theorem dX9_readPrice_7 : decode cX9_readPrice 7 = .ok (.iload_n 1, 1) := by decide +kernel
theorem dX9_readPrice_8 : decode cX9_readPrice 8 = .ok (.ifCond .ne 16, 3) := by decide +kernel
theorem dX9_readPrice_11 : decode cX9_readPrice 11 = .ok (.aload_n 0, 1) := by decide +kernel
theorem dX9_readPrice_12 : decode cX9_readPrice 12 = .ok (.ldc 122, 2) := by decide +kernel
theorem dX9_readPrice_14 : decode cX9_readPrice 14 = .ok (.invokevirtual 17, 3) := by decide +kernel
theorem dX9_readPrice_17 : decode cX9_readPrice 17 = .ok (.ifCond .eq 7, 3) := by decide +kernel
theorem dX9_readPrice_20 : decode cX9_readPrice 20 = .ok (.iconst 1, 1) := by decide +kernel
theorem dX9_readPrice_21 : decode cX9_readPrice 21 = .ok (.goto 4, 3) := by decide +kernel
theorem dX9_readPrice_24 : decode cX9_readPrice 24 = .ok (.iconst 0, 1) := by decide +kernel
theorem dX9_readPrice_25 : decode cX9_readPrice 25 = .ok (.istore_n 2, 1) := by decide +kernel
theorem dX9_readPrice_26 : decode cX9_readPrice 26 = .ok (.iload_n 1, 1) := by decide +kernel
theorem dX9_readPrice_27 : decode cX9_readPrice 27 = .ok (.ifCond .ne 13, 3) := by decide +kernel
theorem dX9_readPrice_30 : decode cX9_readPrice 30 = .ok (.iload_n 2, 1) := by decide +kernel
theorem dX9_readPrice_31 : decode cX9_readPrice 31 = .ok (.ifCond .ne 9, 3) := by decide +kernel
theorem dX9_readPrice_34 : decode cX9_readPrice 34 = .ok (.aload_n 0, 1) := by decide +kernel
theorem dX9_readPrice_35 : decode cX9_readPrice 35 = .ok (.ldc 124, 2) := by decide +kernel
theorem dX9_readPrice_37 : decode cX9_readPrice 37 = .ok (.invokevirtual 76, 3) := by decide +kernel
theorem dX9_readPrice_40 : decode cX9_readPrice 40 = .ok (.aload_n 0, 1) := by decide +kernel
theorem dX9_readPrice_41 : decode cX9_readPrice 41 = .ok (.iconst 0, 1) := by decide +kernel
theorem dX9_readPrice_42 : decode cX9_readPrice 42 = .ok (.bipush 99, 2) := by decide +kernel
theorem dX9_readPrice_44 : decode cX9_readPrice 44 = .ok (.invokevirtual 66, 3) := by decide +kernel
theorem dX9_readPrice_47 : decode cX9_readPrice 47 = .ok (.istore_n 3, 1) := by decide +kernel
theorem dX9_readPrice_48 : decode cX9_readPrice 48 = .ok (.iload_n 1, 1) := by decide +kernel
theorem dX9_readPrice_49 : decode cX9_readPrice 49 = .ok (.ifCond .eq 20, 3) := by decide +kernel
theorem dX9_readPrice_52 : decode cX9_readPrice 52 = .ok (.aload_n 0, 1) := by decide +kernel
theorem dX9_readPrice_53 : decode cX9_readPrice 53 = .ok (.getfield 9, 3) := by decide +kernel
theorem dX9_readPrice_56 : decode cX9_readPrice 56 = .ok (.getfield 48, 3) := by decide +kernel
theorem dX9_readPrice_59 : decode cX9_readPrice 59 = .ok (.getfield 128, 3) := by decide +kernel
theorem dX9_readPrice_62 : decode cX9_readPrice 62 = .ok (.iload_n 3, 1) := by decide +kernel
theorem dX9_readPrice_63 : decode cX9_readPrice 63 = .ok (.putfield 132, 3) := by decide +kernel
theorem dX9_readPrice_66 : decode cX9_readPrice 66 = .ok (.goto 38, 3) := by decide +kernel
theorem dX9_readPrice_69 : decode cX9_readPrice 69 = .ok (.iload_n 2, 1) := by decide +kernel
theorem dX9_readPrice_70 : decode cX9_readPrice 70 = .ok (.ifCond .eq 20, 3) := by decide +kernel
theorem dX9_readPrice_73 : decode cX9_readPrice 73 = .ok (.aload_n 0, 1) := by decide +kernel
theorem dX9_readPrice_74 : decode cX9_readPrice 74 = .ok (.getfield 9, 3) := by decide +kernel
theorem dX9_readPrice_77 : decode cX9_readPrice 77 = .ok (.getfield 48, 3) := by decide +kernel
theorem dX9_readPrice_80 : decode cX9_readPrice 80 = .ok (.getfield 128, 3) := by decide +kernel
theorem dX9_readPrice_83 : decode cX9_readPrice 83 = .ok (.iload_n 3, 1) := by decide +kernel
theorem dX9_readPrice_84 : decode cX9_readPrice 84 = .ok (.putfield 134, 3) := by decide +kernel
theorem dX9_readPrice_87 : decode cX9_readPrice 87 = .ok (.goto 17, 3) := by decide +kernel
theorem dX9_readPrice_90 : decode cX9_readPrice 90 = .ok (.aload_n 0, 1) := by decide +kernel
theorem dX9_readPrice_91 : decode cX9_readPrice 91 = .ok (.getfield 9, 3) := by decide +kernel
theorem dX9_readPrice_94 : decode cX9_readPrice 94 = .ok (.getfield 48, 3) := by decide +kernel
theorem dX9_readPrice_97 : decode cX9_readPrice 97 = .ok (.getfield 128, 3) := by decide +kernel
theorem dX9_readPrice_100 : decode cX9_readPrice 100 = .ok (.iload_n 3, 1) := by decide +kernel
theorem dX9_readPrice_101 : decode cX9_readPrice 101 = .ok (.putfield 136, 3) := by decide +kernel
theorem dX9_readPrice_104 : decode cX9_readPrice 104 = .ok (.return_, 1) := by decide +kernel
theorem dX10_init_0 : decode cX10_init 0 = .ok (.aload_n 0, 1) := by decide +kernel
theorem dX10_init_1 : decode cX10_init 1 = .ok (.invokespecial 3, 3) := by decide +kernel
theorem dX10_init_4 : decode cX10_init 4 = .ok (.aload_n 0, 1) := by decide +kernel
theorem dX10_init_5 : decode cX10_init 5 = .ok (.bipush 10, 2) := by decide +kernel
theorem dX10_init_7 : decode cX10_init 7 = .ok (.newarray .int, 2) := by decide +kernel
theorem dX10_init_9 : decode cX10_init 9 = .ok (.putfield 9, 3) := by decide +kernel
theorem dX10_init_12 : decode cX10_init 12 = .ok (.aload_n 0, 1) := by decide +kernel
theorem dX10_init_13 : decode cX10_init 13 = .ok (.bipush 10, 2) := by decide +kernel
theorem dX10_init_15 : decode cX10_init 15 = .ok (.newarray .int, 2) := by decide +kernel
theorem dX10_init_17 : decode cX10_init 17 = .ok (.putfield 15, 3) := by decide +kernel
theorem dX10_init_20 : decode cX10_init 20 = .ok (.aload_n 0, 1) := by decide +kernel
theorem dX10_init_21 : decode cX10_init 21 = .ok (.bipush 10, 2) := by decide +kernel
theorem dX10_init_23 : decode cX10_init 23 = .ok (.newarray .int, 2) := by decide +kernel
theorem dX10_init_25 : decode cX10_init 25 = .ok (.putfield 18, 3) := by decide +kernel
theorem dX10_init_28 : decode cX10_init 28 = .ok (.aload_n 0, 1) := by decide +kernel
theorem dX10_init_29 : decode cX10_init 29 = .ok (.bipush 10, 2) := by decide +kernel
theorem dX10_init_31 : decode cX10_init 31 = .ok (.newarray .int, 2) := by decide +kernel
theorem dX10_init_33 : decode cX10_init 33 = .ok (.putfield 21, 3) := by decide +kernel
theorem dX10_init_36 : decode cX10_init 36 = .ok (.aload_n 0, 1) := by decide +kernel
theorem dX10_init_37 : decode cX10_init 37 = .ok (.bipush 32, 2) := by decide +kernel
theorem dX10_init_39 : decode cX10_init 39 = .ok (.newarray .int, 2) := by decide +kernel
theorem dX10_init_41 : decode cX10_init 41 = .ok (.putfield 24, 3) := by decide +kernel
theorem dX10_init_44 : decode cX10_init 44 = .ok (.return_, 1) := by decide +kernel
theorem dX10_startFrom_0 : decode cX10_startFrom 0 = .ok (.aload_n 0, 1) := by decide +kernel
theorem dX10_startFrom_1 : decode cX10_startFrom 1 = .ok (.aload_n 1, 1) := by decide +kernel
theorem dX10_startFrom_2 : decode cX10_startFrom 2 = .ok (.getfield 27, 3) := by decide +kernel
theorem dX10_startFrom_5 : decode cX10_startFrom 5 = .ok (.putfield 33, 3) := by decide +kernel
theorem dX10_startFrom_8 : decode cX10_startFrom 8 = .ok (.iconst 0, 1) := by decide +kernel
theorem dX10_startFrom_9 : decode cX10_startFrom 9 = .ok (.istore_n 2, 1) := by decide +kernel
theorem dX10_startFrom_10 : decode cX10_startFrom 10 = .ok (.iload_n 2, 1) := by decide +kernel
theorem dX10_startFrom_11 : decode cX10_startFrom 11 = .ok (.aload_n 0, 1) := by decide +kernel
theorem dX10_startFrom_12 : decode cX10_startFrom 12 = .ok (.getfield 33, 3) := by decide +kernel
theorem dX10_startFrom_15 : decode cX10_startFrom 15 = .ok (.if_icmp .ge 50, 3) := by decide +kernel
theorem dX10_startFrom_18 : decode cX10_startFrom 18 = .ok (.aload_n 0, 1) := by decide +kernel
theorem dX10_startFrom_19 : decode cX10_startFrom 19 = .ok (.getfield 9, 3) := by decide +kernel
theorem dX10_startFrom_22 : decode cX10_startFrom 22 = .ok (.iload_n 2, 1) := by decide +kernel
theorem dX10_startFrom_23 : decode cX10_startFrom 23 = .ok (.aload_n 1, 1) := by decide +kernel
theorem dX10_startFrom_24 : decode cX10_startFrom 24 = .ok (.getfield 36, 3) := by decide +kernel
theorem dX10_startFrom_27 : decode cX10_startFrom 27 = .ok (.iload_n 2, 1) := by decide +kernel
theorem dX10_startFrom_28 : decode cX10_startFrom 28 = .ok (.aaload, 1) := by decide +kernel
theorem dX10_startFrom_29 : decode cX10_startFrom 29 = .ok (.getfield 39, 3) := by decide +kernel
theorem dX10_startFrom_32 : decode cX10_startFrom 32 = .ok (.iconst 1, 1) := by decide +kernel
theorem dX10_startFrom_33 : decode cX10_startFrom 33 = .ok (.iload_n 2, 1) := by decide +kernel
theorem dX10_startFrom_34 : decode cX10_startFrom 34 = .ok (.ishl, 1) := by decide +kernel
theorem dX10_startFrom_35 : decode cX10_startFrom 35 = .ok (.ior, 1) := by decide +kernel
theorem dX10_startFrom_36 : decode cX10_startFrom 36 = .ok (.iastore, 1) := by decide +kernel
theorem dX10_startFrom_37 : decode cX10_startFrom 37 = .ok (.aload_n 0, 1) := by decide +kernel
theorem dX10_startFrom_38 : decode cX10_startFrom 38 = .ok (.getfield 15, 3) := by decide +kernel
theorem dX10_startFrom_41 : decode cX10_startFrom 41 = .ok (.iload_n 2, 1) := by decide +kernel
theorem dX10_startFrom_42 : decode cX10_startFrom 42 = .ok (.aload_n 1, 1) := by decide +kernel
theorem dX10_startFrom_43 : decode cX10_startFrom 43 = .ok (.getfield 36, 3) := by decide +kernel
theorem dX10_startFrom_46 : decode cX10_startFrom 46 = .ok (.iload_n 2, 1) := by decide +kernel
theorem dX10_startFrom_47 : decode cX10_startFrom 47 = .ok (.aaload, 1) := by decide +kernel
theorem dX10_startFrom_48 : decode cX10_startFrom 48 = .ok (.getfield 44, 3) := by decide +kernel
theorem dX10_startFrom_51 : decode cX10_startFrom 51 = .ok (.iastore, 1) := by decide +kernel
theorem dX10_startFrom_52 : decode cX10_startFrom 52 = .ok (.aload_n 0, 1) := by decide +kernel
theorem dX10_startFrom_53 : decode cX10_startFrom 53 = .ok (.getfield 18, 3) := by decide +kernel
theorem dX10_startFrom_56 : decode cX10_startFrom 56 = .ok (.iload_n 2, 1) := by decide +kernel
theorem dX10_startFrom_57 : decode cX10_startFrom 57 = .ok (.iconst (-1), 1) := by decide +kernel
theorem dX10_startFrom_58 : decode cX10_startFrom 58 = .ok (.iastore, 1) := by decide +kernel
theorem dX10_startFrom_59 : decode cX10_startFrom 59 = .ok (.iinc 2 1, 3) := by decide +kernel
theorem dX10_startFrom_62 : decode cX10_startFrom 62 = .ok (.goto (-52), 3) := by decide +kernel
theorem dX10_startFrom_65 : decode cX10_startFrom 65 = .ok (.return_, 1) := by decide +kernel
theorem dX10_tell_0 : decode cX10_tell 0 = .ok (.iconst 0, 1) := by decide +kernel
theorem dX10_tell_1 : decode cX10_tell 1 = .ok (.istore_n 3, 1) := by decide +kernel
theorem dX10_tell_2 : decode cX10_tell 2 = .ok (.iload_n 3, 1) := by decide +kernel
theorem dX10_tell_3 : decode cX10_tell 3 = .ok (.aload_n 0, 1) := by decide +kernel
theorem dX10_tell_4 : decode cX10_tell 4 = .ok (.getfield 33, 3) := by decide +kernel
theorem dX10_tell_7 : decode cX10_tell 7 = .ok (.if_icmp .ge 24, 3) := by decide +kernel
theorem dX10_tell_10 : decode cX10_tell 10 = .ok (.iload_n 1, 1) := by decide +kernel
theorem dX10_tell_11 : decode cX10_tell 11 = .ok (.iload_n 3, 1) := by decide +kernel
theorem dX10_tell_12 : decode cX10_tell 12 = .ok (.invokestatic 47, 3) := by decide +kernel
theorem dX10_tell_15 : decode cX10_tell 15 = .ok (.ifCond .eq 10, 3) := by decide +kernel
theorem dX10_tell_18 : decode cX10_tell 18 = .ok (.aload_n 0, 1) := by decide +kernel
theorem dX10_tell_19 : decode cX10_tell 19 = .ok (.getfield 15, 3) := by decide +kernel
theorem dX10_tell_22 : decode cX10_tell 22 = .ok (.iload_n 3, 1) := by decide +kernel
theorem dX10_tell_23 : decode cX10_tell 23 = .ok (.iload_n 2, 1) := by decide +kernel
theorem dX10_tell_24 : decode cX10_tell 24 = .ok (.iastore, 1) := by decide +kernel
theorem dX10_tell_25 : decode cX10_tell 25 = .ok (.iinc 3 1, 3) := by decide +kernel
theorem dX10_tell_28 : decode cX10_tell 28 = .ok (.goto (-26), 3) := by decide +kernel
theorem dX10_tell_31 : decode cX10_tell 31 = .ok (.return_, 1) := by decide +kernel
theorem dX10_passYear_0 : decode cX10_passYear 0 = .ok (.iconst 0, 1) := by decide +kernel
theorem dX10_passYear_1 : decode cX10_passYear 1 = .ok (.istore_n 1, 1) := by decide +kernel
theorem dX10_passYear_2 : decode cX10_passYear 2 = .ok (.iconst 0, 1) := by decide +kernel
theorem dX10_passYear_3 : decode cX10_passYear 3 = .ok (.istore_n 2, 1) := by decide +kernel
theorem dX10_passYear_4 : decode cX10_passYear 4 = .ok (.iload_n 2, 1) := by decide +kernel
theorem dX10_passYear_5 : decode cX10_passYear 5 = .ok (.aload_n 0, 1) := by decide +kernel
theorem dX10_passYear_6 : decode cX10_passYear 6 = .ok (.getfield 33, 3) := by decide +kernel
theorem dX10_passYear_9 : decode cX10_passYear 9 = .ok (.if_icmp .ge 43, 3) := by decide +kernel
theorem dX10_passYear_12 : decode cX10_passYear 12 = .ok (.aload_n 0, 1) := by decide +kernel
theorem dX10_passYear_13 : decode cX10_passYear 13 = .ok (.getfield 21, 3) := by decide +kernel
theorem dX10_passYear_16 : decode cX10_passYear 16 = .ok (.iload_n 2, 1) := by decide +kernel
theorem dX10_passYear_17 : decode cX10_passYear 17 = .ok (.aload_n 0, 1) := by decide +kernel
theorem dX10_passYear_18 : decode cX10_passYear 18 = .ok (.iload_n 2, 1) := by decide +kernel
theorem dX10_passYear_19 : decode cX10_passYear 19 = .ok (.invokevirtual 51, 3) := by decide +kernel
theorem dX10_passYear_22 : decode cX10_passYear 22 = .ok (.iastore, 1) := by decide +kernel
theorem dX10_passYear_23 : decode cX10_passYear 23 = .ok (.iload_n 1, 1) := by decide +kernel
theorem dX10_passYear_24 : decode cX10_passYear 24 = .ok (.aload_n 0, 1) := by decide +kernel
theorem dX10_passYear_25 : decode cX10_passYear 25 = .ok (.getfield 21, 3) := by decide +kernel
theorem dX10_passYear_28 : decode cX10_passYear 28 = .ok (.iload_n 2, 1) := by decide +kernel
theorem dX10_passYear_29 : decode cX10_passYear 29 = .ok (.iaload, 1) := by decide +kernel
theorem dX10_passYear_30 : decode cX10_passYear 30 = .ok (.aload_n 0, 1) := by decide +kernel
theorem dX10_passYear_31 : decode cX10_passYear 31 = .ok (.getfield 15, 3) := by decide +kernel
theorem dX10_passYear_34 : decode cX10_passYear 34 = .ok (.iload_n 2, 1) := by decide +kernel
theorem dX10_passYear_35 : decode cX10_passYear 35 = .ok (.iaload, 1) := by decide +kernel
theorem dX10_passYear_36 : decode cX10_passYear 36 = .ok (.if_icmp .eq 7, 3) := by decide +kernel
theorem dX10_passYear_39 : decode cX10_passYear 39 = .ok (.iconst 1, 1) := by decide +kernel
theorem dX10_passYear_40 : decode cX10_passYear 40 = .ok (.goto 4, 3) := by decide +kernel
theorem dX10_passYear_43 : decode cX10_passYear 43 = .ok (.iconst 0, 1) := by decide +kernel
theorem dX10_passYear_44 : decode cX10_passYear 44 = .ok (.ior, 1) := by decide +kernel
theorem dX10_passYear_45 : decode cX10_passYear 45 = .ok (.istore_n 1, 1) := by decide +kernel
theorem dX10_passYear_46 : decode cX10_passYear 46 = .ok (.iinc 2 1, 3) := by decide +kernel
theorem dX10_passYear_49 : decode cX10_passYear 49 = .ok (.goto (-45), 3) := by decide +kernel
theorem dX10_passYear_52 : decode cX10_passYear 52 = .ok (.aload_n 0, 1) := by decide +kernel
theorem dX10_passYear_53 : decode cX10_passYear 53 = .ok (.getfield 18, 3) := by decide +kernel
theorem dX10_passYear_56 : decode cX10_passYear 56 = .ok (.astore_n 2, 1) := by decide +kernel
theorem dX10_passYear_57 : decode cX10_passYear 57 = .ok (.aload_n 0, 1) := by decide +kernel
theorem dX10_passYear_58 : decode cX10_passYear 58 = .ok (.aload_n 0, 1) := by decide +kernel
theorem dX10_passYear_59 : decode cX10_passYear 59 = .ok (.getfield 15, 3) := by decide +kernel
theorem dX10_passYear_62 : decode cX10_passYear 62 = .ok (.putfield 18, 3) := by decide +kernel
theorem dX10_passYear_65 : decode cX10_passYear 65 = .ok (.aload_n 0, 1) := by decide +kernel
theorem dX10_passYear_66 : decode cX10_passYear 66 = .ok (.aload_n 0, 1) := by decide +kernel
theorem dX10_passYear_67 : decode cX10_passYear 67 = .ok (.getfield 21, 3) := by decide +kernel
theorem dX10_passYear_70 : decode cX10_passYear 70 = .ok (.putfield 15, 3) := by decide +kernel
theorem dX10_passYear_73 : decode cX10_passYear 73 = .ok (.aload_n 0, 1) := by decide +kernel
theorem dX10_passYear_74 : decode cX10_passYear 74 = .ok (.aload_n 2, 1) := by decide +kernel
theorem dX10_passYear_75 : decode cX10_passYear 75 = .ok (.putfield 21, 3) := by decide +kernel
theorem dX10_passYear_78 : decode cX10_passYear 78 = .ok (.iload_n 1, 1) := by decide +kernel
theorem dX10_passYear_79 : decode cX10_passYear 79 = .ok (.ireturn, 1) := by decide +kernel
theorem dX10_passYears_0 : decode cX10_passYears 0 = .ok (.iconst 0, 1) := by decide +kernel
theorem dX10_passYears_1 : decode cX10_passYears 1 = .ok (.istore_n 2, 1) := by decide +kernel
theorem dX10_passYears_2 : decode cX10_passYears 2 = .ok (.iload_n 2, 1) := by decide +kernel
theorem dX10_passYears_3 : decode cX10_passYears 3 = .ok (.iload_n 1, 1) := by decide +kernel
theorem dX10_passYears_4 : decode cX10_passYears 4 = .ok (.if_icmp .ge 36, 3) := by decide +kernel
theorem dX10_passYears_7 : decode cX10_passYears 7 = .ok (.aload_n 0, 1) := by decide +kernel
theorem dX10_passYears_8 : decode cX10_passYears 8 = .ok (.invokevirtual 55, 3) := by decide +kernel
theorem dX10_passYears_11 : decode cX10_passYears 11 = .ok (.ifCond .ne 4, 3) := by decide +kernel
theorem dX10_passYears_14 : decode cX10_passYears 14 = .ok (.return_, 1) := by decide +kernel
theorem dX10_passYears_15 : decode cX10_passYears 15 = .ok (.aload_n 0, 1) := by decide +kernel
theorem dX10_passYears_16 : decode cX10_passYears 16 = .ok (.invokevirtual 59, 3) := by decide +kernel
theorem dX10_passYears_19 : decode cX10_passYears 19 = .ok (.ifCond .eq 15, 3) := by decide +kernel
theorem dX10_passYears_22 : decode cX10_passYears 22 = .ok (.iload_n 2, 1) := by decide +kernel
theorem dX10_passYears_23 : decode cX10_passYears 23 = .ok (.iload_n 1, 1) := by decide +kernel
theorem dX10_passYears_24 : decode cX10_passYears 24 = .ok (.iconst 1, 1) := by decide +kernel
theorem dX10_passYears_25 : decode cX10_passYears 25 = .ok (.isub, 1) := by decide +kernel
theorem dX10_passYears_26 : decode cX10_passYears 26 = .ok (.iload_n 2, 1) := by decide +kernel
theorem dX10_passYears_27 : decode cX10_passYears 27 = .ok (.isub, 1) := by decide +kernel
theorem dX10_passYears_28 : decode cX10_passYears 28 = .ok (.iconst 2, 1) := by decide +kernel
theorem dX10_passYears_29 : decode cX10_passYears 29 = .ok (.idiv, 1) := by decide +kernel
theorem dX10_passYears_30 : decode cX10_passYears 30 = .ok (.iconst 2, 1) := by decide +kernel
theorem dX10_passYears_31 : decode cX10_passYears 31 = .ok (.imul, 1) := by decide +kernel
theorem dX10_passYears_32 : decode cX10_passYears 32 = .ok (.iadd, 1) := by decide +kernel
theorem dX10_passYears_33 : decode cX10_passYears 33 = .ok (.istore_n 2, 1) := by decide +kernel
theorem dX10_passYears_34 : decode cX10_passYears 34 = .ok (.iinc 2 1, 3) := by decide +kernel
theorem dX10_passYears_37 : decode cX10_passYears 37 = .ok (.goto (-35), 3) := by decide +kernel
theorem dX10_passYears_40 : decode cX10_passYears 40 = .ok (.return_, 1) := by decide +kernel
theorem dX10_isAsTwoYearsAgo_0 : decode cX10_isAsTwoYearsAgo 0 = .ok (.iconst 0, 1) := by decide +kernel
theorem dX10_isAsTwoYearsAgo_1 : decode cX10_isAsTwoYearsAgo 1 = .ok (.istore_n 1, 1) := by decide +kernel
theorem dX10_isAsTwoYearsAgo_2 : decode cX10_isAsTwoYearsAgo 2 = .ok (.iload_n 1, 1) := by decide +kernel
theorem dX10_isAsTwoYearsAgo_3 : decode cX10_isAsTwoYearsAgo 3 = .ok (.aload_n 0, 1) := by decide +kernel
theorem dX10_isAsTwoYearsAgo_4 : decode cX10_isAsTwoYearsAgo 4 = .ok (.getfield 33, 3) := by decide +kernel
theorem dX10_isAsTwoYearsAgo_7 : decode cX10_isAsTwoYearsAgo 7 = .ok (.if_icmp .ge 26, 3) := by decide +kernel
theorem dX10_isAsTwoYearsAgo_10 : decode cX10_isAsTwoYearsAgo 10 = .ok (.aload_n 0, 1) := by decide +kernel
theorem dX10_isAsTwoYearsAgo_11 : decode cX10_isAsTwoYearsAgo 11 = .ok (.getfield 15, 3) := by decide +kernel
theorem dX10_isAsTwoYearsAgo_14 : decode cX10_isAsTwoYearsAgo 14 = .ok (.iload_n 1, 1) := by decide +kernel
theorem dX10_isAsTwoYearsAgo_15 : decode cX10_isAsTwoYearsAgo 15 = .ok (.iaload, 1) := by decide +kernel
theorem dX10_isAsTwoYearsAgo_16 : decode cX10_isAsTwoYearsAgo 16 = .ok (.aload_n 0, 1) := by decide +kernel
theorem dX10_isAsTwoYearsAgo_17 : decode cX10_isAsTwoYearsAgo 17 = .ok (.getfield 21, 3) := by decide +kernel
theorem dX10_isAsTwoYearsAgo_20 : decode cX10_isAsTwoYearsAgo 20 = .ok (.iload_n 1, 1) := by decide +kernel
theorem dX10_isAsTwoYearsAgo_21 : decode cX10_isAsTwoYearsAgo 21 = .ok (.iaload, 1) := by decide +kernel
theorem dX10_isAsTwoYearsAgo_22 : decode cX10_isAsTwoYearsAgo 22 = .ok (.if_icmp .eq 5, 3) := by decide +kernel
theorem dX10_isAsTwoYearsAgo_25 : decode cX10_isAsTwoYearsAgo 25 = .ok (.iconst 0, 1) := by decide +kernel
theorem dX10_isAsTwoYearsAgo_26 : decode cX10_isAsTwoYearsAgo 26 = .ok (.ireturn, 1) := by decide +kernel
theorem dX10_isAsTwoYearsAgo_27 : decode cX10_isAsTwoYearsAgo 27 = .ok (.iinc 1 1, 3) := by decide +kernel
theorem dX10_isAsTwoYearsAgo_30 : decode cX10_isAsTwoYearsAgo 30 = .ok (.goto (-28), 3) := by decide +kernel
theorem dX10_isAsTwoYearsAgo_33 : decode cX10_isAsTwoYearsAgo 33 = .ok (.iconst 1, 1) := by decide +kernel
theorem dX10_isAsTwoYearsAgo_34 : decode cX10_isAsTwoYearsAgo 34 = .ok (.ireturn, 1) := by decide +kernel
theorem dX10_mostAround_0 : decode cX10_mostAround 0 = .ok (.iconst 0, 1) := by decide +kernel
theorem dX10_mostAround_1 : decode cX10_mostAround 1 = .ok (.istore_n 2, 1) := by decide +kernel
theorem dX10_mostAround_2 : decode cX10_mostAround 2 = .ok (.iconst 0, 1) := by decide +kernel
theorem dX10_mostAround_3 : decode cX10_mostAround 3 = .ok (.istore_n 3, 1) := by decide +kernel
theorem dX10_mostAround_4 : decode cX10_mostAround 4 = .ok (.iload_n 3, 1) := by decide +kernel
theorem dX10_mostAround_5 : decode cX10_mostAround 5 = .ok (.aload_n 0, 1) := by decide +kernel
theorem dX10_mostAround_6 : decode cX10_mostAround 6 = .ok (.getfield 33, 3) := by decide +kernel
theorem dX10_mostAround_9 : decode cX10_mostAround 9 = .ok (.if_icmp .ge 53, 3) := by decide +kernel
theorem dX10_mostAround_12 : decode cX10_mostAround 12 = .ok (.aload_n 0, 1) := by decide +kernel
theorem dX10_mostAround_13 : decode cX10_mostAround 13 = .ok (.getfield 9, 3) := by decide +kernel
theorem dX10_mostAround_16 : decode cX10_mostAround 16 = .ok (.iload_n 1, 1) := by decide +kernel
theorem dX10_mostAround_17 : decode cX10_mostAround 17 = .ok (.iaload, 1) := by decide +kernel
theorem dX10_mostAround_18 : decode cX10_mostAround 18 = .ok (.iload_n 3, 1) := by decide +kernel
theorem dX10_mostAround_19 : decode cX10_mostAround 19 = .ok (.invokestatic 47, 3) := by decide +kernel
theorem dX10_mostAround_22 : decode cX10_mostAround 22 = .ok (.ifCond .eq 34, 3) := by decide +kernel
theorem dX10_mostAround_25 : decode cX10_mostAround 25 = .ok (.aload_n 0, 1) := by decide +kernel
theorem dX10_mostAround_26 : decode cX10_mostAround 26 = .ok (.getfield 24, 3) := by decide +kernel
theorem dX10_mostAround_29 : decode cX10_mostAround 29 = .ok (.aload_n 0, 1) := by decide +kernel
theorem dX10_mostAround_30 : decode cX10_mostAround 30 = .ok (.getfield 15, 3) := by decide +kernel
theorem dX10_mostAround_33 : decode cX10_mostAround 33 = .ok (.iload_n 3, 1) := by decide +kernel
theorem dX10_mostAround_34 : decode cX10_mostAround 34 = .ok (.iaload, 1) := by decide +kernel
theorem dX10_mostAround_35 : decode cX10_mostAround 35 = .ok (.dup2, 1) := by decide +kernel
theorem dX10_mostAround_36 : decode cX10_mostAround 36 = .ok (.iaload, 1) := by decide +kernel
theorem dX10_mostAround_37 : decode cX10_mostAround 37 = .ok (.iconst 1, 1) := by decide +kernel
theorem dX10_mostAround_38 : decode cX10_mostAround 38 = .ok (.iadd, 1) := by decide +kernel
theorem dX10_mostAround_39 : decode cX10_mostAround 39 = .ok (.iastore, 1) := by decide +kernel
theorem dX10_mostAround_40 : decode cX10_mostAround 40 = .ok (.iload_n 2, 1) := by decide +kernel
theorem dX10_mostAround_41 : decode cX10_mostAround 41 = .ok (.aload_n 0, 1) := by decide +kernel
theorem dX10_mostAround_42 : decode cX10_mostAround 42 = .ok (.getfield 24, 3) := by decide +kernel
theorem dX10_mostAround_45 : decode cX10_mostAround 45 = .ok (.aload_n 0, 1) := by decide +kernel
theorem dX10_mostAround_46 : decode cX10_mostAround 46 = .ok (.getfield 15, 3) := by decide +kernel
theorem dX10_mostAround_49 : decode cX10_mostAround 49 = .ok (.iload_n 3, 1) := by decide +kernel
theorem dX10_mostAround_50 : decode cX10_mostAround 50 = .ok (.iaload, 1) := by decide +kernel
theorem dX10_mostAround_51 : decode cX10_mostAround 51 = .ok (.iaload, 1) := by decide +kernel
theorem dX10_mostAround_52 : decode cX10_mostAround 52 = .ok (.invokestatic 62, 3) := by decide +kernel
theorem dX10_mostAround_55 : decode cX10_mostAround 55 = .ok (.istore_n 2, 1) := by decide +kernel
theorem dX10_mostAround_56 : decode cX10_mostAround 56 = .ok (.iinc 3 1, 3) := by decide +kernel
theorem dX10_mostAround_59 : decode cX10_mostAround 59 = .ok (.goto (-55), 3) := by decide +kernel
theorem dX10_mostAround_62 : decode cX10_mostAround 62 = .ok (.aload_n 0, 1) := by decide +kernel
theorem dX10_mostAround_63 : decode cX10_mostAround 63 = .ok (.getfield 15, 3) := by decide +kernel
theorem dX10_mostAround_66 : decode cX10_mostAround 66 = .ok (.iload_n 1, 1) := by decide +kernel
theorem dX10_mostAround_67 : decode cX10_mostAround 67 = .ok (.iaload, 1) := by decide +kernel
theorem dX10_mostAround_68 : decode cX10_mostAround 68 = .ok (.istore_n 3, 1) := by decide +kernel
theorem dX10_mostAround_69 : decode cX10_mostAround 69 = .ok (.aload_n 0, 1) := by decide +kernel
theorem dX10_mostAround_70 : decode cX10_mostAround 70 = .ok (.getfield 24, 3) := by decide +kernel
theorem dX10_mostAround_73 : decode cX10_mostAround 73 = .ok (.iload_n 3, 1) := by decide +kernel
theorem dX10_mostAround_74 : decode cX10_mostAround 74 = .ok (.iaload, 1) := by decide +kernel
theorem dX10_mostAround_75 : decode cX10_mostAround 75 = .ok (.iload_n 2, 1) := by decide +kernel
theorem dX10_mostAround_76 : decode cX10_mostAround 76 = .ok (.if_icmp .ne 7, 3) := by decide +kernel
theorem dX10_mostAround_79 : decode cX10_mostAround 79 = .ok (.iconst 1, 1) := by decide +kernel
theorem dX10_mostAround_80 : decode cX10_mostAround 80 = .ok (.goto 4, 3) := by decide +kernel
theorem dX10_mostAround_83 : decode cX10_mostAround 83 = .ok (.iconst 0, 1) := by decide +kernel
theorem dX10_mostAround_84 : decode cX10_mostAround 84 = .ok (.istore 4, 2) := by decide +kernel
theorem dX10_mostAround_86 : decode cX10_mostAround 86 = .ok (.iconst 0, 1) := by decide +kernel
theorem dX10_mostAround_87 : decode cX10_mostAround 87 = .ok (.istore 5, 2) := by decide +kernel
theorem dX10_mostAround_89 : decode cX10_mostAround 89 = .ok (.iload 5, 2) := by decide +kernel
theorem dX10_mostAround_91 : decode cX10_mostAround 91 = .ok (.aload_n 0, 1) := by decide +kernel
theorem dX10_mostAround_92 : decode cX10_mostAround 92 = .ok (.getfield 33, 3) := by decide +kernel
theorem dX10_mostAround_95 : decode cX10_mostAround 95 = .ok (.if_icmp .ge 71, 3) := by decide +kernel
theorem dX10_mostAround_98 : decode cX10_mostAround 98 = .ok (.iload 4, 2) := by decide +kernel
theorem dX10_mostAround_100 : decode cX10_mostAround 100 = .ok (.ifCond .ne 66, 3) := by decide +kernel
theorem dX10_mostAround_103 : decode cX10_mostAround 103 = .ok (.aload_n 0, 1) := by decide +kernel
theorem dX10_mostAround_104 : decode cX10_mostAround 104 = .ok (.getfield 24, 3) := by decide +kernel
theorem dX10_mostAround_107 : decode cX10_mostAround 107 = .ok (.iload_n 3, 1) := by decide +kernel
theorem dX10_mostAround_108 : decode cX10_mostAround 108 = .ok (.iaload, 1) := by decide +kernel
theorem dX10_mostAround_109 : decode cX10_mostAround 109 = .ok (.iload_n 2, 1) := by decide +kernel
theorem dX10_mostAround_110 : decode cX10_mostAround 110 = .ok (.if_icmp .lt 14, 3) := by decide +kernel
theorem dX10_mostAround_113 : decode cX10_mostAround 113 = .ok (.aload_n 0, 1) := by decide +kernel
theorem dX10_mostAround_114 : decode cX10_mostAround 114 = .ok (.getfield 15, 3) := by decide +kernel
theorem dX10_mostAround_117 : decode cX10_mostAround 117 = .ok (.iload 5, 2) := by decide +kernel
theorem dX10_mostAround_119 : decode cX10_mostAround 119 = .ok (.iaload, 1) := by decide +kernel
theorem dX10_mostAround_120 : decode cX10_mostAround 120 = .ok (.iload_n 3, 1) := by decide +kernel
theorem dX10_mostAround_121 : decode cX10_mostAround 121 = .ok (.if_icmp .ge 7, 3) := by decide +kernel
theorem dX10_mostAround_124 : decode cX10_mostAround 124 = .ok (.iconst 1, 1) := by decide +kernel
theorem dX10_mostAround_125 : decode cX10_mostAround 125 = .ok (.goto 4, 3) := by decide +kernel
theorem dX10_mostAround_128 : decode cX10_mostAround 128 = .ok (.iconst 0, 1) := by decide +kernel
theorem dX10_mostAround_129 : decode cX10_mostAround 129 = .ok (.istore 6, 2) := by decide +kernel
theorem dX10_mostAround_131 : decode cX10_mostAround 131 = .ok (.aload_n 0, 1) := by decide +kernel
theorem dX10_mostAround_132 : decode cX10_mostAround 132 = .ok (.getfield 24, 3) := by decide +kernel
theorem dX10_mostAround_135 : decode cX10_mostAround 135 = .ok (.aload_n 0, 1) := by decide +kernel
theorem dX10_mostAround_136 : decode cX10_mostAround 136 = .ok (.getfield 15, 3) := by decide +kernel
theorem dX10_mostAround_139 : decode cX10_mostAround 139 = .ok (.iload 5, 2) := by decide +kernel
theorem dX10_mostAround_141 : decode cX10_mostAround 141 = .ok (.iaload, 1) := by decide +kernel
theorem dX10_mostAround_142 : decode cX10_mostAround 142 = .ok (.iaload, 1) := by decide +kernel
theorem dX10_mostAround_143 : decode cX10_mostAround 143 = .ok (.iload_n 2, 1) := by decide +kernel
theorem dX10_mostAround_144 : decode cX10_mostAround 144 = .ok (.if_icmp .ne 16, 3) := by decide +kernel
theorem dX10_mostAround_147 : decode cX10_mostAround 147 = .ok (.iload 6, 2) := by decide +kernel
theorem dX10_mostAround_149 : decode cX10_mostAround 149 = .ok (.ifCond .eq 11, 3) := by decide +kernel
theorem dX10_mostAround_152 : decode cX10_mostAround 152 = .ok (.aload_n 0, 1) := by decide +kernel
theorem dX10_mostAround_153 : decode cX10_mostAround 153 = .ok (.getfield 15, 3) := by decide +kernel
theorem dX10_mostAround_156 : decode cX10_mostAround 156 = .ok (.iload 5, 2) := by decide +kernel
theorem dX10_mostAround_158 : decode cX10_mostAround 158 = .ok (.iaload, 1) := by decide +kernel
theorem dX10_mostAround_159 : decode cX10_mostAround 159 = .ok (.istore_n 3, 1) := by decide +kernel
theorem dX10_mostAround_160 : decode cX10_mostAround 160 = .ok (.iinc 5 1, 3) := by decide +kernel
theorem dX10_mostAround_163 : decode cX10_mostAround 163 = .ok (.goto (-74), 3) := by decide +kernel
theorem dX10_mostAround_166 : decode cX10_mostAround 166 = .ok (.aload_n 0, 1) := by decide +kernel
theorem dX10_mostAround_167 : decode cX10_mostAround 167 = .ok (.getfield 24, 3) := by decide +kernel
theorem dX10_mostAround_170 : decode cX10_mostAround 170 = .ok (.iconst 0, 1) := by decide +kernel
theorem dX10_mostAround_171 : decode cX10_mostAround 171 = .ok (.invokestatic 68, 3) := by decide +kernel
theorem dX10_mostAround_174 : decode cX10_mostAround 174 = .ok (.iload_n 3, 1) := by decide +kernel
theorem dX10_mostAround_175 : decode cX10_mostAround 175 = .ok (.ireturn, 1) := by decide +kernel
theorem dX10_ownOf_0 : decode cX10_ownOf 0 = .ok (.iload_n 1, 1) := by decide +kernel
theorem dX10_ownOf_1 : decode cX10_ownOf 1 = .ok (.ifCond .lt 20, 3) := by decide +kernel
theorem dX10_ownOf_4 : decode cX10_ownOf 4 = .ok (.iload_n 1, 1) := by decide +kernel
theorem dX10_ownOf_5 : decode cX10_ownOf 5 = .ok (.aload_n 0, 1) := by decide +kernel
theorem dX10_ownOf_6 : decode cX10_ownOf 6 = .ok (.getfield 33, 3) := by decide +kernel
theorem dX10_ownOf_9 : decode cX10_ownOf 9 = .ok (.if_icmp .ge 12, 3) := by decide +kernel
theorem dX10_ownOf_12 : decode cX10_ownOf 12 = .ok (.aload_n 0, 1) := by decide +kernel
theorem dX10_ownOf_13 : decode cX10_ownOf 13 = .ok (.getfield 15, 3) := by decide +kernel
theorem dX10_ownOf_16 : decode cX10_ownOf 16 = .ok (.iload_n 1, 1) := by decide +kernel
theorem dX10_ownOf_17 : decode cX10_ownOf 17 = .ok (.iaload, 1) := by decide +kernel
theorem dX10_ownOf_18 : decode cX10_ownOf 18 = .ok (.goto 4, 3) := by decide +kernel
theorem dX10_ownOf_21 : decode cX10_ownOf 21 = .ok (.iconst (-1), 1) := by decide +kernel
theorem dX10_ownOf_22 : decode cX10_ownOf 22 = .ok (.ireturn, 1) := by decide +kernel
theorem dX10_howManyHave_0 : decode cX10_howManyHave 0 = .ok (.iconst 0, 1) := by decide +kernel
theorem dX10_howManyHave_1 : decode cX10_howManyHave 1 = .ok (.istore_n 2, 1) := by decide +kernel
theorem dX10_howManyHave_2 : decode cX10_howManyHave 2 = .ok (.iconst 0, 1) := by decide +kernel
theorem dX10_howManyHave_3 : decode cX10_howManyHave 3 = .ok (.istore_n 3, 1) := by decide +kernel
theorem dX10_howManyHave_4 : decode cX10_howManyHave 4 = .ok (.iload_n 3, 1) := by decide +kernel
theorem dX10_howManyHave_5 : decode cX10_howManyHave 5 = .ok (.aload_n 0, 1) := by decide +kernel
theorem dX10_howManyHave_6 : decode cX10_howManyHave 6 = .ok (.getfield 33, 3) := by decide +kernel
theorem dX10_howManyHave_9 : decode cX10_howManyHave 9 = .ok (.if_icmp .ge 27, 3) := by decide +kernel
theorem dX10_howManyHave_12 : decode cX10_howManyHave 12 = .ok (.iload_n 2, 1) := by decide +kernel
theorem dX10_howManyHave_13 : decode cX10_howManyHave 13 = .ok (.aload_n 0, 1) := by decide +kernel
theorem dX10_howManyHave_14 : decode cX10_howManyHave 14 = .ok (.getfield 15, 3) := by decide +kernel
theorem dX10_howManyHave_17 : decode cX10_howManyHave 17 = .ok (.iload_n 3, 1) := by decide +kernel
theorem dX10_howManyHave_18 : decode cX10_howManyHave 18 = .ok (.iaload, 1) := by decide +kernel
theorem dX10_howManyHave_19 : decode cX10_howManyHave 19 = .ok (.iload_n 1, 1) := by decide +kernel
theorem dX10_howManyHave_20 : decode cX10_howManyHave 20 = .ok (.if_icmp .ne 7, 3) := by decide +kernel
theorem dX10_howManyHave_23 : decode cX10_howManyHave 23 = .ok (.iconst 1, 1) := by decide +kernel
theorem dX10_howManyHave_24 : decode cX10_howManyHave 24 = .ok (.goto 4, 3) := by decide +kernel
theorem dX10_howManyHave_27 : decode cX10_howManyHave 27 = .ok (.iconst 0, 1) := by decide +kernel
theorem dX10_howManyHave_28 : decode cX10_howManyHave 28 = .ok (.iadd, 1) := by decide +kernel
theorem dX10_howManyHave_29 : decode cX10_howManyHave 29 = .ok (.istore_n 2, 1) := by decide +kernel
theorem dX10_howManyHave_30 : decode cX10_howManyHave 30 = .ok (.iinc 3 1, 3) := by decide +kernel
theorem dX10_howManyHave_33 : decode cX10_howManyHave 33 = .ok (.goto (-29), 3) := by decide +kernel
theorem dX10_howManyHave_36 : decode cX10_howManyHave 36 = .ok (.iload_n 2, 1) := by decide +kernel
theorem dX10_howManyHave_37 : decode cX10_howManyHave 37 = .ok (.ireturn, 1) := by decide +kernel
theorem dX10_kinds_0 : decode cX10_kinds 0 = .ok (.iconst 0, 1) := by decide +kernel
theorem dX10_kinds_1 : decode cX10_kinds 1 = .ok (.istore_n 1, 1) := by decide +kernel
theorem dX10_kinds_2 : decode cX10_kinds 2 = .ok (.iconst 0, 1) := by decide +kernel
theorem dX10_kinds_3 : decode cX10_kinds 3 = .ok (.istore_n 2, 1) := by decide +kernel
theorem dX10_kinds_4 : decode cX10_kinds 4 = .ok (.iload_n 2, 1) := by decide +kernel
theorem dX10_kinds_5 : decode cX10_kinds 5 = .ok (.aload_n 0, 1) := by decide +kernel
theorem dX10_kinds_6 : decode cX10_kinds 6 = .ok (.getfield 33, 3) := by decide +kernel
theorem dX10_kinds_9 : decode cX10_kinds 9 = .ok (.if_icmp .ge 20, 3) := by decide +kernel
theorem dX10_kinds_12 : decode cX10_kinds 12 = .ok (.iload_n 1, 1) := by decide +kernel
theorem dX10_kinds_13 : decode cX10_kinds 13 = .ok (.iconst 1, 1) := by decide +kernel
theorem dX10_kinds_14 : decode cX10_kinds 14 = .ok (.aload_n 0, 1) := by decide +kernel
theorem dX10_kinds_15 : decode cX10_kinds 15 = .ok (.getfield 15, 3) := by decide +kernel
theorem dX10_kinds_18 : decode cX10_kinds 18 = .ok (.iload_n 2, 1) := by decide +kernel
theorem dX10_kinds_19 : decode cX10_kinds 19 = .ok (.iaload, 1) := by decide +kernel
theorem dX10_kinds_20 : decode cX10_kinds 20 = .ok (.ishl, 1) := by decide +kernel
theorem dX10_kinds_21 : decode cX10_kinds 21 = .ok (.ior, 1) := by decide +kernel
theorem dX10_kinds_22 : decode cX10_kinds 22 = .ok (.istore_n 1, 1) := by decide +kernel
theorem dX10_kinds_23 : decode cX10_kinds 23 = .ok (.iinc 2 1, 3) := by decide +kernel
theorem dX10_kinds_26 : decode cX10_kinds 26 = .ok (.goto (-22), 3) := by decide +kernel
theorem dX10_kinds_29 : decode cX10_kinds 29 = .ok (.iload_n 1, 1) := by decide +kernel
theorem dX10_kinds_30 : decode cX10_kinds 30 = .ok (.invokestatic 74, 3) := by decide +kernel
theorem dX10_kinds_33 : decode cX10_kinds 33 = .ok (.ireturn, 1) := by decide +kernel
theorem dX10_mostCommon_0 : decode cX10_mostCommon 0 = .ok (.iconst (-1), 1) := by decide +kernel
theorem dX10_mostCommon_1 : decode cX10_mostCommon 1 = .ok (.istore_n 1, 1) := by decide +kernel
theorem dX10_mostCommon_2 : decode cX10_mostCommon 2 = .ok (.iconst 0, 1) := by decide +kernel
theorem dX10_mostCommon_3 : decode cX10_mostCommon 3 = .ok (.istore_n 2, 1) := by decide +kernel
theorem dX10_mostCommon_4 : decode cX10_mostCommon 4 = .ok (.iconst 0, 1) := by decide +kernel
theorem dX10_mostCommon_5 : decode cX10_mostCommon 5 = .ok (.istore_n 3, 1) := by decide +kernel
theorem dX10_mostCommon_6 : decode cX10_mostCommon 6 = .ok (.iload_n 3, 1) := by decide +kernel
theorem dX10_mostCommon_7 : decode cX10_mostCommon 7 = .ok (.bipush 32, 2) := by decide +kernel
theorem dX10_mostCommon_9 : decode cX10_mostCommon 9 = .ok (.if_icmp .ge 27, 3) := by decide +kernel
theorem dX10_mostCommon_12 : decode cX10_mostCommon 12 = .ok (.aload_n 0, 1) := by decide +kernel
theorem dX10_mostCommon_13 : decode cX10_mostCommon 13 = .ok (.iload_n 3, 1) := by decide +kernel
theorem dX10_mostCommon_14 : decode cX10_mostCommon 14 = .ok (.invokevirtual 79, 3) := by decide +kernel
theorem dX10_mostCommon_17 : decode cX10_mostCommon 17 = .ok (.istore 4, 2) := by decide +kernel
theorem dX10_mostCommon_19 : decode cX10_mostCommon 19 = .ok (.iload 4, 2) := by decide +kernel
theorem dX10_mostCommon_21 : decode cX10_mostCommon 21 = .ok (.iload_n 2, 1) := by decide +kernel
theorem dX10_mostCommon_22 : decode cX10_mostCommon 22 = .ok (.if_icmp .le 8, 3) := by decide +kernel
theorem dX10_mostCommon_25 : decode cX10_mostCommon 25 = .ok (.iload_n 3, 1) := by decide +kernel
theorem dX10_mostCommon_26 : decode cX10_mostCommon 26 = .ok (.istore_n 1, 1) := by decide +kernel
theorem dX10_mostCommon_27 : decode cX10_mostCommon 27 = .ok (.iload 4, 2) := by decide +kernel
theorem dX10_mostCommon_29 : decode cX10_mostCommon 29 = .ok (.istore_n 2, 1) := by decide +kernel
theorem dX10_mostCommon_30 : decode cX10_mostCommon 30 = .ok (.iinc 3 1, 3) := by decide +kernel
theorem dX10_mostCommon_33 : decode cX10_mostCommon 33 = .ok (.goto (-27), 3) := by decide +kernel
theorem dX10_mostCommon_36 : decode cX10_mostCommon 36 = .ok (.iload_n 1, 1) := by decide +kernel
theorem dX10_mostCommon_37 : decode cX10_mostCommon 37 = .ok (.ireturn, 1) := by decide +kernel
theorem dX11_init_0 : decode cX11_init 0 = .ok (.aload_n 0, 1) := by decide +kernel
theorem dX11_init_1 : decode cX11_init 1 = .ok (.invokespecial 1, 3) := by decide +kernel
theorem dX11_init_4 : decode cX11_init 4 = .ok (.aload_n 0, 1) := by decide +kernel
theorem dX11_init_5 : decode cX11_init 5 = .ok (.sipush 400, 3) := by decide +kernel
theorem dX11_init_8 : decode cX11_init 8 = .ok (.newarray .int, 2) := by decide +kernel
theorem dX11_init_10 : decode cX11_init 10 = .ok (.putfield 9, 3) := by decide +kernel
theorem dX11_init_13 : decode cX11_init 13 = .ok (.aload_n 0, 1) := by decide +kernel
theorem dX11_init_14 : decode cX11_init 14 = .ok (.iconst (-1), 1) := by decide +kernel
theorem dX11_init_15 : decode cX11_init 15 = .ok (.putfield 13, 3) := by decide +kernel
theorem dX11_init_18 : decode cX11_init 18 = .ok (.aload_n 0, 1) := by decide +kernel
theorem dX11_init_19 : decode cX11_init 19 = .ok (.new 17, 3) := by decide +kernel
theorem dX11_init_22 : decode cX11_init 22 = .ok (.dup, 1) := by decide +kernel
theorem dX11_init_23 : decode cX11_init 23 = .ok (.invokespecial 19, 3) := by decide +kernel
theorem dX11_init_26 : decode cX11_init 26 = .ok (.putfield 20, 3) := by decide +kernel
theorem dX11_init_29 : decode cX11_init 29 = .ok (.aload_n 0, 1) := by decide +kernel
theorem dX11_init_30 : decode cX11_init 30 = .ok (.new 17, 3) := by decide +kernel
theorem dX11_init_33 : decode cX11_init 33 = .ok (.dup, 1) := by decide +kernel
theorem dX11_init_34 : decode cX11_init 34 = .ok (.invokespecial 19, 3) := by decide +kernel
theorem dX11_init_37 : decode cX11_init 37 = .ok (.putfield 24, 3) := by decide +kernel
theorem dX11_init_40 : decode cX11_init 40 = .ok (.aload_n 0, 1) := by decide +kernel
theorem dX11_init_41 : decode cX11_init 41 = .ok (.bipush 12, 2) := by decide +kernel
theorem dX11_init_43 : decode cX11_init 43 = .ok (.anewarray 17, 3) := by decide +kernel
theorem dX11_init_46 : decode cX11_init 46 = .ok (.putfield 27, 3) := by decide +kernel
theorem dX11_init_49 : decode cX11_init 49 = .ok (.aload_n 0, 1) := by decide +kernel
theorem dX11_init_50 : decode cX11_init 50 = .ok (.new 17, 3) := by decide +kernel
theorem dX11_init_53 : decode cX11_init 53 = .ok (.dup, 1) := by decide +kernel
theorem dX11_init_54 : decode cX11_init 54 = .ok (.invokespecial 19, 3) := by decide +kernel
theorem dX11_init_57 : decode cX11_init 57 = .ok (.putfield 31, 3) := by decide +kernel
theorem dX11_init_60 : decode cX11_init 60 = .ok (.aload_n 0, 1) := by decide +kernel
theorem dX11_init_61 : decode cX11_init 61 = .ok (.new 34, 3) := by decide +kernel
theorem dX11_init_64 : decode cX11_init 64 = .ok (.dup, 1) := by decide +kernel
theorem dX11_init_65 : decode cX11_init 65 = .ok (.invokespecial 36, 3) := by decide +kernel
theorem dX11_init_68 : decode cX11_init 68 = .ok (.putfield 37, 3) := by decide +kernel
theorem dX11_init_71 : decode cX11_init 71 = .ok (.aload_n 0, 1) := by decide +kernel
theorem dX11_init_72 : decode cX11_init 72 = .ok (.new 41, 3) := by decide +kernel
theorem dX11_init_75 : decode cX11_init 75 = .ok (.dup, 1) := by decide +kernel
theorem dX11_init_76 : decode cX11_init 76 = .ok (.invokespecial 43, 3) := by decide +kernel
theorem dX11_init_79 : decode cX11_init 79 = .ok (.putfield 44, 3) := by decide +kernel
theorem dX11_init_82 : decode cX11_init 82 = .ok (.iconst 0, 1) := by decide +kernel
theorem dX11_init_83 : decode cX11_init 83 = .ok (.istore_n 1, 1) := by decide +kernel
theorem dX11_init_84 : decode cX11_init 84 = .ok (.iload_n 1, 1) := by decide +kernel
theorem dX11_init_85 : decode cX11_init 85 = .ok (.bipush 12, 2) := by decide +kernel
theorem dX11_init_87 : decode cX11_init 87 = .ok (.if_icmp .ge 22, 3) := by decide +kernel
theorem dX11_init_90 : decode cX11_init 90 = .ok (.aload_n 0, 1) := by decide +kernel
theorem dX11_init_91 : decode cX11_init 91 = .ok (.getfield 27, 3) := by decide +kernel
theorem dX11_init_94 : decode cX11_init 94 = .ok (.iload_n 1, 1) := by decide +kernel
theorem dX11_init_95 : decode cX11_init 95 = .ok (.new 17, 3) := by decide +kernel
theorem dX11_init_98 : decode cX11_init 98 = .ok (.dup, 1) := by decide +kernel
theorem dX11_init_99 : decode cX11_init 99 = .ok (.invokespecial 19, 3) := by decide +kernel
theorem dX11_init_102 : decode cX11_init 102 = .ok (.aastore, 1) := by decide +kernel
theorem dX11_init_103 : decode cX11_init 103 = .ok (.iinc 1 1, 3) := by decide +kernel
theorem dX11_init_106 : decode cX11_init 106 = .ok (.goto (-22), 3) := by decide +kernel
theorem dX11_init_109 : decode cX11_init 109 = .ok (.return_, 1) := by decide +kernel
theorem dX11_feed_0 : decode cX11_feed 0 = .ok (.aload_n 0, 1) := by decide +kernel
theorem dX11_feed_1 : decode cX11_feed 1 = .ok (.getfield 48, 3) := by decide +kernel
theorem dX11_feed_4 : decode cX11_feed 4 = .ok (.sipush 380, 3) := by decide +kernel
theorem dX11_feed_7 : decode cX11_feed 7 = .ok (.if_icmp .le 5, 3) := by decide +kernel
theorem dX11_feed_10 : decode cX11_feed 10 = .ok (.iconst (-1), 1) := by decide +kernel
theorem dX11_feed_11 : decode cX11_feed 11 = .ok (.ireturn, 1) := by decide +kernel
theorem dX11_feed_12 : decode cX11_feed 12 = .ok (.aload_n 0, 1) := by decide +kernel
theorem dX11_feed_13 : decode cX11_feed 13 = .ok (.iload_n 1, 1) := by decide +kernel
theorem dX11_feed_14 : decode cX11_feed 14 = .ok (.invokevirtual 51, 3) := by decide +kernel
theorem dX11_feed_17 : decode cX11_feed 17 = .ok (.aload_n 0, 1) := by decide +kernel
theorem dX11_feed_18 : decode cX11_feed 18 = .ok (.iload_n 2, 1) := by decide +kernel
theorem dX11_feed_19 : decode cX11_feed 19 = .ok (.invokevirtual 51, 3) := by decide +kernel
theorem dX11_feed_22 : decode cX11_feed 22 = .ok (.aload_n 0, 1) := by decide +kernel
theorem dX11_feed_23 : decode cX11_feed 23 = .ok (.iload_n 3, 1) := by decide +kernel
theorem dX11_feed_24 : decode cX11_feed 24 = .ok (.invokevirtual 51, 3) := by decide +kernel
theorem dX11_feed_27 : decode cX11_feed 27 = .ok (.aload_n 0, 1) := by decide +kernel
theorem dX11_feed_28 : decode cX11_feed 28 = .ok (.iload 4, 2) := by decide +kernel
theorem dX11_feed_30 : decode cX11_feed 30 = .ok (.invokevirtual 51, 3) := by decide +kernel
theorem dX11_feed_33 : decode cX11_feed 33 = .ok (.aload_n 0, 1) := by decide +kernel
theorem dX11_feed_34 : decode cX11_feed 34 = .ok (.iload 5, 2) := by decide +kernel
theorem dX11_feed_36 : decode cX11_feed 36 = .ok (.invokevirtual 51, 3) := by decide +kernel
theorem dX11_feed_39 : decode cX11_feed 39 = .ok (.aload_n 0, 1) := by decide +kernel
theorem dX11_feed_40 : decode cX11_feed 40 = .ok (.getfield 48, 3) := by decide +kernel
theorem dX11_feed_43 : decode cX11_feed 43 = .ok (.ireturn, 1) := by decide +kernel
theorem dX11_feedNumber_0 : decode cX11_feedNumber 0 = .ok (.bipush 24, 2) := by decide +kernel
theorem dX11_feedNumber_2 : decode cX11_feedNumber 2 = .ok (.istore_n 2, 1) := by decide +kernel
theorem dX11_feedNumber_3 : decode cX11_feedNumber 3 = .ok (.iload_n 2, 1) := by decide +kernel
theorem dX11_feedNumber_4 : decode cX11_feedNumber 4 = .ok (.ifCond .lt 45, 3) := by decide +kernel
theorem dX11_feedNumber_7 : decode cX11_feedNumber 7 = .ok (.aload_n 0, 1) := by decide +kernel
theorem dX11_feedNumber_8 : decode cX11_feedNumber 8 = .ok (.getfield 48, 3) := by decide +kernel
theorem dX11_feedNumber_11 : decode cX11_feedNumber 11 = .ok (.sipush 400, 3) := by decide +kernel
theorem dX11_feedNumber_14 : decode cX11_feedNumber 14 = .ok (.if_icmp .ge 35, 3) := by decide +kernel
theorem dX11_feedNumber_17 : decode cX11_feedNumber 17 = .ok (.aload_n 0, 1) := by decide +kernel
theorem dX11_feedNumber_18 : decode cX11_feedNumber 18 = .ok (.getfield 9, 3) := by decide +kernel
theorem dX11_feedNumber_21 : decode cX11_feedNumber 21 = .ok (.aload_n 0, 1) := by decide +kernel
theorem dX11_feedNumber_22 : decode cX11_feedNumber 22 = .ok (.getfield 48, 3) := by decide +kernel
theorem dX11_feedNumber_25 : decode cX11_feedNumber 25 = .ok (.iload_n 1, 1) := by decide +kernel
theorem dX11_feedNumber_26 : decode cX11_feedNumber 26 = .ok (.iload_n 2, 1) := by decide +kernel
theorem dX11_feedNumber_27 : decode cX11_feedNumber 27 = .ok (.iushr, 1) := by decide +kernel
theorem dX11_feedNumber_28 : decode cX11_feedNumber 28 = .ok (.sipush 255, 3) := by decide +kernel
theorem dX11_feedNumber_31 : decode cX11_feedNumber 31 = .ok (.iand, 1) := by decide +kernel
theorem dX11_feedNumber_32 : decode cX11_feedNumber 32 = .ok (.iastore, 1) := by decide +kernel
theorem dX11_feedNumber_33 : decode cX11_feedNumber 33 = .ok (.aload_n 0, 1) := by decide +kernel
theorem dX11_feedNumber_34 : decode cX11_feedNumber 34 = .ok (.dup, 1) := by decide +kernel
theorem dX11_feedNumber_35 : decode cX11_feedNumber 35 = .ok (.getfield 48, 3) := by decide +kernel
theorem dX11_feedNumber_38 : decode cX11_feedNumber 38 = .ok (.iconst 1, 1) := by decide +kernel
theorem dX11_feedNumber_39 : decode cX11_feedNumber 39 = .ok (.iadd, 1) := by decide +kernel
theorem dX11_feedNumber_40 : decode cX11_feedNumber 40 = .ok (.putfield 48, 3) := by decide +kernel
theorem dX11_feedNumber_43 : decode cX11_feedNumber 43 = .ok (.iinc 2 (-8), 3) := by decide +kernel
theorem dX11_feedNumber_46 : decode cX11_feedNumber 46 = .ok (.goto (-43), 3) := by decide +kernel
theorem dX11_feedNumber_49 : decode cX11_feedNumber 49 = .ok (.return_, 1) := by decide +kernel
theorem dX11_end_0 : decode cX11_end 0 = .ok (.iload_n 1, 1) := by decide +kernel
theorem dX11_end_1 : decode cX11_end 1 = .ok (.ifCond .lt 11, 3) := by decide +kernel
theorem dX11_end_4 : decode cX11_end 4 = .ok (.iload_n 1, 1) := by decide +kernel
theorem dX11_end_5 : decode cX11_end 5 = .ok (.aload_n 0, 1) := by decide +kernel
theorem dX11_end_6 : decode cX11_end 6 = .ok (.getfield 48, 3) := by decide +kernel
theorem dX11_end_9 : decode cX11_end 9 = .ok (.if_icmp .le 5, 3) := by decide +kernel
theorem dX11_end_12 : decode cX11_end 12 = .ok (.iconst 0, 1) := by decide +kernel
theorem dX11_end_13 : decode cX11_end 13 = .ok (.ireturn, 1) := by decide +kernel
theorem dX11_end_14 : decode cX11_end 14 = .ok (.aload_n 0, 1) := by decide +kernel
theorem dX11_end_15 : decode cX11_end 15 = .ok (.iload_n 1, 1) := by decide +kernel
theorem dX11_end_16 : decode cX11_end 16 = .ok (.putfield 48, 3) := by decide +kernel
theorem dX11_end_19 : decode cX11_end 19 = .ok (.iconst 1, 1) := by decide +kernel
theorem dX11_end_20 : decode cX11_end 20 = .ok (.ireturn, 1) := by decide +kernel
theorem dX11_useTapeUp_0 : decode cX11_useTapeUp 0 = .ok (.aload_n 0, 1) := by decide +kernel
theorem dX11_useTapeUp_1 : decode cX11_useTapeUp 1 = .ok (.getfield 48, 3) := by decide +kernel
theorem dX11_useTapeUp_4 : decode cX11_useTapeUp 4 = .ok (.istore_n 1, 1) := by decide +kernel
theorem dX11_useTapeUp_5 : decode cX11_useTapeUp 5 = .ok (.aload_n 0, 1) := by decide +kernel
theorem dX11_useTapeUp_6 : decode cX11_useTapeUp 6 = .ok (.iconst 0, 1) := by decide +kernel
theorem dX11_useTapeUp_7 : decode cX11_useTapeUp 7 = .ok (.putfield 48, 3) := by decide +kernel
theorem dX11_useTapeUp_10 : decode cX11_useTapeUp 10 = .ok (.iload_n 1, 1) := by decide +kernel
theorem dX11_useTapeUp_11 : decode cX11_useTapeUp 11 = .ok (.ireturn, 1) := by decide +kernel
theorem dX11_town_0 : decode cX11_town 0 = .ok (.aload_n 0, 1) := by decide +kernel
theorem dX11_town_1 : decode cX11_town 1 = .ok (.invokevirtual 55, 3) := by decide +kernel
theorem dX11_town_4 : decode cX11_town 4 = .ok (.istore_n 1, 1) := by decide +kernel
theorem dX11_town_5 : decode cX11_town 5 = .ok (.aload_n 0, 1) := by decide +kernel
theorem dX11_town_6 : decode cX11_town 6 = .ok (.getfield 31, 3) := by decide +kernel
theorem dX11_town_9 : decode cX11_town 9 = .ok (.aload_n 0, 1) := by decide +kernel
theorem dX11_town_10 : decode cX11_town 10 = .ok (.getfield 20, 3) := by decide +kernel
theorem dX11_town_13 : decode cX11_town 13 = .ok (.invokevirtual 59, 3) := by decide +kernel
theorem dX11_town_16 : decode cX11_town 16 = .ok (.new 63, 3) := by decide +kernel
theorem dX11_town_19 : decode cX11_town 19 = .ok (.dup, 1) := by decide +kernel
theorem dX11_town_20 : decode cX11_town 20 = .ok (.aload_n 0, 1) := by decide +kernel
theorem dX11_town_21 : decode cX11_town 21 = .ok (.getfield 9, 3) := by decide +kernel
theorem dX11_town_24 : decode cX11_town 24 = .ok (.iload_n 1, 1) := by decide +kernel
theorem dX11_town_25 : decode cX11_town 25 = .ok (.aload_n 0, 1) := by decide +kernel
theorem dX11_town_26 : decode cX11_town 26 = .ok (.getfield 31, 3) := by decide +kernel
theorem dX11_town_29 : decode cX11_town 29 = .ok (.invokespecial 65, 3) := by decide +kernel
theorem dX11_town_32 : decode cX11_town 32 = .ok (.astore_n 2, 1) := by decide +kernel
theorem dX11_town_33 : decode cX11_town 33 = .ok (.aload_n 2, 1) := by decide +kernel
theorem dX11_town_34 : decode cX11_town 34 = .ok (.bipush 14, 2) := by decide +kernel
theorem dX11_town_36 : decode cX11_town 36 = .ok (.invokevirtual 68, 3) := by decide +kernel
theorem dX11_town_39 : decode cX11_town 39 = .ok (.istore_n 3, 1) := by decide +kernel
theorem dX11_town_40 : decode cX11_town 40 = .ok (.aload_n 0, 1) := by decide +kernel
theorem dX11_town_41 : decode cX11_town 41 = .ok (.aload_n 2, 1) := by decide +kernel
theorem dX11_town_42 : decode cX11_town 42 = .ok (.getfield 72, 3) := by decide +kernel
theorem dX11_town_45 : decode cX11_town 45 = .ok (.putfield 13, 3) := by decide +kernel
theorem dX11_town_48 : decode cX11_town 48 = .ok (.iload_n 3, 1) := by decide +kernel
theorem dX11_town_49 : decode cX11_town 49 = .ok (.ifCond .ne 13, 3) := by decide +kernel
theorem dX11_town_52 : decode cX11_town 52 = .ok (.new 73, 3) := by decide +kernel
theorem dX11_town_55 : decode cX11_town 55 = .ok (.dup, 1) := by decide +kernel
theorem dX11_town_56 : decode cX11_town 56 = .ok (.ldc 75, 2) := by decide +kernel
theorem dX11_town_58 : decode cX11_town 58 = .ok (.invokespecial 77, 3) := by decide +kernel
theorem dX11_town_61 : decode cX11_town 61 = .ok (.athrow, 1) := by decide +kernel
theorem dX11_town_62 : decode cX11_town 62 = .ok (.aload_n 0, 1) := by decide +kernel
theorem dX11_town_63 : decode cX11_town 63 = .ok (.getfield 20, 3) := by decide +kernel
theorem dX11_town_66 : decode cX11_town 66 = .ok (.getfield 80, 3) := by decide +kernel
theorem dX11_town_69 : decode cX11_town 69 = .ok (.bipush 12, 2) := by decide +kernel
theorem dX11_town_71 : decode cX11_town 71 = .ok (.if_icmp .lt 13, 3) := by decide +kernel
theorem dX11_town_74 : decode cX11_town 74 = .ok (.new 83, 3) := by decide +kernel
theorem dX11_town_77 : decode cX11_town 77 = .ok (.dup, 1) := by decide +kernel
theorem dX11_town_78 : decode cX11_town 78 = .ok (.ldc 85, 2) := by decide +kernel
theorem dX11_town_80 : decode cX11_town 80 = .ok (.invokespecial 87, 3) := by decide +kernel
theorem dX11_town_83 : decode cX11_town 83 = .ok (.athrow, 1) := by decide +kernel
theorem dX11_town_84 : decode cX11_town 84 = .ok (.aload_n 0, 1) := by decide +kernel
theorem dX11_town_85 : decode cX11_town 85 = .ok (.getfield 31, 3) := by decide +kernel
theorem dX11_town_88 : decode cX11_town 88 = .ok (.dup, 1) := by decide +kernel
theorem dX11_town_89 : decode cX11_town 89 = .ok (.getfield 80, 3) := by decide +kernel
theorem dX11_town_92 : decode cX11_town 92 = .ok (.iconst 1, 1) := by decide +kernel
theorem dX11_town_93 : decode cX11_town 93 = .ok (.iadd, 1) := by decide +kernel
theorem dX11_town_94 : decode cX11_town 94 = .ok (.putfield 80, 3) := by decide +kernel
theorem dX11_town_97 : decode cX11_town 97 = .ok (.aload_n 0, 1) := by decide +kernel
theorem dX11_town_98 : decode cX11_town 98 = .ok (.getfield 20, 3) := by decide +kernel
theorem dX11_town_101 : decode cX11_town 101 = .ok (.aload_n 0, 1) := by decide +kernel
theorem dX11_town_102 : decode cX11_town 102 = .ok (.getfield 31, 3) := by decide +kernel
theorem dX11_town_105 : decode cX11_town 105 = .ok (.invokevirtual 59, 3) := by decide +kernel
theorem dX11_town_108 : decode cX11_town 108 = .ok (.aload_n 0, 1) := by decide +kernel
theorem dX11_town_109 : decode cX11_town 109 = .ok (.iconst 0, 1) := by decide +kernel
theorem dX11_town_110 : decode cX11_town 110 = .ok (.putfield 88, 3) := by decide +kernel
theorem dX11_town_113 : decode cX11_town 113 = .ok (.aload_n 0, 1) := by decide +kernel
theorem dX11_town_114 : decode cX11_town 114 = .ok (.getfield 20, 3) := by decide +kernel
theorem dX11_town_117 : decode cX11_town 117 = .ok (.getfield 80, 3) := by decide +kernel
theorem dX11_town_120 : decode cX11_town 120 = .ok (.ireturn, 1) := by decide +kernel
theorem dX11_law_0 : decode cX11_law 0 = .ok (.aload_n 0, 1) := by decide +kernel
theorem dX11_law_1 : decode cX11_law 1 = .ok (.invokevirtual 55, 3) := by decide +kernel
theorem dX11_law_4 : decode cX11_law 4 = .ok (.istore_n 1, 1) := by decide +kernel
theorem dX11_law_5 : decode cX11_law 5 = .ok (.new 91, 3) := by decide +kernel
theorem dX11_law_8 : decode cX11_law 8 = .ok (.dup, 1) := by decide +kernel
theorem dX11_law_9 : decode cX11_law 9 = .ok (.iload_n 1, 1) := by decide +kernel
theorem dX11_law_10 : decode cX11_law 10 = .ok (.invokespecial 93, 3) := by decide +kernel
theorem dX11_law_13 : decode cX11_law 13 = .ok (.astore_n 2, 1) := by decide +kernel
theorem dX11_law_14 : decode cX11_law 14 = .ok (.new 95, 3) := by decide +kernel
theorem dX11_law_17 : decode cX11_law 17 = .ok (.dup, 1) := by decide +kernel
theorem dX11_law_18 : decode cX11_law 18 = .ok (.aload_n 0, 1) := by decide +kernel
theorem dX11_law_19 : decode cX11_law 19 = .ok (.getfield 9, 3) := by decide +kernel
theorem dX11_law_22 : decode cX11_law 22 = .ok (.iload_n 1, 1) := by decide +kernel
theorem dX11_law_23 : decode cX11_law 23 = .ok (.aload_n 2, 1) := by decide +kernel
theorem dX11_law_24 : decode cX11_law 24 = .ok (.invokespecial 97, 3) := by decide +kernel
theorem dX11_law_27 : decode cX11_law 27 = .ok (.astore_n 3, 1) := by decide +kernel
theorem dX11_law_28 : decode cX11_law 28 = .ok (.aload_n 3, 1) := by decide +kernel
theorem dX11_law_29 : decode cX11_law 29 = .ok (.bipush 12, 2) := by decide +kernel
theorem dX11_law_31 : decode cX11_law 31 = .ok (.invokevirtual 100, 3) := by decide +kernel
theorem dX11_law_34 : decode cX11_law 34 = .ok (.istore 4, 2) := by decide +kernel
theorem dX11_law_36 : decode cX11_law 36 = .ok (.aload_n 0, 1) := by decide +kernel
theorem dX11_law_37 : decode cX11_law 37 = .ok (.aload_n 3, 1) := by decide +kernel
theorem dX11_law_38 : decode cX11_law 38 = .ok (.getfield 101, 3) := by decide +kernel
theorem dX11_law_41 : decode cX11_law 41 = .ok (.putfield 13, 3) := by decide +kernel
theorem dX11_law_44 : decode cX11_law 44 = .ok (.iload 4, 2) := by decide +kernel
theorem dX11_law_46 : decode cX11_law 46 = .ok (.ifCond .ne 13, 3) := by decide +kernel
theorem dX11_law_49 : decode cX11_law 49 = .ok (.new 73, 3) := by decide +kernel
theorem dX11_law_52 : decode cX11_law 52 = .ok (.dup, 1) := by decide +kernel
theorem dX11_law_53 : decode cX11_law 53 = .ok (.ldc 102, 2) := by decide +kernel
theorem dX11_law_55 : decode cX11_law 55 = .ok (.invokespecial 77, 3) := by decide +kernel
theorem dX11_law_58 : decode cX11_law 58 = .ok (.athrow, 1) := by decide +kernel
theorem dX11_law_59 : decode cX11_law 59 = .ok (.aload_n 0, 1) := by decide +kernel
theorem dX11_law_60 : decode cX11_law 60 = .ok (.getfield 20, 3) := by decide +kernel
theorem dX11_law_63 : decode cX11_law 63 = .ok (.aload_n 2, 1) := by decide +kernel
theorem dX11_law_64 : decode cX11_law 64 = .ok (.putfield 104, 3) := by decide +kernel
theorem dX11_law_67 : decode cX11_law 67 = .ok (.aload_n 0, 1) := by decide +kernel
theorem dX11_law_68 : decode cX11_law 68 = .ok (.iconst 0, 1) := by decide +kernel
theorem dX11_law_69 : decode cX11_law 69 = .ok (.putfield 88, 3) := by decide +kernel
theorem dX11_law_72 : decode cX11_law 72 = .ok (.aload_n 2, 1) := by decide +kernel
theorem dX11_law_73 : decode cX11_law 73 = .ok (.getfield 108, 3) := by decide +kernel
theorem dX11_law_76 : decode cX11_law 76 = .ok (.ireturn, 1) := by decide +kernel
theorem dX11_fault_0 : decode cX11_fault 0 = .ok (.aload_n 0, 1) := by decide +kernel
theorem dX11_fault_1 : decode cX11_fault 1 = .ok (.getfield 13, 3) := by decide +kernel
theorem dX11_fault_4 : decode cX11_fault 4 = .ok (.ireturn, 1) := by decide +kernel
theorem dX11_needGreeting_0 : decode cX11_needGreeting 0 = .ok (.iload_n 0, 1) := by decide +kernel
theorem dX11_needGreeting_1 : decode cX11_needGreeting 1 = .ok (.ifCond .lt 9, 3) := by decide +kernel
theorem dX11_needGreeting_4 : decode cX11_needGreeting 4 = .ok (.iload_n 0, 1) := by decide +kernel
theorem dX11_needGreeting_5 : decode cX11_needGreeting 5 = .ok (.bipush 32, 2) := by decide +kernel
theorem dX11_needGreeting_7 : decode cX11_needGreeting 7 = .ok (.if_icmp .lt 13, 3) := by decide +kernel
theorem dX11_needGreeting_10 : decode cX11_needGreeting 10 = .ok (.new 111, 3) := by decide +kernel
theorem dX11_needGreeting_13 : decode cX11_needGreeting 13 = .ok (.dup, 1) := by decide +kernel
theorem dX11_needGreeting_14 : decode cX11_needGreeting 14 = .ok (.ldc 113, 2) := by decide +kernel
theorem dX11_needGreeting_16 : decode cX11_needGreeting 16 = .ok (.invokespecial 115, 3) := by decide +kernel
theorem dX11_needGreeting_19 : decode cX11_needGreeting 19 = .ok (.athrow, 1) := by decide +kernel
theorem dX11_needGreeting_20 : decode cX11_needGreeting 20 = .ok (.return_, 1) := by decide +kernel
theorem dX11_needLand_0 : decode cX11_needLand 0 = .ok (.iload_n 1, 1) := by decide +kernel
theorem dX11_needLand_1 : decode cX11_needLand 1 = .ok (.ifCond .lt 17, 3) := by decide +kernel
theorem dX11_needLand_4 : decode cX11_needLand 4 = .ok (.iload_n 1, 1) := by decide +kernel
theorem dX11_needLand_5 : decode cX11_needLand 5 = .ok (.aload_n 0, 1) := by decide +kernel
theorem dX11_needLand_6 : decode cX11_needLand 6 = .ok (.getfield 20, 3) := by decide +kernel
theorem dX11_needLand_9 : decode cX11_needLand 9 = .ok (.getfield 116, 3) := by decide +kernel
theorem dX11_needLand_12 : decode cX11_needLand 12 = .ok (.getfield 120, 3) := by decide +kernel
theorem dX11_needLand_15 : decode cX11_needLand 15 = .ok (.if_icmp .lt 13, 3) := by decide +kernel
theorem dX11_needLand_18 : decode cX11_needLand 18 = .ok (.new 111, 3) := by decide +kernel
theorem dX11_needLand_21 : decode cX11_needLand 21 = .ok (.dup, 1) := by decide +kernel
theorem dX11_needLand_22 : decode cX11_needLand 22 = .ok (.ldc 125, 2) := by decide +kernel
theorem dX11_needLand_24 : decode cX11_needLand 24 = .ok (.invokespecial 115, 3) := by decide +kernel
theorem dX11_needLand_27 : decode cX11_needLand 27 = .ok (.athrow, 1) := by decide +kernel
theorem dX11_needLand_28 : decode cX11_needLand 28 = .ok (.return_, 1) := by decide +kernel
theorem dX11_needPerson_0 : decode cX11_needPerson 0 = .ok (.iload_n 1, 1) := by decide +kernel
theorem dX11_needPerson_1 : decode cX11_needPerson 1 = .ok (.ifCond .lt 14, 3) := by decide +kernel
theorem dX11_needPerson_4 : decode cX11_needPerson 4 = .ok (.iload_n 1, 1) := by decide +kernel
theorem dX11_needPerson_5 : decode cX11_needPerson 5 = .ok (.aload_n 0, 1) := by decide +kernel
theorem dX11_needPerson_6 : decode cX11_needPerson 6 = .ok (.getfield 20, 3) := by decide +kernel
theorem dX11_needPerson_9 : decode cX11_needPerson 9 = .ok (.getfield 127, 3) := by decide +kernel
theorem dX11_needPerson_12 : decode cX11_needPerson 12 = .ok (.if_icmp .lt 13, 3) := by decide +kernel
theorem dX11_needPerson_15 : decode cX11_needPerson 15 = .ok (.new 111, 3) := by decide +kernel
theorem dX11_needPerson_18 : decode cX11_needPerson 18 = .ok (.dup, 1) := by decide +kernel
theorem dX11_needPerson_19 : decode cX11_needPerson 19 = .ok (.ldc 130, 2) := by decide +kernel
theorem dX11_needPerson_21 : decode cX11_needPerson 21 = .ok (.invokespecial 115, 3) := by decide +kernel
theorem dX11_needPerson_24 : decode cX11_needPerson 24 = .ok (.athrow, 1) := by decide +kernel
theorem dX11_needPerson_25 : decode cX11_needPerson 25 = .ok (.return_, 1) := by decide +kernel
theorem dX11_needTwo_0 : decode cX11_needTwo 0 = .ok (.aload_n 0, 1) := by decide +kernel
theorem dX11_needTwo_1 : decode cX11_needTwo 1 = .ok (.iload_n 1, 1) := by decide +kernel
theorem dX11_needTwo_2 : decode cX11_needTwo 2 = .ok (.invokevirtual 132, 3) := by decide +kernel
theorem dX11_needTwo_5 : decode cX11_needTwo 5 = .ok (.aload_n 0, 1) := by decide +kernel
theorem dX11_needTwo_6 : decode cX11_needTwo 6 = .ok (.iload_n 2, 1) := by decide +kernel
theorem dX11_needTwo_7 : decode cX11_needTwo 7 = .ok (.invokevirtual 132, 3) := by decide +kernel
theorem dX11_needTwo_10 : decode cX11_needTwo 10 = .ok (.iload_n 1, 1) := by decide +kernel
theorem dX11_needTwo_11 : decode cX11_needTwo 11 = .ok (.iload_n 2, 1) := by decide +kernel
theorem dX11_needTwo_12 : decode cX11_needTwo 12 = .ok (.if_icmp .ne 13, 3) := by decide +kernel
theorem dX11_needTwo_15 : decode cX11_needTwo 15 = .ok (.new 73, 3) := by decide +kernel
theorem dX11_needTwo_18 : decode cX11_needTwo 18 = .ok (.dup, 1) := by decide +kernel
theorem dX11_needTwo_19 : decode cX11_needTwo 19 = .ok (.ldc 135, 2) := by decide +kernel
theorem dX11_needTwo_21 : decode cX11_needTwo 21 = .ok (.invokespecial 77, 3) := by decide +kernel
theorem dX11_needTwo_24 : decode cX11_needTwo 24 = .ok (.athrow, 1) := by decide +kernel
theorem dX11_needTwo_25 : decode cX11_needTwo 25 = .ok (.return_, 1) := by decide +kernel
theorem dX11_needTie_0 : decode cX11_needTie 0 = .ok (.iload_n 1, 1) := by decide +kernel
theorem dX11_needTie_1 : decode cX11_needTie 1 = .ok (.ifCond .lt 14, 3) := by decide +kernel
theorem dX11_needTie_4 : decode cX11_needTie 4 = .ok (.iload_n 1, 1) := by decide +kernel
theorem dX11_needTie_5 : decode cX11_needTie 5 = .ok (.aload_n 0, 1) := by decide +kernel
theorem dX11_needTie_6 : decode cX11_needTie 6 = .ok (.getfield 20, 3) := by decide +kernel
theorem dX11_needTie_9 : decode cX11_needTie 9 = .ok (.getfield 137, 3) := by decide +kernel
theorem dX11_needTie_12 : decode cX11_needTie 12 = .ok (.if_icmp .lt 13, 3) := by decide +kernel
theorem dX11_needTie_15 : decode cX11_needTie 15 = .ok (.new 111, 3) := by decide +kernel
theorem dX11_needTie_18 : decode cX11_needTie 18 = .ok (.dup, 1) := by decide +kernel
theorem dX11_needTie_19 : decode cX11_needTie 19 = .ok (.ldc 140, 2) := by decide +kernel
theorem dX11_needTie_21 : decode cX11_needTie 21 = .ok (.invokespecial 115, 3) := by decide +kernel
theorem dX11_needTie_24 : decode cX11_needTie 24 = .ok (.athrow, 1) := by decide +kernel
theorem dX11_needTie_25 : decode cX11_needTie 25 = .ok (.return_, 1) := by decide +kernel
theorem dX11_needNumber_0 : decode cX11_needNumber 0 = .ok (.iload_n 0, 1) := by decide +kernel
theorem dX11_needNumber_1 : decode cX11_needNumber 1 = .ok (.iload_n 1, 1) := by decide +kernel
theorem dX11_needNumber_2 : decode cX11_needNumber 2 = .ok (.if_icmp .lt 8, 3) := by decide +kernel
theorem dX11_needNumber_5 : decode cX11_needNumber 5 = .ok (.iload_n 0, 1) := by decide +kernel
theorem dX11_needNumber_6 : decode cX11_needNumber 6 = .ok (.iload_n 2, 1) := by decide +kernel
theorem dX11_needNumber_7 : decode cX11_needNumber 7 = .ok (.if_icmp .le 13, 3) := by decide +kernel
theorem dX11_needNumber_10 : decode cX11_needNumber 10 = .ok (.new 73, 3) := by decide +kernel
theorem dX11_needNumber_13 : decode cX11_needNumber 13 = .ok (.dup, 1) := by decide +kernel
theorem dX11_needNumber_14 : decode cX11_needNumber 14 = .ok (.ldc 142, 2) := by decide +kernel
theorem dX11_needNumber_16 : decode cX11_needNumber 16 = .ok (.invokespecial 77, 3) := by decide +kernel
theorem dX11_needNumber_19 : decode cX11_needNumber 19 = .ok (.athrow, 1) := by decide +kernel
theorem dX11_needNumber_20 : decode cX11_needNumber 20 = .ok (.return_, 1) := by decide +kernel
theorem dX11_needWhat_0 : decode cX11_needWhat 0 = .ok (.iload_n 0, 1) := by decide +kernel
theorem dX11_needWhat_1 : decode cX11_needWhat 1 = .ok (.ifCond .lt 8, 3) := by decide +kernel
theorem dX11_needWhat_4 : decode cX11_needWhat 4 = .ok (.iload_n 0, 1) := by decide +kernel
theorem dX11_needWhat_5 : decode cX11_needWhat 5 = .ok (.iload_n 1, 1) := by decide +kernel
theorem dX11_needWhat_6 : decode cX11_needWhat 6 = .ok (.if_icmp .le 13, 3) := by decide +kernel
theorem dX11_needWhat_9 : decode cX11_needWhat 9 = .ok (.new 144, 3) := by decide +kernel
theorem dX11_needWhat_12 : decode cX11_needWhat 12 = .ok (.dup, 1) := by decide +kernel
theorem dX11_needWhat_13 : decode cX11_needWhat 13 = .ok (.ldc 146, 2) := by decide +kernel
theorem dX11_needWhat_15 : decode cX11_needWhat 15 = .ok (.invokespecial 148, 3) := by decide +kernel
theorem dX11_needWhat_18 : decode cX11_needWhat 18 = .ok (.athrow, 1) := by decide +kernel
theorem dX11_needWhat_19 : decode cX11_needWhat 19 = .ok (.return_, 1) := by decide +kernel
theorem dX11_cost_0 : decode cX11_cost 0 = .ok (.iload_n 1, 1) := by decide +kernel
theorem dX11_cost_1 : decode cX11_cost 1 = .ok (.invokestatic 149, 3) := by decide +kernel
theorem dX11_cost_4 : decode cX11_cost 4 = .ok (.iload_n 2, 1) := by decide +kernel
theorem dX11_cost_5 : decode cX11_cost 5 = .ok (.invokestatic 149, 3) := by decide +kernel
theorem dX11_cost_8 : decode cX11_cost 8 = .ok (.aload_n 0, 1) := by decide +kernel
theorem dX11_cost_9 : decode cX11_cost 9 = .ok (.getfield 20, 3) := by decide +kernel
theorem dX11_cost_12 : decode cX11_cost 12 = .ok (.getfield 116, 3) := by decide +kernel
theorem dX11_cost_15 : decode cX11_cost 15 = .ok (.getfield 152, 3) := by decide +kernel
theorem dX11_cost_18 : decode cX11_cost 18 = .ok (.iload_n 1, 1) := by decide +kernel
theorem dX11_cost_19 : decode cX11_cost 19 = .ok (.iload_n 2, 1) := by decide +kernel
theorem dX11_cost_20 : decode cX11_cost 20 = .ok (.invokevirtual 156, 3) := by decide +kernel
theorem dX11_cost_23 : decode cX11_cost 23 = .ok (.ireturn, 1) := by decide +kernel
theorem dX11_habit_0 : decode cX11_habit 0 = .ok (.aload_n 0, 1) := by decide +kernel
theorem dX11_habit_1 : decode cX11_habit 1 = .ok (.iload_n 1, 1) := by decide +kernel
theorem dX11_habit_2 : decode cX11_habit 2 = .ok (.invokevirtual 162, 3) := by decide +kernel
theorem dX11_habit_5 : decode cX11_habit 5 = .ok (.iload_n 2, 1) := by decide +kernel
theorem dX11_habit_6 : decode cX11_habit 6 = .ok (.invokestatic 149, 3) := by decide +kernel
theorem dX11_habit_9 : decode cX11_habit 9 = .ok (.aload_n 0, 1) := by decide +kernel
theorem dX11_habit_10 : decode cX11_habit 10 = .ok (.getfield 20, 3) := by decide +kernel
theorem dX11_habit_13 : decode cX11_habit 13 = .ok (.getfield 116, 3) := by decide +kernel
theorem dX11_habit_16 : decode cX11_habit 16 = .ok (.iload_n 1, 1) := by decide +kernel
theorem dX11_habit_17 : decode cX11_habit 17 = .ok (.iload_n 2, 1) := by decide +kernel
theorem dX11_habit_18 : decode cX11_habit 18 = .ok (.invokevirtual 165, 3) := by decide +kernel
theorem dX11_habit_21 : decode cX11_habit 21 = .ok (.ireturn, 1) := by decide +kernel
theorem dX11_person_0 : decode cX11_person 0 = .ok (.aload_n 0, 1) := by decide +kernel
theorem dX11_person_1 : decode cX11_person 1 = .ok (.iload_n 1, 1) := by decide +kernel
theorem dX11_person_2 : decode cX11_person 2 = .ok (.invokevirtual 132, 3) := by decide +kernel
theorem dX11_person_5 : decode cX11_person 5 = .ok (.iload_n 2, 1) := by decide +kernel
theorem dX11_person_6 : decode cX11_person 6 = .ok (.bipush 6, 2) := by decide +kernel
theorem dX11_person_8 : decode cX11_person 8 = .ok (.invokestatic 168, 3) := by decide +kernel
theorem dX11_person_11 : decode cX11_person 11 = .ok (.aload_n 0, 1) := by decide +kernel
theorem dX11_person_12 : decode cX11_person 12 = .ok (.getfield 20, 3) := by decide +kernel
theorem dX11_person_15 : decode cX11_person 15 = .ok (.getfield 172, 3) := by decide +kernel
theorem dX11_person_18 : decode cX11_person 18 = .ok (.iload_n 1, 1) := by decide +kernel
theorem dX11_person_19 : decode cX11_person 19 = .ok (.aaload, 1) := by decide +kernel
theorem dX11_person_20 : decode cX11_person 20 = .ok (.astore_n 3, 1) := by decide +kernel
theorem dX11_person_21 : decode cX11_person 21 = .ok (.iload_n 2, 1) := by decide +kernel
theorem dX11_person_22 : decode cX11_person 22 = .ok (.tableswitch 76 0 5 #[38, 43, 48, 53, 58, 71], 38) := by decide +kernel
theorem dX11_person_60 : decode cX11_person 60 = .ok (.aload_n 3, 1) := by decide +kernel
theorem dX11_person_61 : decode cX11_person 61 = .ok (.getfield 176, 3) := by decide +kernel
theorem dX11_person_64 : decode cX11_person 64 = .ok (.ireturn, 1) := by decide +kernel
theorem dX11_person_65 : decode cX11_person 65 = .ok (.aload_n 3, 1) := by decide +kernel
theorem dX11_person_66 : decode cX11_person 66 = .ok (.getfield 181, 3) := by decide +kernel
theorem dX11_person_69 : decode cX11_person 69 = .ok (.ireturn, 1) := by decide +kernel
theorem dX11_person_70 : decode cX11_person 70 = .ok (.aload_n 3, 1) := by decide +kernel
theorem dX11_person_71 : decode cX11_person 71 = .ok (.getfield 184, 3) := by decide +kernel
theorem dX11_person_74 : decode cX11_person 74 = .ok (.ireturn, 1) := by decide +kernel
theorem dX11_person_75 : decode cX11_person 75 = .ok (.aload_n 3, 1) := by decide +kernel
theorem dX11_person_76 : decode cX11_person 76 = .ok (.getfield 187, 3) := by decide +kernel
theorem dX11_person_79 : decode cX11_person 79 = .ok (.ireturn, 1) := by decide +kernel
theorem dX11_person_80 : decode cX11_person 80 = .ok (.aload_n 3, 1) := by decide +kernel
theorem dX11_person_81 : decode cX11_person 81 = .ok (.getfield 190, 3) := by decide +kernel
theorem dX11_person_84 : decode cX11_person 84 = .ok (.ifCond .eq 7, 3) := by decide +kernel
theorem dX11_person_87 : decode cX11_person 87 = .ok (.iconst 1, 1) := by decide +kernel
theorem dX11_person_88 : decode cX11_person 88 = .ok (.goto 4, 3) := by decide +kernel
theorem dX11_person_91 : decode cX11_person 91 = .ok (.iconst 0, 1) := by decide +kernel
theorem dX11_person_92 : decode cX11_person 92 = .ok (.ireturn, 1) := by decide +kernel
theorem dX11_person_93 : decode cX11_person 93 = .ok (.aload_n 3, 1) := by decide +kernel
theorem dX11_person_94 : decode cX11_person 94 = .ok (.getfield 194, 3) := by decide +kernel
theorem dX11_person_97 : decode cX11_person 97 = .ok (.ireturn, 1) := by decide +kernel
theorem dX11_person_98 : decode cX11_person 98 = .ok (.aload_n 3, 1) := by decide +kernel
theorem dX11_person_99 : decode cX11_person 99 = .ok (.invokevirtual 197, 3) := by decide +kernel
theorem dX11_person_102 : decode cX11_person 102 = .ok (.ireturn, 1) := by decide +kernel
theorem dX11_saw_0 : decode cX11_saw 0 = .ok (.aload_n 0, 1) := by decide +kernel
theorem dX11_saw_1 : decode cX11_saw 1 = .ok (.iload_n 1, 1) := by decide +kernel
theorem dX11_saw_2 : decode cX11_saw 2 = .ok (.iload_n 2, 1) := by decide +kernel
theorem dX11_saw_3 : decode cX11_saw 3 = .ok (.invokevirtual 200, 3) := by decide +kernel
theorem dX11_saw_6 : decode cX11_saw 6 = .ok (.aload_n 0, 1) := by decide +kernel
theorem dX11_saw_7 : decode cX11_saw 7 = .ok (.getfield 20, 3) := by decide +kernel
theorem dX11_saw_10 : decode cX11_saw 10 = .ok (.getfield 172, 3) := by decide +kernel
theorem dX11_saw_13 : decode cX11_saw 13 = .ok (.iload_n 1, 1) := by decide +kernel
theorem dX11_saw_14 : decode cX11_saw 14 = .ok (.aaload, 1) := by decide +kernel
theorem dX11_saw_15 : decode cX11_saw 15 = .ok (.astore 4, 2) := by decide +kernel
theorem dX11_saw_17 : decode cX11_saw 17 = .ok (.iload_n 3, 1) := by decide +kernel
theorem dX11_saw_18 : decode cX11_saw 18 = .ok (.ifCond .eq 13, 3) := by decide +kernel
theorem dX11_saw_21 : decode cX11_saw 21 = .ok (.aload 4, 2) := by decide +kernel
theorem dX11_saw_23 : decode cX11_saw 23 = .ok (.getfield 203, 3) := by decide +kernel
theorem dX11_saw_26 : decode cX11_saw 26 = .ok (.iload_n 2, 1) := by decide +kernel
theorem dX11_saw_27 : decode cX11_saw 27 = .ok (.iaload, 1) := by decide +kernel
theorem dX11_saw_28 : decode cX11_saw 28 = .ok (.goto 10, 3) := by decide +kernel
theorem dX11_saw_31 : decode cX11_saw 31 = .ok (.aload 4, 2) := by decide +kernel
theorem dX11_saw_33 : decode cX11_saw 33 = .ok (.getfield 206, 3) := by decide +kernel
theorem dX11_saw_36 : decode cX11_saw 36 = .ok (.iload_n 2, 1) := by decide +kernel
theorem dX11_saw_37 : decode cX11_saw 37 = .ok (.iaload, 1) := by decide +kernel
theorem dX11_saw_38 : decode cX11_saw 38 = .ok (.ireturn, 1) := by decide +kernel
theorem dX11_tie_0 : decode cX11_tie 0 = .ok (.aload_n 0, 1) := by decide +kernel
theorem dX11_tie_1 : decode cX11_tie 1 = .ok (.iload_n 1, 1) := by decide +kernel
theorem dX11_tie_2 : decode cX11_tie 2 = .ok (.invokevirtual 209, 3) := by decide +kernel
theorem dX11_tie_5 : decode cX11_tie 5 = .ok (.iload_n 2, 1) := by decide +kernel
theorem dX11_tie_6 : decode cX11_tie 6 = .ok (.ifCond .eq 15, 3) := by decide +kernel
theorem dX11_tie_9 : decode cX11_tie 9 = .ok (.aload_n 0, 1) := by decide +kernel
theorem dX11_tie_10 : decode cX11_tie 10 = .ok (.getfield 20, 3) := by decide +kernel
theorem dX11_tie_13 : decode cX11_tie 13 = .ok (.getfield 212, 3) := by decide +kernel
theorem dX11_tie_16 : decode cX11_tie 16 = .ok (.iload_n 1, 1) := by decide +kernel
theorem dX11_tie_17 : decode cX11_tie 17 = .ok (.iaload, 1) := by decide +kernel
theorem dX11_tie_18 : decode cX11_tie 18 = .ok (.goto 12, 3) := by decide +kernel
theorem dX11_tie_21 : decode cX11_tie 21 = .ok (.aload_n 0, 1) := by decide +kernel
theorem dX11_tie_22 : decode cX11_tie 22 = .ok (.getfield 20, 3) := by decide +kernel
theorem dX11_tie_25 : decode cX11_tie 25 = .ok (.getfield 215, 3) := by decide +kernel
theorem dX11_tie_28 : decode cX11_tie 28 = .ok (.iload_n 1, 1) := by decide +kernel
theorem dX11_tie_29 : decode cX11_tie 29 = .ok (.iaload, 1) := by decide +kernel
theorem dX11_tie_30 : decode cX11_tie 30 = .ok (.ireturn, 1) := by decide +kernel
theorem dX11_will_0 : decode cX11_will 0 = .ok (.aload_n 0, 1) := by decide +kernel
theorem dX11_will_1 : decode cX11_will 1 = .ok (.iload_n 1, 1) := by decide +kernel
theorem dX11_will_2 : decode cX11_will 2 = .ok (.iload_n 2, 1) := by decide +kernel
theorem dX11_will_3 : decode cX11_will 3 = .ok (.invokevirtual 200, 3) := by decide +kernel
theorem dX11_will_6 : decode cX11_will 6 = .ok (.aload_n 0, 1) := by decide +kernel
theorem dX11_will_7 : decode cX11_will 7 = .ok (.getfield 20, 3) := by decide +kernel
theorem dX11_will_10 : decode cX11_will 10 = .ok (.iload_n 1, 1) := by decide +kernel
theorem dX11_will_11 : decode cX11_will 11 = .ok (.iload_n 2, 1) := by decide +kernel
theorem dX11_will_12 : decode cX11_will 12 = .ok (.invokevirtual 218, 3) := by decide +kernel
theorem dX11_will_15 : decode cX11_will 15 = .ok (.ireturn, 1) := by decide +kernel
theorem dX11_rememberAct_0 : decode cX11_rememberAct 0 = .ok (.aload_n 0, 1) := by decide +kernel
theorem dX11_rememberAct_1 : decode cX11_rememberAct 1 = .ok (.getfield 88, 3) := by decide +kernel
theorem dX11_rememberAct_4 : decode cX11_rememberAct 4 = .ok (.bipush 12, 2) := by decide +kernel
theorem dX11_rememberAct_6 : decode cX11_rememberAct 6 = .ok (.if_icmp .ne 52, 3) := by decide +kernel
theorem dX11_rememberAct_9 : decode cX11_rememberAct 9 = .ok (.aload_n 0, 1) := by decide +kernel
theorem dX11_rememberAct_10 : decode cX11_rememberAct 10 = .ok (.getfield 27, 3) := by decide +kernel
theorem dX11_rememberAct_13 : decode cX11_rememberAct 13 = .ok (.iconst 0, 1) := by decide +kernel
theorem dX11_rememberAct_14 : decode cX11_rememberAct 14 = .ok (.aaload, 1) := by decide +kernel
theorem dX11_rememberAct_15 : decode cX11_rememberAct 15 = .ok (.astore_n 1, 1) := by decide +kernel
theorem dX11_rememberAct_16 : decode cX11_rememberAct 16 = .ok (.iconst 1, 1) := by decide +kernel
theorem dX11_rememberAct_17 : decode cX11_rememberAct 17 = .ok (.istore_n 2, 1) := by decide +kernel
theorem dX11_rememberAct_18 : decode cX11_rememberAct 18 = .ok (.iload_n 2, 1) := by decide +kernel
theorem dX11_rememberAct_19 : decode cX11_rememberAct 19 = .ok (.bipush 12, 2) := by decide +kernel
theorem dX11_rememberAct_21 : decode cX11_rememberAct 21 = .ok (.if_icmp .ge 23, 3) := by decide +kernel
theorem dX11_rememberAct_24 : decode cX11_rememberAct 24 = .ok (.aload_n 0, 1) := by decide +kernel
theorem dX11_rememberAct_25 : decode cX11_rememberAct 25 = .ok (.getfield 27, 3) := by decide +kernel
theorem dX11_rememberAct_28 : decode cX11_rememberAct 28 = .ok (.iload_n 2, 1) := by decide +kernel
theorem dX11_rememberAct_29 : decode cX11_rememberAct 29 = .ok (.iconst 1, 1) := by decide +kernel
theorem dX11_rememberAct_30 : decode cX11_rememberAct 30 = .ok (.isub, 1) := by decide +kernel
theorem dX11_rememberAct_31 : decode cX11_rememberAct 31 = .ok (.aload_n 0, 1) := by decide +kernel
theorem dX11_rememberAct_32 : decode cX11_rememberAct 32 = .ok (.getfield 27, 3) := by decide +kernel
theorem dX11_rememberAct_35 : decode cX11_rememberAct 35 = .ok (.iload_n 2, 1) := by decide +kernel
theorem dX11_rememberAct_36 : decode cX11_rememberAct 36 = .ok (.aaload, 1) := by decide +kernel
theorem dX11_rememberAct_37 : decode cX11_rememberAct 37 = .ok (.aastore, 1) := by decide +kernel
theorem dX11_rememberAct_38 : decode cX11_rememberAct 38 = .ok (.iinc 2 1, 3) := by decide +kernel
theorem dX11_rememberAct_41 : decode cX11_rememberAct 41 = .ok (.goto (-23), 3) := by decide +kernel
theorem dX11_rememberAct_44 : decode cX11_rememberAct 44 = .ok (.aload_n 0, 1) := by decide +kernel
theorem dX11_rememberAct_45 : decode cX11_rememberAct 45 = .ok (.getfield 27, 3) := by decide +kernel
theorem dX11_rememberAct_48 : decode cX11_rememberAct 48 = .ok (.bipush 11, 2) := by decide +kernel
theorem dX11_rememberAct_50 : decode cX11_rememberAct 50 = .ok (.aload_n 1, 1) := by decide +kernel
theorem dX11_rememberAct_51 : decode cX11_rememberAct 51 = .ok (.aastore, 1) := by decide +kernel
theorem dX11_rememberAct_52 : decode cX11_rememberAct 52 = .ok (.aload_n 0, 1) := by decide +kernel
theorem dX11_rememberAct_53 : decode cX11_rememberAct 53 = .ok (.bipush 11, 2) := by decide +kernel
theorem dX11_rememberAct_55 : decode cX11_rememberAct 55 = .ok (.putfield 88, 3) := by decide +kernel
theorem dX11_rememberAct_58 : decode cX11_rememberAct 58 = .ok (.aload_n 0, 1) := by decide +kernel
theorem dX11_rememberAct_59 : decode cX11_rememberAct 59 = .ok (.getfield 27, 3) := by decide +kernel
theorem dX11_rememberAct_62 : decode cX11_rememberAct 62 = .ok (.aload_n 0, 1) := by decide +kernel
theorem dX11_rememberAct_63 : decode cX11_rememberAct 63 = .ok (.getfield 88, 3) := by decide +kernel
theorem dX11_rememberAct_66 : decode cX11_rememberAct 66 = .ok (.aaload, 1) := by decide +kernel
theorem dX11_rememberAct_67 : decode cX11_rememberAct 67 = .ok (.aload_n 0, 1) := by decide +kernel
theorem dX11_rememberAct_68 : decode cX11_rememberAct 68 = .ok (.getfield 20, 3) := by decide +kernel
theorem dX11_rememberAct_71 : decode cX11_rememberAct 71 = .ok (.invokevirtual 59, 3) := by decide +kernel
theorem dX11_rememberAct_74 : decode cX11_rememberAct 74 = .ok (.aload_n 0, 1) := by decide +kernel
theorem dX11_rememberAct_75 : decode cX11_rememberAct 75 = .ok (.dup, 1) := by decide +kernel
theorem dX11_rememberAct_76 : decode cX11_rememberAct 76 = .ok (.getfield 88, 3) := by decide +kernel
theorem dX11_rememberAct_79 : decode cX11_rememberAct 79 = .ok (.iconst 1, 1) := by decide +kernel
theorem dX11_rememberAct_80 : decode cX11_rememberAct 80 = .ok (.iadd, 1) := by decide +kernel
theorem dX11_rememberAct_81 : decode cX11_rememberAct 81 = .ok (.putfield 88, 3) := by decide +kernel
theorem dX11_rememberAct_84 : decode cX11_rememberAct 84 = .ok (.return_, 1) := by decide +kernel
theorem dX11_meet_0 : decode cX11_meet 0 = .ok (.aload_n 0, 1) := by decide +kernel
theorem dX11_meet_1 : decode cX11_meet 1 = .ok (.iload_n 1, 1) := by decide +kernel
theorem dX11_meet_2 : decode cX11_meet 2 = .ok (.iload_n 2, 1) := by decide +kernel
theorem dX11_meet_3 : decode cX11_meet 3 = .ok (.invokevirtual 200, 3) := by decide +kernel
theorem dX11_meet_6 : decode cX11_meet 6 = .ok (.aload_n 0, 1) := by decide +kernel
theorem dX11_meet_7 : decode cX11_meet 7 = .ok (.invokevirtual 221, 3) := by decide +kernel
theorem dX11_meet_10 : decode cX11_meet 10 = .ok (.aload_n 0, 1) := by decide +kernel
theorem dX11_meet_11 : decode cX11_meet 11 = .ok (.getfield 20, 3) := by decide +kernel
theorem dX11_meet_14 : decode cX11_meet 14 = .ok (.iload_n 1, 1) := by decide +kernel
theorem dX11_meet_15 : decode cX11_meet 15 = .ok (.iload_n 2, 1) := by decide +kernel
theorem dX11_meet_16 : decode cX11_meet 16 = .ok (.invokevirtual 224, 3) := by decide +kernel
theorem dX11_meet_19 : decode cX11_meet 19 = .ok (.ireturn, 1) := by decide +kernel
theorem dX11_rounds_0 : decode cX11_rounds 0 = .ok (.iload_n 1, 1) := by decide +kernel
theorem dX11_rounds_1 : decode cX11_rounds 1 = .ok (.iconst 1, 1) := by decide +kernel
theorem dX11_rounds_2 : decode cX11_rounds 2 = .ok (.bipush 50, 2) := by decide +kernel
theorem dX11_rounds_4 : decode cX11_rounds 4 = .ok (.invokestatic 227, 3) := by decide +kernel
theorem dX11_rounds_7 : decode cX11_rounds 7 = .ok (.aload_n 0, 1) := by decide +kernel
theorem dX11_rounds_8 : decode cX11_rounds 8 = .ok (.invokevirtual 221, 3) := by decide +kernel
theorem dX11_rounds_11 : decode cX11_rounds 11 = .ok (.aload_n 0, 1) := by decide +kernel
theorem dX11_rounds_12 : decode cX11_rounds 12 = .ok (.getfield 20, 3) := by decide +kernel
theorem dX11_rounds_15 : decode cX11_rounds 15 = .ok (.iload_n 1, 1) := by decide +kernel
theorem dX11_rounds_16 : decode cX11_rounds 16 = .ok (.invokevirtual 231, 3) := by decide +kernel
theorem dX11_rounds_19 : decode cX11_rounds 19 = .ok (.ireturn, 1) := by decide +kernel
theorem dX11_own_0 : decode cX11_own 0 = .ok (.aload_n 0, 1) := by decide +kernel
theorem dX11_own_1 : decode cX11_own 1 = .ok (.iload_n 1, 1) := by decide +kernel
theorem dX11_own_2 : decode cX11_own 2 = .ok (.invokevirtual 132, 3) := by decide +kernel
theorem dX11_own_5 : decode cX11_own 5 = .ok (.iload_n 2, 1) := by decide +kernel
theorem dX11_own_6 : decode cX11_own 6 = .ok (.invokestatic 149, 3) := by decide +kernel
theorem dX11_own_9 : decode cX11_own 9 = .ok (.aload_n 0, 1) := by decide +kernel
theorem dX11_own_10 : decode cX11_own 10 = .ok (.invokevirtual 221, 3) := by decide +kernel
theorem dX11_own_13 : decode cX11_own 13 = .ok (.aload_n 0, 1) := by decide +kernel
theorem dX11_own_14 : decode cX11_own 14 = .ok (.getfield 20, 3) := by decide +kernel
theorem dX11_own_17 : decode cX11_own 17 = .ok (.getfield 172, 3) := by decide +kernel
theorem dX11_own_20 : decode cX11_own 20 = .ok (.iload_n 1, 1) := by decide +kernel
theorem dX11_own_21 : decode cX11_own 21 = .ok (.aaload, 1) := by decide +kernel
theorem dX11_own_22 : decode cX11_own 22 = .ok (.getfield 181, 3) := by decide +kernel
theorem dX11_own_25 : decode cX11_own 25 = .ok (.istore_n 3, 1) := by decide +kernel
theorem dX11_own_26 : decode cX11_own 26 = .ok (.aload_n 0, 1) := by decide +kernel
theorem dX11_own_27 : decode cX11_own 27 = .ok (.getfield 20, 3) := by decide +kernel
theorem dX11_own_30 : decode cX11_own 30 = .ok (.getfield 172, 3) := by decide +kernel
theorem dX11_own_33 : decode cX11_own 33 = .ok (.iload_n 1, 1) := by decide +kernel
theorem dX11_own_34 : decode cX11_own 34 = .ok (.aaload, 1) := by decide +kernel
theorem dX11_own_35 : decode cX11_own 35 = .ok (.iload_n 2, 1) := by decide +kernel
theorem dX11_own_36 : decode cX11_own 36 = .ok (.putfield 181, 3) := by decide +kernel
theorem dX11_own_39 : decode cX11_own 39 = .ok (.iload_n 3, 1) := by decide +kernel
theorem dX11_own_40 : decode cX11_own 40 = .ok (.ireturn, 1) := by decide +kernel
theorem dX11_cold_0 : decode cX11_cold 0 = .ok (.aload_n 0, 1) := by decide +kernel
theorem dX11_cold_1 : decode cX11_cold 1 = .ok (.iload_n 1, 1) := by decide +kernel
theorem dX11_cold_2 : decode cX11_cold 2 = .ok (.invokevirtual 132, 3) := by decide +kernel
theorem dX11_cold_5 : decode cX11_cold 5 = .ok (.aload_n 0, 1) := by decide +kernel
theorem dX11_cold_6 : decode cX11_cold 6 = .ok (.invokevirtual 221, 3) := by decide +kernel
theorem dX11_cold_9 : decode cX11_cold 9 = .ok (.aload_n 0, 1) := by decide +kernel
theorem dX11_cold_10 : decode cX11_cold 10 = .ok (.getfield 20, 3) := by decide +kernel
theorem dX11_cold_13 : decode cX11_cold 13 = .ok (.getfield 172, 3) := by decide +kernel
theorem dX11_cold_16 : decode cX11_cold 16 = .ok (.iload_n 1, 1) := by decide +kernel
theorem dX11_cold_17 : decode cX11_cold 17 = .ok (.aaload, 1) := by decide +kernel
theorem dX11_cold_18 : decode cX11_cold 18 = .ok (.getfield 190, 3) := by decide +kernel
theorem dX11_cold_21 : decode cX11_cold 21 = .ok (.istore_n 3, 1) := by decide +kernel
theorem dX11_cold_22 : decode cX11_cold 22 = .ok (.aload_n 0, 1) := by decide +kernel
theorem dX11_cold_23 : decode cX11_cold 23 = .ok (.getfield 20, 3) := by decide +kernel
theorem dX11_cold_26 : decode cX11_cold 26 = .ok (.getfield 172, 3) := by decide +kernel
theorem dX11_cold_29 : decode cX11_cold 29 = .ok (.iload_n 1, 1) := by decide +kernel
theorem dX11_cold_30 : decode cX11_cold 30 = .ok (.aaload, 1) := by decide +kernel
theorem dX11_cold_31 : decode cX11_cold 31 = .ok (.iload_n 2, 1) := by decide +kernel
theorem dX11_cold_32 : decode cX11_cold 32 = .ok (.putfield 190, 3) := by decide +kernel
theorem dX11_cold_35 : decode cX11_cold 35 = .ok (.iload_n 3, 1) := by decide +kernel
theorem dX11_cold_36 : decode cX11_cold 36 = .ok (.ireturn, 1) := by decide +kernel
theorem dX11_ties_0 : decode cX11_ties 0 = .ok (.aload_n 0, 1) := by decide +kernel
theorem dX11_ties_1 : decode cX11_ties 1 = .ok (.iload_n 1, 1) := by decide +kernel
theorem dX11_ties_2 : decode cX11_ties 2 = .ok (.iload_n 2, 1) := by decide +kernel
theorem dX11_ties_3 : decode cX11_ties 3 = .ok (.invokevirtual 200, 3) := by decide +kernel
theorem dX11_ties_6 : decode cX11_ties 6 = .ok (.aload_n 0, 1) := by decide +kernel
theorem dX11_ties_7 : decode cX11_ties 7 = .ok (.getfield 20, 3) := by decide +kernel
theorem dX11_ties_10 : decode cX11_ties 10 = .ok (.iload_n 1, 1) := by decide +kernel
theorem dX11_ties_11 : decode cX11_ties 11 = .ok (.iload_n 2, 1) := by decide +kernel
theorem dX11_ties_12 : decode cX11_ties 12 = .ok (.invokevirtual 235, 3) := by decide +kernel
theorem dX11_ties_15 : decode cX11_ties 15 = .ok (.ifCond .eq 13, 3) := by decide +kernel
theorem dX11_ties_18 : decode cX11_ties 18 = .ok (.new 239, 3) := by decide +kernel
theorem dX11_ties_21 : decode cX11_ties 21 = .ok (.dup, 1) := by decide +kernel
theorem dX11_ties_22 : decode cX11_ties 22 = .ok (.ldc 241, 2) := by decide +kernel
theorem dX11_ties_24 : decode cX11_ties 24 = .ok (.invokespecial 243, 3) := by decide +kernel
theorem dX11_ties_27 : decode cX11_ties 27 = .ok (.athrow, 1) := by decide +kernel
theorem dX11_ties_28 : decode cX11_ties 28 = .ok (.aload_n 0, 1) := by decide +kernel
theorem dX11_ties_29 : decode cX11_ties 29 = .ok (.getfield 20, 3) := by decide +kernel
theorem dX11_ties_32 : decode cX11_ties 32 = .ok (.getfield 137, 3) := by decide +kernel
theorem dX11_ties_35 : decode cX11_ties 35 = .ok (.bipush 24, 2) := by decide +kernel
theorem dX11_ties_37 : decode cX11_ties 37 = .ok (.if_icmp .lt 13, 3) := by decide +kernel
theorem dX11_ties_40 : decode cX11_ties 40 = .ok (.new 83, 3) := by decide +kernel
theorem dX11_ties_43 : decode cX11_ties 43 = .ok (.dup, 1) := by decide +kernel
theorem dX11_ties_44 : decode cX11_ties 44 = .ok (.ldc 244, 2) := by decide +kernel
theorem dX11_ties_46 : decode cX11_ties 46 = .ok (.invokespecial 87, 3) := by decide +kernel
theorem dX11_ties_49 : decode cX11_ties 49 = .ok (.athrow, 1) := by decide +kernel
theorem dX11_ties_50 : decode cX11_ties 50 = .ok (.aload_n 0, 1) := by decide +kernel
theorem dX11_ties_51 : decode cX11_ties 51 = .ok (.invokevirtual 221, 3) := by decide +kernel
theorem dX11_ties_54 : decode cX11_ties 54 = .ok (.aload_n 0, 1) := by decide +kernel
theorem dX11_ties_55 : decode cX11_ties 55 = .ok (.getfield 20, 3) := by decide +kernel
theorem dX11_ties_58 : decode cX11_ties 58 = .ok (.iload_n 1, 1) := by decide +kernel
theorem dX11_ties_59 : decode cX11_ties 59 = .ok (.iload_n 2, 1) := by decide +kernel
theorem dX11_ties_60 : decode cX11_ties 60 = .ok (.invokevirtual 246, 3) := by decide +kernel
theorem dX11_ties_63 : decode cX11_ties 63 = .ok (.aload_n 0, 1) := by decide +kernel
theorem dX11_ties_64 : decode cX11_ties 64 = .ok (.getfield 20, 3) := by decide +kernel
theorem dX11_ties_67 : decode cX11_ties 67 = .ok (.getfield 137, 3) := by decide +kernel
theorem dX11_ties_70 : decode cX11_ties 70 = .ok (.iconst 1, 1) := by decide +kernel
theorem dX11_ties_71 : decode cX11_ties 71 = .ok (.isub, 1) := by decide +kernel
theorem dX11_ties_72 : decode cX11_ties 72 = .ok (.ireturn, 1) := by decide +kernel
theorem dX11_cut_0 : decode cX11_cut 0 = .ok (.aload_n 0, 1) := by decide +kernel
theorem dX11_cut_1 : decode cX11_cut 1 = .ok (.iload_n 1, 1) := by decide +kernel
theorem dX11_cut_2 : decode cX11_cut 2 = .ok (.invokevirtual 209, 3) := by decide +kernel
theorem dX11_cut_5 : decode cX11_cut 5 = .ok (.aload_n 0, 1) := by decide +kernel
theorem dX11_cut_6 : decode cX11_cut 6 = .ok (.invokevirtual 221, 3) := by decide +kernel
theorem dX11_cut_9 : decode cX11_cut 9 = .ok (.aload_n 0, 1) := by decide +kernel
theorem dX11_cut_10 : decode cX11_cut 10 = .ok (.getfield 20, 3) := by decide +kernel
theorem dX11_cut_13 : decode cX11_cut 13 = .ok (.iload_n 1, 1) := by decide +kernel
theorem dX11_cut_14 : decode cX11_cut 14 = .ok (.invokevirtual 249, 3) := by decide +kernel
theorem dX11_cut_17 : decode cX11_cut 17 = .ok (.aload_n 0, 1) := by decide +kernel
theorem dX11_cut_18 : decode cX11_cut 18 = .ok (.getfield 20, 3) := by decide +kernel
theorem dX11_cut_21 : decode cX11_cut 21 = .ok (.getfield 137, 3) := by decide +kernel
theorem dX11_cut_24 : decode cX11_cut 24 = .ok (.ireturn, 1) := by decide +kernel
theorem dX11_feast_0 : decode cX11_feast 0 = .ok (.iload_n 2, 1) := by decide +kernel
theorem dX11_feast_1 : decode cX11_feast 1 = .ok (.invokestatic 149, 3) := by decide +kernel
theorem dX11_feast_4 : decode cX11_feast 4 = .ok (.aload_n 0, 1) := by decide +kernel
theorem dX11_feast_5 : decode cX11_feast 5 = .ok (.invokevirtual 221, 3) := by decide +kernel
theorem dX11_feast_8 : decode cX11_feast 8 = .ok (.iconst 0, 1) := by decide +kernel
theorem dX11_feast_9 : decode cX11_feast 9 = .ok (.istore_n 3, 1) := by decide +kernel
theorem dX11_feast_10 : decode cX11_feast 10 = .ok (.iconst 0, 1) := by decide +kernel
theorem dX11_feast_11 : decode cX11_feast 11 = .ok (.istore 4, 2) := by decide +kernel
theorem dX11_feast_13 : decode cX11_feast 13 = .ok (.iload 4, 2) := by decide +kernel
theorem dX11_feast_15 : decode cX11_feast 15 = .ok (.aload_n 0, 1) := by decide +kernel
theorem dX11_feast_16 : decode cX11_feast 16 = .ok (.getfield 20, 3) := by decide +kernel
theorem dX11_feast_19 : decode cX11_feast 19 = .ok (.getfield 127, 3) := by decide +kernel
theorem dX11_feast_22 : decode cX11_feast 22 = .ok (.if_icmp .ge 56, 3) := by decide +kernel
theorem dX11_feast_25 : decode cX11_feast 25 = .ok (.iload_n 1, 1) := by decide +kernel
theorem dX11_feast_26 : decode cX11_feast 26 = .ok (.iload 4, 2) := by decide +kernel
theorem dX11_feast_28 : decode cX11_feast 28 = .ok (.invokestatic 252, 3) := by decide +kernel
theorem dX11_feast_31 : decode cX11_feast 31 = .ok (.ifCond .eq 41, 3) := by decide +kernel
theorem dX11_feast_34 : decode cX11_feast 34 = .ok (.aload_n 0, 1) := by decide +kernel
theorem dX11_feast_35 : decode cX11_feast 35 = .ok (.getfield 20, 3) := by decide +kernel
theorem dX11_feast_38 : decode cX11_feast 38 = .ok (.getfield 172, 3) := by decide +kernel
theorem dX11_feast_41 : decode cX11_feast 41 = .ok (.iload 4, 2) := by decide +kernel
theorem dX11_feast_43 : decode cX11_feast 43 = .ok (.aaload, 1) := by decide +kernel
theorem dX11_feast_44 : decode cX11_feast 44 = .ok (.getfield 181, 3) := by decide +kernel
theorem dX11_feast_47 : decode cX11_feast 47 = .ok (.iload_n 2, 1) := by decide +kernel
theorem dX11_feast_48 : decode cX11_feast 48 = .ok (.if_icmp .eq 24, 3) := by decide +kernel
theorem dX11_feast_51 : decode cX11_feast 51 = .ok (.aload_n 0, 1) := by decide +kernel
theorem dX11_feast_52 : decode cX11_feast 52 = .ok (.getfield 20, 3) := by decide +kernel
theorem dX11_feast_55 : decode cX11_feast 55 = .ok (.getfield 172, 3) := by decide +kernel
theorem dX11_feast_58 : decode cX11_feast 58 = .ok (.iload 4, 2) := by decide +kernel
theorem dX11_feast_60 : decode cX11_feast 60 = .ok (.aaload, 1) := by decide +kernel
theorem dX11_feast_61 : decode cX11_feast 61 = .ok (.iload_n 2, 1) := by decide +kernel
theorem dX11_feast_62 : decode cX11_feast 62 = .ok (.putfield 181, 3) := by decide +kernel
theorem dX11_feast_65 : decode cX11_feast 65 = .ok (.iload_n 3, 1) := by decide +kernel
theorem dX11_feast_66 : decode cX11_feast 66 = .ok (.iconst 1, 1) := by decide +kernel
theorem dX11_feast_67 : decode cX11_feast 67 = .ok (.iload 4, 2) := by decide +kernel
theorem dX11_feast_69 : decode cX11_feast 69 = .ok (.ishl, 1) := by decide +kernel
theorem dX11_feast_70 : decode cX11_feast 70 = .ok (.ior, 1) := by decide +kernel
theorem dX11_feast_71 : decode cX11_feast 71 = .ok (.istore_n 3, 1) := by decide +kernel
theorem dX11_feast_72 : decode cX11_feast 72 = .ok (.iinc 4 1, 3) := by decide +kernel
theorem dX11_feast_75 : decode cX11_feast 75 = .ok (.goto (-62), 3) := by decide +kernel
theorem dX11_feast_78 : decode cX11_feast 78 = .ok (.iload_n 3, 1) := by decide +kernel
theorem dX11_feast_79 : decode cX11_feast 79 = .ok (.ireturn, 1) := by decide +kernel
theorem dX11_isIn_0 : decode cX11_isIn 0 = .ok (.iload_n 0, 1) := by decide +kernel
theorem dX11_isIn_1 : decode cX11_isIn 1 = .ok (.iload_n 1, 1) := by decide +kernel
theorem dX11_isIn_2 : decode cX11_isIn 2 = .ok (.ishr, 1) := by decide +kernel
theorem dX11_isIn_3 : decode cX11_isIn 3 = .ok (.iconst 1, 1) := by decide +kernel
theorem dX11_isIn_4 : decode cX11_isIn 4 = .ok (.iand, 1) := by decide +kernel
theorem dX11_isIn_5 : decode cX11_isIn 5 = .ok (.iconst 1, 1) := by decide +kernel
theorem dX11_isIn_6 : decode cX11_isIn 6 = .ok (.if_icmp .ne 7, 3) := by decide +kernel
theorem dX11_isIn_9 : decode cX11_isIn 9 = .ok (.iconst 1, 1) := by decide +kernel
theorem dX11_isIn_10 : decode cX11_isIn 10 = .ok (.goto 4, 3) := by decide +kernel
theorem dX11_isIn_13 : decode cX11_isIn 13 = .ok (.iconst 0, 1) := by decide +kernel
theorem dX11_isIn_14 : decode cX11_isIn 14 = .ok (.ireturn, 1) := by decide +kernel
theorem dX11_expected_0 : decode cX11_expected 0 = .ok (.aload_n 0, 1) := by decide +kernel
theorem dX11_expected_1 : decode cX11_expected 1 = .ok (.iload_n 1, 1) := by decide +kernel
theorem dX11_expected_2 : decode cX11_expected 2 = .ok (.invokevirtual 162, 3) := by decide +kernel
theorem dX11_expected_5 : decode cX11_expected 5 = .ok (.iload_n 2, 1) := by decide +kernel
theorem dX11_expected_6 : decode cX11_expected 6 = .ok (.invokestatic 149, 3) := by decide +kernel
theorem dX11_expected_9 : decode cX11_expected 9 = .ok (.aload_n 0, 1) := by decide +kernel
theorem dX11_expected_10 : decode cX11_expected 10 = .ok (.getfield 20, 3) := by decide +kernel
theorem dX11_expected_13 : decode cX11_expected 13 = .ok (.getfield 116, 3) := by decide +kernel
theorem dX11_expected_16 : decode cX11_expected 16 = .ok (.iload_n 1, 1) := by decide +kernel
theorem dX11_expected_17 : decode cX11_expected 17 = .ok (.iload_n 2, 1) := by decide +kernel
theorem dX11_expected_18 : decode cX11_expected 18 = .ok (.invokevirtual 255, 3) := by decide +kernel
theorem dX11_expected_21 : decode cX11_expected 21 = .ok (.ireturn, 1) := by decide +kernel
theorem dX11_best_0 : decode cX11_best 0 = .ok (.aload_n 0, 1) := by decide +kernel
theorem dX11_best_1 : decode cX11_best 1 = .ok (.iload_n 1, 1) := by decide +kernel
theorem dX11_best_2 : decode cX11_best 2 = .ok (.invokevirtual 162, 3) := by decide +kernel
theorem dX11_best_5 : decode cX11_best 5 = .ok (.aload_n 0, 1) := by decide +kernel
theorem dX11_best_6 : decode cX11_best 6 = .ok (.getfield 20, 3) := by decide +kernel
theorem dX11_best_9 : decode cX11_best 9 = .ok (.getfield 116, 3) := by decide +kernel
theorem dX11_best_12 : decode cX11_best 12 = .ok (.iload_n 1, 1) := by decide +kernel
theorem dX11_best_13 : decode cX11_best 13 = .ok (.invokevirtual 258, 3) := by decide +kernel
theorem dX11_best_16 : decode cX11_best 16 = .ok (.ireturn, 1) := by decide +kernel
theorem dX11_safest_0 : decode cX11_safest 0 = .ok (.aload_n 0, 1) := by decide +kernel
theorem dX11_safest_1 : decode cX11_safest 1 = .ok (.getfield 20, 3) := by decide +kernel
theorem dX11_safest_4 : decode cX11_safest 4 = .ok (.getfield 116, 3) := by decide +kernel
theorem dX11_safest_7 : decode cX11_safest 7 = .ok (.invokevirtual 261, 3) := by decide +kernel
theorem dX11_safest_10 : decode cX11_safest 10 = .ok (.istore_n 2, 1) := by decide +kernel
theorem dX11_safest_11 : decode cX11_safest 11 = .ok (.iload_n 1, 1) := by decide +kernel
theorem dX11_safest_12 : decode cX11_safest 12 = .ok (.ifCond .eq 17, 3) := by decide +kernel
theorem dX11_safest_15 : decode cX11_safest 15 = .ok (.aload_n 0, 1) := by decide +kernel
theorem dX11_safest_16 : decode cX11_safest 16 = .ok (.getfield 20, 3) := by decide +kernel
theorem dX11_safest_19 : decode cX11_safest 19 = .ok (.getfield 116, 3) := by decide +kernel
theorem dX11_safest_22 : decode cX11_safest 22 = .ok (.iload_n 2, 1) := by decide +kernel
theorem dX11_safest_23 : decode cX11_safest 23 = .ok (.invokevirtual 264, 3) := by decide +kernel
theorem dX11_safest_26 : decode cX11_safest 26 = .ok (.goto 4, 3) := by decide +kernel
theorem dX11_safest_29 : decode cX11_safest 29 = .ok (.iload_n 2, 1) := by decide +kernel
theorem dX11_safest_30 : decode cX11_safest 30 = .ok (.ireturn, 1) := by decide +kernel
theorem dX11_odds_0 : decode cX11_odds 0 = .ok (.aload_n 0, 1) := by decide +kernel
theorem dX11_odds_1 : decode cX11_odds 1 = .ok (.iload_n 1, 1) := by decide +kernel
theorem dX11_odds_2 : decode cX11_odds 2 = .ok (.invokevirtual 162, 3) := by decide +kernel
theorem dX11_odds_5 : decode cX11_odds 5 = .ok (.iload_n 2, 1) := by decide +kernel
theorem dX11_odds_6 : decode cX11_odds 6 = .ok (.invokestatic 149, 3) := by decide +kernel
theorem dX11_odds_9 : decode cX11_odds 9 = .ok (.aload_n 0, 1) := by decide +kernel
theorem dX11_odds_10 : decode cX11_odds 10 = .ok (.getfield 20, 3) := by decide +kernel
theorem dX11_odds_13 : decode cX11_odds 13 = .ok (.getfield 116, 3) := by decide +kernel
theorem dX11_odds_16 : decode cX11_odds 16 = .ok (.iload_n 1, 1) := by decide +kernel
theorem dX11_odds_17 : decode cX11_odds 17 = .ok (.invokevirtual 267, 3) := by decide +kernel
theorem dX11_odds_20 : decode cX11_odds 20 = .ok (.istore_n 3, 1) := by decide +kernel
theorem dX11_odds_21 : decode cX11_odds 21 = .ok (.iload_n 3, 1) := by decide +kernel
theorem dX11_odds_22 : decode cX11_odds 22 = .ok (.ifCond .gt 7, 3) := by decide +kernel
theorem dX11_odds_25 : decode cX11_odds 25 = .ok (.iconst 0, 1) := by decide +kernel
theorem dX11_odds_26 : decode cX11_odds 26 = .ok (.goto 21, 3) := by decide +kernel
theorem dX11_odds_29 : decode cX11_odds 29 = .ok (.aload_n 0, 1) := by decide +kernel
theorem dX11_odds_30 : decode cX11_odds 30 = .ok (.getfield 20, 3) := by decide +kernel
theorem dX11_odds_33 : decode cX11_odds 33 = .ok (.getfield 116, 3) := by decide +kernel
theorem dX11_odds_36 : decode cX11_odds 36 = .ok (.iload_n 1, 1) := by decide +kernel
theorem dX11_odds_37 : decode cX11_odds 37 = .ok (.iload_n 2, 1) := by decide +kernel
theorem dX11_odds_38 : decode cX11_odds 38 = .ok (.invokevirtual 165, 3) := by decide +kernel
theorem dX11_odds_41 : decode cX11_odds 41 = .ok (.sipush 10000, 3) := by decide +kernel
theorem dX11_odds_44 : decode cX11_odds 44 = .ok (.imul, 1) := by decide +kernel
theorem dX11_odds_45 : decode cX11_odds 45 = .ok (.iload_n 3, 1) := by decide +kernel
theorem dX11_odds_46 : decode cX11_odds 46 = .ok (.idiv, 1) := by decide +kernel
theorem dX11_odds_47 : decode cX11_odds 47 = .ok (.ireturn, 1) := by decide +kernel
theorem dX11_from_0 : decode cX11_from 0 = .ok (.aload_n 0, 1) := by decide +kernel
theorem dX11_from_1 : decode cX11_from 1 = .ok (.invokevirtual 55, 3) := by decide +kernel
theorem dX11_from_4 : decode cX11_from 4 = .ok (.istore_n 2, 1) := by decide +kernel
theorem dX11_from_5 : decode cX11_from 5 = .ok (.iload_n 2, 1) := by decide +kernel
theorem dX11_from_6 : decode cX11_from 6 = .ok (.iconst 4, 1) := by decide +kernel
theorem dX11_from_7 : decode cX11_from 7 = .ok (.if_icmp .le 14, 3) := by decide +kernel
theorem dX11_from_10 : decode cX11_from 10 = .ok (.new 73, 3) := by decide +kernel
theorem dX11_from_13 : decode cX11_from 13 = .ok (.dup, 1) := by decide +kernel
theorem dX11_from_14 : decode cX11_from 14 = .ok (.ldc_w 270, 3) := by decide +kernel
theorem dX11_from_17 : decode cX11_from 17 = .ok (.invokespecial 77, 3) := by decide +kernel
theorem dX11_from_20 : decode cX11_from 20 = .ok (.athrow, 1) := by decide +kernel
theorem dX11_from_21 : decode cX11_from 21 = .ok (.iconst 0, 1) := by decide +kernel
theorem dX11_from_22 : decode cX11_from 22 = .ok (.istore_n 3, 1) := by decide +kernel
theorem dX11_from_23 : decode cX11_from 23 = .ok (.iload_n 3, 1) := by decide +kernel
theorem dX11_from_24 : decode cX11_from 24 = .ok (.iload_n 2, 1) := by decide +kernel
theorem dX11_from_25 : decode cX11_from 25 = .ok (.if_icmp .ge 21, 3) := by decide +kernel
theorem dX11_from_28 : decode cX11_from 28 = .ok (.aload_n 0, 1) := by decide +kernel
theorem dX11_from_29 : decode cX11_from 29 = .ok (.getfield 9, 3) := by decide +kernel
theorem dX11_from_32 : decode cX11_from 32 = .ok (.iload_n 3, 1) := by decide +kernel
theorem dX11_from_33 : decode cX11_from 33 = .ok (.iaload, 1) := by decide +kernel
theorem dX11_from_34 : decode cX11_from 34 = .ok (.iconst 0, 1) := by decide +kernel
theorem dX11_from_35 : decode cX11_from 35 = .ok (.bipush 31, 2) := by decide +kernel
theorem dX11_from_37 : decode cX11_from 37 = .ok (.invokestatic 227, 3) := by decide +kernel
theorem dX11_from_40 : decode cX11_from 40 = .ok (.iinc 3 1, 3) := by decide +kernel
theorem dX11_from_43 : decode cX11_from 43 = .ok (.goto (-20), 3) := by decide +kernel
theorem dX11_from_46 : decode cX11_from 46 = .ok (.iload_n 1, 1) := by decide +kernel
theorem dX11_from_47 : decode cX11_from 47 = .ok (.ifCond .eq 11, 3) := by decide +kernel
theorem dX11_from_50 : decode cX11_from 50 = .ok (.aload_n 0, 1) := by decide +kernel
theorem dX11_from_51 : decode cX11_from 51 = .ok (.iload_n 2, 1) := by decide +kernel
theorem dX11_from_52 : decode cX11_from 52 = .ok (.invokevirtual 272, 3) := by decide +kernel
theorem dX11_from_55 : decode cX11_from 55 = .ok (.goto 8, 3) := by decide +kernel
theorem dX11_from_58 : decode cX11_from 58 = .ok (.aload_n 0, 1) := by decide +kernel
theorem dX11_from_59 : decode cX11_from 59 = .ok (.iload_n 2, 1) := by decide +kernel
theorem dX11_from_60 : decode cX11_from 60 = .ok (.invokevirtual 275, 3) := by decide +kernel
theorem dX11_from_63 : decode cX11_from 63 = .ok (.ireturn, 1) := by decide +kernel
theorem dX11_likelyLands_0 : decode cX11_likelyLands 0 = .ok (.iconst 0, 1) := by decide +kernel
theorem dX11_likelyLands_1 : decode cX11_likelyLands 1 = .ok (.istore_n 2, 1) := by decide +kernel
theorem dX11_likelyLands_2 : decode cX11_likelyLands 2 = .ok (.iconst 0, 1) := by decide +kernel
theorem dX11_likelyLands_3 : decode cX11_likelyLands 3 = .ok (.istore_n 3, 1) := by decide +kernel
theorem dX11_likelyLands_4 : decode cX11_likelyLands 4 = .ok (.iload_n 3, 1) := by decide +kernel
theorem dX11_likelyLands_5 : decode cX11_likelyLands 5 = .ok (.aload_n 0, 1) := by decide +kernel
theorem dX11_likelyLands_6 : decode cX11_likelyLands 6 = .ok (.getfield 20, 3) := by decide +kernel
theorem dX11_likelyLands_9 : decode cX11_likelyLands 9 = .ok (.getfield 116, 3) := by decide +kernel
theorem dX11_likelyLands_12 : decode cX11_likelyLands 12 = .ok (.getfield 120, 3) := by decide +kernel
theorem dX11_likelyLands_15 : decode cX11_likelyLands 15 = .ok (.if_icmp .ge 40, 3) := by decide +kernel
theorem dX11_likelyLands_18 : decode cX11_likelyLands 18 = .ok (.aload_n 0, 1) := by decide +kernel
theorem dX11_likelyLands_19 : decode cX11_likelyLands 19 = .ok (.getfield 20, 3) := by decide +kernel
theorem dX11_likelyLands_22 : decode cX11_likelyLands 22 = .ok (.getfield 116, 3) := by decide +kernel
theorem dX11_likelyLands_25 : decode cX11_likelyLands 25 = .ok (.iload_n 3, 1) := by decide +kernel
theorem dX11_likelyLands_26 : decode cX11_likelyLands 26 = .ok (.invokevirtual 267, 3) := by decide +kernel
theorem dX11_likelyLands_29 : decode cX11_likelyLands 29 = .ok (.ifCond .le 20, 3) := by decide +kernel
theorem dX11_likelyLands_32 : decode cX11_likelyLands 32 = .ok (.aload_n 0, 1) := by decide +kernel
theorem dX11_likelyLands_33 : decode cX11_likelyLands 33 = .ok (.iload_n 3, 1) := by decide +kernel
theorem dX11_likelyLands_34 : decode cX11_likelyLands 34 = .ok (.iload_n 1, 1) := by decide +kernel
theorem dX11_likelyLands_35 : decode cX11_likelyLands 35 = .ok (.invokevirtual 278, 3) := by decide +kernel
theorem dX11_likelyLands_38 : decode cX11_likelyLands 38 = .ok (.lconst 0, 1) := by decide +kernel
theorem dX11_likelyLands_39 : decode cX11_likelyLands 39 = .ok (.lcmp, 1) := by decide +kernel
theorem dX11_likelyLands_40 : decode cX11_likelyLands 40 = .ok (.ifCond .le 9, 3) := by decide +kernel
theorem dX11_likelyLands_43 : decode cX11_likelyLands 43 = .ok (.iload_n 2, 1) := by decide +kernel
theorem dX11_likelyLands_44 : decode cX11_likelyLands 44 = .ok (.iconst 1, 1) := by decide +kernel
theorem dX11_likelyLands_45 : decode cX11_likelyLands 45 = .ok (.iload_n 3, 1) := by decide +kernel
theorem dX11_likelyLands_46 : decode cX11_likelyLands 46 = .ok (.ishl, 1) := by decide +kernel
theorem dX11_likelyLands_47 : decode cX11_likelyLands 47 = .ok (.ior, 1) := by decide +kernel
theorem dX11_likelyLands_48 : decode cX11_likelyLands 48 = .ok (.istore_n 2, 1) := by decide +kernel
theorem dX11_likelyLands_49 : decode cX11_likelyLands 49 = .ok (.iinc 3 1, 3) := by decide +kernel
theorem dX11_likelyLands_52 : decode cX11_likelyLands 52 = .ok (.goto (-48), 3) := by decide +kernel
theorem dX11_likelyLands_55 : decode cX11_likelyLands 55 = .ok (.iload_n 2, 1) := by decide +kernel
theorem dX11_likelyLands_56 : decode cX11_likelyLands 56 = .ok (.ireturn, 1) := by decide +kernel
theorem dX11_likeliestLand_0 : decode cX11_likeliestLand 0 = .ok (.iconst (-1), 1) := by decide +kernel
theorem dX11_likeliestLand_1 : decode cX11_likeliestLand 1 = .ok (.istore_n 2, 1) := by decide +kernel
theorem dX11_likeliestLand_2 : decode cX11_likeliestLand 2 = .ok (.lconst 0, 1) := by decide +kernel
theorem dX11_likeliestLand_3 : decode cX11_likeliestLand 3 = .ok (.lstore_n 3, 1) := by decide +kernel
theorem dX11_likeliestLand_4 : decode cX11_likeliestLand 4 = .ok (.lconst 1, 1) := by decide +kernel
theorem dX11_likeliestLand_5 : decode cX11_likeliestLand 5 = .ok (.lstore 5, 2) := by decide +kernel
theorem dX11_likeliestLand_7 : decode cX11_likeliestLand 7 = .ok (.iconst 0, 1) := by decide +kernel
theorem dX11_likeliestLand_8 : decode cX11_likeliestLand 8 = .ok (.istore 7, 2) := by decide +kernel
theorem dX11_likeliestLand_10 : decode cX11_likeliestLand 10 = .ok (.iload 7, 2) := by decide +kernel
theorem dX11_likeliestLand_12 : decode cX11_likeliestLand 12 = .ok (.aload_n 0, 1) := by decide +kernel
theorem dX11_likeliestLand_13 : decode cX11_likeliestLand 13 = .ok (.getfield 20, 3) := by decide +kernel
theorem dX11_likeliestLand_16 : decode cX11_likeliestLand 16 = .ok (.getfield 116, 3) := by decide +kernel
theorem dX11_likeliestLand_19 : decode cX11_likeliestLand 19 = .ok (.getfield 120, 3) := by decide +kernel
theorem dX11_likeliestLand_22 : decode cX11_likeliestLand 22 = .ok (.if_icmp .ge 77, 3) := by decide +kernel
theorem dX11_likeliestLand_25 : decode cX11_likeliestLand 25 = .ok (.aload_n 0, 1) := by decide +kernel
theorem dX11_likeliestLand_26 : decode cX11_likeliestLand 26 = .ok (.iload 7, 2) := by decide +kernel
theorem dX11_likeliestLand_28 : decode cX11_likeliestLand 28 = .ok (.iload_n 1, 1) := by decide +kernel
theorem dX11_likeliestLand_29 : decode cX11_likeliestLand 29 = .ok (.invokevirtual 278, 3) := by decide +kernel
theorem dX11_likeliestLand_32 : decode cX11_likeliestLand 32 = .ok (.lstore 8, 2) := by decide +kernel
theorem dX11_likeliestLand_34 : decode cX11_likeliestLand 34 = .ok (.aload_n 0, 1) := by decide +kernel
theorem dX11_likeliestLand_35 : decode cX11_likeliestLand 35 = .ok (.iload 7, 2) := by decide +kernel
theorem dX11_likeliestLand_37 : decode cX11_likeliestLand 37 = .ok (.iload_n 1, 1) := by decide +kernel
theorem dX11_likeliestLand_38 : decode cX11_likeliestLand 38 = .ok (.invokevirtual 282, 3) := by decide +kernel
theorem dX11_likeliestLand_41 : decode cX11_likeliestLand 41 = .ok (.lstore 10, 2) := by decide +kernel
theorem dX11_likeliestLand_43 : decode cX11_likeliestLand 43 = .ok (.aload_n 0, 1) := by decide +kernel
theorem dX11_likeliestLand_44 : decode cX11_likeliestLand 44 = .ok (.getfield 20, 3) := by decide +kernel
theorem dX11_likeliestLand_47 : decode cX11_likeliestLand 47 = .ok (.getfield 116, 3) := by decide +kernel
theorem dX11_likeliestLand_50 : decode cX11_likeliestLand 50 = .ok (.iload 7, 2) := by decide +kernel
theorem dX11_likeliestLand_52 : decode cX11_likeliestLand 52 = .ok (.invokevirtual 267, 3) := by decide +kernel
theorem dX11_likeliestLand_55 : decode cX11_likeliestLand 55 = .ok (.ifCond .le 7, 3) := by decide +kernel
theorem dX11_likeliestLand_58 : decode cX11_likeliestLand 58 = .ok (.iconst 1, 1) := by decide +kernel
theorem dX11_likeliestLand_59 : decode cX11_likeliestLand 59 = .ok (.goto 4, 3) := by decide +kernel
theorem dX11_likeliestLand_62 : decode cX11_likeliestLand 62 = .ok (.iconst 0, 1) := by decide +kernel
theorem dX11_likeliestLand_63 : decode cX11_likeliestLand 63 = .ok (.istore 12, 2) := by decide +kernel
theorem dX11_likeliestLand_65 : decode cX11_likeliestLand 65 = .ok (.iload 12, 2) := by decide +kernel
theorem dX11_likeliestLand_67 : decode cX11_likeliestLand 67 = .ok (.ifCond .eq 26, 3) := by decide +kernel
theorem dX11_likeliestLand_70 : decode cX11_likeliestLand 70 = .ok (.lload 8, 2) := by decide +kernel
theorem dX11_likeliestLand_72 : decode cX11_likeliestLand 72 = .ok (.lload 5, 2) := by decide +kernel
theorem dX11_likeliestLand_74 : decode cX11_likeliestLand 74 = .ok (.lmul, 1) := by decide +kernel
theorem dX11_likeliestLand_75 : decode cX11_likeliestLand 75 = .ok (.lload_n 3, 1) := by decide +kernel
theorem dX11_likeliestLand_76 : decode cX11_likeliestLand 76 = .ok (.lload 10, 2) := by decide +kernel
theorem dX11_likeliestLand_78 : decode cX11_likeliestLand 78 = .ok (.lmul, 1) := by decide +kernel
theorem dX11_likeliestLand_79 : decode cX11_likeliestLand 79 = .ok (.lcmp, 1) := by decide +kernel
theorem dX11_likeliestLand_80 : decode cX11_likeliestLand 80 = .ok (.ifCond .le 13, 3) := by decide +kernel
theorem dX11_likeliestLand_83 : decode cX11_likeliestLand 83 = .ok (.iload 7, 2) := by decide +kernel
theorem dX11_likeliestLand_85 : decode cX11_likeliestLand 85 = .ok (.istore_n 2, 1) := by decide +kernel
theorem dX11_likeliestLand_86 : decode cX11_likeliestLand 86 = .ok (.lload 8, 2) := by decide +kernel
theorem dX11_likeliestLand_88 : decode cX11_likeliestLand 88 = .ok (.lstore_n 3, 1) := by decide +kernel
theorem dX11_likeliestLand_89 : decode cX11_likeliestLand 89 = .ok (.lload 10, 2) := by decide +kernel
theorem dX11_likeliestLand_91 : decode cX11_likeliestLand 91 = .ok (.lstore 5, 2) := by decide +kernel
theorem dX11_likeliestLand_93 : decode cX11_likeliestLand 93 = .ok (.iinc 7 1, 3) := by decide +kernel
theorem dX11_likeliestLand_96 : decode cX11_likeliestLand 96 = .ok (.goto (-86), 3) := by decide +kernel
theorem dX11_likeliestLand_99 : decode cX11_likeliestLand 99 = .ok (.iload_n 2, 1) := by decide +kernel
theorem dX11_likeliestLand_100 : decode cX11_likeliestLand 100 = .ok (.ireturn, 1) := by decide +kernel
theorem dX11_weightProduct_0 : decode cX11_weightProduct 0 = .ok (.lconst 1, 1) := by decide +kernel
theorem dX11_weightProduct_1 : decode cX11_weightProduct 1 = .ok (.lstore_n 3, 1) := by decide +kernel
theorem dX11_weightProduct_2 : decode cX11_weightProduct 2 = .ok (.iconst 0, 1) := by decide +kernel
theorem dX11_weightProduct_3 : decode cX11_weightProduct 3 = .ok (.istore 5, 2) := by decide +kernel
theorem dX11_weightProduct_5 : decode cX11_weightProduct 5 = .ok (.iload 5, 2) := by decide +kernel
theorem dX11_weightProduct_7 : decode cX11_weightProduct 7 = .ok (.iload_n 2, 1) := by decide +kernel
theorem dX11_weightProduct_8 : decode cX11_weightProduct 8 = .ok (.if_icmp .ge 37, 3) := by decide +kernel
theorem dX11_weightProduct_11 : decode cX11_weightProduct 11 = .ok (.iload 5, 2) := by decide +kernel
theorem dX11_weightProduct_13 : decode cX11_weightProduct 13 = .ok (.iconst 4, 1) := by decide +kernel
theorem dX11_weightProduct_14 : decode cX11_weightProduct 14 = .ok (.if_icmp .ge 31, 3) := by decide +kernel
theorem dX11_weightProduct_17 : decode cX11_weightProduct 17 = .ok (.lload_n 3, 1) := by decide +kernel
theorem dX11_weightProduct_18 : decode cX11_weightProduct 18 = .ok (.aload_n 0, 1) := by decide +kernel
theorem dX11_weightProduct_19 : decode cX11_weightProduct 19 = .ok (.getfield 20, 3) := by decide +kernel
theorem dX11_weightProduct_22 : decode cX11_weightProduct 22 = .ok (.getfield 116, 3) := by decide +kernel
theorem dX11_weightProduct_25 : decode cX11_weightProduct 25 = .ok (.iload_n 1, 1) := by decide +kernel
theorem dX11_weightProduct_26 : decode cX11_weightProduct 26 = .ok (.aload_n 0, 1) := by decide +kernel
theorem dX11_weightProduct_27 : decode cX11_weightProduct 27 = .ok (.getfield 9, 3) := by decide +kernel
theorem dX11_weightProduct_30 : decode cX11_weightProduct 30 = .ok (.iload 5, 2) := by decide +kernel
theorem dX11_weightProduct_32 : decode cX11_weightProduct 32 = .ok (.iaload, 1) := by decide +kernel
theorem dX11_weightProduct_33 : decode cX11_weightProduct 33 = .ok (.invokevirtual 165, 3) := by decide +kernel
theorem dX11_weightProduct_36 : decode cX11_weightProduct 36 = .ok (.i2l, 1) := by decide +kernel
theorem dX11_weightProduct_37 : decode cX11_weightProduct 37 = .ok (.lmul, 1) := by decide +kernel
theorem dX11_weightProduct_38 : decode cX11_weightProduct 38 = .ok (.lstore_n 3, 1) := by decide +kernel
theorem dX11_weightProduct_39 : decode cX11_weightProduct 39 = .ok (.iinc 5 1, 3) := by decide +kernel
theorem dX11_weightProduct_42 : decode cX11_weightProduct 42 = .ok (.goto (-37), 3) := by decide +kernel
theorem dX11_weightProduct_45 : decode cX11_weightProduct 45 = .ok (.lload_n 3, 1) := by decide +kernel
theorem dX11_weightProduct_46 : decode cX11_weightProduct 46 = .ok (.lreturn, 1) := by decide +kernel
theorem dX11_allWeightProduct_0 : decode cX11_allWeightProduct 0 = .ok (.lconst 1, 1) := by decide +kernel
theorem dX11_allWeightProduct_1 : decode cX11_allWeightProduct 1 = .ok (.lstore_n 3, 1) := by decide +kernel
theorem dX11_allWeightProduct_2 : decode cX11_allWeightProduct 2 = .ok (.iconst 0, 1) := by decide +kernel
theorem dX11_allWeightProduct_3 : decode cX11_allWeightProduct 3 = .ok (.istore 5, 2) := by decide +kernel
theorem dX11_allWeightProduct_5 : decode cX11_allWeightProduct 5 = .ok (.iload 5, 2) := by decide +kernel
theorem dX11_allWeightProduct_7 : decode cX11_allWeightProduct 7 = .ok (.iload_n 2, 1) := by decide +kernel
theorem dX11_allWeightProduct_8 : decode cX11_allWeightProduct 8 = .ok (.if_icmp .ge 30, 3) := by decide +kernel
theorem dX11_allWeightProduct_11 : decode cX11_allWeightProduct 11 = .ok (.iload 5, 2) := by decide +kernel
theorem dX11_allWeightProduct_13 : decode cX11_allWeightProduct 13 = .ok (.iconst 4, 1) := by decide +kernel
theorem dX11_allWeightProduct_14 : decode cX11_allWeightProduct 14 = .ok (.if_icmp .ge 24, 3) := by decide +kernel
theorem dX11_allWeightProduct_17 : decode cX11_allWeightProduct 17 = .ok (.lload_n 3, 1) := by decide +kernel
theorem dX11_allWeightProduct_18 : decode cX11_allWeightProduct 18 = .ok (.aload_n 0, 1) := by decide +kernel
theorem dX11_allWeightProduct_19 : decode cX11_allWeightProduct 19 = .ok (.getfield 20, 3) := by decide +kernel
theorem dX11_allWeightProduct_22 : decode cX11_allWeightProduct 22 = .ok (.getfield 116, 3) := by decide +kernel
theorem dX11_allWeightProduct_25 : decode cX11_allWeightProduct 25 = .ok (.iload_n 1, 1) := by decide +kernel
theorem dX11_allWeightProduct_26 : decode cX11_allWeightProduct 26 = .ok (.invokevirtual 267, 3) := by decide +kernel
theorem dX11_allWeightProduct_29 : decode cX11_allWeightProduct 29 = .ok (.i2l, 1) := by decide +kernel
theorem dX11_allWeightProduct_30 : decode cX11_allWeightProduct 30 = .ok (.lmul, 1) := by decide +kernel
theorem dX11_allWeightProduct_31 : decode cX11_allWeightProduct 31 = .ok (.lstore_n 3, 1) := by decide +kernel
theorem dX11_allWeightProduct_32 : decode cX11_allWeightProduct 32 = .ok (.iinc 5 1, 3) := by decide +kernel
theorem dX11_allWeightProduct_35 : decode cX11_allWeightProduct 35 = .ok (.goto (-30), 3) := by decide +kernel
theorem dX11_allWeightProduct_38 : decode cX11_allWeightProduct 38 = .ok (.lload_n 3, 1) := by decide +kernel
theorem dX11_allWeightProduct_39 : decode cX11_allWeightProduct 39 = .ok (.lreturn, 1) := by decide +kernel
theorem dX11_worth_0 : decode cX11_worth 0 = .ok (.ldc_w 285, 3) := by decide +kernel
theorem dX11_worth_3 : decode cX11_worth 3 = .ok (.istore_n 1, 1) := by decide +kernel
theorem dX11_worth_4 : decode cX11_worth 4 = .ok (.iconst 0, 1) := by decide +kernel
theorem dX11_worth_5 : decode cX11_worth 5 = .ok (.istore_n 2, 1) := by decide +kernel
theorem dX11_worth_6 : decode cX11_worth 6 = .ok (.iload_n 2, 1) := by decide +kernel
theorem dX11_worth_7 : decode cX11_worth 7 = .ok (.bipush 32, 2) := by decide +kernel
theorem dX11_worth_9 : decode cX11_worth 9 = .ok (.if_icmp .ge 22, 3) := by decide +kernel
theorem dX11_worth_12 : decode cX11_worth 12 = .ok (.iload_n 1, 1) := by decide +kernel
theorem dX11_worth_13 : decode cX11_worth 13 = .ok (.aload_n 0, 1) := by decide +kernel
theorem dX11_worth_14 : decode cX11_worth 14 = .ok (.getfield 20, 3) := by decide +kernel
theorem dX11_worth_17 : decode cX11_worth 17 = .ok (.iload_n 2, 1) := by decide +kernel
theorem dX11_worth_18 : decode cX11_worth 18 = .ok (.invokevirtual 286, 3) := by decide +kernel
theorem dX11_worth_21 : decode cX11_worth 21 = .ok (.invokestatic 289, 3) := by decide +kernel
theorem dX11_worth_24 : decode cX11_worth 24 = .ok (.istore_n 1, 1) := by decide +kernel
theorem dX11_worth_25 : decode cX11_worth 25 = .ok (.iinc 2 1, 3) := by decide +kernel
theorem dX11_worth_28 : decode cX11_worth 28 = .ok (.goto (-22), 3) := by decide +kernel
theorem dX11_worth_31 : decode cX11_worth 31 = .ok (.iconst 0, 1) := by decide +kernel
theorem dX11_worth_32 : decode cX11_worth 32 = .ok (.istore_n 2, 1) := by decide +kernel
theorem dX11_worth_33 : decode cX11_worth 33 = .ok (.iconst 0, 1) := by decide +kernel
theorem dX11_worth_34 : decode cX11_worth 34 = .ok (.istore_n 3, 1) := by decide +kernel
theorem dX11_worth_35 : decode cX11_worth 35 = .ok (.iload_n 3, 1) := by decide +kernel
theorem dX11_worth_36 : decode cX11_worth 36 = .ok (.aload_n 0, 1) := by decide +kernel
theorem dX11_worth_37 : decode cX11_worth 37 = .ok (.getfield 20, 3) := by decide +kernel
theorem dX11_worth_40 : decode cX11_worth 40 = .ok (.getfield 127, 3) := by decide +kernel
theorem dX11_worth_43 : decode cX11_worth 43 = .ok (.if_icmp .ge 50, 3) := by decide +kernel
theorem dX11_worth_46 : decode cX11_worth 46 = .ok (.aload_n 0, 1) := by decide +kernel
theorem dX11_worth_47 : decode cX11_worth 47 = .ok (.getfield 20, 3) := by decide +kernel
theorem dX11_worth_50 : decode cX11_worth 50 = .ok (.getfield 172, 3) := by decide +kernel
theorem dX11_worth_53 : decode cX11_worth 53 = .ok (.iload_n 3, 1) := by decide +kernel
theorem dX11_worth_54 : decode cX11_worth 54 = .ok (.aaload, 1) := by decide +kernel
theorem dX11_worth_55 : decode cX11_worth 55 = .ok (.getfield 176, 3) := by decide +kernel
theorem dX11_worth_58 : decode cX11_worth 58 = .ok (.istore 4, 2) := by decide +kernel
theorem dX11_worth_60 : decode cX11_worth 60 = .ok (.iload_n 2, 1) := by decide +kernel
theorem dX11_worth_61 : decode cX11_worth 61 = .ok (.aload_n 0, 1) := by decide +kernel
theorem dX11_worth_62 : decode cX11_worth 62 = .ok (.getfield 20, 3) := by decide +kernel
theorem dX11_worth_65 : decode cX11_worth 65 = .ok (.getfield 116, 3) := by decide +kernel
theorem dX11_worth_68 : decode cX11_worth 68 = .ok (.iload 4, 2) := by decide +kernel
theorem dX11_worth_70 : decode cX11_worth 70 = .ok (.aload_n 0, 1) := by decide +kernel
theorem dX11_worth_71 : decode cX11_worth 71 = .ok (.getfield 20, 3) := by decide +kernel
theorem dX11_worth_74 : decode cX11_worth 74 = .ok (.getfield 116, 3) := by decide +kernel
theorem dX11_worth_77 : decode cX11_worth 77 = .ok (.iload 4, 2) := by decide +kernel
theorem dX11_worth_79 : decode cX11_worth 79 = .ok (.invokevirtual 258, 3) := by decide +kernel
theorem dX11_worth_82 : decode cX11_worth 82 = .ok (.invokevirtual 255, 3) := by decide +kernel
theorem dX11_worth_85 : decode cX11_worth 85 = .ok (.iadd, 1) := by decide +kernel
theorem dX11_worth_86 : decode cX11_worth 86 = .ok (.istore_n 2, 1) := by decide +kernel
theorem dX11_worth_87 : decode cX11_worth 87 = .ok (.iinc 3 1, 3) := by decide +kernel
theorem dX11_worth_90 : decode cX11_worth 90 = .ok (.goto (-55), 3) := by decide +kernel
theorem dX11_worth_93 : decode cX11_worth 93 = .ok (.iload_n 1, 1) := by decide +kernel
theorem dX11_worth_94 : decode cX11_worth 94 = .ok (.iload_n 2, 1) := by decide +kernel
theorem dX11_worth_95 : decode cX11_worth 95 = .ok (.isub, 1) := by decide +kernel
theorem dX11_worth_96 : decode cX11_worth 96 = .ok (.ireturn, 1) := by decide +kernel
theorem dX11_rests_0 : decode cX11_rests 0 = .ok (.aload_n 0, 1) := by decide +kernel
theorem dX11_rests_1 : decode cX11_rests 1 = .ok (.iload_n 1, 1) := by decide +kernel
theorem dX11_rests_2 : decode cX11_rests 2 = .ok (.iload_n 2, 1) := by decide +kernel
theorem dX11_rests_3 : decode cX11_rests 3 = .ok (.invokevirtual 200, 3) := by decide +kernel
theorem dX11_rests_6 : decode cX11_rests 6 = .ok (.aload_n 0, 1) := by decide +kernel
theorem dX11_rests_7 : decode cX11_rests 7 = .ok (.getfield 20, 3) := by decide +kernel
theorem dX11_rests_10 : decode cX11_rests 10 = .ok (.iload_n 1, 1) := by decide +kernel
theorem dX11_rests_11 : decode cX11_rests 11 = .ok (.iload_n 2, 1) := by decide +kernel
theorem dX11_rests_12 : decode cX11_rests 12 = .ok (.invokevirtual 294, 3) := by decide +kernel
theorem dX11_rests_15 : decode cX11_rests 15 = .ok (.istore_n 3, 1) := by decide +kernel
theorem dX11_rests_16 : decode cX11_rests 16 = .ok (.iconst 0, 1) := by decide +kernel
theorem dX11_rests_17 : decode cX11_rests 17 = .ok (.istore 4, 2) := by decide +kernel
theorem dX11_rests_19 : decode cX11_rests 19 = .ok (.iconst 0, 1) := by decide +kernel
theorem dX11_rests_20 : decode cX11_rests 20 = .ok (.istore 5, 2) := by decide +kernel
theorem dX11_rests_22 : decode cX11_rests 22 = .ok (.iload 5, 2) := by decide +kernel
theorem dX11_rests_24 : decode cX11_rests 24 = .ok (.iconst 4, 1) := by decide +kernel
theorem dX11_rests_25 : decode cX11_rests 25 = .ok (.if_icmp .ge 68, 3) := by decide +kernel
theorem dX11_rests_28 : decode cX11_rests 28 = .ok (.iload 5, 2) := by decide +kernel
theorem dX11_rests_30 : decode cX11_rests 30 = .ok (.iconst 1, 1) := by decide +kernel
theorem dX11_rests_31 : decode cX11_rests 31 = .ok (.iand, 1) := by decide +kernel
theorem dX11_rests_32 : decode cX11_rests 32 = .ok (.ifCond .eq 7, 3) := by decide +kernel
theorem dX11_rests_35 : decode cX11_rests 35 = .ok (.iconst 1, 1) := by decide +kernel
theorem dX11_rests_36 : decode cX11_rests 36 = .ok (.goto 4, 3) := by decide +kernel
theorem dX11_rests_39 : decode cX11_rests 39 = .ok (.iconst 0, 1) := by decide +kernel
theorem dX11_rests_40 : decode cX11_rests 40 = .ok (.istore 6, 2) := by decide +kernel
theorem dX11_rests_42 : decode cX11_rests 42 = .ok (.iload 5, 2) := by decide +kernel
theorem dX11_rests_44 : decode cX11_rests 44 = .ok (.iconst 2, 1) := by decide +kernel
theorem dX11_rests_45 : decode cX11_rests 45 = .ok (.iand, 1) := by decide +kernel
theorem dX11_rests_46 : decode cX11_rests 46 = .ok (.ifCond .eq 7, 3) := by decide +kernel
theorem dX11_rests_49 : decode cX11_rests 49 = .ok (.iconst 1, 1) := by decide +kernel
theorem dX11_rests_50 : decode cX11_rests 50 = .ok (.goto 4, 3) := by decide +kernel
theorem dX11_rests_53 : decode cX11_rests 53 = .ok (.iconst 0, 1) := by decide +kernel
theorem dX11_rests_54 : decode cX11_rests 54 = .ok (.istore 7, 2) := by decide +kernel
theorem dX11_rests_56 : decode cX11_rests 56 = .ok (.iload_n 3, 1) := by decide +kernel
theorem dX11_rests_57 : decode cX11_rests 57 = .ok (.iload 6, 2) := by decide +kernel
theorem dX11_rests_59 : decode cX11_rests 59 = .ok (.iload 7, 2) := by decide +kernel
theorem dX11_rests_61 : decode cX11_rests 61 = .ok (.invokestatic 297, 3) := by decide +kernel
theorem dX11_rests_64 : decode cX11_rests 64 = .ok (.ifCond .eq 23, 3) := by decide +kernel
theorem dX11_rests_67 : decode cX11_rests 67 = .ok (.iload_n 3, 1) := by decide +kernel
theorem dX11_rests_68 : decode cX11_rests 68 = .ok (.iload 7, 2) := by decide +kernel
theorem dX11_rests_70 : decode cX11_rests 70 = .ok (.iload 6, 2) := by decide +kernel
theorem dX11_rests_72 : decode cX11_rests 72 = .ok (.invokestatic 297, 3) := by decide +kernel
theorem dX11_rests_75 : decode cX11_rests 75 = .ok (.ifCond .eq 12, 3) := by decide +kernel
theorem dX11_rests_78 : decode cX11_rests 78 = .ok (.iload 4, 2) := by decide +kernel
theorem dX11_rests_80 : decode cX11_rests 80 = .ok (.iconst 1, 1) := by decide +kernel
theorem dX11_rests_81 : decode cX11_rests 81 = .ok (.iload 5, 2) := by decide +kernel
theorem dX11_rests_83 : decode cX11_rests 83 = .ok (.ishl, 1) := by decide +kernel
theorem dX11_rests_84 : decode cX11_rests 84 = .ok (.ior, 1) := by decide +kernel
theorem dX11_rests_85 : decode cX11_rests 85 = .ok (.istore 4, 2) := by decide +kernel
theorem dX11_rests_87 : decode cX11_rests 87 = .ok (.iinc 5 1, 3) := by decide +kernel
theorem dX11_rests_90 : decode cX11_rests 90 = .ok (.goto (-68), 3) := by decide +kernel
theorem dX11_rests_93 : decode cX11_rests 93 = .ok (.iload 4, 2) := by decide +kernel
theorem dX11_rests_95 : decode cX11_rests 95 = .ok (.ireturn, 1) := by decide +kernel
theorem dX11_isContent_0 : decode cX11_isContent 0 = .ok (.iload_n 1, 1) := by decide +kernel
theorem dX11_isContent_1 : decode cX11_isContent 1 = .ok (.iload_n 2, 1) := by decide +kernel
theorem dX11_isContent_2 : decode cX11_isContent 2 = .ok (.if_icmp .eq 7, 3) := by decide +kernel
theorem dX11_isContent_5 : decode cX11_isContent 5 = .ok (.iconst 0, 1) := by decide +kernel
theorem dX11_isContent_6 : decode cX11_isContent 6 = .ok (.goto 4, 3) := by decide +kernel
theorem dX11_isContent_9 : decode cX11_isContent 9 = .ok (.iload_n 0, 1) := by decide +kernel
theorem dX11_isContent_10 : decode cX11_isContent 10 = .ok (.iload_n 1, 1) := by decide +kernel
theorem dX11_isContent_11 : decode cX11_isContent 11 = .ok (.ifCond .eq 7, 3) := by decide +kernel
theorem dX11_isContent_14 : decode cX11_isContent 14 = .ok (.iconst 1, 1) := by decide +kernel
theorem dX11_isContent_15 : decode cX11_isContent 15 = .ok (.goto 4, 3) := by decide +kernel
theorem dX11_isContent_18 : decode cX11_isContent 18 = .ok (.iconst 0, 1) := by decide +kernel
theorem dX11_isContent_19 : decode cX11_isContent 19 = .ok (.iadd, 1) := by decide +kernel
theorem dX11_isContent_20 : decode cX11_isContent 20 = .ok (.istore_n 3, 1) := by decide +kernel
theorem dX11_isContent_21 : decode cX11_isContent 21 = .ok (.iload_n 1, 1) := by decide +kernel
theorem dX11_isContent_22 : decode cX11_isContent 22 = .ok (.iload_n 2, 1) := by decide +kernel
theorem dX11_isContent_23 : decode cX11_isContent 23 = .ok (.if_icmp .ne 7, 3) := by decide +kernel
theorem dX11_isContent_26 : decode cX11_isContent 26 = .ok (.iconst 0, 1) := by decide +kernel
theorem dX11_isContent_27 : decode cX11_isContent 27 = .ok (.goto 4, 3) := by decide +kernel
theorem dX11_isContent_30 : decode cX11_isContent 30 = .ok (.iload_n 0, 1) := by decide +kernel
theorem dX11_isContent_31 : decode cX11_isContent 31 = .ok (.iload_n 1, 1) := by decide +kernel
theorem dX11_isContent_32 : decode cX11_isContent 32 = .ok (.ifCond .eq 7, 3) := by decide +kernel
theorem dX11_isContent_35 : decode cX11_isContent 35 = .ok (.iconst 0, 1) := by decide +kernel
theorem dX11_isContent_36 : decode cX11_isContent 36 = .ok (.goto 4, 3) := by decide +kernel
theorem dX11_isContent_39 : decode cX11_isContent 39 = .ok (.iconst 1, 1) := by decide +kernel
theorem dX11_isContent_40 : decode cX11_isContent 40 = .ok (.iadd, 1) := by decide +kernel
theorem dX11_isContent_41 : decode cX11_isContent 41 = .ok (.istore 4, 2) := by decide +kernel
theorem dX11_isContent_43 : decode cX11_isContent 43 = .ok (.iload_n 3, 1) := by decide +kernel
theorem dX11_isContent_44 : decode cX11_isContent 44 = .ok (.iload 4, 2) := by decide +kernel
theorem dX11_isContent_46 : decode cX11_isContent 46 = .ok (.if_icmp .gt 7, 3) := by decide +kernel
theorem dX11_isContent_49 : decode cX11_isContent 49 = .ok (.iconst 1, 1) := by decide +kernel
theorem dX11_isContent_50 : decode cX11_isContent 50 = .ok (.goto 4, 3) := by decide +kernel
theorem dX11_isContent_53 : decode cX11_isContent 53 = .ok (.iconst 0, 1) := by decide +kernel
theorem dX11_isContent_54 : decode cX11_isContent 54 = .ok (.ireturn, 1) := by decide +kernel
theorem dX11_sake_0 : decode cX11_sake 0 = .ok (.aload_n 0, 1) := by decide +kernel
theorem dX11_sake_1 : decode cX11_sake 1 = .ok (.iload_n 1, 1) := by decide +kernel
theorem dX11_sake_2 : decode cX11_sake 2 = .ok (.iload_n 2, 1) := by decide +kernel
theorem dX11_sake_3 : decode cX11_sake 3 = .ok (.invokevirtual 200, 3) := by decide +kernel
theorem dX11_sake_6 : decode cX11_sake 6 = .ok (.aload_n 0, 1) := by decide +kernel
theorem dX11_sake_7 : decode cX11_sake 7 = .ok (.getfield 20, 3) := by decide +kernel
theorem dX11_sake_10 : decode cX11_sake 10 = .ok (.getfield 172, 3) := by decide +kernel
theorem dX11_sake_13 : decode cX11_sake 13 = .ok (.iload_n 1, 1) := by decide +kernel
theorem dX11_sake_14 : decode cX11_sake 14 = .ok (.aaload, 1) := by decide +kernel
theorem dX11_sake_15 : decode cX11_sake 15 = .ok (.getfield 181, 3) := by decide +kernel
theorem dX11_sake_18 : decode cX11_sake 18 = .ok (.istore 4, 2) := by decide +kernel
theorem dX11_sake_20 : decode cX11_sake 20 = .ok (.aload_n 0, 1) := by decide +kernel
theorem dX11_sake_21 : decode cX11_sake 21 = .ok (.getfield 20, 3) := by decide +kernel
theorem dX11_sake_24 : decode cX11_sake 24 = .ok (.getfield 172, 3) := by decide +kernel
theorem dX11_sake_27 : decode cX11_sake 27 = .ok (.iload_n 2, 1) := by decide +kernel
theorem dX11_sake_28 : decode cX11_sake 28 = .ok (.aaload, 1) := by decide +kernel
theorem dX11_sake_29 : decode cX11_sake 29 = .ok (.getfield 181, 3) := by decide +kernel
theorem dX11_sake_32 : decode cX11_sake 32 = .ok (.istore 5, 2) := by decide +kernel
theorem dX11_sake_34 : decode cX11_sake 34 = .ok (.iload 4, 2) := by decide +kernel
theorem dX11_sake_36 : decode cX11_sake 36 = .ok (.invokestatic 301, 3) := by decide +kernel
theorem dX11_sake_39 : decode cX11_sake 39 = .ok (.iconst 2, 1) := by decide +kernel
theorem dX11_sake_40 : decode cX11_sake 40 = .ok (.if_icmp .ne 12, 3) := by decide +kernel
theorem dX11_sake_43 : decode cX11_sake 43 = .ok (.iload 5, 2) := by decide +kernel
theorem dX11_sake_45 : decode cX11_sake 45 = .ok (.invokestatic 301, 3) := by decide +kernel
theorem dX11_sake_48 : decode cX11_sake 48 = .ok (.iconst 2, 1) := by decide +kernel
theorem dX11_sake_49 : decode cX11_sake 49 = .ok (.if_icmp .eq 5, 3) := by decide +kernel
theorem dX11_sake_52 : decode cX11_sake 52 = .ok (.iconst (-1), 1) := by decide +kernel
theorem dX11_sake_53 : decode cX11_sake 53 = .ok (.ireturn, 1) := by decide +kernel
theorem dX11_sake_54 : decode cX11_sake 54 = .ok (.iload 4, 2) := by decide +kernel
theorem dX11_sake_56 : decode cX11_sake 56 = .ok (.invokestatic 304, 3) := by decide +kernel
theorem dX11_sake_59 : decode cX11_sake 59 = .ok (.iload 5, 2) := by decide +kernel
theorem dX11_sake_61 : decode cX11_sake 61 = .ok (.invokestatic 304, 3) := by decide +kernel
theorem dX11_sake_64 : decode cX11_sake 64 = .ok (.isub, 1) := by decide +kernel
theorem dX11_sake_65 : decode cX11_sake 65 = .ok (.invokestatic 307, 3) := by decide +kernel
theorem dX11_sake_68 : decode cX11_sake 68 = .ok (.istore 6, 2) := by decide +kernel
theorem dX11_sake_70 : decode cX11_sake 70 = .ok (.iload_n 3, 1) := by decide +kernel
theorem dX11_sake_71 : decode cX11_sake 71 = .ok (.ifCond .eq 6, 3) := by decide +kernel
theorem dX11_sake_74 : decode cX11_sake 74 = .ok (.iload 6, 2) := by decide +kernel
theorem dX11_sake_76 : decode cX11_sake 76 = .ok (.ireturn, 1) := by decide +kernel
theorem dX11_sake_77 : decode cX11_sake 77 = .ok (.iload 6, 2) := by decide +kernel
theorem dX11_sake_79 : decode cX11_sake 79 = .ok (.iconst 2, 1) := by decide +kernel
theorem dX11_sake_80 : decode cX11_sake 80 = .ok (.irem, 1) := by decide +kernel
theorem dX11_sake_81 : decode cX11_sake 81 = .ok (.ifCond .ne 10, 3) := by decide +kernel
theorem dX11_sake_84 : decode cX11_sake 84 = .ok (.iload 6, 2) := by decide +kernel
theorem dX11_sake_86 : decode cX11_sake 86 = .ok (.iconst 2, 1) := by decide +kernel
theorem dX11_sake_87 : decode cX11_sake 87 = .ok (.idiv, 1) := by decide +kernel
theorem dX11_sake_88 : decode cX11_sake 88 = .ok (.goto 4, 3) := by decide +kernel
theorem dX11_sake_91 : decode cX11_sake 91 = .ok (.iconst (-1), 1) := by decide +kernel
theorem dX11_sake_92 : decode cX11_sake 92 = .ok (.ireturn, 1) := by decide +kernel
theorem dX11_table_0 : decode cX11_table 0 = .ok (.iload_n 1, 1) := by decide +kernel
theorem dX11_table_1 : decode cX11_table 1 = .ok (.aload_n 0, 1) := by decide +kernel
theorem dX11_table_2 : decode cX11_table 2 = .ok (.getfield 20, 3) := by decide +kernel
theorem dX11_table_5 : decode cX11_table 5 = .ok (.invokevirtual 310, 3) := by decide +kernel
theorem dX11_table_8 : decode cX11_table 8 = .ok (.iand, 1) := by decide +kernel
theorem dX11_table_9 : decode cX11_table 9 = .ok (.istore_n 3, 1) := by decide +kernel
theorem dX11_table_10 : decode cX11_table 10 = .ok (.iload_n 3, 1) := by decide +kernel
theorem dX11_table_11 : decode cX11_table 11 = .ok (.invokestatic 313, 3) := by decide +kernel
theorem dX11_table_14 : decode cX11_table 14 = .ok (.bipush 8, 2) := by decide +kernel
theorem dX11_table_16 : decode cX11_table 16 = .ok (.if_icmp .le 6, 3) := by decide +kernel
theorem dX11_table_19 : decode cX11_table 19 = .ok (.bipush (-3), 2) := by decide +kernel
theorem dX11_table_21 : decode cX11_table 21 = .ok (.ireturn, 1) := by decide +kernel
theorem dX11_table_22 : decode cX11_table 22 = .ok (.aload_n 0, 1) := by decide +kernel
theorem dX11_table_23 : decode cX11_table 23 = .ok (.getfield 44, 3) := by decide +kernel
theorem dX11_table_26 : decode cX11_table 26 = .ok (.aload_n 0, 1) := by decide +kernel
theorem dX11_table_27 : decode cX11_table 27 = .ok (.getfield 20, 3) := by decide +kernel
theorem dX11_table_30 : decode cX11_table 30 = .ok (.iload_n 3, 1) := by decide +kernel
theorem dX11_table_31 : decode cX11_table 31 = .ok (.invokevirtual 318, 3) := by decide +kernel
theorem dX11_table_34 : decode cX11_table 34 = .ok (.iload_n 2, 1) := by decide +kernel
theorem dX11_table_35 : decode cX11_table 35 = .ok (.iconst (-1), 1) := by decide +kernel
theorem dX11_table_36 : decode cX11_table 36 = .ok (.if_icmp .ne 13, 3) := by decide +kernel
theorem dX11_table_39 : decode cX11_table 39 = .ok (.aload_n 0, 1) := by decide +kernel
theorem dX11_table_40 : decode cX11_table 40 = .ok (.getfield 44, 3) := by decide +kernel
theorem dX11_table_43 : decode cX11_table 43 = .ok (.getfield 322, 3) := by decide +kernel
theorem dX11_table_46 : decode cX11_table 46 = .ok (.goto 11, 3) := by decide +kernel
theorem dX11_table_49 : decode cX11_table 49 = .ok (.aload_n 0, 1) := by decide +kernel
theorem dX11_table_50 : decode cX11_table 50 = .ok (.getfield 44, 3) := by decide +kernel
theorem dX11_table_53 : decode cX11_table 53 = .ok (.iload_n 2, 1) := by decide +kernel
theorem dX11_table_54 : decode cX11_table 54 = .ok (.invokevirtual 325, 3) := by decide +kernel
theorem dX11_table_57 : decode cX11_table 57 = .ok (.ireturn, 1) := by decide +kernel
theorem dX11_pairs_0 : decode cX11_pairs 0 = .ok (.aload_n 0, 1) := by decide +kernel
theorem dX11_pairs_1 : decode cX11_pairs 1 = .ok (.getfield 20, 3) := by decide +kernel
theorem dX11_pairs_4 : decode cX11_pairs 4 = .ok (.invokevirtual 328, 3) := by decide +kernel
theorem dX11_pairs_7 : decode cX11_pairs 7 = .ok (.istore_n 2, 1) := by decide +kernel
theorem dX11_pairs_8 : decode cX11_pairs 8 = .ok (.aload_n 0, 1) := by decide +kernel
theorem dX11_pairs_9 : decode cX11_pairs 9 = .ok (.getfield 20, 3) := by decide +kernel
theorem dX11_pairs_12 : decode cX11_pairs 12 = .ok (.iconst 0, 1) := by decide +kernel
theorem dX11_pairs_13 : decode cX11_pairs 13 = .ok (.iload_n 2, 1) := by decide +kernel
theorem dX11_pairs_14 : decode cX11_pairs 14 = .ok (.invokestatic 331, 3) := by decide +kernel
theorem dX11_pairs_17 : decode cX11_pairs 17 = .ok (.istore_n 3, 1) := by decide +kernel
theorem dX11_pairs_18 : decode cX11_pairs 18 = .ok (.iload_n 1, 1) := by decide +kernel
theorem dX11_pairs_19 : decode cX11_pairs 19 = .ok (.ifCond .ne 5, 3) := by decide +kernel
theorem dX11_pairs_22 : decode cX11_pairs 22 = .ok (.iload_n 3, 1) := by decide +kernel
theorem dX11_pairs_23 : decode cX11_pairs 23 = .ok (.ireturn, 1) := by decide +kernel
theorem dX11_pairs_24 : decode cX11_pairs 24 = .ok (.iconst 0, 1) := by decide +kernel
theorem dX11_pairs_25 : decode cX11_pairs 25 = .ok (.istore 4, 2) := by decide +kernel
theorem dX11_pairs_27 : decode cX11_pairs 27 = .ok (.iload 4, 2) := by decide +kernel
theorem dX11_pairs_29 : decode cX11_pairs 29 = .ok (.aload_n 0, 1) := by decide +kernel
theorem dX11_pairs_30 : decode cX11_pairs 30 = .ok (.getfield 20, 3) := by decide +kernel
theorem dX11_pairs_33 : decode cX11_pairs 33 = .ok (.getfield 137, 3) := by decide +kernel
theorem dX11_pairs_36 : decode cX11_pairs 36 = .ok (.if_icmp .ge 75, 3) := by decide +kernel
theorem dX11_pairs_39 : decode cX11_pairs 39 = .ok (.iconst 1, 1) := by decide +kernel
theorem dX11_pairs_40 : decode cX11_pairs 40 = .ok (.aload_n 0, 1) := by decide +kernel
theorem dX11_pairs_41 : decode cX11_pairs 41 = .ok (.getfield 20, 3) := by decide +kernel
theorem dX11_pairs_44 : decode cX11_pairs 44 = .ok (.getfield 215, 3) := by decide +kernel
theorem dX11_pairs_47 : decode cX11_pairs 47 = .ok (.iload 4, 2) := by decide +kernel
theorem dX11_pairs_49 : decode cX11_pairs 49 = .ok (.iaload, 1) := by decide +kernel
theorem dX11_pairs_50 : decode cX11_pairs 50 = .ok (.ishl, 1) := by decide +kernel
theorem dX11_pairs_51 : decode cX11_pairs 51 = .ok (.iconst 1, 1) := by decide +kernel
theorem dX11_pairs_52 : decode cX11_pairs 52 = .ok (.aload_n 0, 1) := by decide +kernel
theorem dX11_pairs_53 : decode cX11_pairs 53 = .ok (.getfield 20, 3) := by decide +kernel
theorem dX11_pairs_56 : decode cX11_pairs 56 = .ok (.getfield 212, 3) := by decide +kernel
theorem dX11_pairs_59 : decode cX11_pairs 59 = .ok (.iload 4, 2) := by decide +kernel
theorem dX11_pairs_61 : decode cX11_pairs 61 = .ok (.iaload, 1) := by decide +kernel
theorem dX11_pairs_62 : decode cX11_pairs 62 = .ok (.ishl, 1) := by decide +kernel
theorem dX11_pairs_63 : decode cX11_pairs 63 = .ok (.ior, 1) := by decide +kernel
theorem dX11_pairs_64 : decode cX11_pairs 64 = .ok (.istore 5, 2) := by decide +kernel
theorem dX11_pairs_66 : decode cX11_pairs 66 = .ok (.iload_n 2, 1) := by decide +kernel
theorem dX11_pairs_67 : decode cX11_pairs 67 = .ok (.iload 5, 2) := by decide +kernel
theorem dX11_pairs_69 : decode cX11_pairs 69 = .ok (.iand, 1) := by decide +kernel
theorem dX11_pairs_70 : decode cX11_pairs 70 = .ok (.iload 5, 2) := by decide +kernel
theorem dX11_pairs_72 : decode cX11_pairs 72 = .ok (.if_icmp .ne 33, 3) := by decide +kernel
theorem dX11_pairs_75 : decode cX11_pairs 75 = .ok (.aload_n 0, 1) := by decide +kernel
theorem dX11_pairs_76 : decode cX11_pairs 76 = .ok (.getfield 20, 3) := by decide +kernel
theorem dX11_pairs_79 : decode cX11_pairs 79 = .ok (.iconst 0, 1) := by decide +kernel
theorem dX11_pairs_80 : decode cX11_pairs 80 = .ok (.iload_n 2, 1) := by decide +kernel
theorem dX11_pairs_81 : decode cX11_pairs 81 = .ok (.iload 5, 2) := by decide +kernel
theorem dX11_pairs_83 : decode cX11_pairs 83 = .ok (.iconst (-1), 1) := by decide +kernel
theorem dX11_pairs_84 : decode cX11_pairs 84 = .ok (.ixor, 1) := by decide +kernel
theorem dX11_pairs_85 : decode cX11_pairs 85 = .ok (.iand, 1) := by decide +kernel
theorem dX11_pairs_86 : decode cX11_pairs 86 = .ok (.invokestatic 331, 3) := by decide +kernel
theorem dX11_pairs_89 : decode cX11_pairs 89 = .ok (.iload_n 3, 1) := by decide +kernel
theorem dX11_pairs_90 : decode cX11_pairs 90 = .ok (.iconst 1, 1) := by decide +kernel
theorem dX11_pairs_91 : decode cX11_pairs 91 = .ok (.isub, 1) := by decide +kernel
theorem dX11_pairs_92 : decode cX11_pairs 92 = .ok (.if_icmp .ne 13, 3) := by decide +kernel
theorem dX11_pairs_95 : decode cX11_pairs 95 = .ok (.iload_n 2, 1) := by decide +kernel
theorem dX11_pairs_96 : decode cX11_pairs 96 = .ok (.iload 5, 2) := by decide +kernel
theorem dX11_pairs_98 : decode cX11_pairs 98 = .ok (.iconst (-1), 1) := by decide +kernel
theorem dX11_pairs_99 : decode cX11_pairs 99 = .ok (.ixor, 1) := by decide +kernel
theorem dX11_pairs_100 : decode cX11_pairs 100 = .ok (.iand, 1) := by decide +kernel
theorem dX11_pairs_101 : decode cX11_pairs 101 = .ok (.istore_n 2, 1) := by decide +kernel
theorem dX11_pairs_102 : decode cX11_pairs 102 = .ok (.iinc 3 (-1), 3) := by decide +kernel
theorem dX11_pairs_105 : decode cX11_pairs 105 = .ok (.iinc 4 1, 3) := by decide +kernel
theorem dX11_pairs_108 : decode cX11_pairs 108 = .ok (.goto (-81), 3) := by decide +kernel
theorem dX11_pairs_111 : decode cX11_pairs 111 = .ok (.iload_n 2, 1) := by decide +kernel
theorem dX11_pairs_112 : decode cX11_pairs 112 = .ok (.ireturn, 1) := by decide +kernel
theorem dX11_mostPairs_0 : decode cX11_mostPairs 0 = .ok (.iload_n 1, 1) := by decide +kernel
theorem dX11_mostPairs_1 : decode cX11_mostPairs 1 = .ok (.ifCond .lt 11, 3) := by decide +kernel
theorem dX11_mostPairs_4 : decode cX11_mostPairs 4 = .ok (.iload_n 1, 1) := by decide +kernel
theorem dX11_mostPairs_5 : decode cX11_mostPairs 5 = .ok (.aload_n 0, 1) := by decide +kernel
theorem dX11_mostPairs_6 : decode cX11_mostPairs 6 = .ok (.getfield 127, 3) := by decide +kernel
theorem dX11_mostPairs_9 : decode cX11_mostPairs 9 = .ok (.if_icmp .lt 5, 3) := by decide +kernel
theorem dX11_mostPairs_12 : decode cX11_mostPairs 12 = .ok (.iconst 0, 1) := by decide +kernel
theorem dX11_mostPairs_13 : decode cX11_mostPairs 13 = .ok (.ireturn, 1) := by decide +kernel
theorem dX11_mostPairs_14 : decode cX11_mostPairs 14 = .ok (.aload_n 0, 1) := by decide +kernel
theorem dX11_mostPairs_15 : decode cX11_mostPairs 15 = .ok (.iload_n 1, 1) := by decide +kernel
theorem dX11_mostPairs_16 : decode cX11_mostPairs 16 = .ok (.iconst 1, 1) := by decide +kernel
theorem dX11_mostPairs_17 : decode cX11_mostPairs 17 = .ok (.iadd, 1) := by decide +kernel
theorem dX11_mostPairs_18 : decode cX11_mostPairs 18 = .ok (.iload_n 2, 1) := by decide +kernel
theorem dX11_mostPairs_19 : decode cX11_mostPairs 19 = .ok (.invokestatic 331, 3) := by decide +kernel
theorem dX11_mostPairs_22 : decode cX11_mostPairs 22 = .ok (.istore_n 3, 1) := by decide +kernel
theorem dX11_mostPairs_23 : decode cX11_mostPairs 23 = .ok (.iload_n 2, 1) := by decide +kernel
theorem dX11_mostPairs_24 : decode cX11_mostPairs 24 = .ok (.iload_n 1, 1) := by decide +kernel
theorem dX11_mostPairs_25 : decode cX11_mostPairs 25 = .ok (.invokestatic 252, 3) := by decide +kernel
theorem dX11_mostPairs_28 : decode cX11_mostPairs 28 = .ok (.ifCond .ne 5, 3) := by decide +kernel
theorem dX11_mostPairs_31 : decode cX11_mostPairs 31 = .ok (.iload_n 3, 1) := by decide +kernel
theorem dX11_mostPairs_32 : decode cX11_mostPairs 32 = .ok (.ireturn, 1) := by decide +kernel
theorem dX11_mostPairs_33 : decode cX11_mostPairs 33 = .ok (.aload_n 0, 1) := by decide +kernel
theorem dX11_mostPairs_34 : decode cX11_mostPairs 34 = .ok (.getfield 172, 3) := by decide +kernel
theorem dX11_mostPairs_37 : decode cX11_mostPairs 37 = .ok (.iload_n 1, 1) := by decide +kernel
theorem dX11_mostPairs_38 : decode cX11_mostPairs 38 = .ok (.aaload, 1) := by decide +kernel
theorem dX11_mostPairs_39 : decode cX11_mostPairs 39 = .ok (.getfield 194, 3) := by decide +kernel
theorem dX11_mostPairs_42 : decode cX11_mostPairs 42 = .ok (.iload_n 2, 1) := by decide +kernel
theorem dX11_mostPairs_43 : decode cX11_mostPairs 43 = .ok (.iand, 1) := by decide +kernel
theorem dX11_mostPairs_44 : decode cX11_mostPairs 44 = .ok (.istore 4, 2) := by decide +kernel
theorem dX11_mostPairs_46 : decode cX11_mostPairs 46 = .ok (.iload_n 1, 1) := by decide +kernel
theorem dX11_mostPairs_47 : decode cX11_mostPairs 47 = .ok (.iconst 1, 1) := by decide +kernel
theorem dX11_mostPairs_48 : decode cX11_mostPairs 48 = .ok (.iadd, 1) := by decide +kernel
theorem dX11_mostPairs_49 : decode cX11_mostPairs 49 = .ok (.istore 5, 2) := by decide +kernel
theorem dX11_mostPairs_51 : decode cX11_mostPairs 51 = .ok (.iload 5, 2) := by decide +kernel
theorem dX11_mostPairs_53 : decode cX11_mostPairs 53 = .ok (.aload_n 0, 1) := by decide +kernel
theorem dX11_mostPairs_54 : decode cX11_mostPairs 54 = .ok (.getfield 127, 3) := by decide +kernel
theorem dX11_mostPairs_57 : decode cX11_mostPairs 57 = .ok (.if_icmp .ge 41, 3) := by decide +kernel
theorem dX11_mostPairs_60 : decode cX11_mostPairs 60 = .ok (.iload 4, 2) := by decide +kernel
theorem dX11_mostPairs_62 : decode cX11_mostPairs 62 = .ok (.iload 5, 2) := by decide +kernel
theorem dX11_mostPairs_64 : decode cX11_mostPairs 64 = .ok (.invokestatic 252, 3) := by decide +kernel
theorem dX11_mostPairs_67 : decode cX11_mostPairs 67 = .ok (.ifCond .eq 25, 3) := by decide +kernel
theorem dX11_mostPairs_70 : decode cX11_mostPairs 70 = .ok (.iload_n 3, 1) := by decide +kernel
theorem dX11_mostPairs_71 : decode cX11_mostPairs 71 = .ok (.iconst 1, 1) := by decide +kernel
theorem dX11_mostPairs_72 : decode cX11_mostPairs 72 = .ok (.aload_n 0, 1) := by decide +kernel
theorem dX11_mostPairs_73 : decode cX11_mostPairs 73 = .ok (.iload_n 1, 1) := by decide +kernel
theorem dX11_mostPairs_74 : decode cX11_mostPairs 74 = .ok (.iconst 1, 1) := by decide +kernel
theorem dX11_mostPairs_75 : decode cX11_mostPairs 75 = .ok (.iadd, 1) := by decide +kernel
theorem dX11_mostPairs_76 : decode cX11_mostPairs 76 = .ok (.iload_n 2, 1) := by decide +kernel
theorem dX11_mostPairs_77 : decode cX11_mostPairs 77 = .ok (.iconst 1, 1) := by decide +kernel
theorem dX11_mostPairs_78 : decode cX11_mostPairs 78 = .ok (.iload 5, 2) := by decide +kernel
theorem dX11_mostPairs_80 : decode cX11_mostPairs 80 = .ok (.ishl, 1) := by decide +kernel
theorem dX11_mostPairs_81 : decode cX11_mostPairs 81 = .ok (.iconst (-1), 1) := by decide +kernel
theorem dX11_mostPairs_82 : decode cX11_mostPairs 82 = .ok (.ixor, 1) := by decide +kernel
theorem dX11_mostPairs_83 : decode cX11_mostPairs 83 = .ok (.iand, 1) := by decide +kernel
theorem dX11_mostPairs_84 : decode cX11_mostPairs 84 = .ok (.invokestatic 331, 3) := by decide +kernel
theorem dX11_mostPairs_87 : decode cX11_mostPairs 87 = .ok (.iadd, 1) := by decide +kernel
theorem dX11_mostPairs_88 : decode cX11_mostPairs 88 = .ok (.invokestatic 335, 3) := by decide +kernel
theorem dX11_mostPairs_91 : decode cX11_mostPairs 91 = .ok (.istore_n 3, 1) := by decide +kernel
theorem dX11_mostPairs_92 : decode cX11_mostPairs 92 = .ok (.iinc 5 1, 3) := by decide +kernel
theorem dX11_mostPairs_95 : decode cX11_mostPairs 95 = .ok (.goto (-44), 3) := by decide +kernel
theorem dX11_mostPairs_98 : decode cX11_mostPairs 98 = .ok (.iload_n 3, 1) := by decide +kernel
theorem dX11_mostPairs_99 : decode cX11_mostPairs 99 = .ok (.ireturn, 1) := by decide +kernel
theorem dX11_begins_0 : decode cX11_begins 0 = .ok (.iload_n 1, 1) := by decide +kernel
theorem dX11_begins_1 : decode cX11_begins 1 = .ok (.iconst (-1), 1) := by decide +kernel
theorem dX11_begins_2 : decode cX11_begins 2 = .ok (.iconst 2, 1) := by decide +kernel
theorem dX11_begins_3 : decode cX11_begins 3 = .ok (.invokestatic 227, 3) := by decide +kernel
theorem dX11_begins_6 : decode cX11_begins 6 = .ok (.iload_n 1, 1) := by decide +kernel
theorem dX11_begins_7 : decode cX11_begins 7 = .ok (.iconst (-1), 1) := by decide +kernel
theorem dX11_begins_8 : decode cX11_begins 8 = .ok (.if_icmp .eq 12, 3) := by decide +kernel
theorem dX11_begins_11 : decode cX11_begins 11 = .ok (.aload_n 0, 1) := by decide +kernel
theorem dX11_begins_12 : decode cX11_begins 12 = .ok (.getfield 20, 3) := by decide +kernel
theorem dX11_begins_15 : decode cX11_begins 15 = .ok (.iload_n 1, 1) := by decide +kernel
theorem dX11_begins_16 : decode cX11_begins 16 = .ok (.invokevirtual 338, 3) := by decide +kernel
theorem dX11_begins_19 : decode cX11_begins 19 = .ok (.ireturn, 1) := by decide +kernel
theorem dX11_begins_20 : decode cX11_begins 20 = .ok (.iconst 0, 1) := by decide +kernel
theorem dX11_begins_21 : decode cX11_begins 21 = .ok (.istore_n 2, 1) := by decide +kernel
theorem dX11_begins_22 : decode cX11_begins 22 = .ok (.iconst 1, 1) := by decide +kernel
theorem dX11_begins_23 : decode cX11_begins 23 = .ok (.istore_n 3, 1) := by decide +kernel
theorem dX11_begins_24 : decode cX11_begins 24 = .ok (.iload_n 3, 1) := by decide +kernel
theorem dX11_begins_25 : decode cX11_begins 25 = .ok (.iconst 3, 1) := by decide +kernel
theorem dX11_begins_26 : decode cX11_begins 26 = .ok (.if_icmp .ge 30, 3) := by decide +kernel
theorem dX11_begins_29 : decode cX11_begins 29 = .ok (.aload_n 0, 1) := by decide +kernel
theorem dX11_begins_30 : decode cX11_begins 30 = .ok (.getfield 20, 3) := by decide +kernel
theorem dX11_begins_33 : decode cX11_begins 33 = .ok (.iload_n 3, 1) := by decide +kernel
theorem dX11_begins_34 : decode cX11_begins 34 = .ok (.invokevirtual 338, 3) := by decide +kernel
theorem dX11_begins_37 : decode cX11_begins 37 = .ok (.aload_n 0, 1) := by decide +kernel
theorem dX11_begins_38 : decode cX11_begins 38 = .ok (.getfield 20, 3) := by decide +kernel
theorem dX11_begins_41 : decode cX11_begins 41 = .ok (.iload_n 2, 1) := by decide +kernel
theorem dX11_begins_42 : decode cX11_begins 42 = .ok (.invokevirtual 338, 3) := by decide +kernel
theorem dX11_begins_45 : decode cX11_begins 45 = .ok (.if_icmp .ge 5, 3) := by decide +kernel
theorem dX11_begins_48 : decode cX11_begins 48 = .ok (.iload_n 3, 1) := by decide +kernel
theorem dX11_begins_49 : decode cX11_begins 49 = .ok (.istore_n 2, 1) := by decide +kernel
theorem dX11_begins_50 : decode cX11_begins 50 = .ok (.iinc 3 1, 3) := by decide +kernel
theorem dX11_begins_53 : decode cX11_begins 53 = .ok (.goto (-29), 3) := by decide +kernel
theorem dX11_begins_56 : decode cX11_begins 56 = .ok (.iload_n 2, 1) := by decide +kernel
theorem dX11_begins_57 : decode cX11_begins 57 = .ok (.ireturn, 1) := by decide +kernel
theorem dX11_after_0 : decode cX11_after 0 = .ok (.iload_n 1, 1) := by decide +kernel
theorem dX11_after_1 : decode cX11_after 1 = .ok (.iconst 0, 1) := by decide +kernel
theorem dX11_after_2 : decode cX11_after 2 = .ok (.bipush 60, 2) := by decide +kernel
theorem dX11_after_4 : decode cX11_after 4 = .ok (.invokestatic 227, 3) := by decide +kernel
theorem dX11_after_7 : decode cX11_after 7 = .ok (.iload_n 2, 1) := by decide +kernel
theorem dX11_after_8 : decode cX11_after 8 = .ok (.iconst 2, 1) := by decide +kernel
theorem dX11_after_9 : decode cX11_after 9 = .ok (.invokestatic 168, 3) := by decide +kernel
theorem dX11_after_12 : decode cX11_after 12 = .ok (.aload_n 0, 1) := by decide +kernel
theorem dX11_after_13 : decode cX11_after 13 = .ok (.getfield 37, 3) := by decide +kernel
theorem dX11_after_16 : decode cX11_after 16 = .ok (.aload_n 0, 1) := by decide +kernel
theorem dX11_after_17 : decode cX11_after 17 = .ok (.getfield 20, 3) := by decide +kernel
theorem dX11_after_20 : decode cX11_after 20 = .ok (.invokevirtual 341, 3) := by decide +kernel
theorem dX11_after_23 : decode cX11_after 23 = .ok (.aload_n 0, 1) := by decide +kernel
theorem dX11_after_24 : decode cX11_after 24 = .ok (.getfield 37, 3) := by decide +kernel
theorem dX11_after_27 : decode cX11_after 27 = .ok (.iload_n 1, 1) := by decide +kernel
theorem dX11_after_28 : decode cX11_after 28 = .ok (.invokevirtual 344, 3) := by decide +kernel
theorem dX11_after_31 : decode cX11_after 31 = .ok (.iload_n 2, 1) := by decide +kernel
theorem dX11_after_32 : decode cX11_after 32 = .ok (.ifCond .ne 11, 3) := by decide +kernel
theorem dX11_after_35 : decode cX11_after 35 = .ok (.aload_n 0, 1) := by decide +kernel
theorem dX11_after_36 : decode cX11_after 36 = .ok (.getfield 37, 3) := by decide +kernel
theorem dX11_after_39 : decode cX11_after 39 = .ok (.invokevirtual 347, 3) := by decide +kernel
theorem dX11_after_42 : decode cX11_after 42 = .ok (.ireturn, 1) := by decide +kernel
theorem dX11_after_43 : decode cX11_after 43 = .ok (.aload_n 0, 1) := by decide +kernel
theorem dX11_after_44 : decode cX11_after 44 = .ok (.getfield 37, 3) := by decide +kernel
theorem dX11_after_47 : decode cX11_after 47 = .ok (.invokevirtual 350, 3) := by decide +kernel
theorem dX11_after_50 : decode cX11_after 50 = .ok (.istore_n 3, 1) := by decide +kernel
theorem dX11_after_51 : decode cX11_after 51 = .ok (.iload_n 2, 1) := by decide +kernel
theorem dX11_after_52 : decode cX11_after 52 = .ok (.iconst 1, 1) := by decide +kernel
theorem dX11_after_53 : decode cX11_after 53 = .ok (.if_icmp .ne 7, 3) := by decide +kernel
theorem dX11_after_56 : decode cX11_after 56 = .ok (.iload_n 3, 1) := by decide +kernel
theorem dX11_after_57 : decode cX11_after 57 = .ok (.goto 11, 3) := by decide +kernel
theorem dX11_after_60 : decode cX11_after 60 = .ok (.aload_n 0, 1) := by decide +kernel
theorem dX11_after_61 : decode cX11_after 61 = .ok (.getfield 37, 3) := by decide +kernel
theorem dX11_after_64 : decode cX11_after 64 = .ok (.iload_n 3, 1) := by decide +kernel
theorem dX11_after_65 : decode cX11_after 65 = .ok (.invokevirtual 353, 3) := by decide +kernel
theorem dX11_after_68 : decode cX11_after 68 = .ok (.ireturn, 1) := by decide +kernel
theorem dX11_custom_0 : decode cX11_custom 0 = .ok (.aload_n 0, 1) := by decide +kernel
theorem dX11_custom_1 : decode cX11_custom 1 = .ok (.iload_n 1, 1) := by decide +kernel
theorem dX11_custom_2 : decode cX11_custom 2 = .ok (.invokevirtual 132, 3) := by decide +kernel
theorem dX11_custom_5 : decode cX11_custom 5 = .ok (.iload_n 2, 1) := by decide +kernel
theorem dX11_custom_6 : decode cX11_custom 6 = .ok (.iconst 0, 1) := by decide +kernel
theorem dX11_custom_7 : decode cX11_custom 7 = .ok (.bipush 60, 2) := by decide +kernel
theorem dX11_custom_9 : decode cX11_custom 9 = .ok (.invokestatic 227, 3) := by decide +kernel
theorem dX11_custom_12 : decode cX11_custom 12 = .ok (.aload_n 0, 1) := by decide +kernel
theorem dX11_custom_13 : decode cX11_custom 13 = .ok (.getfield 37, 3) := by decide +kernel
theorem dX11_custom_16 : decode cX11_custom 16 = .ok (.aload_n 0, 1) := by decide +kernel
theorem dX11_custom_17 : decode cX11_custom 17 = .ok (.getfield 20, 3) := by decide +kernel
theorem dX11_custom_20 : decode cX11_custom 20 = .ok (.invokevirtual 341, 3) := by decide +kernel
theorem dX11_custom_23 : decode cX11_custom 23 = .ok (.aload_n 0, 1) := by decide +kernel
theorem dX11_custom_24 : decode cX11_custom 24 = .ok (.getfield 37, 3) := by decide +kernel
theorem dX11_custom_27 : decode cX11_custom 27 = .ok (.iload_n 2, 1) := by decide +kernel
theorem dX11_custom_28 : decode cX11_custom 28 = .ok (.invokevirtual 344, 3) := by decide +kernel
theorem dX11_custom_31 : decode cX11_custom 31 = .ok (.aload_n 0, 1) := by decide +kernel
theorem dX11_custom_32 : decode cX11_custom 32 = .ok (.getfield 37, 3) := by decide +kernel
theorem dX11_custom_35 : decode cX11_custom 35 = .ok (.iload_n 1, 1) := by decide +kernel
theorem dX11_custom_36 : decode cX11_custom 36 = .ok (.invokevirtual 356, 3) := by decide +kernel
theorem dX11_custom_39 : decode cX11_custom 39 = .ok (.ireturn, 1) := by decide +kernel
theorem dX11_still_0 : decode cX11_still 0 = .ok (.aload_n 0, 1) := by decide +kernel
theorem dX11_still_1 : decode cX11_still 1 = .ok (.getfield 37, 3) := by decide +kernel
theorem dX11_still_4 : decode cX11_still 4 = .ok (.aload_n 0, 1) := by decide +kernel
theorem dX11_still_5 : decode cX11_still 5 = .ok (.getfield 20, 3) := by decide +kernel
theorem dX11_still_8 : decode cX11_still 8 = .ok (.invokevirtual 341, 3) := by decide +kernel
theorem dX11_still_11 : decode cX11_still 11 = .ok (.iconst 0, 1) := by decide +kernel
theorem dX11_still_12 : decode cX11_still 12 = .ok (.istore_n 1, 1) := by decide +kernel
theorem dX11_still_13 : decode cX11_still 13 = .ok (.iload_n 1, 1) := by decide +kernel
theorem dX11_still_14 : decode cX11_still 14 = .ok (.bipush 60, 2) := by decide +kernel
theorem dX11_still_16 : decode cX11_still 16 = .ok (.if_icmp .gt 21, 3) := by decide +kernel
theorem dX11_still_19 : decode cX11_still 19 = .ok (.aload_n 0, 1) := by decide +kernel
theorem dX11_still_20 : decode cX11_still 20 = .ok (.getfield 37, 3) := by decide +kernel
theorem dX11_still_23 : decode cX11_still 23 = .ok (.invokevirtual 359, 3) := by decide +kernel
theorem dX11_still_26 : decode cX11_still 26 = .ok (.ifCond .ne 5, 3) := by decide +kernel
theorem dX11_still_29 : decode cX11_still 29 = .ok (.iload_n 1, 1) := by decide +kernel
theorem dX11_still_30 : decode cX11_still 30 = .ok (.ireturn, 1) := by decide +kernel
theorem dX11_still_31 : decode cX11_still 31 = .ok (.iinc 1 1, 3) := by decide +kernel
theorem dX11_still_34 : decode cX11_still 34 = .ok (.goto (-21), 3) := by decide +kernel
theorem dX11_still_37 : decode cX11_still 37 = .ok (.iconst (-1), 1) := by decide +kernel
theorem dX11_still_38 : decode cX11_still 38 = .ok (.ireturn, 1) := by decide +kernel
theorem dX11_told_0 : decode cX11_told 0 = .ok (.iload_n 1, 1) := by decide +kernel
theorem dX11_told_1 : decode cX11_told 1 = .ok (.invokestatic 149, 3) := by decide +kernel
theorem dX11_told_4 : decode cX11_told 4 = .ok (.iload_n 2, 1) := by decide +kernel
theorem dX11_told_5 : decode cX11_told 5 = .ok (.iconst 0, 1) := by decide +kernel
theorem dX11_told_6 : decode cX11_told 6 = .ok (.bipush 60, 2) := by decide +kernel
theorem dX11_told_8 : decode cX11_told 8 = .ok (.invokestatic 227, 3) := by decide +kernel
theorem dX11_told_11 : decode cX11_told 11 = .ok (.aload_n 0, 1) := by decide +kernel
theorem dX11_told_12 : decode cX11_told 12 = .ok (.getfield 20, 3) := by decide +kernel
theorem dX11_told_15 : decode cX11_told 15 = .ok (.invokevirtual 310, 3) := by decide +kernel
theorem dX11_told_18 : decode cX11_told 18 = .ok (.istore_n 3, 1) := by decide +kernel
theorem dX11_told_19 : decode cX11_told 19 = .ok (.iconst 0, 1) := by decide +kernel
theorem dX11_told_20 : decode cX11_told 20 = .ok (.istore 4, 2) := by decide +kernel
theorem dX11_told_22 : decode cX11_told 22 = .ok (.iload 4, 2) := by decide +kernel
theorem dX11_told_24 : decode cX11_told 24 = .ok (.aload_n 0, 1) := by decide +kernel
theorem dX11_told_25 : decode cX11_told 25 = .ok (.getfield 20, 3) := by decide +kernel
theorem dX11_told_28 : decode cX11_told 28 = .ok (.getfield 127, 3) := by decide +kernel
theorem dX11_told_31 : decode cX11_told 31 = .ok (.if_icmp .ge 48, 3) := by decide +kernel
theorem dX11_told_34 : decode cX11_told 34 = .ok (.iconst 0, 1) := by decide +kernel
theorem dX11_told_35 : decode cX11_told 35 = .ok (.istore 5, 2) := by decide +kernel
theorem dX11_told_37 : decode cX11_told 37 = .ok (.iload 5, 2) := by decide +kernel
theorem dX11_told_39 : decode cX11_told 39 = .ok (.iload_n 3, 1) := by decide +kernel
theorem dX11_told_40 : decode cX11_told 40 = .ok (.if_icmp .ge 33, 3) := by decide +kernel
theorem dX11_told_43 : decode cX11_told 43 = .ok (.iload 5, 2) := by decide +kernel
theorem dX11_told_45 : decode cX11_told 45 = .ok (.invokestatic 313, 3) := by decide +kernel
theorem dX11_told_48 : decode cX11_told 48 = .ok (.iload 4, 2) := by decide +kernel
theorem dX11_told_50 : decode cX11_told 50 = .ok (.if_icmp .ne 17, 3) := by decide +kernel
theorem dX11_told_53 : decode cX11_told 53 = .ok (.aload_n 0, 1) := by decide +kernel
theorem dX11_told_54 : decode cX11_told 54 = .ok (.iload_n 1, 1) := by decide +kernel
theorem dX11_told_55 : decode cX11_told 55 = .ok (.iload_n 2, 1) := by decide +kernel
theorem dX11_told_56 : decode cX11_told 56 = .ok (.iload 5, 2) := by decide +kernel
theorem dX11_told_58 : decode cX11_told 58 = .ok (.invokevirtual 363, 3) := by decide +kernel
theorem dX11_told_61 : decode cX11_told 61 = .ok (.ifCond .eq 6, 3) := by decide +kernel
theorem dX11_told_64 : decode cX11_told 64 = .ok (.iload 5, 2) := by decide +kernel
theorem dX11_told_66 : decode cX11_told 66 = .ok (.ireturn, 1) := by decide +kernel
theorem dX11_told_67 : decode cX11_told 67 = .ok (.iinc 5 1, 3) := by decide +kernel
theorem dX11_told_70 : decode cX11_told 70 = .ok (.goto (-33), 3) := by decide +kernel
theorem dX11_told_73 : decode cX11_told 73 = .ok (.iinc 4 1, 3) := by decide +kernel
theorem dX11_told_76 : decode cX11_told 76 = .ok (.goto (-54), 3) := by decide +kernel
theorem dX11_told_79 : decode cX11_told 79 = .ok (.iload_n 3, 1) := by decide +kernel
theorem dX11_told_80 : decode cX11_told 80 = .ok (.ireturn, 1) := by decide +kernel
theorem dX11_wins_0 : decode cX11_wins 0 = .ok (.aload_n 0, 1) := by decide +kernel
theorem dX11_wins_1 : decode cX11_wins 1 = .ok (.getfield 37, 3) := by decide +kernel
theorem dX11_wins_4 : decode cX11_wins 4 = .ok (.aload_n 0, 1) := by decide +kernel
theorem dX11_wins_5 : decode cX11_wins 5 = .ok (.getfield 20, 3) := by decide +kernel
theorem dX11_wins_8 : decode cX11_wins 8 = .ok (.invokevirtual 341, 3) := by decide +kernel
theorem dX11_wins_11 : decode cX11_wins 11 = .ok (.aload_n 0, 1) := by decide +kernel
theorem dX11_wins_12 : decode cX11_wins 12 = .ok (.getfield 37, 3) := by decide +kernel
theorem dX11_wins_15 : decode cX11_wins 15 = .ok (.iload_n 3, 1) := by decide +kernel
theorem dX11_wins_16 : decode cX11_wins 16 = .ok (.iload_n 1, 1) := by decide +kernel
theorem dX11_wins_17 : decode cX11_wins 17 = .ok (.invokevirtual 367, 3) := by decide +kernel
theorem dX11_wins_20 : decode cX11_wins 20 = .ok (.aload_n 0, 1) := by decide +kernel
theorem dX11_wins_21 : decode cX11_wins 21 = .ok (.getfield 37, 3) := by decide +kernel
theorem dX11_wins_24 : decode cX11_wins 24 = .ok (.iload_n 2, 1) := by decide +kernel
theorem dX11_wins_25 : decode cX11_wins 25 = .ok (.invokevirtual 344, 3) := by decide +kernel
theorem dX11_wins_28 : decode cX11_wins 28 = .ok (.aload_n 0, 1) := by decide +kernel
theorem dX11_wins_29 : decode cX11_wins 29 = .ok (.getfield 37, 3) := by decide +kernel
theorem dX11_wins_32 : decode cX11_wins 32 = .ok (.iload_n 1, 1) := by decide +kernel
theorem dX11_wins_33 : decode cX11_wins 33 = .ok (.invokevirtual 353, 3) := by decide +kernel
theorem dX11_wins_36 : decode cX11_wins 36 = .ok (.aload_n 0, 1) := by decide +kernel
theorem dX11_wins_37 : decode cX11_wins 37 = .ok (.getfield 20, 3) := by decide +kernel
theorem dX11_wins_40 : decode cX11_wins 40 = .ok (.getfield 127, 3) := by decide +kernel
theorem dX11_wins_43 : decode cX11_wins 43 = .ok (.if_icmp .ne 7, 3) := by decide +kernel
theorem dX11_wins_46 : decode cX11_wins 46 = .ok (.iconst 1, 1) := by decide +kernel
theorem dX11_wins_47 : decode cX11_wins 47 = .ok (.goto 4, 3) := by decide +kernel
theorem dX11_wins_50 : decode cX11_wins 50 = .ok (.iconst 0, 1) := by decide +kernel
theorem dX11_wins_51 : decode cX11_wins 51 = .ok (.ireturn, 1) := by decide +kernel
theorem dX11_colds_0 : decode cX11_colds 0 = .ok (.iload_n 2, 1) := by decide +kernel
theorem dX11_colds_1 : decode cX11_colds 1 = .ok (.iconst 0, 1) := by decide +kernel
theorem dX11_colds_2 : decode cX11_colds 2 = .ok (.bipush 20, 2) := by decide +kernel
theorem dX11_colds_4 : decode cX11_colds 4 = .ok (.invokestatic 227, 3) := by decide +kernel
theorem dX11_colds_7 : decode cX11_colds 7 = .ok (.aload_n 0, 1) := by decide +kernel
theorem dX11_colds_8 : decode cX11_colds 8 = .ok (.getfield 20, 3) := by decide +kernel
theorem dX11_colds_11 : decode cX11_colds 11 = .ok (.iload_n 1, 1) := by decide +kernel
theorem dX11_colds_12 : decode cX11_colds 12 = .ok (.iload_n 2, 1) := by decide +kernel
theorem dX11_colds_13 : decode cX11_colds 13 = .ok (.invokevirtual 370, 3) := by decide +kernel
theorem dX11_colds_16 : decode cX11_colds 16 = .ok (.ireturn, 1) := by decide +kernel
theorem dX11_spared_0 : decode cX11_spared 0 = .ok (.aload_n 0, 1) := by decide +kernel
theorem dX11_spared_1 : decode cX11_spared 1 = .ok (.iload_n 1, 1) := by decide +kernel
theorem dX11_spared_2 : decode cX11_spared 2 = .ok (.invokevirtual 132, 3) := by decide +kernel
theorem dX11_spared_5 : decode cX11_spared 5 = .ok (.iload_n 2, 1) := by decide +kernel
theorem dX11_spared_6 : decode cX11_spared 6 = .ok (.iconst 0, 1) := by decide +kernel
theorem dX11_spared_7 : decode cX11_spared 7 = .ok (.bipush 20, 2) := by decide +kernel
theorem dX11_spared_9 : decode cX11_spared 9 = .ok (.invokestatic 227, 3) := by decide +kernel
theorem dX11_spared_12 : decode cX11_spared 12 = .ok (.aload_n 0, 1) := by decide +kernel
theorem dX11_spared_13 : decode cX11_spared 13 = .ok (.getfield 20, 3) := by decide +kernel
theorem dX11_spared_16 : decode cX11_spared 16 = .ok (.getfield 172, 3) := by decide +kernel
theorem dX11_spared_19 : decode cX11_spared 19 = .ok (.iload_n 1, 1) := by decide +kernel
theorem dX11_spared_20 : decode cX11_spared 20 = .ok (.aaload, 1) := by decide +kernel
theorem dX11_spared_21 : decode cX11_spared 21 = .ok (.getfield 190, 3) := by decide +kernel
theorem dX11_spared_24 : decode cX11_spared 24 = .ok (.ifCond .eq 6, 3) := by decide +kernel
theorem dX11_spared_27 : decode cX11_spared 27 = .ok (.bipush (-2), 2) := by decide +kernel
theorem dX11_spared_29 : decode cX11_spared 29 = .ok (.ireturn, 1) := by decide +kernel
theorem dX11_spared_30 : decode cX11_spared 30 = .ok (.aload_n 0, 1) := by decide +kernel
theorem dX11_spared_31 : decode cX11_spared 31 = .ok (.getfield 20, 3) := by decide +kernel
theorem dX11_spared_34 : decode cX11_spared 34 = .ok (.invokevirtual 310, 3) := by decide +kernel
theorem dX11_spared_37 : decode cX11_spared 37 = .ok (.iconst 1, 1) := by decide +kernel
theorem dX11_spared_38 : decode cX11_spared 38 = .ok (.iload_n 1, 1) := by decide +kernel
theorem dX11_spared_39 : decode cX11_spared 39 = .ok (.ishl, 1) := by decide +kernel
theorem dX11_spared_40 : decode cX11_spared 40 = .ok (.iconst (-1), 1) := by decide +kernel
theorem dX11_spared_41 : decode cX11_spared 41 = .ok (.ixor, 1) := by decide +kernel
theorem dX11_spared_42 : decode cX11_spared 42 = .ok (.iand, 1) := by decide +kernel
theorem dX11_spared_43 : decode cX11_spared 43 = .ok (.istore_n 3, 1) := by decide +kernel
theorem dX11_spared_44 : decode cX11_spared 44 = .ok (.iconst 0, 1) := by decide +kernel
theorem dX11_spared_45 : decode cX11_spared 45 = .ok (.istore 4, 2) := by decide +kernel
theorem dX11_spared_47 : decode cX11_spared 47 = .ok (.iload 4, 2) := by decide +kernel
theorem dX11_spared_49 : decode cX11_spared 49 = .ok (.aload_n 0, 1) := by decide +kernel
theorem dX11_spared_50 : decode cX11_spared 50 = .ok (.getfield 20, 3) := by decide +kernel
theorem dX11_spared_53 : decode cX11_spared 53 = .ok (.getfield 127, 3) := by decide +kernel
theorem dX11_spared_56 : decode cX11_spared 56 = .ok (.if_icmp .ge 75, 3) := by decide +kernel
theorem dX11_spared_59 : decode cX11_spared 59 = .ok (.iconst 0, 1) := by decide +kernel
theorem dX11_spared_60 : decode cX11_spared 60 = .ok (.istore 5, 2) := by decide +kernel
theorem dX11_spared_62 : decode cX11_spared 62 = .ok (.iload 5, 2) := by decide +kernel
theorem dX11_spared_64 : decode cX11_spared 64 = .ok (.iload_n 3, 1) := by decide +kernel
theorem dX11_spared_65 : decode cX11_spared 65 = .ok (.if_icmp .ge 60, 3) := by decide +kernel
theorem dX11_spared_68 : decode cX11_spared 68 = .ok (.iload 5, 2) := by decide +kernel
theorem dX11_spared_70 : decode cX11_spared 70 = .ok (.iload_n 3, 1) := by decide +kernel
theorem dX11_spared_71 : decode cX11_spared 71 = .ok (.iconst (-1), 1) := by decide +kernel
theorem dX11_spared_72 : decode cX11_spared 72 = .ok (.ixor, 1) := by decide +kernel
theorem dX11_spared_73 : decode cX11_spared 73 = .ok (.iand, 1) := by decide +kernel
theorem dX11_spared_74 : decode cX11_spared 74 = .ok (.ifCond .ne 17, 3) := by decide +kernel
theorem dX11_spared_77 : decode cX11_spared 77 = .ok (.iload 5, 2) := by decide +kernel
theorem dX11_spared_79 : decode cX11_spared 79 = .ok (.invokestatic 313, 3) := by decide +kernel
theorem dX11_spared_82 : decode cX11_spared 82 = .ok (.iload 4, 2) := by decide +kernel
theorem dX11_spared_84 : decode cX11_spared 84 = .ok (.if_icmp .ne 7, 3) := by decide +kernel
theorem dX11_spared_87 : decode cX11_spared 87 = .ok (.iconst 1, 1) := by decide +kernel
theorem dX11_spared_88 : decode cX11_spared 88 = .ok (.goto 4, 3) := by decide +kernel
theorem dX11_spared_91 : decode cX11_spared 91 = .ok (.iconst 0, 1) := by decide +kernel
theorem dX11_spared_92 : decode cX11_spared 92 = .ok (.istore 6, 2) := by decide +kernel
theorem dX11_spared_94 : decode cX11_spared 94 = .ok (.iload 6, 2) := by decide +kernel
theorem dX11_spared_96 : decode cX11_spared 96 = .ok (.ifCond .eq 23, 3) := by decide +kernel
theorem dX11_spared_99 : decode cX11_spared 99 = .ok (.aload_n 0, 1) := by decide +kernel
theorem dX11_spared_100 : decode cX11_spared 100 = .ok (.getfield 20, 3) := by decide +kernel
theorem dX11_spared_103 : decode cX11_spared 103 = .ok (.iload 5, 2) := by decide +kernel
theorem dX11_spared_105 : decode cX11_spared 105 = .ok (.iload_n 2, 1) := by decide +kernel
theorem dX11_spared_106 : decode cX11_spared 106 = .ok (.invokevirtual 370, 3) := by decide +kernel
theorem dX11_spared_109 : decode cX11_spared 109 = .ok (.iload_n 1, 1) := by decide +kernel
theorem dX11_spared_110 : decode cX11_spared 110 = .ok (.invokestatic 252, 3) := by decide +kernel
theorem dX11_spared_113 : decode cX11_spared 113 = .ok (.ifCond .ne 6, 3) := by decide +kernel
theorem dX11_spared_116 : decode cX11_spared 116 = .ok (.iload 5, 2) := by decide +kernel
theorem dX11_spared_118 : decode cX11_spared 118 = .ok (.ireturn, 1) := by decide +kernel
theorem dX11_spared_119 : decode cX11_spared 119 = .ok (.iinc 5 1, 3) := by decide +kernel
theorem dX11_spared_122 : decode cX11_spared 122 = .ok (.goto (-60), 3) := by decide +kernel
theorem dX11_spared_125 : decode cX11_spared 125 = .ok (.iinc 4 1, 3) := by decide +kernel
theorem dX11_spared_128 : decode cX11_spared 128 = .ok (.goto (-81), 3) := by decide +kernel
theorem dX11_spared_131 : decode cX11_spared 131 = .ok (.iload_n 3, 1) := by decide +kernel
theorem dX11_spared_132 : decode cX11_spared 132 = .ok (.ireturn, 1) := by decide +kernel
theorem dX11_changed_0 : decode cX11_changed 0 = .ok (.iconst 0, 1) := by decide +kernel
theorem dX11_changed_1 : decode cX11_changed 1 = .ok (.istore_n 2, 1) := by decide +kernel
theorem dX11_changed_2 : decode cX11_changed 2 = .ok (.iconst 0, 1) := by decide +kernel
theorem dX11_changed_3 : decode cX11_changed 3 = .ok (.istore_n 3, 1) := by decide +kernel
theorem dX11_changed_4 : decode cX11_changed 4 = .ok (.iconst 0, 1) := by decide +kernel
theorem dX11_changed_5 : decode cX11_changed 5 = .ok (.istore 4, 2) := by decide +kernel
theorem dX11_changed_7 : decode cX11_changed 7 = .ok (.iload 4, 2) := by decide +kernel
theorem dX11_changed_9 : decode cX11_changed 9 = .ok (.aload_n 0, 1) := by decide +kernel
theorem dX11_changed_10 : decode cX11_changed 10 = .ok (.getfield 20, 3) := by decide +kernel
theorem dX11_changed_13 : decode cX11_changed 13 = .ok (.getfield 373, 3) := by decide +kernel
theorem dX11_changed_16 : decode cX11_changed 16 = .ok (.getfield 377, 3) := by decide +kernel
theorem dX11_changed_19 : decode cX11_changed 19 = .ok (.if_icmp .ge 101, 3) := by decide +kernel
theorem dX11_changed_22 : decode cX11_changed 22 = .ok (.aload_n 0, 1) := by decide +kernel
theorem dX11_changed_23 : decode cX11_changed 23 = .ok (.getfield 20, 3) := by decide +kernel
theorem dX11_changed_26 : decode cX11_changed 26 = .ok (.getfield 373, 3) := by decide +kernel
theorem dX11_changed_29 : decode cX11_changed 29 = .ok (.iload 4, 2) := by decide +kernel
theorem dX11_changed_31 : decode cX11_changed 31 = .ok (.invokevirtual 382, 3) := by decide +kernel
theorem dX11_changed_34 : decode cX11_changed 34 = .ok (.istore 5, 2) := by decide +kernel
theorem dX11_changed_36 : decode cX11_changed 36 = .ok (.aload_n 0, 1) := by decide +kernel
theorem dX11_changed_37 : decode cX11_changed 37 = .ok (.getfield 20, 3) := by decide +kernel
theorem dX11_changed_40 : decode cX11_changed 40 = .ok (.getfield 373, 3) := by decide +kernel
theorem dX11_changed_43 : decode cX11_changed 43 = .ok (.iload 4, 2) := by decide +kernel
theorem dX11_changed_45 : decode cX11_changed 45 = .ok (.iload 5, 2) := by decide +kernel
theorem dX11_changed_47 : decode cX11_changed 47 = .ok (.iconst 3, 1) := by decide +kernel
theorem dX11_changed_48 : decode cX11_changed 48 = .ok (.invokevirtual 385, 3) := by decide +kernel
theorem dX11_changed_51 : decode cX11_changed 51 = .ok (.ifCond .eq 24, 3) := by decide +kernel
theorem dX11_changed_54 : decode cX11_changed 54 = .ok (.iload_n 2, 1) := by decide +kernel
theorem dX11_changed_55 : decode cX11_changed 55 = .ok (.iconst 1, 1) := by decide +kernel
theorem dX11_changed_56 : decode cX11_changed 56 = .ok (.aload_n 0, 1) := by decide +kernel
theorem dX11_changed_57 : decode cX11_changed 57 = .ok (.getfield 20, 3) := by decide +kernel
theorem dX11_changed_60 : decode cX11_changed 60 = .ok (.getfield 373, 3) := by decide +kernel
theorem dX11_changed_63 : decode cX11_changed 63 = .ok (.iload 4, 2) := by decide +kernel
theorem dX11_changed_65 : decode cX11_changed 65 = .ok (.iconst 1, 1) := by decide +kernel
theorem dX11_changed_66 : decode cX11_changed 66 = .ok (.invokevirtual 388, 3) := by decide +kernel
theorem dX11_changed_69 : decode cX11_changed 69 = .ok (.ishl, 1) := by decide +kernel
theorem dX11_changed_70 : decode cX11_changed 70 = .ok (.ior, 1) := by decide +kernel
theorem dX11_changed_71 : decode cX11_changed 71 = .ok (.istore_n 2, 1) := by decide +kernel
theorem dX11_changed_72 : decode cX11_changed 72 = .ok (.iinc 3 1, 3) := by decide +kernel
theorem dX11_changed_75 : decode cX11_changed 75 = .ok (.aload_n 0, 1) := by decide +kernel
theorem dX11_changed_76 : decode cX11_changed 76 = .ok (.getfield 20, 3) := by decide +kernel
theorem dX11_changed_79 : decode cX11_changed 79 = .ok (.getfield 373, 3) := by decide +kernel
theorem dX11_changed_82 : decode cX11_changed 82 = .ok (.iload 4, 2) := by decide +kernel
theorem dX11_changed_84 : decode cX11_changed 84 = .ok (.iload 5, 2) := by decide +kernel
theorem dX11_changed_86 : decode cX11_changed 86 = .ok (.iconst 4, 1) := by decide +kernel
theorem dX11_changed_87 : decode cX11_changed 87 = .ok (.invokevirtual 385, 3) := by decide +kernel
theorem dX11_changed_90 : decode cX11_changed 90 = .ok (.ifCond .eq 24, 3) := by decide +kernel
theorem dX11_changed_93 : decode cX11_changed 93 = .ok (.iload_n 2, 1) := by decide +kernel
theorem dX11_changed_94 : decode cX11_changed 94 = .ok (.iconst 1, 1) := by decide +kernel
theorem dX11_changed_95 : decode cX11_changed 95 = .ok (.aload_n 0, 1) := by decide +kernel
theorem dX11_changed_96 : decode cX11_changed 96 = .ok (.getfield 20, 3) := by decide +kernel
theorem dX11_changed_99 : decode cX11_changed 99 = .ok (.getfield 373, 3) := by decide +kernel
theorem dX11_changed_102 : decode cX11_changed 102 = .ok (.iload 4, 2) := by decide +kernel
theorem dX11_changed_104 : decode cX11_changed 104 = .ok (.iconst 2, 1) := by decide +kernel
theorem dX11_changed_105 : decode cX11_changed 105 = .ok (.invokevirtual 388, 3) := by decide +kernel
theorem dX11_changed_108 : decode cX11_changed 108 = .ok (.ishl, 1) := by decide +kernel
theorem dX11_changed_109 : decode cX11_changed 109 = .ok (.ior, 1) := by decide +kernel
theorem dX11_changed_110 : decode cX11_changed 110 = .ok (.istore_n 2, 1) := by decide +kernel
theorem dX11_changed_111 : decode cX11_changed 111 = .ok (.iinc 3 1, 3) := by decide +kernel
theorem dX11_changed_114 : decode cX11_changed 114 = .ok (.iinc 4 1, 3) := by decide +kernel
theorem dX11_changed_117 : decode cX11_changed 117 = .ok (.goto (-110), 3) := by decide +kernel
theorem dX11_changed_120 : decode cX11_changed 120 = .ok (.iload_n 1, 1) := by decide +kernel
theorem dX11_changed_121 : decode cX11_changed 121 = .ok (.ifCond .eq 7, 3) := by decide +kernel
theorem dX11_changed_124 : decode cX11_changed 124 = .ok (.iload_n 3, 1) := by decide +kernel
theorem dX11_changed_125 : decode cX11_changed 125 = .ok (.goto 4, 3) := by decide +kernel
theorem dX11_changed_128 : decode cX11_changed 128 = .ok (.iload_n 2, 1) := by decide +kernel
theorem dX11_changed_129 : decode cX11_changed 129 = .ok (.ireturn, 1) := by decide +kernel
theorem dX11_trial_0 : decode cX11_trial 0 = .ok (.iload_n 1, 1) := by decide +kernel
theorem dX11_trial_1 : decode cX11_trial 1 = .ok (.iconst 0, 1) := by decide +kernel
theorem dX11_trial_2 : decode cX11_trial 2 = .ok (.bipush 20, 2) := by decide +kernel
theorem dX11_trial_4 : decode cX11_trial 4 = .ok (.invokestatic 227, 3) := by decide +kernel
theorem dX11_trial_7 : decode cX11_trial 7 = .ok (.iload_n 2, 1) := by decide +kernel
theorem dX11_trial_8 : decode cX11_trial 8 = .ok (.iconst 3, 1) := by decide +kernel
theorem dX11_trial_9 : decode cX11_trial 9 = .ok (.invokestatic 168, 3) := by decide +kernel
theorem dX11_trial_12 : decode cX11_trial 12 = .ok (.aload_n 0, 1) := by decide +kernel
theorem dX11_trial_13 : decode cX11_trial 13 = .ok (.getfield 31, 3) := by decide +kernel
theorem dX11_trial_16 : decode cX11_trial 16 = .ok (.aload_n 0, 1) := by decide +kernel
theorem dX11_trial_17 : decode cX11_trial 17 = .ok (.getfield 20, 3) := by decide +kernel
theorem dX11_trial_20 : decode cX11_trial 20 = .ok (.invokevirtual 59, 3) := by decide +kernel
theorem dX11_trial_23 : decode cX11_trial 23 = .ok (.aload_n 0, 1) := by decide +kernel
theorem dX11_trial_24 : decode cX11_trial 24 = .ok (.getfield 31, 3) := by decide +kernel
theorem dX11_trial_27 : decode cX11_trial 27 = .ok (.iload_n 1, 1) := by decide +kernel
theorem dX11_trial_28 : decode cX11_trial 28 = .ok (.invokevirtual 231, 3) := by decide +kernel
theorem dX11_trial_31 : decode cX11_trial 31 = .ok (.istore_n 3, 1) := by decide +kernel
theorem dX11_trial_32 : decode cX11_trial 32 = .ok (.iload_n 2, 1) := by decide +kernel
theorem dX11_trial_33 : decode cX11_trial 33 = .ok (.tableswitch 64 0 2 #[27, 29, 45], 27) := by decide +kernel
theorem dX11_trial_60 : decode cX11_trial 60 = .ok (.iload_n 3, 1) := by decide +kernel
theorem dX11_trial_61 : decode cX11_trial 61 = .ok (.ireturn, 1) := by decide +kernel
theorem dX11_trial_62 : decode cX11_trial 62 = .ok (.aload_n 0, 1) := by decide +kernel
theorem dX11_trial_63 : decode cX11_trial 63 = .ok (.getfield 31, 3) := by decide +kernel
theorem dX11_trial_66 : decode cX11_trial 66 = .ok (.getfield 391, 3) := by decide +kernel
theorem dX11_trial_69 : decode cX11_trial 69 = .ok (.aload_n 0, 1) := by decide +kernel
theorem dX11_trial_70 : decode cX11_trial 70 = .ok (.getfield 20, 3) := by decide +kernel
theorem dX11_trial_73 : decode cX11_trial 73 = .ok (.getfield 391, 3) := by decide +kernel
theorem dX11_trial_76 : decode cX11_trial 76 = .ok (.isub, 1) := by decide +kernel
theorem dX11_trial_77 : decode cX11_trial 77 = .ok (.ireturn, 1) := by decide +kernel
theorem dX11_trial_78 : decode cX11_trial 78 = .ok (.aload_n 0, 1) := by decide +kernel
theorem dX11_trial_79 : decode cX11_trial 79 = .ok (.getfield 37, 3) := by decide +kernel
theorem dX11_trial_82 : decode cX11_trial 82 = .ok (.aload_n 0, 1) := by decide +kernel
theorem dX11_trial_83 : decode cX11_trial 83 = .ok (.getfield 31, 3) := by decide +kernel
theorem dX11_trial_86 : decode cX11_trial 86 = .ok (.invokevirtual 341, 3) := by decide +kernel
theorem dX11_trial_89 : decode cX11_trial 89 = .ok (.aload_n 0, 1) := by decide +kernel
theorem dX11_trial_90 : decode cX11_trial 90 = .ok (.getfield 37, 3) := by decide +kernel
theorem dX11_trial_93 : decode cX11_trial 93 = .ok (.invokevirtual 347, 3) := by decide +kernel
theorem dX11_trial_96 : decode cX11_trial 96 = .ok (.ireturn, 1) := by decide +kernel
theorem dX11_trial_97 : decode cX11_trial 97 = .ok (.aload_n 0, 1) := by decide +kernel
theorem dX11_trial_98 : decode cX11_trial 98 = .ok (.getfield 31, 3) := by decide +kernel
theorem dX11_trial_101 : decode cX11_trial 101 = .ok (.invokevirtual 394, 3) := by decide +kernel
theorem dX11_trial_104 : decode cX11_trial 104 = .ok (.ireturn, 1) := by decide +kernel
theorem dX11_span_0 : decode cX11_span 0 = .ok (.iload_n 1, 1) := by decide +kernel
theorem dX11_span_1 : decode cX11_span 1 = .ok (.iconst 0, 1) := by decide +kernel
theorem dX11_span_2 : decode cX11_span 2 = .ok (.bipush 20, 2) := by decide +kernel
theorem dX11_span_4 : decode cX11_span 4 = .ok (.invokestatic 227, 3) := by decide +kernel
theorem dX11_span_7 : decode cX11_span 7 = .ok (.ldc_w 285, 3) := by decide +kernel
theorem dX11_span_10 : decode cX11_span 10 = .ok (.istore_n 3, 1) := by decide +kernel
theorem dX11_span_11 : decode cX11_span 11 = .ok (.iconst 0, 1) := by decide +kernel
theorem dX11_span_12 : decode cX11_span 12 = .ok (.istore 4, 2) := by decide +kernel
theorem dX11_span_14 : decode cX11_span 14 = .ok (.iconst 1, 1) := by decide +kernel
theorem dX11_span_15 : decode cX11_span 15 = .ok (.istore 5, 2) := by decide +kernel
theorem dX11_span_17 : decode cX11_span 17 = .ok (.iload 5, 2) := by decide +kernel
theorem dX11_span_19 : decode cX11_span 19 = .ok (.bipush 6, 2) := by decide +kernel
theorem dX11_span_21 : decode cX11_span 21 = .ok (.if_icmp .gt 55, 3) := by decide +kernel
theorem dX11_span_24 : decode cX11_span 24 = .ok (.aload_n 0, 1) := by decide +kernel
theorem dX11_span_25 : decode cX11_span 25 = .ok (.getfield 31, 3) := by decide +kernel
theorem dX11_span_28 : decode cX11_span 28 = .ok (.aload_n 0, 1) := by decide +kernel
theorem dX11_span_29 : decode cX11_span 29 = .ok (.getfield 20, 3) := by decide +kernel
theorem dX11_span_32 : decode cX11_span 32 = .ok (.invokevirtual 59, 3) := by decide +kernel
theorem dX11_span_35 : decode cX11_span 35 = .ok (.aload_n 0, 1) := by decide +kernel
theorem dX11_span_36 : decode cX11_span 36 = .ok (.getfield 31, 3) := by decide +kernel
theorem dX11_span_39 : decode cX11_span 39 = .ok (.iload 5, 2) := by decide +kernel
theorem dX11_span_41 : decode cX11_span 41 = .ok (.putfield 397, 3) := by decide +kernel
theorem dX11_span_44 : decode cX11_span 44 = .ok (.aload_n 0, 1) := by decide +kernel
theorem dX11_span_45 : decode cX11_span 45 = .ok (.getfield 31, 3) := by decide +kernel
theorem dX11_span_48 : decode cX11_span 48 = .ok (.iload_n 1, 1) := by decide +kernel
theorem dX11_span_49 : decode cX11_span 49 = .ok (.invokevirtual 231, 3) := by decide +kernel
theorem dX11_span_52 : decode cX11_span 52 = .ok (.istore 6, 2) := by decide +kernel
theorem dX11_span_54 : decode cX11_span 54 = .ok (.iload_n 3, 1) := by decide +kernel
theorem dX11_span_55 : decode cX11_span 55 = .ok (.iload 6, 2) := by decide +kernel
theorem dX11_span_57 : decode cX11_span 57 = .ok (.invokestatic 289, 3) := by decide +kernel
theorem dX11_span_60 : decode cX11_span 60 = .ok (.istore_n 3, 1) := by decide +kernel
theorem dX11_span_61 : decode cX11_span 61 = .ok (.iload 4, 2) := by decide +kernel
theorem dX11_span_63 : decode cX11_span 63 = .ok (.iload 6, 2) := by decide +kernel
theorem dX11_span_65 : decode cX11_span 65 = .ok (.invokestatic 335, 3) := by decide +kernel
theorem dX11_span_68 : decode cX11_span 68 = .ok (.istore 4, 2) := by decide +kernel
theorem dX11_span_70 : decode cX11_span 70 = .ok (.iinc 5 1, 3) := by decide +kernel
theorem dX11_span_73 : decode cX11_span 73 = .ok (.goto (-56), 3) := by decide +kernel
theorem dX11_span_76 : decode cX11_span 76 = .ok (.iload_n 2, 1) := by decide +kernel
theorem dX11_span_77 : decode cX11_span 77 = .ok (.ifCond .eq 8, 3) := by decide +kernel
theorem dX11_span_80 : decode cX11_span 80 = .ok (.iload 4, 2) := by decide +kernel
theorem dX11_span_82 : decode cX11_span 82 = .ok (.goto 4, 3) := by decide +kernel
theorem dX11_span_85 : decode cX11_span 85 = .ok (.iload_n 3, 1) := by decide +kernel
theorem dX11_span_86 : decode cX11_span 86 = .ok (.ireturn, 1) := by decide +kernel
theorem dX11_log_0 : decode cX11_log 0 = .ok (.iload_n 2, 1) := by decide +kernel
theorem dX11_log_1 : decode cX11_log 1 = .ok (.bipush 7, 2) := by decide +kernel
theorem dX11_log_3 : decode cX11_log 3 = .ok (.invokestatic 168, 3) := by decide +kernel
theorem dX11_log_6 : decode cX11_log 6 = .ok (.aload_n 0, 1) := by decide +kernel
theorem dX11_log_7 : decode cX11_log 7 = .ok (.getfield 20, 3) := by decide +kernel
theorem dX11_log_10 : decode cX11_log 10 = .ok (.getfield 373, 3) := by decide +kernel
theorem dX11_log_13 : decode cX11_log 13 = .ok (.iload_n 1, 1) := by decide +kernel
theorem dX11_log_14 : decode cX11_log 14 = .ok (.iload_n 2, 1) := by decide +kernel
theorem dX11_log_15 : decode cX11_log 15 = .ok (.invokevirtual 388, 3) := by decide +kernel
theorem dX11_log_18 : decode cX11_log 18 = .ok (.ireturn, 1) := by decide +kernel
theorem dX11_seed_0 : decode cX11_seed 0 = .ok (.aload_n 0, 1) := by decide +kernel
theorem dX11_seed_1 : decode cX11_seed 1 = .ok (.getfield 20, 3) := by decide +kernel
theorem dX11_seed_4 : decode cX11_seed 4 = .ok (.getfield 397, 3) := by decide +kernel
theorem dX11_seed_7 : decode cX11_seed 7 = .ok (.istore_n 2, 1) := by decide +kernel
theorem dX11_seed_8 : decode cX11_seed 8 = .ok (.aload_n 0, 1) := by decide +kernel
theorem dX11_seed_9 : decode cX11_seed 9 = .ok (.getfield 20, 3) := by decide +kernel
theorem dX11_seed_12 : decode cX11_seed 12 = .ok (.iload_n 1, 1) := by decide +kernel
theorem dX11_seed_13 : decode cX11_seed 13 = .ok (.putfield 397, 3) := by decide +kernel
theorem dX11_seed_16 : decode cX11_seed 16 = .ok (.iload_n 2, 1) := by decide +kernel
theorem dX11_seed_17 : decode cX11_seed 17 = .ok (.ireturn, 1) := by decide +kernel
theorem dX11_undo_0 : decode cX11_undo 0 = .ok (.aload_n 0, 1) := by decide +kernel
theorem dX11_undo_1 : decode cX11_undo 1 = .ok (.getfield 88, 3) := by decide +kernel
theorem dX11_undo_4 : decode cX11_undo 4 = .ok (.ifCond .gt 5, 3) := by decide +kernel
theorem dX11_undo_7 : decode cX11_undo 7 = .ok (.iconst 0, 1) := by decide +kernel
theorem dX11_undo_8 : decode cX11_undo 8 = .ok (.ireturn, 1) := by decide +kernel
theorem dX11_undo_9 : decode cX11_undo 9 = .ok (.aload_n 0, 1) := by decide +kernel
theorem dX11_undo_10 : decode cX11_undo 10 = .ok (.dup, 1) := by decide +kernel
theorem dX11_undo_11 : decode cX11_undo 11 = .ok (.getfield 88, 3) := by decide +kernel
theorem dX11_undo_14 : decode cX11_undo 14 = .ok (.iconst 1, 1) := by decide +kernel
theorem dX11_undo_15 : decode cX11_undo 15 = .ok (.isub, 1) := by decide +kernel
theorem dX11_undo_16 : decode cX11_undo 16 = .ok (.putfield 88, 3) := by decide +kernel
theorem dX11_undo_19 : decode cX11_undo 19 = .ok (.aload_n 0, 1) := by decide +kernel
theorem dX11_undo_20 : decode cX11_undo 20 = .ok (.getfield 20, 3) := by decide +kernel
theorem dX11_undo_23 : decode cX11_undo 23 = .ok (.aload_n 0, 1) := by decide +kernel
theorem dX11_undo_24 : decode cX11_undo 24 = .ok (.getfield 27, 3) := by decide +kernel
theorem dX11_undo_27 : decode cX11_undo 27 = .ok (.aload_n 0, 1) := by decide +kernel
theorem dX11_undo_28 : decode cX11_undo 28 = .ok (.getfield 88, 3) := by decide +kernel
theorem dX11_undo_31 : decode cX11_undo 31 = .ok (.aaload, 1) := by decide +kernel
theorem dX11_undo_32 : decode cX11_undo 32 = .ok (.invokevirtual 59, 3) := by decide +kernel
theorem dX11_undo_35 : decode cX11_undo 35 = .ok (.iconst 1, 1) := by decide +kernel
theorem dX11_undo_36 : decode cX11_undo 36 = .ok (.ireturn, 1) := by decide +kernel
theorem dX11_image_0 : decode cX11_image 0 = .ok (.aload_n 0, 1) := by decide +kernel
theorem dX11_image_1 : decode cX11_image 1 = .ok (.getfield 24, 3) := by decide +kernel
theorem dX11_image_4 : decode cX11_image 4 = .ok (.aload_n 0, 1) := by decide +kernel
theorem dX11_image_5 : decode cX11_image 5 = .ok (.getfield 20, 3) := by decide +kernel
theorem dX11_image_8 : decode cX11_image 8 = .ok (.invokevirtual 59, 3) := by decide +kernel
theorem dX11_image_11 : decode cX11_image 11 = .ok (.aload_n 0, 1) := by decide +kernel
theorem dX11_image_12 : decode cX11_image 12 = .ok (.iconst 1, 1) := by decide +kernel
theorem dX11_image_13 : decode cX11_image 13 = .ok (.putfield 400, 3) := by decide +kernel
theorem dX11_image_16 : decode cX11_image 16 = .ok (.return_, 1) := by decide +kernel
theorem dX11_back_0 : decode cX11_back 0 = .ok (.aload_n 0, 1) := by decide +kernel
theorem dX11_back_1 : decode cX11_back 1 = .ok (.getfield 400, 3) := by decide +kernel
theorem dX11_back_4 : decode cX11_back 4 = .ok (.ifCond .ne 5, 3) := by decide +kernel
theorem dX11_back_7 : decode cX11_back 7 = .ok (.iconst 0, 1) := by decide +kernel
theorem dX11_back_8 : decode cX11_back 8 = .ok (.ireturn, 1) := by decide +kernel
theorem dX11_back_9 : decode cX11_back 9 = .ok (.aload_n 0, 1) := by decide +kernel
theorem dX11_back_10 : decode cX11_back 10 = .ok (.getfield 20, 3) := by decide +kernel
theorem dX11_back_13 : decode cX11_back 13 = .ok (.aload_n 0, 1) := by decide +kernel
theorem dX11_back_14 : decode cX11_back 14 = .ok (.getfield 24, 3) := by decide +kernel
theorem dX11_back_17 : decode cX11_back 17 = .ok (.invokevirtual 59, 3) := by decide +kernel
theorem dX11_back_20 : decode cX11_back 20 = .ok (.aload_n 0, 1) := by decide +kernel
theorem dX11_back_21 : decode cX11_back 21 = .ok (.iconst 0, 1) := by decide +kernel
theorem dX11_back_22 : decode cX11_back 22 = .ok (.putfield 88, 3) := by decide +kernel
theorem dX11_back_25 : decode cX11_back 25 = .ok (.iconst 1, 1) := by decide +kernel
theorem dX11_back_26 : decode cX11_back 26 = .ok (.ireturn, 1) := by decide +kernel
theorem dX11_count_0 : decode cX11_count 0 = .ok (.iload_n 1, 1) := by decide +kernel
theorem dX11_count_1 : decode cX11_count 1 = .ok (.tableswitch 260 0 16 #[83, 94, 105, 113, 121, 129, 154, 162, 170, 178, 186, 194, 202, 213, 218, 232, 246], 83) := by decide +kernel
theorem dX11_count_84 : decode cX11_count 84 = .ok (.aload_n 0, 1) := by decide +kernel
theorem dX11_count_85 : decode cX11_count 85 = .ok (.getfield 20, 3) := by decide +kernel
theorem dX11_count_88 : decode cX11_count 88 = .ok (.getfield 116, 3) := by decide +kernel
theorem dX11_count_91 : decode cX11_count 91 = .ok (.getfield 120, 3) := by decide +kernel
theorem dX11_count_94 : decode cX11_count 94 = .ok (.ireturn, 1) := by decide +kernel
theorem dX11_count_95 : decode cX11_count 95 = .ok (.aload_n 0, 1) := by decide +kernel
theorem dX11_count_96 : decode cX11_count 96 = .ok (.getfield 20, 3) := by decide +kernel
theorem dX11_count_99 : decode cX11_count 99 = .ok (.getfield 116, 3) := by decide +kernel
theorem dX11_count_102 : decode cX11_count 102 = .ok (.getfield 403, 3) := by decide +kernel
theorem dX11_count_105 : decode cX11_count 105 = .ok (.ireturn, 1) := by decide +kernel
theorem dX11_count_106 : decode cX11_count 106 = .ok (.aload_n 0, 1) := by decide +kernel
theorem dX11_count_107 : decode cX11_count 107 = .ok (.getfield 20, 3) := by decide +kernel
theorem dX11_count_110 : decode cX11_count 110 = .ok (.getfield 127, 3) := by decide +kernel
theorem dX11_count_113 : decode cX11_count 113 = .ok (.ireturn, 1) := by decide +kernel
theorem dX11_count_114 : decode cX11_count 114 = .ok (.aload_n 0, 1) := by decide +kernel
theorem dX11_count_115 : decode cX11_count 115 = .ok (.getfield 20, 3) := by decide +kernel
theorem dX11_count_118 : decode cX11_count 118 = .ok (.getfield 137, 3) := by decide +kernel
theorem dX11_count_121 : decode cX11_count 121 = .ok (.ireturn, 1) := by decide +kernel
theorem dX11_count_122 : decode cX11_count 122 = .ok (.aload_n 0, 1) := by decide +kernel
theorem dX11_count_123 : decode cX11_count 123 = .ok (.getfield 20, 3) := by decide +kernel
theorem dX11_count_126 : decode cX11_count 126 = .ok (.getfield 80, 3) := by decide +kernel
theorem dX11_count_129 : decode cX11_count 129 = .ok (.ireturn, 1) := by decide +kernel
theorem dX11_count_130 : decode cX11_count 130 = .ok (.aload_n 0, 1) := by decide +kernel
theorem dX11_count_131 : decode cX11_count 131 = .ok (.getfield 20, 3) := by decide +kernel
theorem dX11_count_134 : decode cX11_count 134 = .ok (.getfield 104, 3) := by decide +kernel
theorem dX11_count_137 : decode cX11_count 137 = .ok (.ifnonnull 7, 3) := by decide +kernel
theorem dX11_count_140 : decode cX11_count 140 = .ok (.iconst (-1), 1) := by decide +kernel
theorem dX11_count_141 : decode cX11_count 141 = .ok (.goto 13, 3) := by decide +kernel
theorem dX11_count_144 : decode cX11_count 144 = .ok (.aload_n 0, 1) := by decide +kernel
theorem dX11_count_145 : decode cX11_count 145 = .ok (.getfield 20, 3) := by decide +kernel
theorem dX11_count_148 : decode cX11_count 148 = .ok (.getfield 104, 3) := by decide +kernel
theorem dX11_count_151 : decode cX11_count 151 = .ok (.getfield 108, 3) := by decide +kernel
theorem dX11_count_154 : decode cX11_count 154 = .ok (.ireturn, 1) := by decide +kernel
theorem dX11_count_155 : decode cX11_count 155 = .ok (.aload_n 0, 1) := by decide +kernel
theorem dX11_count_156 : decode cX11_count 156 = .ok (.getfield 20, 3) := by decide +kernel
theorem dX11_count_159 : decode cX11_count 159 = .ok (.getfield 406, 3) := by decide +kernel
theorem dX11_count_162 : decode cX11_count 162 = .ok (.ireturn, 1) := by decide +kernel
theorem dX11_count_163 : decode cX11_count 163 = .ok (.aload_n 0, 1) := by decide +kernel
theorem dX11_count_164 : decode cX11_count 164 = .ok (.getfield 20, 3) := by decide +kernel
theorem dX11_count_167 : decode cX11_count 167 = .ok (.getfield 409, 3) := by decide +kernel
theorem dX11_count_170 : decode cX11_count 170 = .ok (.ireturn, 1) := by decide +kernel
theorem dX11_count_171 : decode cX11_count 171 = .ok (.aload_n 0, 1) := by decide +kernel
theorem dX11_count_172 : decode cX11_count 172 = .ok (.getfield 20, 3) := by decide +kernel
theorem dX11_count_175 : decode cX11_count 175 = .ok (.getfield 411, 3) := by decide +kernel
theorem dX11_count_178 : decode cX11_count 178 = .ok (.ireturn, 1) := by decide +kernel
theorem dX11_count_179 : decode cX11_count 179 = .ok (.aload_n 0, 1) := by decide +kernel
theorem dX11_count_180 : decode cX11_count 180 = .ok (.getfield 20, 3) := by decide +kernel
theorem dX11_count_183 : decode cX11_count 183 = .ok (.getfield 391, 3) := by decide +kernel
theorem dX11_count_186 : decode cX11_count 186 = .ok (.ireturn, 1) := by decide +kernel
theorem dX11_count_187 : decode cX11_count 187 = .ok (.aload_n 0, 1) := by decide +kernel
theorem dX11_count_188 : decode cX11_count 188 = .ok (.getfield 20, 3) := by decide +kernel
theorem dX11_count_191 : decode cX11_count 191 = .ok (.getfield 414, 3) := by decide +kernel
theorem dX11_count_194 : decode cX11_count 194 = .ok (.ireturn, 1) := by decide +kernel
theorem dX11_count_195 : decode cX11_count 195 = .ok (.aload_n 0, 1) := by decide +kernel
theorem dX11_count_196 : decode cX11_count 196 = .ok (.getfield 20, 3) := by decide +kernel
theorem dX11_count_199 : decode cX11_count 199 = .ok (.invokevirtual 394, 3) := by decide +kernel
theorem dX11_count_202 : decode cX11_count 202 = .ok (.ireturn, 1) := by decide +kernel
theorem dX11_count_203 : decode cX11_count 203 = .ok (.aload_n 0, 1) := by decide +kernel
theorem dX11_count_204 : decode cX11_count 204 = .ok (.getfield 20, 3) := by decide +kernel
theorem dX11_count_207 : decode cX11_count 207 = .ok (.getfield 373, 3) := by decide +kernel
theorem dX11_count_210 : decode cX11_count 210 = .ok (.getfield 377, 3) := by decide +kernel
theorem dX11_count_213 : decode cX11_count 213 = .ok (.ireturn, 1) := by decide +kernel
theorem dX11_count_214 : decode cX11_count 214 = .ok (.aload_n 0, 1) := by decide +kernel
theorem dX11_count_215 : decode cX11_count 215 = .ok (.getfield 88, 3) := by decide +kernel
theorem dX11_count_218 : decode cX11_count 218 = .ok (.ireturn, 1) := by decide +kernel
theorem dX11_count_219 : decode cX11_count 219 = .ok (.aload_n 0, 1) := by decide +kernel
theorem dX11_count_220 : decode cX11_count 220 = .ok (.getfield 20, 3) := by decide +kernel
theorem dX11_count_223 : decode cX11_count 223 = .ok (.getfield 116, 3) := by decide +kernel
theorem dX11_count_226 : decode cX11_count 226 = .ok (.getfield 152, 3) := by decide +kernel
theorem dX11_count_229 : decode cX11_count 229 = .ok (.getfield 417, 3) := by decide +kernel
theorem dX11_count_232 : decode cX11_count 232 = .ok (.ireturn, 1) := by decide +kernel
theorem dX11_count_233 : decode cX11_count 233 = .ok (.aload_n 0, 1) := by decide +kernel
theorem dX11_count_234 : decode cX11_count 234 = .ok (.getfield 20, 3) := by decide +kernel
theorem dX11_count_237 : decode cX11_count 237 = .ok (.getfield 116, 3) := by decide +kernel
theorem dX11_count_240 : decode cX11_count 240 = .ok (.getfield 152, 3) := by decide +kernel
theorem dX11_count_243 : decode cX11_count 243 = .ok (.getfield 420, 3) := by decide +kernel
theorem dX11_count_246 : decode cX11_count 246 = .ok (.ireturn, 1) := by decide +kernel
theorem dX11_count_247 : decode cX11_count 247 = .ok (.aload_n 0, 1) := by decide +kernel
theorem dX11_count_248 : decode cX11_count 248 = .ok (.getfield 20, 3) := by decide +kernel
theorem dX11_count_251 : decode cX11_count 251 = .ok (.getfield 116, 3) := by decide +kernel
theorem dX11_count_254 : decode cX11_count 254 = .ok (.getfield 152, 3) := by decide +kernel
theorem dX11_count_257 : decode cX11_count 257 = .ok (.getfield 423, 3) := by decide +kernel
theorem dX11_count_260 : decode cX11_count 260 = .ok (.ireturn, 1) := by decide +kernel
theorem dX11_count_261 : decode cX11_count 261 = .ok (.iconst (-1), 1) := by decide +kernel
theorem dX11_count_262 : decode cX11_count 262 = .ok (.ireturn, 1) := by decide +kernel
theorem dX12_init_0 : decode cX12_init 0 = .ok (.aload_n 0, 1) := by decide +kernel
theorem dX12_init_1 : decode cX12_init 1 = .ok (.invokespecial 1, 3) := by decide +kernel
theorem dX12_init_4 : decode cX12_init 4 = .ok (.aload_n 0, 1) := by decide +kernel
theorem dX12_init_5 : decode cX12_init 5 = .ok (.sipush 1300, 3) := by decide +kernel
theorem dX12_init_8 : decode cX12_init 8 = .ok (.newarray .int, 2) := by decide +kernel
theorem dX12_init_10 : decode cX12_init 10 = .ok (.putfield 7, 3) := by decide +kernel
theorem dX12_init_13 : decode cX12_init 13 = .ok (.aload_n 0, 1) := by decide +kernel
theorem dX12_init_14 : decode cX12_init 14 = .ok (.sipush 1300, 3) := by decide +kernel
theorem dX12_init_17 : decode cX12_init 17 = .ok (.newarray .int, 2) := by decide +kernel
theorem dX12_init_19 : decode cX12_init 19 = .ok (.putfield 13, 3) := by decide +kernel
theorem dX12_init_22 : decode cX12_init 22 = .ok (.aload_n 0, 1) := by decide +kernel
theorem dX12_init_23 : decode cX12_init 23 = .ok (.sipush 900, 3) := by decide +kernel
theorem dX12_init_26 : decode cX12_init 26 = .ok (.newarray .int, 2) := by decide +kernel
theorem dX12_init_28 : decode cX12_init 28 = .ok (.putfield 16, 3) := by decide +kernel
theorem dX12_init_31 : decode cX12_init 31 = .ok (.aload_n 0, 1) := by decide +kernel
theorem dX12_init_32 : decode cX12_init 32 = .ok (.sipush 10800, 3) := by decide +kernel
theorem dX12_init_35 : decode cX12_init 35 = .ok (.newarray .int, 2) := by decide +kernel
theorem dX12_init_37 : decode cX12_init 37 = .ok (.putfield 19, 3) := by decide +kernel
theorem dX12_init_40 : decode cX12_init 40 = .ok (.aload_n 0, 1) := by decide +kernel
theorem dX12_init_41 : decode cX12_init 41 = .ok (.sipush 400, 3) := by decide +kernel
theorem dX12_init_44 : decode cX12_init 44 = .ok (.newarray .int, 2) := by decide +kernel
theorem dX12_init_46 : decode cX12_init 46 = .ok (.putfield 22, 3) := by decide +kernel
theorem dX12_init_49 : decode cX12_init 49 = .ok (.aload_n 0, 1) := by decide +kernel
theorem dX12_init_50 : decode cX12_init 50 = .ok (.iconst (-1), 1) := by decide +kernel
theorem dX12_init_51 : decode cX12_init 51 = .ok (.putfield 25, 3) := by decide +kernel
theorem dX12_init_54 : decode cX12_init 54 = .ok (.aload_n 0, 1) := by decide +kernel
theorem dX12_init_55 : decode cX12_init 55 = .ok (.bipush 6, 2) := by decide +kernel
theorem dX12_init_57 : decode cX12_init 57 = .ok (.newarray .int, 2) := by decide +kernel
theorem dX12_init_59 : decode cX12_init 59 = .ok (.putfield 29, 3) := by decide +kernel
theorem dX12_init_62 : decode cX12_init 62 = .ok (.aload_n 0, 1) := by decide +kernel
theorem dX12_init_63 : decode cX12_init 63 = .ok (.bipush 10, 2) := by decide +kernel
theorem dX12_init_65 : decode cX12_init 65 = .ok (.newarray .int, 2) := by decide +kernel
theorem dX12_init_67 : decode cX12_init 67 = .ok (.putfield 32, 3) := by decide +kernel
theorem dX12_init_70 : decode cX12_init 70 = .ok (.aload_n 0, 1) := by decide +kernel
theorem dX12_init_71 : decode cX12_init 71 = .ok (.bipush 10, 2) := by decide +kernel
theorem dX12_init_73 : decode cX12_init 73 = .ok (.newarray .int, 2) := by decide +kernel
theorem dX12_init_75 : decode cX12_init 75 = .ok (.putfield 35, 3) := by decide +kernel
theorem dX12_init_78 : decode cX12_init 78 = .ok (.aload_n 0, 1) := by decide +kernel
theorem dX12_init_79 : decode cX12_init 79 = .ok (.bipush 10, 2) := by decide +kernel
theorem dX12_init_81 : decode cX12_init 81 = .ok (.newarray .int, 2) := by decide +kernel
theorem dX12_init_83 : decode cX12_init 83 = .ok (.putfield 38, 3) := by decide +kernel
theorem dX12_init_86 : decode cX12_init 86 = .ok (.aload_n 0, 1) := by decide +kernel
theorem dX12_init_87 : decode cX12_init 87 = .ok (.bipush 32, 2) := by decide +kernel
theorem dX12_init_89 : decode cX12_init 89 = .ok (.newarray .int, 2) := by decide +kernel
theorem dX12_init_91 : decode cX12_init 91 = .ok (.putfield 41, 3) := by decide +kernel
theorem dX12_init_94 : decode cX12_init 94 = .ok (.aload_n 0, 1) := by decide +kernel
theorem dX12_init_95 : decode cX12_init 95 = .ok (.bipush 8, 2) := by decide +kernel
theorem dX12_init_97 : decode cX12_init 97 = .ok (.newarray .int, 2) := by decide +kernel
theorem dX12_init_99 : decode cX12_init 99 = .ok (.putfield 44, 3) := by decide +kernel
theorem dX12_init_102 : decode cX12_init 102 = .ok (.aload_n 0, 1) := by decide +kernel
theorem dX12_init_103 : decode cX12_init 103 = .ok (.bipush 8, 2) := by decide +kernel
theorem dX12_init_105 : decode cX12_init 105 = .ok (.newarray .int, 2) := by decide +kernel
theorem dX12_init_107 : decode cX12_init 107 = .ok (.putfield 47, 3) := by decide +kernel
theorem dX12_init_110 : decode cX12_init 110 = .ok (.aload_n 0, 1) := by decide +kernel
theorem dX12_init_111 : decode cX12_init 111 = .ok (.sipush 1024, 3) := by decide +kernel
theorem dX12_init_114 : decode cX12_init 114 = .ok (.newarray .int, 2) := by decide +kernel
theorem dX12_init_116 : decode cX12_init 116 = .ok (.putfield 50, 3) := by decide +kernel
theorem dX12_init_119 : decode cX12_init 119 = .ok (.aload_n 0, 1) := by decide +kernel
theorem dX12_init_120 : decode cX12_init 120 = .ok (.bipush 100, 2) := by decide +kernel
theorem dX12_init_122 : decode cX12_init 122 = .ok (.newarray .int, 2) := by decide +kernel
theorem dX12_init_124 : decode cX12_init 124 = .ok (.putfield 53, 3) := by decide +kernel
theorem dX12_init_127 : decode cX12_init 127 = .ok (.aload_n 0, 1) := by decide +kernel
theorem dX12_init_128 : decode cX12_init 128 = .ok (.getfield 7, 3) := by decide +kernel
theorem dX12_init_131 : decode cX12_init 131 = .ok (.iconst 1, 1) := by decide +kernel
theorem dX12_init_132 : decode cX12_init 132 = .ok (.iconst (-1), 1) := by decide +kernel
theorem dX12_init_133 : decode cX12_init 133 = .ok (.iastore, 1) := by decide +kernel
theorem dX12_init_134 : decode cX12_init 134 = .ok (.aload_n 0, 1) := by decide +kernel
theorem dX12_init_135 : decode cX12_init 135 = .ok (.getfield 7, 3) := by decide +kernel
theorem dX12_init_138 : decode cX12_init 138 = .ok (.bipush 16, 2) := by decide +kernel
theorem dX12_init_140 : decode cX12_init 140 = .ok (.iconst 1, 1) := by decide +kernel
theorem dX12_init_141 : decode cX12_init 141 = .ok (.iastore, 1) := by decide +kernel
theorem dX12_init_142 : decode cX12_init 142 = .ok (.aload_n 0, 1) := by decide +kernel
theorem dX12_init_143 : decode cX12_init 143 = .ok (.getfield 7, 3) := by decide +kernel
theorem dX12_init_146 : decode cX12_init 146 = .ok (.bipush 13, 2) := by decide +kernel
theorem dX12_init_148 : decode cX12_init 148 = .ok (.bipush 10, 2) := by decide +kernel
theorem dX12_init_150 : decode cX12_init 150 = .ok (.iastore, 1) := by decide +kernel
theorem dX12_init_151 : decode cX12_init 151 = .ok (.aload_n 0, 1) := by decide +kernel
theorem dX12_init_152 : decode cX12_init 152 = .ok (.getfield 7, 3) := by decide +kernel
theorem dX12_init_155 : decode cX12_init 155 = .ok (.bipush 14, 2) := by decide +kernel
theorem dX12_init_157 : decode cX12_init 157 = .ok (.iconst 2, 1) := by decide +kernel
theorem dX12_init_158 : decode cX12_init 158 = .ok (.iastore, 1) := by decide +kernel
theorem dX12_init_159 : decode cX12_init 159 = .ok (.aload_n 0, 1) := by decide +kernel
theorem dX12_init_160 : decode cX12_init 160 = .ok (.getfield 7, 3) := by decide +kernel
theorem dX12_init_163 : decode cX12_init 163 = .ok (.bipush 15, 2) := by decide +kernel
theorem dX12_init_165 : decode cX12_init 165 = .ok (.iconst 5, 1) := by decide +kernel
theorem dX12_init_166 : decode cX12_init 166 = .ok (.iastore, 1) := by decide +kernel
theorem dX12_init_167 : decode cX12_init 167 = .ok (.return_, 1) := by decide +kernel
theorem dX12_thrown_0 : decode cX12_thrown 0 = .ok (.aload_n 0, 1) := by decide +kernel
theorem dX12_thrown_1 : decode cX12_thrown 1 = .ok (.getfield 56, 3) := by decide +kernel
theorem dX12_thrown_4 : decode cX12_thrown 4 = .ok (.ireturn, 1) := by decide +kernel
theorem dX12_isIn_0 : decode cX12_isIn 0 = .ok (.iload_n 0, 1) := by decide +kernel
theorem dX12_isIn_1 : decode cX12_isIn 1 = .ok (.iload_n 1, 1) := by decide +kernel
theorem dX12_isIn_2 : decode cX12_isIn 2 = .ok (.if_icmp .lt 12, 3) := by decide +kernel
theorem dX12_isIn_5 : decode cX12_isIn 5 = .ok (.iload_n 0, 1) := by decide +kernel
theorem dX12_isIn_6 : decode cX12_isIn 6 = .ok (.iload_n 2, 1) := by decide +kernel
theorem dX12_isIn_7 : decode cX12_isIn 7 = .ok (.if_icmp .gt 7, 3) := by decide +kernel
theorem dX12_isIn_10 : decode cX12_isIn 10 = .ok (.iconst 1, 1) := by decide +kernel
theorem dX12_isIn_11 : decode cX12_isIn 11 = .ok (.goto 4, 3) := by decide +kernel
theorem dX12_isIn_14 : decode cX12_isIn 14 = .ok (.iconst 0, 1) := by decide +kernel
theorem dX12_isIn_15 : decode cX12_isIn 15 = .ok (.ireturn, 1) := by decide +kernel
theorem dX12_lesser_0 : decode cX12_lesser 0 = .ok (.iload_n 0, 1) := by decide +kernel
theorem dX12_lesser_1 : decode cX12_lesser 1 = .ok (.iload_n 1, 1) := by decide +kernel
theorem dX12_lesser_2 : decode cX12_lesser 2 = .ok (.if_icmp .ge 7, 3) := by decide +kernel
theorem dX12_lesser_5 : decode cX12_lesser 5 = .ok (.iload_n 0, 1) := by decide +kernel
theorem dX12_lesser_6 : decode cX12_lesser 6 = .ok (.goto 4, 3) := by decide +kernel
theorem dX12_lesser_9 : decode cX12_lesser 9 = .ok (.iload_n 1, 1) := by decide +kernel
theorem dX12_lesser_10 : decode cX12_lesser 10 = .ok (.ireturn, 1) := by decide +kernel
theorem dX12_greater_0 : decode cX12_greater 0 = .ok (.iload_n 0, 1) := by decide +kernel
theorem dX12_greater_1 : decode cX12_greater 1 = .ok (.iload_n 1, 1) := by decide +kernel
theorem dX12_greater_2 : decode cX12_greater 2 = .ok (.if_icmp .le 7, 3) := by decide +kernel
theorem dX12_greater_5 : decode cX12_greater 5 = .ok (.iload_n 0, 1) := by decide +kernel
theorem dX12_greater_6 : decode cX12_greater 6 = .ok (.goto 4, 3) := by decide +kernel
theorem dX12_greater_9 : decode cX12_greater 9 = .ok (.iload_n 1, 1) := by decide +kernel
theorem dX12_greater_10 : decode cX12_greater 10 = .ok (.ireturn, 1) := by decide +kernel
theorem dX12_isOf_0 : decode cX12_isOf 0 = .ok (.iload_n 0, 1) := by decide +kernel
theorem dX12_isOf_1 : decode cX12_isOf 1 = .ok (.iload_n 1, 1) := by decide +kernel
theorem dX12_isOf_2 : decode cX12_isOf 2 = .ok (.ishr, 1) := by decide +kernel
theorem dX12_isOf_3 : decode cX12_isOf 3 = .ok (.iconst 1, 1) := by decide +kernel
theorem dX12_isOf_4 : decode cX12_isOf 4 = .ok (.iand, 1) := by decide +kernel
theorem dX12_isOf_5 : decode cX12_isOf 5 = .ok (.iconst 1, 1) := by decide +kernel
theorem dX12_isOf_6 : decode cX12_isOf 6 = .ok (.if_icmp .ne 7, 3) := by decide +kernel
theorem dX12_isOf_9 : decode cX12_isOf 9 = .ok (.iconst 1, 1) := by decide +kernel
theorem dX12_isOf_10 : decode cX12_isOf 10 = .ok (.goto 4, 3) := by decide +kernel
theorem dX12_isOf_13 : decode cX12_isOf 13 = .ok (.iconst 0, 1) := by decide +kernel
theorem dX12_isOf_14 : decode cX12_isOf 14 = .ok (.ireturn, 1) := by decide +kernel
theorem dX12_bits_0 : decode cX12_bits 0 = .ok (.iconst 0, 1) := by decide +kernel
theorem dX12_bits_1 : decode cX12_bits 1 = .ok (.istore_n 1, 1) := by decide +kernel
theorem dX12_bits_2 : decode cX12_bits 2 = .ok (.iconst 0, 1) := by decide +kernel
theorem dX12_bits_3 : decode cX12_bits 3 = .ok (.istore_n 2, 1) := by decide +kernel
theorem dX12_bits_4 : decode cX12_bits 4 = .ok (.iload_n 2, 1) := by decide +kernel
theorem dX12_bits_5 : decode cX12_bits 5 = .ok (.bipush 31, 2) := by decide +kernel
theorem dX12_bits_7 : decode cX12_bits 7 = .ok (.if_icmp .ge 17, 3) := by decide +kernel
theorem dX12_bits_10 : decode cX12_bits 10 = .ok (.iload_n 1, 1) := by decide +kernel
theorem dX12_bits_11 : decode cX12_bits 11 = .ok (.iload_n 0, 1) := by decide +kernel
theorem dX12_bits_12 : decode cX12_bits 12 = .ok (.iload_n 2, 1) := by decide +kernel
theorem dX12_bits_13 : decode cX12_bits 13 = .ok (.ishr, 1) := by decide +kernel
theorem dX12_bits_14 : decode cX12_bits 14 = .ok (.iconst 1, 1) := by decide +kernel
theorem dX12_bits_15 : decode cX12_bits 15 = .ok (.iand, 1) := by decide +kernel
theorem dX12_bits_16 : decode cX12_bits 16 = .ok (.iadd, 1) := by decide +kernel
theorem dX12_bits_17 : decode cX12_bits 17 = .ok (.istore_n 1, 1) := by decide +kernel
theorem dX12_bits_18 : decode cX12_bits 18 = .ok (.iinc 2 1, 3) := by decide +kernel
theorem dX12_bits_21 : decode cX12_bits 21 = .ok (.goto (-17), 3) := by decide +kernel
theorem dX12_bits_24 : decode cX12_bits 24 = .ok (.iload_n 1, 1) := by decide +kernel
theorem dX12_bits_25 : decode cX12_bits 25 = .ok (.ireturn, 1) := by decide +kernel
theorem dX12_of_0 : decode cX12_of 0 = .ok (.aload_n 0, 1) := by decide +kernel
theorem dX12_of_1 : decode cX12_of 1 = .ok (.getfield 7, 3) := by decide +kernel
theorem dX12_of_4 : decode cX12_of 4 = .ok (.bipush 92, 2) := by decide +kernel
theorem dX12_of_6 : decode cX12_of 6 = .ok (.bipush 8, 2) := by decide +kernel
theorem dX12_of_8 : decode cX12_of 8 = .ok (.iload_n 1, 1) := by decide +kernel
theorem dX12_of_9 : decode cX12_of 9 = .ok (.imul, 1) := by decide +kernel
theorem dX12_of_10 : decode cX12_of 10 = .ok (.iadd, 1) := by decide +kernel
theorem dX12_of_11 : decode cX12_of 11 = .ok (.iload_n 2, 1) := by decide +kernel
theorem dX12_of_12 : decode cX12_of 12 = .ok (.iadd, 1) := by decide +kernel
theorem dX12_of_13 : decode cX12_of 13 = .ok (.iaload, 1) := by decide +kernel
theorem dX12_of_14 : decode cX12_of 14 = .ok (.ireturn, 1) := by decide +kernel
theorem dX12_has_0 : decode cX12_has 0 = .ok (.aload_n 0, 1) := by decide +kernel
theorem dX12_has_1 : decode cX12_has 1 = .ok (.getfield 7, 3) := by decide +kernel
theorem dX12_has_4 : decode cX12_has 4 = .ok (.bipush 92, 2) := by decide +kernel
theorem dX12_has_6 : decode cX12_has 6 = .ok (.bipush 8, 2) := by decide +kernel
theorem dX12_has_8 : decode cX12_has 8 = .ok (.iload_n 1, 1) := by decide +kernel
theorem dX12_has_9 : decode cX12_has 9 = .ok (.imul, 1) := by decide +kernel
theorem dX12_has_10 : decode cX12_has 10 = .ok (.iadd, 1) := by decide +kernel
theorem dX12_has_11 : decode cX12_has 11 = .ok (.iload_n 2, 1) := by decide +kernel
theorem dX12_has_12 : decode cX12_has 12 = .ok (.iadd, 1) := by decide +kernel
theorem dX12_has_13 : decode cX12_has 13 = .ok (.iload_n 3, 1) := by decide +kernel
theorem dX12_has_14 : decode cX12_has 14 = .ok (.iastore, 1) := by decide +kernel
theorem dX12_has_15 : decode cX12_has 15 = .ok (.return_, 1) := by decide +kernel
theorem dX12_isPerson_0 : decode cX12_isPerson 0 = .ok (.iload_n 1, 1) := by decide +kernel
theorem dX12_isPerson_1 : decode cX12_isPerson 1 = .ok (.iconst 0, 1) := by decide +kernel
theorem dX12_isPerson_2 : decode cX12_isPerson 2 = .ok (.aload_n 0, 1) := by decide +kernel
theorem dX12_isPerson_3 : decode cX12_isPerson 3 = .ok (.getfield 7, 3) := by decide +kernel
theorem dX12_isPerson_6 : decode cX12_isPerson 6 = .ok (.iconst 5, 1) := by decide +kernel
theorem dX12_isPerson_7 : decode cX12_isPerson 7 = .ok (.iaload, 1) := by decide +kernel
theorem dX12_isPerson_8 : decode cX12_isPerson 8 = .ok (.iconst 1, 1) := by decide +kernel
theorem dX12_isPerson_9 : decode cX12_isPerson 9 = .ok (.isub, 1) := by decide +kernel
theorem dX12_isPerson_10 : decode cX12_isPerson 10 = .ok (.invokestatic 59, 3) := by decide +kernel
theorem dX12_isPerson_13 : decode cX12_isPerson 13 = .ok (.ireturn, 1) := by decide +kernel
theorem dX12_isLand_0 : decode cX12_isLand 0 = .ok (.iload_n 1, 1) := by decide +kernel
theorem dX12_isLand_1 : decode cX12_isLand 1 = .ok (.iconst 0, 1) := by decide +kernel
theorem dX12_isLand_2 : decode cX12_isLand 2 = .ok (.aload_n 0, 1) := by decide +kernel
theorem dX12_isLand_3 : decode cX12_isLand 3 = .ok (.getfield 7, 3) := by decide +kernel
theorem dX12_isLand_6 : decode cX12_isLand 6 = .ok (.iconst 3, 1) := by decide +kernel
theorem dX12_isLand_7 : decode cX12_isLand 7 = .ok (.iaload, 1) := by decide +kernel
theorem dX12_isLand_8 : decode cX12_isLand 8 = .ok (.iconst 1, 1) := by decide +kernel
theorem dX12_isLand_9 : decode cX12_isLand 9 = .ok (.isub, 1) := by decide +kernel
