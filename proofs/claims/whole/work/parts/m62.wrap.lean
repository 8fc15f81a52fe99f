theorem dL_town_0 : decode cL_town 0 = .ok (.aload_n 1, 1) := by decide +kernel
theorem dL_town_1 : decode cL_town 1 = .ok (.iconst 0, 1) := by decide +kernel
theorem dL_town_2 : decode cL_town 2 = .ok (.aload_n 0, 1) := by decide +kernel
theorem dL_town_3 : decode cL_town 3 = .ok (.invokevirtual 7, 3) := by decide +kernel
theorem dL_town_6 : decode cL_town 6 = .ok (.i2l, 1) := by decide +kernel
theorem dL_town_7 : decode cL_town 7 = .ok (.lastore, 1) := by decide +kernel
theorem dL_town_8 : decode cL_town 8 = .ok (.goto 9, 3) := by decide +kernel
theorem dL_town_11 : decode cL_town 11 = .ok (.astore_n 2, 1) := by decide +kernel
theorem dL_town_12 : decode cL_town 12 = .ok (.iconst 1, 1) := by decide +kernel
theorem dL_town_13 : decode cL_town 13 = .ok (.ireturn, 1) := by decide +kernel
theorem dL_town_14 : decode cL_town 14 = .ok (.astore_n 2, 1) := by decide +kernel
theorem dL_town_15 : decode cL_town 15 = .ok (.iconst 2, 1) := by decide +kernel
theorem dL_town_16 : decode cL_town 16 = .ok (.ireturn, 1) := by decide +kernel
theorem dL_town_17 : decode cL_town 17 = .ok (.iconst 0, 1) := by decide +kernel
theorem dL_town_18 : decode cL_town 18 = .ok (.ireturn, 1) := by decide +kernel
theorem dL_law_0 : decode cL_law 0 = .ok (.aload_n 1, 1) := by decide +kernel
theorem dL_law_1 : decode cL_law 1 = .ok (.iconst 0, 1) := by decide +kernel
theorem dL_law_2 : decode cL_law 2 = .ok (.aload_n 0, 1) := by decide +kernel
theorem dL_law_3 : decode cL_law 3 = .ok (.invokevirtual 17, 3) := by decide +kernel
theorem dL_law_6 : decode cL_law 6 = .ok (.i2l, 1) := by decide +kernel
theorem dL_law_7 : decode cL_law 7 = .ok (.lastore, 1) := by decide +kernel
theorem dL_law_8 : decode cL_law 8 = .ok (.goto 6, 3) := by decide +kernel
theorem dL_law_11 : decode cL_law 11 = .ok (.astore_n 2, 1) := by decide +kernel
theorem dL_law_12 : decode cL_law 12 = .ok (.iconst 1, 1) := by decide +kernel
theorem dL_law_13 : decode cL_law 13 = .ok (.ireturn, 1) := by decide +kernel
theorem dL_law_14 : decode cL_law 14 = .ok (.iconst 0, 1) := by decide +kernel
theorem dL_law_15 : decode cL_law 15 = .ok (.ireturn, 1) := by decide +kernel
theorem dL_cost_0 : decode cL_cost 0 = .ok (.aload_n 3, 1) := by decide +kernel
theorem dL_cost_1 : decode cL_cost 1 = .ok (.iconst 0, 1) := by decide +kernel
theorem dL_cost_2 : decode cL_cost 2 = .ok (.aload_n 0, 1) := by decide +kernel
theorem dL_cost_3 : decode cL_cost 3 = .ok (.iload_n 1, 1) := by decide +kernel
theorem dL_cost_4 : decode cL_cost 4 = .ok (.iload_n 2, 1) := by decide +kernel
theorem dL_cost_5 : decode cL_cost 5 = .ok (.invokevirtual 20, 3) := by decide +kernel
theorem dL_cost_8 : decode cL_cost 8 = .ok (.i2l, 1) := by decide +kernel
theorem dL_cost_9 : decode cL_cost 9 = .ok (.lastore, 1) := by decide +kernel
theorem dL_cost_10 : decode cL_cost 10 = .ok (.goto 7, 3) := by decide +kernel
theorem dL_cost_13 : decode cL_cost 13 = .ok (.astore 4, 2) := by decide +kernel
theorem dL_cost_15 : decode cL_cost 15 = .ok (.iconst 1, 1) := by decide +kernel
theorem dL_cost_16 : decode cL_cost 16 = .ok (.ireturn, 1) := by decide +kernel
theorem dL_cost_17 : decode cL_cost 17 = .ok (.iconst 0, 1) := by decide +kernel
theorem dL_cost_18 : decode cL_cost 18 = .ok (.ireturn, 1) := by decide +kernel
theorem dL_habit_0 : decode cL_habit 0 = .ok (.aload_n 3, 1) := by decide +kernel
theorem dL_habit_1 : decode cL_habit 1 = .ok (.iconst 0, 1) := by decide +kernel
theorem dL_habit_2 : decode cL_habit 2 = .ok (.aload_n 0, 1) := by decide +kernel
theorem dL_habit_3 : decode cL_habit 3 = .ok (.iload_n 1, 1) := by decide +kernel
theorem dL_habit_4 : decode cL_habit 4 = .ok (.iload_n 2, 1) := by decide +kernel
theorem dL_habit_5 : decode cL_habit 5 = .ok (.invokevirtual 26, 3) := by decide +kernel
theorem dL_habit_8 : decode cL_habit 8 = .ok (.i2l, 1) := by decide +kernel
theorem dL_habit_9 : decode cL_habit 9 = .ok (.lastore, 1) := by decide +kernel
theorem dL_habit_10 : decode cL_habit 10 = .ok (.goto 7, 3) := by decide +kernel
theorem dL_habit_13 : decode cL_habit 13 = .ok (.astore 4, 2) := by decide +kernel
theorem dL_habit_15 : decode cL_habit 15 = .ok (.iconst 1, 1) := by decide +kernel
theorem dL_habit_16 : decode cL_habit 16 = .ok (.ireturn, 1) := by decide +kernel
theorem dL_habit_17 : decode cL_habit 17 = .ok (.iconst 0, 1) := by decide +kernel
theorem dL_habit_18 : decode cL_habit 18 = .ok (.ireturn, 1) := by decide +kernel
theorem dL_person_0 : decode cL_person 0 = .ok (.aload_n 3, 1) := by decide +kernel
theorem dL_person_1 : decode cL_person 1 = .ok (.iconst 0, 1) := by decide +kernel
theorem dL_person_2 : decode cL_person 2 = .ok (.aload_n 0, 1) := by decide +kernel
theorem dL_person_3 : decode cL_person 3 = .ok (.iload_n 1, 1) := by decide +kernel
theorem dL_person_4 : decode cL_person 4 = .ok (.iload_n 2, 1) := by decide +kernel
theorem dL_person_5 : decode cL_person 5 = .ok (.invokevirtual 29, 3) := by decide +kernel
theorem dL_person_8 : decode cL_person 8 = .ok (.i2l, 1) := by decide +kernel
theorem dL_person_9 : decode cL_person 9 = .ok (.lastore, 1) := by decide +kernel
theorem dL_person_10 : decode cL_person 10 = .ok (.goto 11, 3) := by decide +kernel
theorem dL_person_13 : decode cL_person 13 = .ok (.astore 4, 2) := by decide +kernel
theorem dL_person_15 : decode cL_person 15 = .ok (.iconst 1, 1) := by decide +kernel
theorem dL_person_16 : decode cL_person 16 = .ok (.ireturn, 1) := by decide +kernel
theorem dL_person_17 : decode cL_person 17 = .ok (.astore 4, 2) := by decide +kernel
theorem dL_person_19 : decode cL_person 19 = .ok (.iconst 2, 1) := by decide +kernel
theorem dL_person_20 : decode cL_person 20 = .ok (.ireturn, 1) := by decide +kernel
theorem dL_person_21 : decode cL_person 21 = .ok (.iconst 0, 1) := by decide +kernel
theorem dL_person_22 : decode cL_person 22 = .ok (.ireturn, 1) := by decide +kernel
theorem dL_saw_0 : decode cL_saw 0 = .ok (.aload 4, 2) := by decide +kernel
theorem dL_saw_2 : decode cL_saw 2 = .ok (.iconst 0, 1) := by decide +kernel
theorem dL_saw_3 : decode cL_saw 3 = .ok (.aload_n 0, 1) := by decide +kernel
theorem dL_saw_4 : decode cL_saw 4 = .ok (.iload_n 1, 1) := by decide +kernel
theorem dL_saw_5 : decode cL_saw 5 = .ok (.iload_n 2, 1) := by decide +kernel
theorem dL_saw_6 : decode cL_saw 6 = .ok (.iload_n 3, 1) := by decide +kernel
theorem dL_saw_7 : decode cL_saw 7 = .ok (.invokevirtual 34, 3) := by decide +kernel
theorem dL_saw_10 : decode cL_saw 10 = .ok (.i2l, 1) := by decide +kernel
theorem dL_saw_11 : decode cL_saw 11 = .ok (.lastore, 1) := by decide +kernel
theorem dL_saw_12 : decode cL_saw 12 = .ok (.goto 11, 3) := by decide +kernel
theorem dL_saw_15 : decode cL_saw 15 = .ok (.astore 5, 2) := by decide +kernel
theorem dL_saw_17 : decode cL_saw 17 = .ok (.iconst 1, 1) := by decide +kernel
theorem dL_saw_18 : decode cL_saw 18 = .ok (.ireturn, 1) := by decide +kernel
theorem dL_saw_19 : decode cL_saw 19 = .ok (.astore 5, 2) := by decide +kernel
theorem dL_saw_21 : decode cL_saw 21 = .ok (.iconst 2, 1) := by decide +kernel
theorem dL_saw_22 : decode cL_saw 22 = .ok (.ireturn, 1) := by decide +kernel
theorem dL_saw_23 : decode cL_saw 23 = .ok (.iconst 0, 1) := by decide +kernel
theorem dL_saw_24 : decode cL_saw 24 = .ok (.ireturn, 1) := by decide +kernel
theorem dL_tie_0 : decode cL_tie 0 = .ok (.aload_n 3, 1) := by decide +kernel
theorem dL_tie_1 : decode cL_tie 1 = .ok (.iconst 0, 1) := by decide +kernel
theorem dL_tie_2 : decode cL_tie 2 = .ok (.aload_n 0, 1) := by decide +kernel
theorem dL_tie_3 : decode cL_tie 3 = .ok (.iload_n 1, 1) := by decide +kernel
theorem dL_tie_4 : decode cL_tie 4 = .ok (.iload_n 2, 1) := by decide +kernel
theorem dL_tie_5 : decode cL_tie 5 = .ok (.invokevirtual 38, 3) := by decide +kernel
theorem dL_tie_8 : decode cL_tie 8 = .ok (.i2l, 1) := by decide +kernel
theorem dL_tie_9 : decode cL_tie 9 = .ok (.lastore, 1) := by decide +kernel
theorem dL_tie_10 : decode cL_tie 10 = .ok (.goto 7, 3) := by decide +kernel
theorem dL_tie_13 : decode cL_tie 13 = .ok (.astore 4, 2) := by decide +kernel
theorem dL_tie_15 : decode cL_tie 15 = .ok (.iconst 1, 1) := by decide +kernel
theorem dL_tie_16 : decode cL_tie 16 = .ok (.ireturn, 1) := by decide +kernel
theorem dL_tie_17 : decode cL_tie 17 = .ok (.iconst 0, 1) := by decide +kernel
theorem dL_tie_18 : decode cL_tie 18 = .ok (.ireturn, 1) := by decide +kernel
theorem dL_will_0 : decode cL_will 0 = .ok (.aload_n 3, 1) := by decide +kernel
theorem dL_will_1 : decode cL_will 1 = .ok (.iconst 0, 1) := by decide +kernel
theorem dL_will_2 : decode cL_will 2 = .ok (.aload_n 0, 1) := by decide +kernel
theorem dL_will_3 : decode cL_will 3 = .ok (.iload_n 1, 1) := by decide +kernel
theorem dL_will_4 : decode cL_will 4 = .ok (.iload_n 2, 1) := by decide +kernel
theorem dL_will_5 : decode cL_will 5 = .ok (.invokevirtual 42, 3) := by decide +kernel
theorem dL_will_8 : decode cL_will 8 = .ok (.i2l, 1) := by decide +kernel
theorem dL_will_9 : decode cL_will 9 = .ok (.lastore, 1) := by decide +kernel
theorem dL_will_10 : decode cL_will 10 = .ok (.goto 11, 3) := by decide +kernel
theorem dL_will_13 : decode cL_will 13 = .ok (.astore 4, 2) := by decide +kernel
theorem dL_will_15 : decode cL_will 15 = .ok (.iconst 1, 1) := by decide +kernel
theorem dL_will_16 : decode cL_will 16 = .ok (.ireturn, 1) := by decide +kernel
theorem dL_will_17 : decode cL_will 17 = .ok (.astore 4, 2) := by decide +kernel
theorem dL_will_19 : decode cL_will 19 = .ok (.iconst 2, 1) := by decide +kernel
theorem dL_will_20 : decode cL_will 20 = .ok (.ireturn, 1) := by decide +kernel
theorem dL_will_21 : decode cL_will 21 = .ok (.iconst 0, 1) := by decide +kernel
theorem dL_will_22 : decode cL_will 22 = .ok (.ireturn, 1) := by decide +kernel
theorem dL_meet_0 : decode cL_meet 0 = .ok (.aload_n 3, 1) := by decide +kernel
theorem dL_meet_1 : decode cL_meet 1 = .ok (.iconst 0, 1) := by decide +kernel
theorem dL_meet_2 : decode cL_meet 2 = .ok (.aload_n 0, 1) := by decide +kernel
theorem dL_meet_3 : decode cL_meet 3 = .ok (.iload_n 1, 1) := by decide +kernel
theorem dL_meet_4 : decode cL_meet 4 = .ok (.iload_n 2, 1) := by decide +kernel
theorem dL_meet_5 : decode cL_meet 5 = .ok (.invokevirtual 45, 3) := by decide +kernel
theorem dL_meet_8 : decode cL_meet 8 = .ok (.i2l, 1) := by decide +kernel
theorem dL_meet_9 : decode cL_meet 9 = .ok (.lastore, 1) := by decide +kernel
theorem dL_meet_10 : decode cL_meet 10 = .ok (.goto 11, 3) := by decide +kernel
theorem dL_meet_13 : decode cL_meet 13 = .ok (.astore 4, 2) := by decide +kernel
theorem dL_meet_15 : decode cL_meet 15 = .ok (.iconst 1, 1) := by decide +kernel
theorem dL_meet_16 : decode cL_meet 16 = .ok (.ireturn, 1) := by decide +kernel
theorem dL_meet_17 : decode cL_meet 17 = .ok (.astore 4, 2) := by decide +kernel
theorem dL_meet_19 : decode cL_meet 19 = .ok (.iconst 2, 1) := by decide +kernel
theorem dL_meet_20 : decode cL_meet 20 = .ok (.ireturn, 1) := by decide +kernel
theorem dL_meet_21 : decode cL_meet 21 = .ok (.iconst 0, 1) := by decide +kernel
theorem dL_meet_22 : decode cL_meet 22 = .ok (.ireturn, 1) := by decide +kernel
theorem dL_rounds_0 : decode cL_rounds 0 = .ok (.aload_n 2, 1) := by decide +kernel
theorem dL_rounds_1 : decode cL_rounds 1 = .ok (.iconst 0, 1) := by decide +kernel
theorem dL_rounds_2 : decode cL_rounds 2 = .ok (.aload_n 0, 1) := by decide +kernel
theorem dL_rounds_3 : decode cL_rounds 3 = .ok (.iload_n 1, 1) := by decide +kernel
theorem dL_rounds_4 : decode cL_rounds 4 = .ok (.invokevirtual 48, 3) := by decide +kernel
theorem dL_rounds_7 : decode cL_rounds 7 = .ok (.i2l, 1) := by decide +kernel
theorem dL_rounds_8 : decode cL_rounds 8 = .ok (.lastore, 1) := by decide +kernel
theorem dL_rounds_9 : decode cL_rounds 9 = .ok (.goto 6, 3) := by decide +kernel
theorem dL_rounds_12 : decode cL_rounds 12 = .ok (.astore_n 3, 1) := by decide +kernel
theorem dL_rounds_13 : decode cL_rounds 13 = .ok (.iconst 1, 1) := by decide +kernel
theorem dL_rounds_14 : decode cL_rounds 14 = .ok (.ireturn, 1) := by decide +kernel
theorem dL_rounds_15 : decode cL_rounds 15 = .ok (.iconst 0, 1) := by decide +kernel
theorem dL_rounds_16 : decode cL_rounds 16 = .ok (.ireturn, 1) := by decide +kernel
theorem dL_own_0 : decode cL_own 0 = .ok (.aload_n 3, 1) := by decide +kernel
theorem dL_own_1 : decode cL_own 1 = .ok (.iconst 0, 1) := by decide +kernel
theorem dL_own_2 : decode cL_own 2 = .ok (.aload_n 0, 1) := by decide +kernel
theorem dL_own_3 : decode cL_own 3 = .ok (.iload_n 1, 1) := by decide +kernel
theorem dL_own_4 : decode cL_own 4 = .ok (.iload_n 2, 1) := by decide +kernel
theorem dL_own_5 : decode cL_own 5 = .ok (.invokevirtual 52, 3) := by decide +kernel
theorem dL_own_8 : decode cL_own 8 = .ok (.i2l, 1) := by decide +kernel
theorem dL_own_9 : decode cL_own 9 = .ok (.lastore, 1) := by decide +kernel
theorem dL_own_10 : decode cL_own 10 = .ok (.goto 7, 3) := by decide +kernel
theorem dL_own_13 : decode cL_own 13 = .ok (.astore 4, 2) := by decide +kernel
theorem dL_own_15 : decode cL_own 15 = .ok (.iconst 1, 1) := by decide +kernel
theorem dL_own_16 : decode cL_own 16 = .ok (.ireturn, 1) := by decide +kernel
theorem dL_own_17 : decode cL_own 17 = .ok (.iconst 0, 1) := by decide +kernel
theorem dL_own_18 : decode cL_own 18 = .ok (.ireturn, 1) := by decide +kernel
theorem dL_cold_0 : decode cL_cold 0 = .ok (.aload_n 3, 1) := by decide +kernel
theorem dL_cold_1 : decode cL_cold 1 = .ok (.iconst 0, 1) := by decide +kernel
theorem dL_cold_2 : decode cL_cold 2 = .ok (.aload_n 0, 1) := by decide +kernel
theorem dL_cold_3 : decode cL_cold 3 = .ok (.iload_n 1, 1) := by decide +kernel
theorem dL_cold_4 : decode cL_cold 4 = .ok (.iload_n 2, 1) := by decide +kernel
theorem dL_cold_5 : decode cL_cold 5 = .ok (.invokevirtual 55, 3) := by decide +kernel
theorem dL_cold_8 : decode cL_cold 8 = .ok (.ifCond .eq 7, 3) := by decide +kernel
theorem dL_cold_11 : decode cL_cold 11 = .ok (.lconst 1, 1) := by decide +kernel
theorem dL_cold_12 : decode cL_cold 12 = .ok (.goto 4, 3) := by decide +kernel
theorem dL_cold_15 : decode cL_cold 15 = .ok (.lconst 0, 1) := by decide +kernel
theorem dL_cold_16 : decode cL_cold 16 = .ok (.lastore, 1) := by decide +kernel
theorem dL_cold_17 : decode cL_cold 17 = .ok (.goto 7, 3) := by decide +kernel
theorem dL_cold_20 : decode cL_cold 20 = .ok (.astore 4, 2) := by decide +kernel
theorem dL_cold_22 : decode cL_cold 22 = .ok (.iconst 1, 1) := by decide +kernel
theorem dL_cold_23 : decode cL_cold 23 = .ok (.ireturn, 1) := by decide +kernel
theorem dL_cold_24 : decode cL_cold 24 = .ok (.iconst 0, 1) := by decide +kernel
theorem dL_cold_25 : decode cL_cold 25 = .ok (.ireturn, 1) := by decide +kernel
theorem dL_ties_0 : decode cL_ties 0 = .ok (.aload_n 3, 1) := by decide +kernel
theorem dL_ties_1 : decode cL_ties 1 = .ok (.iconst 0, 1) := by decide +kernel
theorem dL_ties_2 : decode cL_ties 2 = .ok (.aload_n 0, 1) := by decide +kernel
theorem dL_ties_3 : decode cL_ties 3 = .ok (.iload_n 1, 1) := by decide +kernel
theorem dL_ties_4 : decode cL_ties 4 = .ok (.iload_n 2, 1) := by decide +kernel
theorem dL_ties_5 : decode cL_ties 5 = .ok (.invokevirtual 59, 3) := by decide +kernel
theorem dL_ties_8 : decode cL_ties 8 = .ok (.i2l, 1) := by decide +kernel
theorem dL_ties_9 : decode cL_ties 9 = .ok (.lastore, 1) := by decide +kernel
theorem dL_ties_10 : decode cL_ties 10 = .ok (.goto 19, 3) := by decide +kernel
theorem dL_ties_13 : decode cL_ties 13 = .ok (.astore 4, 2) := by decide +kernel
theorem dL_ties_15 : decode cL_ties 15 = .ok (.iconst 1, 1) := by decide +kernel
theorem dL_ties_16 : decode cL_ties 16 = .ok (.ireturn, 1) := by decide +kernel
theorem dL_ties_17 : decode cL_ties 17 = .ok (.astore 4, 2) := by decide +kernel
theorem dL_ties_19 : decode cL_ties 19 = .ok (.iconst 2, 1) := by decide +kernel
theorem dL_ties_20 : decode cL_ties 20 = .ok (.ireturn, 1) := by decide +kernel
theorem dL_ties_21 : decode cL_ties 21 = .ok (.astore 4, 2) := by decide +kernel
theorem dL_ties_23 : decode cL_ties 23 = .ok (.iconst 3, 1) := by decide +kernel
theorem dL_ties_24 : decode cL_ties 24 = .ok (.ireturn, 1) := by decide +kernel
theorem dL_ties_25 : decode cL_ties 25 = .ok (.astore 4, 2) := by decide +kernel
theorem dL_ties_27 : decode cL_ties 27 = .ok (.iconst 4, 1) := by decide +kernel
theorem dL_ties_28 : decode cL_ties 28 = .ok (.ireturn, 1) := by decide +kernel
theorem dL_ties_29 : decode cL_ties 29 = .ok (.iconst 0, 1) := by decide +kernel
theorem dL_ties_30 : decode cL_ties 30 = .ok (.ireturn, 1) := by decide +kernel
theorem dL_cut_0 : decode cL_cut 0 = .ok (.aload_n 2, 1) := by decide +kernel
theorem dL_cut_1 : decode cL_cut 1 = .ok (.iconst 0, 1) := by decide +kernel
theorem dL_cut_2 : decode cL_cut 2 = .ok (.aload_n 0, 1) := by decide +kernel
theorem dL_cut_3 : decode cL_cut 3 = .ok (.iload_n 1, 1) := by decide +kernel
theorem dL_cut_4 : decode cL_cut 4 = .ok (.invokevirtual 64, 3) := by decide +kernel
theorem dL_cut_7 : decode cL_cut 7 = .ok (.i2l, 1) := by decide +kernel
theorem dL_cut_8 : decode cL_cut 8 = .ok (.lastore, 1) := by decide +kernel
theorem dL_cut_9 : decode cL_cut 9 = .ok (.goto 6, 3) := by decide +kernel
theorem dL_cut_12 : decode cL_cut 12 = .ok (.astore_n 3, 1) := by decide +kernel
theorem dL_cut_13 : decode cL_cut 13 = .ok (.iconst 1, 1) := by decide +kernel
theorem dL_cut_14 : decode cL_cut 14 = .ok (.ireturn, 1) := by decide +kernel
theorem dL_cut_15 : decode cL_cut 15 = .ok (.iconst 0, 1) := by decide +kernel
theorem dL_cut_16 : decode cL_cut 16 = .ok (.ireturn, 1) := by decide +kernel
theorem dL_feast_0 : decode cL_feast 0 = .ok (.aload_n 3, 1) := by decide +kernel
theorem dL_feast_1 : decode cL_feast 1 = .ok (.iconst 0, 1) := by decide +kernel
theorem dL_feast_2 : decode cL_feast 2 = .ok (.aload_n 0, 1) := by decide +kernel
theorem dL_feast_3 : decode cL_feast 3 = .ok (.iload_n 1, 1) := by decide +kernel
theorem dL_feast_4 : decode cL_feast 4 = .ok (.iload_n 2, 1) := by decide +kernel
theorem dL_feast_5 : decode cL_feast 5 = .ok (.invokevirtual 67, 3) := by decide +kernel
theorem dL_feast_8 : decode cL_feast 8 = .ok (.i2l, 1) := by decide +kernel
theorem dL_feast_9 : decode cL_feast 9 = .ok (.lastore, 1) := by decide +kernel
theorem dL_feast_10 : decode cL_feast 10 = .ok (.goto 7, 3) := by decide +kernel
theorem dL_feast_13 : decode cL_feast 13 = .ok (.astore 4, 2) := by decide +kernel
theorem dL_feast_15 : decode cL_feast 15 = .ok (.iconst 1, 1) := by decide +kernel
theorem dL_feast_16 : decode cL_feast 16 = .ok (.ireturn, 1) := by decide +kernel
theorem dL_feast_17 : decode cL_feast 17 = .ok (.iconst 0, 1) := by decide +kernel
theorem dL_feast_18 : decode cL_feast 18 = .ok (.ireturn, 1) := by decide +kernel
theorem dL_expected_0 : decode cL_expected 0 = .ok (.aload_n 3, 1) := by decide +kernel
theorem dL_expected_1 : decode cL_expected 1 = .ok (.iconst 0, 1) := by decide +kernel
theorem dL_expected_2 : decode cL_expected 2 = .ok (.aload_n 0, 1) := by decide +kernel
theorem dL_expected_3 : decode cL_expected 3 = .ok (.iload_n 1, 1) := by decide +kernel
theorem dL_expected_4 : decode cL_expected 4 = .ok (.iload_n 2, 1) := by decide +kernel
theorem dL_expected_5 : decode cL_expected 5 = .ok (.invokevirtual 70, 3) := by decide +kernel
theorem dL_expected_8 : decode cL_expected 8 = .ok (.i2l, 1) := by decide +kernel
theorem dL_expected_9 : decode cL_expected 9 = .ok (.lastore, 1) := by decide +kernel
theorem dL_expected_10 : decode cL_expected 10 = .ok (.goto 7, 3) := by decide +kernel
theorem dL_expected_13 : decode cL_expected 13 = .ok (.astore 4, 2) := by decide +kernel
theorem dL_expected_15 : decode cL_expected 15 = .ok (.iconst 1, 1) := by decide +kernel
theorem dL_expected_16 : decode cL_expected 16 = .ok (.ireturn, 1) := by decide +kernel
theorem dL_expected_17 : decode cL_expected 17 = .ok (.iconst 0, 1) := by decide +kernel
theorem dL_expected_18 : decode cL_expected 18 = .ok (.ireturn, 1) := by decide +kernel
theorem dL_best_0 : decode cL_best 0 = .ok (.aload_n 2, 1) := by decide +kernel
theorem dL_best_1 : decode cL_best 1 = .ok (.iconst 0, 1) := by decide +kernel
theorem dL_best_2 : decode cL_best 2 = .ok (.aload_n 0, 1) := by decide +kernel
theorem dL_best_3 : decode cL_best 3 = .ok (.iload_n 1, 1) := by decide +kernel
theorem dL_best_4 : decode cL_best 4 = .ok (.invokevirtual 73, 3) := by decide +kernel
theorem dL_best_7 : decode cL_best 7 = .ok (.i2l, 1) := by decide +kernel
theorem dL_best_8 : decode cL_best 8 = .ok (.lastore, 1) := by decide +kernel
theorem dL_best_9 : decode cL_best 9 = .ok (.goto 6, 3) := by decide +kernel
theorem dL_best_12 : decode cL_best 12 = .ok (.astore_n 3, 1) := by decide +kernel
theorem dL_best_13 : decode cL_best 13 = .ok (.iconst 1, 1) := by decide +kernel
theorem dL_best_14 : decode cL_best 14 = .ok (.ireturn, 1) := by decide +kernel
theorem dL_best_15 : decode cL_best 15 = .ok (.iconst 0, 1) := by decide +kernel
theorem dL_best_16 : decode cL_best 16 = .ok (.ireturn, 1) := by decide +kernel
theorem dL_odds_0 : decode cL_odds 0 = .ok (.aload_n 3, 1) := by decide +kernel
theorem dL_odds_1 : decode cL_odds 1 = .ok (.iconst 0, 1) := by decide +kernel
theorem dL_odds_2 : decode cL_odds 2 = .ok (.aload_n 0, 1) := by decide +kernel
theorem dL_odds_3 : decode cL_odds 3 = .ok (.iload_n 1, 1) := by decide +kernel
theorem dL_odds_4 : decode cL_odds 4 = .ok (.iload_n 2, 1) := by decide +kernel
theorem dL_odds_5 : decode cL_odds 5 = .ok (.invokevirtual 76, 3) := by decide +kernel
theorem dL_odds_8 : decode cL_odds 8 = .ok (.i2l, 1) := by decide +kernel
theorem dL_odds_9 : decode cL_odds 9 = .ok (.lastore, 1) := by decide +kernel
theorem dL_odds_10 : decode cL_odds 10 = .ok (.goto 7, 3) := by decide +kernel
theorem dL_odds_13 : decode cL_odds 13 = .ok (.astore 4, 2) := by decide +kernel
theorem dL_odds_15 : decode cL_odds 15 = .ok (.iconst 1, 1) := by decide +kernel
theorem dL_odds_16 : decode cL_odds 16 = .ok (.ireturn, 1) := by decide +kernel
theorem dL_odds_17 : decode cL_odds 17 = .ok (.iconst 0, 1) := by decide +kernel
theorem dL_odds_18 : decode cL_odds 18 = .ok (.ireturn, 1) := by decide +kernel
theorem dL_from_0 : decode cL_from 0 = .ok (.aload_n 2, 1) := by decide +kernel
theorem dL_from_1 : decode cL_from 1 = .ok (.iconst 0, 1) := by decide +kernel
theorem dL_from_2 : decode cL_from 2 = .ok (.aload_n 0, 1) := by decide +kernel
theorem dL_from_3 : decode cL_from 3 = .ok (.iload_n 1, 1) := by decide +kernel
theorem dL_from_4 : decode cL_from 4 = .ok (.invokevirtual 79, 3) := by decide +kernel
theorem dL_from_7 : decode cL_from 7 = .ok (.i2l, 1) := by decide +kernel
theorem dL_from_8 : decode cL_from 8 = .ok (.lastore, 1) := by decide +kernel
theorem dL_from_9 : decode cL_from 9 = .ok (.goto 6, 3) := by decide +kernel
theorem dL_from_12 : decode cL_from 12 = .ok (.astore_n 3, 1) := by decide +kernel
theorem dL_from_13 : decode cL_from 13 = .ok (.iconst 1, 1) := by decide +kernel
theorem dL_from_14 : decode cL_from 14 = .ok (.ireturn, 1) := by decide +kernel
theorem dL_from_15 : decode cL_from 15 = .ok (.iconst 0, 1) := by decide +kernel
theorem dL_from_16 : decode cL_from 16 = .ok (.ireturn, 1) := by decide +kernel
theorem dL_rests_0 : decode cL_rests 0 = .ok (.aload_n 3, 1) := by decide +kernel
theorem dL_rests_1 : decode cL_rests 1 = .ok (.iconst 0, 1) := by decide +kernel
theorem dL_rests_2 : decode cL_rests 2 = .ok (.aload_n 0, 1) := by decide +kernel
theorem dL_rests_3 : decode cL_rests 3 = .ok (.iload_n 1, 1) := by decide +kernel
theorem dL_rests_4 : decode cL_rests 4 = .ok (.iload_n 2, 1) := by decide +kernel
theorem dL_rests_5 : decode cL_rests 5 = .ok (.invokevirtual 83, 3) := by decide +kernel
theorem dL_rests_8 : decode cL_rests 8 = .ok (.i2l, 1) := by decide +kernel
theorem dL_rests_9 : decode cL_rests 9 = .ok (.lastore, 1) := by decide +kernel
theorem dL_rests_10 : decode cL_rests 10 = .ok (.goto 11, 3) := by decide +kernel
theorem dL_rests_13 : decode cL_rests 13 = .ok (.astore 4, 2) := by decide +kernel
theorem dL_rests_15 : decode cL_rests 15 = .ok (.iconst 1, 1) := by decide +kernel
theorem dL_rests_16 : decode cL_rests 16 = .ok (.ireturn, 1) := by decide +kernel
theorem dL_rests_17 : decode cL_rests 17 = .ok (.astore 4, 2) := by decide +kernel
theorem dL_rests_19 : decode cL_rests 19 = .ok (.iconst 2, 1) := by decide +kernel
theorem dL_rests_20 : decode cL_rests 20 = .ok (.ireturn, 1) := by decide +kernel
theorem dL_rests_21 : decode cL_rests 21 = .ok (.iconst 0, 1) := by decide +kernel
theorem dL_rests_22 : decode cL_rests 22 = .ok (.ireturn, 1) := by decide +kernel
theorem dL_sake_0 : decode cL_sake 0 = .ok (.aload 4, 2) := by decide +kernel
theorem dL_sake_2 : decode cL_sake 2 = .ok (.iconst 0, 1) := by decide +kernel
theorem dL_sake_3 : decode cL_sake 3 = .ok (.aload_n 0, 1) := by decide +kernel
theorem dL_sake_4 : decode cL_sake 4 = .ok (.iload_n 1, 1) := by decide +kernel
theorem dL_sake_5 : decode cL_sake 5 = .ok (.iload_n 2, 1) := by decide +kernel
theorem dL_sake_6 : decode cL_sake 6 = .ok (.iload_n 3, 1) := by decide +kernel
theorem dL_sake_7 : decode cL_sake 7 = .ok (.invokevirtual 86, 3) := by decide +kernel
theorem dL_sake_10 : decode cL_sake 10 = .ok (.i2l, 1) := by decide +kernel
theorem dL_sake_11 : decode cL_sake 11 = .ok (.lastore, 1) := by decide +kernel
theorem dL_sake_12 : decode cL_sake 12 = .ok (.goto 11, 3) := by decide +kernel
theorem dL_sake_15 : decode cL_sake 15 = .ok (.astore 5, 2) := by decide +kernel
theorem dL_sake_17 : decode cL_sake 17 = .ok (.iconst 1, 1) := by decide +kernel
theorem dL_sake_18 : decode cL_sake 18 = .ok (.ireturn, 1) := by decide +kernel
theorem dL_sake_19 : decode cL_sake 19 = .ok (.astore 5, 2) := by decide +kernel
theorem dL_sake_21 : decode cL_sake 21 = .ok (.iconst 2, 1) := by decide +kernel
theorem dL_sake_22 : decode cL_sake 22 = .ok (.ireturn, 1) := by decide +kernel
theorem dL_sake_23 : decode cL_sake 23 = .ok (.iconst 0, 1) := by decide +kernel
theorem dL_sake_24 : decode cL_sake 24 = .ok (.ireturn, 1) := by decide +kernel
theorem dL_begins_0 : decode cL_begins 0 = .ok (.aload_n 2, 1) := by decide +kernel
theorem dL_begins_1 : decode cL_begins 1 = .ok (.iconst 0, 1) := by decide +kernel
theorem dL_begins_2 : decode cL_begins 2 = .ok (.aload_n 0, 1) := by decide +kernel
theorem dL_begins_3 : decode cL_begins 3 = .ok (.iload_n 1, 1) := by decide +kernel
theorem dL_begins_4 : decode cL_begins 4 = .ok (.invokevirtual 89, 3) := by decide +kernel
theorem dL_begins_7 : decode cL_begins 7 = .ok (.i2l, 1) := by decide +kernel
theorem dL_begins_8 : decode cL_begins 8 = .ok (.lastore, 1) := by decide +kernel
theorem dL_begins_9 : decode cL_begins 9 = .ok (.goto 6, 3) := by decide +kernel
theorem dL_begins_12 : decode cL_begins 12 = .ok (.astore_n 3, 1) := by decide +kernel
theorem dL_begins_13 : decode cL_begins 13 = .ok (.iconst 1, 1) := by decide +kernel
theorem dL_begins_14 : decode cL_begins 14 = .ok (.ireturn, 1) := by decide +kernel
theorem dL_begins_15 : decode cL_begins 15 = .ok (.iconst 0, 1) := by decide +kernel
theorem dL_begins_16 : decode cL_begins 16 = .ok (.ireturn, 1) := by decide +kernel
theorem dL_after_0 : decode cL_after 0 = .ok (.aload_n 3, 1) := by decide +kernel
theorem dL_after_1 : decode cL_after 1 = .ok (.iconst 0, 1) := by decide +kernel
theorem dL_after_2 : decode cL_after 2 = .ok (.aload_n 0, 1) := by decide +kernel
theorem dL_after_3 : decode cL_after 3 = .ok (.iload_n 1, 1) := by decide +kernel
theorem dL_after_4 : decode cL_after 4 = .ok (.iload_n 2, 1) := by decide +kernel
theorem dL_after_5 : decode cL_after 5 = .ok (.invokevirtual 92, 3) := by decide +kernel
theorem dL_after_8 : decode cL_after 8 = .ok (.i2l, 1) := by decide +kernel
theorem dL_after_9 : decode cL_after 9 = .ok (.lastore, 1) := by decide +kernel
theorem dL_after_10 : decode cL_after 10 = .ok (.goto 11, 3) := by decide +kernel
theorem dL_after_13 : decode cL_after 13 = .ok (.astore 4, 2) := by decide +kernel
theorem dL_after_15 : decode cL_after 15 = .ok (.iconst 1, 1) := by decide +kernel
theorem dL_after_16 : decode cL_after 16 = .ok (.ireturn, 1) := by decide +kernel
theorem dL_after_17 : decode cL_after 17 = .ok (.astore 4, 2) := by decide +kernel
theorem dL_after_19 : decode cL_after 19 = .ok (.iconst 2, 1) := by decide +kernel
theorem dL_after_20 : decode cL_after 20 = .ok (.ireturn, 1) := by decide +kernel
theorem dL_after_21 : decode cL_after 21 = .ok (.iconst 0, 1) := by decide +kernel
theorem dL_after_22 : decode cL_after 22 = .ok (.ireturn, 1) := by decide +kernel
theorem dL_custom_0 : decode cL_custom 0 = .ok (.aload_n 3, 1) := by decide +kernel
theorem dL_custom_1 : decode cL_custom 1 = .ok (.iconst 0, 1) := by decide +kernel
theorem dL_custom_2 : decode cL_custom 2 = .ok (.aload_n 0, 1) := by decide +kernel
theorem dL_custom_3 : decode cL_custom 3 = .ok (.iload_n 1, 1) := by decide +kernel
theorem dL_custom_4 : decode cL_custom 4 = .ok (.iload_n 2, 1) := by decide +kernel
theorem dL_custom_5 : decode cL_custom 5 = .ok (.invokevirtual 95, 3) := by decide +kernel
theorem dL_custom_8 : decode cL_custom 8 = .ok (.i2l, 1) := by decide +kernel
theorem dL_custom_9 : decode cL_custom 9 = .ok (.lastore, 1) := by decide +kernel
theorem dL_custom_10 : decode cL_custom 10 = .ok (.goto 11, 3) := by decide +kernel
theorem dL_custom_13 : decode cL_custom 13 = .ok (.astore 4, 2) := by decide +kernel
theorem dL_custom_15 : decode cL_custom 15 = .ok (.iconst 1, 1) := by decide +kernel
theorem dL_custom_16 : decode cL_custom 16 = .ok (.ireturn, 1) := by decide +kernel
theorem dL_custom_17 : decode cL_custom 17 = .ok (.astore 4, 2) := by decide +kernel
theorem dL_custom_19 : decode cL_custom 19 = .ok (.iconst 2, 1) := by decide +kernel
theorem dL_custom_20 : decode cL_custom 20 = .ok (.ireturn, 1) := by decide +kernel
theorem dL_custom_21 : decode cL_custom 21 = .ok (.iconst 0, 1) := by decide +kernel
theorem dL_custom_22 : decode cL_custom 22 = .ok (.ireturn, 1) := by decide +kernel
theorem dL_told_0 : decode cL_told 0 = .ok (.aload_n 3, 1) := by decide +kernel
theorem dL_told_1 : decode cL_told 1 = .ok (.iconst 0, 1) := by decide +kernel
theorem dL_told_2 : decode cL_told 2 = .ok (.aload_n 0, 1) := by decide +kernel
theorem dL_told_3 : decode cL_told 3 = .ok (.iload_n 1, 1) := by decide +kernel
theorem dL_told_4 : decode cL_told 4 = .ok (.iload_n 2, 1) := by decide +kernel
theorem dL_told_5 : decode cL_told 5 = .ok (.invokevirtual 98, 3) := by decide +kernel
theorem dL_told_8 : decode cL_told 8 = .ok (.i2l, 1) := by decide +kernel
theorem dL_told_9 : decode cL_told 9 = .ok (.lastore, 1) := by decide +kernel
theorem dL_told_10 : decode cL_told 10 = .ok (.goto 11, 3) := by decide +kernel
theorem dL_told_13 : decode cL_told 13 = .ok (.astore 4, 2) := by decide +kernel
theorem dL_told_15 : decode cL_told 15 = .ok (.iconst 1, 1) := by decide +kernel
theorem dL_told_16 : decode cL_told 16 = .ok (.ireturn, 1) := by decide +kernel
theorem dL_told_17 : decode cL_told 17 = .ok (.astore 4, 2) := by decide +kernel
theorem dL_told_19 : decode cL_told 19 = .ok (.iconst 2, 1) := by decide +kernel
theorem dL_told_20 : decode cL_told 20 = .ok (.ireturn, 1) := by decide +kernel
theorem dL_told_21 : decode cL_told 21 = .ok (.iconst 0, 1) := by decide +kernel
theorem dL_told_22 : decode cL_told 22 = .ok (.ireturn, 1) := by decide +kernel
theorem dL_colds_0 : decode cL_colds 0 = .ok (.aload_n 3, 1) := by decide +kernel
theorem dL_colds_1 : decode cL_colds 1 = .ok (.iconst 0, 1) := by decide +kernel
theorem dL_colds_2 : decode cL_colds 2 = .ok (.aload_n 0, 1) := by decide +kernel
theorem dL_colds_3 : decode cL_colds 3 = .ok (.iload_n 1, 1) := by decide +kernel
theorem dL_colds_4 : decode cL_colds 4 = .ok (.iload_n 2, 1) := by decide +kernel
theorem dL_colds_5 : decode cL_colds 5 = .ok (.invokevirtual 101, 3) := by decide +kernel
theorem dL_colds_8 : decode cL_colds 8 = .ok (.i2l, 1) := by decide +kernel
theorem dL_colds_9 : decode cL_colds 9 = .ok (.lastore, 1) := by decide +kernel
theorem dL_colds_10 : decode cL_colds 10 = .ok (.goto 7, 3) := by decide +kernel
theorem dL_colds_13 : decode cL_colds 13 = .ok (.astore 4, 2) := by decide +kernel
theorem dL_colds_15 : decode cL_colds 15 = .ok (.iconst 1, 1) := by decide +kernel
theorem dL_colds_16 : decode cL_colds 16 = .ok (.ireturn, 1) := by decide +kernel
theorem dL_colds_17 : decode cL_colds 17 = .ok (.iconst 0, 1) := by decide +kernel
theorem dL_colds_18 : decode cL_colds 18 = .ok (.ireturn, 1) := by decide +kernel
theorem dL_spared_0 : decode cL_spared 0 = .ok (.aload_n 3, 1) := by decide +kernel
theorem dL_spared_1 : decode cL_spared 1 = .ok (.iconst 0, 1) := by decide +kernel
theorem dL_spared_2 : decode cL_spared 2 = .ok (.aload_n 0, 1) := by decide +kernel
theorem dL_spared_3 : decode cL_spared 3 = .ok (.iload_n 1, 1) := by decide +kernel
theorem dL_spared_4 : decode cL_spared 4 = .ok (.iload_n 2, 1) := by decide +kernel
theorem dL_spared_5 : decode cL_spared 5 = .ok (.invokevirtual 104, 3) := by decide +kernel
theorem dL_spared_8 : decode cL_spared 8 = .ok (.i2l, 1) := by decide +kernel
theorem dL_spared_9 : decode cL_spared 9 = .ok (.lastore, 1) := by decide +kernel
theorem dL_spared_10 : decode cL_spared 10 = .ok (.goto 11, 3) := by decide +kernel
theorem dL_spared_13 : decode cL_spared 13 = .ok (.astore 4, 2) := by decide +kernel
theorem dL_spared_15 : decode cL_spared 15 = .ok (.iconst 1, 1) := by decide +kernel
theorem dL_spared_16 : decode cL_spared 16 = .ok (.ireturn, 1) := by decide +kernel
theorem dL_spared_17 : decode cL_spared 17 = .ok (.astore 4, 2) := by decide +kernel
theorem dL_spared_19 : decode cL_spared 19 = .ok (.iconst 2, 1) := by decide +kernel
theorem dL_spared_20 : decode cL_spared 20 = .ok (.ireturn, 1) := by decide +kernel
theorem dL_spared_21 : decode cL_spared 21 = .ok (.iconst 0, 1) := by decide +kernel
theorem dL_spared_22 : decode cL_spared 22 = .ok (.ireturn, 1) := by decide +kernel
theorem dL_trial_0 : decode cL_trial 0 = .ok (.aload_n 3, 1) := by decide +kernel
theorem dL_trial_1 : decode cL_trial 1 = .ok (.iconst 0, 1) := by decide +kernel
theorem dL_trial_2 : decode cL_trial 2 = .ok (.aload_n 0, 1) := by decide +kernel
theorem dL_trial_3 : decode cL_trial 3 = .ok (.iload_n 1, 1) := by decide +kernel
theorem dL_trial_4 : decode cL_trial 4 = .ok (.iload_n 2, 1) := by decide +kernel
theorem dL_trial_5 : decode cL_trial 5 = .ok (.invokevirtual 107, 3) := by decide +kernel
theorem dL_trial_8 : decode cL_trial 8 = .ok (.i2l, 1) := by decide +kernel
theorem dL_trial_9 : decode cL_trial 9 = .ok (.lastore, 1) := by decide +kernel
theorem dL_trial_10 : decode cL_trial 10 = .ok (.goto 11, 3) := by decide +kernel
theorem dL_trial_13 : decode cL_trial 13 = .ok (.astore 4, 2) := by decide +kernel
theorem dL_trial_15 : decode cL_trial 15 = .ok (.iconst 1, 1) := by decide +kernel
theorem dL_trial_16 : decode cL_trial 16 = .ok (.ireturn, 1) := by decide +kernel
theorem dL_trial_17 : decode cL_trial 17 = .ok (.astore 4, 2) := by decide +kernel
theorem dL_trial_19 : decode cL_trial 19 = .ok (.iconst 2, 1) := by decide +kernel
theorem dL_trial_20 : decode cL_trial 20 = .ok (.ireturn, 1) := by decide +kernel
theorem dL_trial_21 : decode cL_trial 21 = .ok (.iconst 0, 1) := by decide +kernel
theorem dL_trial_22 : decode cL_trial 22 = .ok (.ireturn, 1) := by decide +kernel
theorem dL_span_0 : decode cL_span 0 = .ok (.aload_n 3, 1) := by decide +kernel
theorem dL_span_1 : decode cL_span 1 = .ok (.iconst 0, 1) := by decide +kernel
theorem dL_span_2 : decode cL_span 2 = .ok (.aload_n 0, 1) := by decide +kernel
theorem dL_span_3 : decode cL_span 3 = .ok (.iload_n 1, 1) := by decide +kernel
theorem dL_span_4 : decode cL_span 4 = .ok (.iload_n 2, 1) := by decide +kernel
theorem dL_span_5 : decode cL_span 5 = .ok (.invokevirtual 110, 3) := by decide +kernel
theorem dL_span_8 : decode cL_span 8 = .ok (.i2l, 1) := by decide +kernel
theorem dL_span_9 : decode cL_span 9 = .ok (.lastore, 1) := by decide +kernel
theorem dL_span_10 : decode cL_span 10 = .ok (.goto 7, 3) := by decide +kernel
theorem dL_span_13 : decode cL_span 13 = .ok (.astore 4, 2) := by decide +kernel
theorem dL_span_15 : decode cL_span 15 = .ok (.iconst 1, 1) := by decide +kernel
theorem dL_span_16 : decode cL_span 16 = .ok (.ireturn, 1) := by decide +kernel
theorem dL_span_17 : decode cL_span 17 = .ok (.iconst 0, 1) := by decide +kernel
theorem dL_span_18 : decode cL_span 18 = .ok (.ireturn, 1) := by decide +kernel
theorem dL_log_0 : decode cL_log 0 = .ok (.aload_n 3, 1) := by decide +kernel
theorem dL_log_1 : decode cL_log 1 = .ok (.iconst 0, 1) := by decide +kernel
theorem dL_log_2 : decode cL_log 2 = .ok (.aload_n 0, 1) := by decide +kernel
theorem dL_log_3 : decode cL_log 3 = .ok (.iload_n 1, 1) := by decide +kernel
theorem dL_log_4 : decode cL_log 4 = .ok (.iload_n 2, 1) := by decide +kernel
theorem dL_log_5 : decode cL_log 5 = .ok (.invokevirtual 113, 3) := by decide +kernel
theorem dL_log_8 : decode cL_log 8 = .ok (.i2l, 1) := by decide +kernel
theorem dL_log_9 : decode cL_log 9 = .ok (.lastore, 1) := by decide +kernel
theorem dL_log_10 : decode cL_log 10 = .ok (.goto 7, 3) := by decide +kernel
theorem dL_log_13 : decode cL_log 13 = .ok (.astore 4, 2) := by decide +kernel
theorem dL_log_15 : decode cL_log 15 = .ok (.iconst 1, 1) := by decide +kernel
theorem dL_log_16 : decode cL_log 16 = .ok (.ireturn, 1) := by decide +kernel
theorem dL_log_17 : decode cL_log 17 = .ok (.iconst 0, 1) := by decide +kernel
theorem dL_log_18 : decode cL_log 18 = .ok (.ireturn, 1) := by decide +kernel
theorem kc_X11_town : CodeOK yX11_town cX11_town 4 (some .int) 0 := ⟨tb3 73 (by decide +kernel) (by decide +kernel), tb1 1 (by decide +kernel) (by decide +kernel), by decide +kernel⟩
theorem kV_L_7 : CallV "CheekTownLaw" "CheekTown" 7 yX11_town := ⟨rfl, tb3 70 (by decide +kernel) (by decide +kernel), tb3 71 (by decide +kernel) (by decide +kernel), tb3 72 (by decide +kernel) (by decide +kernel)⟩
theorem kL_L_13 : Cond.classLink "CheekTownLaw" 13 "java/lang/IllegalArgumentException" ∈ wTB := tb3 68 (by decide +kernel) (by decide +kernel)
theorem kCa_IllegalArgumentException : Cond.castable "java/lang/IllegalArgumentException" "java/lang/IllegalArgumentException" ∈ wXW := xw_of (tbx4 (List.mem_of_getElem? (i := 139) (by decide +kernel))) (by decide +kernel)
theorem kL_L_15 : Cond.classLink "CheekTownLaw" 15 "java/lang/UnsupportedOperationException" ∈ wTB := tb3 69 (by decide +kernel) (by decide +kernel)
theorem kCa_UnsupportedOperationException : Cond.castable "java/lang/UnsupportedOperationException" "java/lang/UnsupportedOperationException" ∈ wXW := xw_of (tbx4 (List.mem_of_getElem? (i := 209) (by decide +kernel))) (by decide +kernel)
theorem kc_X11_law : CodeOK yX11_law cX11_law 5 (some .int) 0 := ⟨tb4 229 (by decide +kernel) (by decide +kernel), tb1 1 (by decide +kernel) (by decide +kernel), by decide +kernel⟩
theorem kV_L_17 : CallV "CheekTownLaw" "CheekTown" 17 yX11_law := ⟨rfl, tb4 226 (by decide +kernel) (by decide +kernel), tb4 227 (by decide +kernel) (by decide +kernel), tb4 228 (by decide +kernel) (by decide +kernel)⟩
theorem kc_X11_cost : CodeOK yX11_cost cX11_cost 3 (some .int) 2 := ⟨tb5 46 (by decide +kernel) (by decide +kernel), tb1 1 (by decide +kernel) (by decide +kernel), by decide +kernel⟩
theorem kV_L_20 : CallV "CheekTownLaw" "CheekTown" 20 yX11_cost := ⟨rfl, tb5 43 (by decide +kernel) (by decide +kernel), tb5 44 (by decide +kernel) (by decide +kernel), tb5 45 (by decide +kernel) (by decide +kernel)⟩
theorem kL_L_24 : Cond.classLink "CheekTownLaw" 24 "java/lang/IndexOutOfBoundsException" ∈ wTB := tb5 42 (by decide +kernel) (by decide +kernel)
theorem kCa_IndexOutOfBoundsException : Cond.castable "java/lang/IndexOutOfBoundsException" "java/lang/IndexOutOfBoundsException" ∈ wXW := xw_of (tbx5 (List.mem_of_getElem? (i := 52) (by decide +kernel))) (by decide +kernel)
theorem kc_X11_habit : CodeOK yX11_habit cX11_habit 3 (some .int) 2 := ⟨tb5 73 (by decide +kernel) (by decide +kernel), tb1 1 (by decide +kernel) (by decide +kernel), by decide +kernel⟩
theorem kV_L_26 : CallV "CheekTownLaw" "CheekTown" 26 yX11_habit := ⟨rfl, tb5 70 (by decide +kernel) (by decide +kernel), tb5 71 (by decide +kernel) (by decide +kernel), tb5 72 (by decide +kernel) (by decide +kernel)⟩
theorem kc_X11_person : CodeOK yX11_person cX11_person 4 (some .int) 2 := ⟨tb5 90 (by decide +kernel) (by decide +kernel), tb1 1 (by decide +kernel) (by decide +kernel), by decide +kernel⟩
theorem kV_L_29 : CallV "CheekTownLaw" "CheekTown" 29 yX11_person := ⟨rfl, tb5 87 (by decide +kernel) (by decide +kernel), tb5 88 (by decide +kernel) (by decide +kernel), tb5 89 (by decide +kernel) (by decide +kernel)⟩
theorem kL_L_32 : Cond.classLink "CheekTownLaw" 32 "java/util/NoSuchElementException" ∈ wTB := tb5 86 (by decide +kernel) (by decide +kernel)
theorem kCa_NoSuchElementException : Cond.castable "java/util/NoSuchElementException" "java/util/NoSuchElementException" ∈ wXW := xw_of (tbx5 (List.mem_of_getElem? (i := 101) (by decide +kernel))) (by decide +kernel)
theorem kc_X11_saw : CodeOK yX11_saw cX11_saw 5 (some .int) 3 := ⟨tb5 125 (by decide +kernel) (by decide +kernel), tb1 1 (by decide +kernel) (by decide +kernel), by decide +kernel⟩
theorem kV_L_34 : CallV "CheekTownLaw" "CheekTown" 34 yX11_saw := ⟨rfl, tb5 122 (by decide +kernel) (by decide +kernel), tb5 123 (by decide +kernel) (by decide +kernel), tb5 124 (by decide +kernel) (by decide +kernel)⟩
theorem kc_X11_tie : CodeOK yX11_tie cX11_tie 3 (some .int) 2 := ⟨tb5 137 (by decide +kernel) (by decide +kernel), tb1 1 (by decide +kernel) (by decide +kernel), by decide +kernel⟩
theorem kV_L_38 : CallV "CheekTownLaw" "CheekTown" 38 yX11_tie := ⟨rfl, tb5 134 (by decide +kernel) (by decide +kernel), tb5 135 (by decide +kernel) (by decide +kernel), tb5 136 (by decide +kernel) (by decide +kernel)⟩
theorem kc_X11_will : CodeOK yX11_will cX11_will 3 (some .int) 2 := ⟨tb5 149 (by decide +kernel) (by decide +kernel), tb1 1 (by decide +kernel) (by decide +kernel), by decide +kernel⟩
theorem kV_L_42 : CallV "CheekTownLaw" "CheekTown" 42 yX11_will := ⟨rfl, tb5 146 (by decide +kernel) (by decide +kernel), tb5 147 (by decide +kernel) (by decide +kernel), tb5 148 (by decide +kernel) (by decide +kernel)⟩
theorem kc_X11_meet : CodeOK yX11_meet cX11_meet 3 (some .int) 2 := ⟨tb5 174 (by decide +kernel) (by decide +kernel), tb1 1 (by decide +kernel) (by decide +kernel), by decide +kernel⟩
theorem kV_L_45 : CallV "CheekTownLaw" "CheekTown" 45 yX11_meet := ⟨rfl, tb5 171 (by decide +kernel) (by decide +kernel), tb5 172 (by decide +kernel) (by decide +kernel), tb5 173 (by decide +kernel) (by decide +kernel)⟩
theorem kc_X11_rounds : CodeOK yX11_rounds cX11_rounds 2 (some .int) 1 := ⟨tb5 223 (by decide +kernel) (by decide +kernel), tb1 1 (by decide +kernel) (by decide +kernel), by decide +kernel⟩
theorem kV_L_48 : CallV "CheekTownLaw" "CheekTown" 48 yX11_rounds := ⟨rfl, tb5 220 (by decide +kernel) (by decide +kernel), tb5 221 (by decide +kernel) (by decide +kernel), tb5 222 (by decide +kernel) (by decide +kernel)⟩
theorem kc_X11_own : CodeOK yX11_own cX11_own 4 (some .int) 2 := ⟨tb5 239 (by decide +kernel) (by decide +kernel), tb1 1 (by decide +kernel) (by decide +kernel), by decide +kernel⟩
theorem kV_L_52 : CallV "CheekTownLaw" "CheekTown" 52 yX11_own := ⟨rfl, tb5 236 (by decide +kernel) (by decide +kernel), tb5 237 (by decide +kernel) (by decide +kernel), tb5 238 (by decide +kernel) (by decide +kernel)⟩
theorem kc_X11_cold : CodeOK yX11_cold cX11_cold 4 (some .boolean) 2 := ⟨tb6 6 (by decide +kernel) (by decide +kernel), tb1 1 (by decide +kernel) (by decide +kernel), by decide +kernel⟩
theorem kV_L_55 : CallV "CheekTownLaw" "CheekTown" 55 yX11_cold := ⟨rfl, tb6 3 (by decide +kernel) (by decide +kernel), tb6 4 (by decide +kernel) (by decide +kernel), tb6 5 (by decide +kernel) (by decide +kernel)⟩
theorem kc_X11_ties : CodeOK yX11_ties cX11_ties 3 (some .int) 2 := ⟨tb6 14 (by decide +kernel) (by decide +kernel), tb1 1 (by decide +kernel) (by decide +kernel), by decide +kernel⟩
theorem kV_L_59 : CallV "CheekTownLaw" "CheekTown" 59 yX11_ties := ⟨rfl, tb6 11 (by decide +kernel) (by decide +kernel), tb6 12 (by decide +kernel) (by decide +kernel), tb6 13 (by decide +kernel) (by decide +kernel)⟩
theorem kL_L_62 : Cond.classLink "CheekTownLaw" 62 "java/lang/IllegalStateException" ∈ wTB := tb6 10 (by decide +kernel) (by decide +kernel)
theorem kCa_IllegalStateException : Cond.castable "java/lang/IllegalStateException" "java/lang/IllegalStateException" ∈ wXW := xw_of (tbx6 (List.mem_of_getElem? (i := 18) (by decide +kernel))) (by decide +kernel)
theorem kc_X11_cut : CodeOK yX11_cut cX11_cut 2 (some .int) 1 := ⟨tb6 40 (by decide +kernel) (by decide +kernel), tb1 1 (by decide +kernel) (by decide +kernel), by decide +kernel⟩
theorem kV_L_64 : CallV "CheekTownLaw" "CheekTown" 64 yX11_cut := ⟨rfl, tb6 37 (by decide +kernel) (by decide +kernel), tb6 38 (by decide +kernel) (by decide +kernel), tb6 39 (by decide +kernel) (by decide +kernel)⟩
theorem kc_X11_feast : CodeOK yX11_feast cX11_feast 5 (some .int) 2 := ⟨tb6 51 (by decide +kernel) (by decide +kernel), tb1 1 (by decide +kernel) (by decide +kernel), by decide +kernel⟩
theorem kV_L_67 : CallV "CheekTownLaw" "CheekTown" 67 yX11_feast := ⟨rfl, tb6 48 (by decide +kernel) (by decide +kernel), tb6 49 (by decide +kernel) (by decide +kernel), tb6 50 (by decide +kernel) (by decide +kernel)⟩
theorem kc_X11_expected : CodeOK yX11_expected cX11_expected 3 (some .int) 2 := ⟨tb6 58 (by decide +kernel) (by decide +kernel), tb1 1 (by decide +kernel) (by decide +kernel), by decide +kernel⟩
theorem kV_L_70 : CallV "CheekTownLaw" "CheekTown" 70 yX11_expected := ⟨rfl, tb6 55 (by decide +kernel) (by decide +kernel), tb6 56 (by decide +kernel) (by decide +kernel), tb6 57 (by decide +kernel) (by decide +kernel)⟩
theorem kc_X11_best : CodeOK yX11_best cX11_best 2 (some .int) 1 := ⟨tb6 65 (by decide +kernel) (by decide +kernel), tb1 1 (by decide +kernel) (by decide +kernel), by decide +kernel⟩
theorem kV_L_73 : CallV "CheekTownLaw" "CheekTown" 73 yX11_best := ⟨rfl, tb6 62 (by decide +kernel) (by decide +kernel), tb6 63 (by decide +kernel) (by decide +kernel), tb6 64 (by decide +kernel) (by decide +kernel)⟩
theorem kc_X11_odds : CodeOK yX11_odds cX11_odds 4 (some .int) 2 := ⟨tb6 72 (by decide +kernel) (by decide +kernel), tb1 1 (by decide +kernel) (by decide +kernel), by decide +kernel⟩
theorem kV_L_76 : CallV "CheekTownLaw" "CheekTown" 76 yX11_odds := ⟨rfl, tb6 69 (by decide +kernel) (by decide +kernel), tb6 70 (by decide +kernel) (by decide +kernel), tb6 71 (by decide +kernel) (by decide +kernel)⟩
theorem kc_X11_from : CodeOK yX11_from cX11_from 4 (some .int) 1 := ⟨tb6 83 (by decide +kernel) (by decide +kernel), tb1 1 (by decide +kernel) (by decide +kernel), by decide +kernel⟩
theorem kV_L_79 : CallV "CheekTownLaw" "CheekTown" 79 yX11_from := ⟨rfl, tb6 80 (by decide +kernel) (by decide +kernel), tb6 81 (by decide +kernel) (by decide +kernel), tb6 82 (by decide +kernel) (by decide +kernel)⟩
theorem kc_X11_rests : CodeOK yX11_rests cX11_rests 8 (some .int) 2 := ⟨tb6 107 (by decide +kernel) (by decide +kernel), tb1 1 (by decide +kernel) (by decide +kernel), by decide +kernel⟩
theorem kV_L_83 : CallV "CheekTownLaw" "CheekTown" 83 yX11_rests := ⟨rfl, tb6 104 (by decide +kernel) (by decide +kernel), tb6 105 (by decide +kernel) (by decide +kernel), tb6 106 (by decide +kernel) (by decide +kernel)⟩
theorem kc_X11_sake : CodeOK yX11_sake cX11_sake 7 (some .int) 3 := ⟨tb6 118 (by decide +kernel) (by decide +kernel), tb1 1 (by decide +kernel) (by decide +kernel), by decide +kernel⟩
theorem kV_L_86 : CallV "CheekTownLaw" "CheekTown" 86 yX11_sake := ⟨rfl, tb6 115 (by decide +kernel) (by decide +kernel), tb6 116 (by decide +kernel) (by decide +kernel), tb6 117 (by decide +kernel) (by decide +kernel)⟩
theorem kc_X11_begins : CodeOK yX11_begins cX11_begins 4 (some .int) 1 := ⟨tb6 128 (by decide +kernel) (by decide +kernel), tb1 1 (by decide +kernel) (by decide +kernel), by decide +kernel⟩
theorem kV_L_89 : CallV "CheekTownLaw" "CheekTown" 89 yX11_begins := ⟨rfl, tb6 125 (by decide +kernel) (by decide +kernel), tb6 126 (by decide +kernel) (by decide +kernel), tb6 127 (by decide +kernel) (by decide +kernel)⟩
theorem kc_X11_after : CodeOK yX11_after cX11_after 4 (some .int) 2 := ⟨tb6 143 (by decide +kernel) (by decide +kernel), tb1 1 (by decide +kernel) (by decide +kernel), by decide +kernel⟩
theorem kV_L_92 : CallV "CheekTownLaw" "CheekTown" 92 yX11_after := ⟨rfl, tb6 140 (by decide +kernel) (by decide +kernel), tb6 141 (by decide +kernel) (by decide +kernel), tb6 142 (by decide +kernel) (by decide +kernel)⟩
theorem kc_X11_custom : CodeOK yX11_custom cX11_custom 3 (some .int) 2 := ⟨tb6 173 (by decide +kernel) (by decide +kernel), tb1 1 (by decide +kernel) (by decide +kernel), by decide +kernel⟩
theorem kV_L_95 : CallV "CheekTownLaw" "CheekTown" 95 yX11_custom := ⟨rfl, tb6 170 (by decide +kernel) (by decide +kernel), tb6 171 (by decide +kernel) (by decide +kernel), tb6 172 (by decide +kernel) (by decide +kernel)⟩
theorem kc_X11_told : CodeOK yX11_told cX11_told 6 (some .int) 2 := ⟨tb6 184 (by decide +kernel) (by decide +kernel), tb1 1 (by decide +kernel) (by decide +kernel), by decide +kernel⟩
theorem kV_L_98 : CallV "CheekTownLaw" "CheekTown" 98 yX11_told := ⟨rfl, tb6 181 (by decide +kernel) (by decide +kernel), tb6 182 (by decide +kernel) (by decide +kernel), tb6 183 (by decide +kernel) (by decide +kernel)⟩
theorem kc_X11_colds : CodeOK yX11_colds cX11_colds 3 (some .int) 2 := ⟨tb6 199 (by decide +kernel) (by decide +kernel), tb1 1 (by decide +kernel) (by decide +kernel), by decide +kernel⟩
theorem kV_L_101 : CallV "CheekTownLaw" "CheekTown" 101 yX11_colds := ⟨rfl, tb6 196 (by decide +kernel) (by decide +kernel), tb6 197 (by decide +kernel) (by decide +kernel), tb6 198 (by decide +kernel) (by decide +kernel)⟩
theorem kc_X11_spared : CodeOK yX11_spared cX11_spared 7 (some .int) 2 := ⟨tb6 211 (by decide +kernel) (by decide +kernel), tb1 1 (by decide +kernel) (by decide +kernel), by decide +kernel⟩
theorem kV_L_104 : CallV "CheekTownLaw" "CheekTown" 104 yX11_spared := ⟨rfl, tb6 208 (by decide +kernel) (by decide +kernel), tb6 209 (by decide +kernel) (by decide +kernel), tb6 210 (by decide +kernel) (by decide +kernel)⟩
theorem kc_X11_trial : CodeOK yX11_trial cX11_trial 4 (some .int) 2 := ⟨tb6 218 (by decide +kernel) (by decide +kernel), tb1 1 (by decide +kernel) (by decide +kernel), by decide +kernel⟩
theorem kV_L_107 : CallV "CheekTownLaw" "CheekTown" 107 yX11_trial := ⟨rfl, tb6 215 (by decide +kernel) (by decide +kernel), tb6 216 (by decide +kernel) (by decide +kernel), tb6 217 (by decide +kernel) (by decide +kernel)⟩
theorem kc_X11_span : CodeOK yX11_span cX11_span 7 (some .int) 2 := ⟨tb6 225 (by decide +kernel) (by decide +kernel), tb1 1 (by decide +kernel) (by decide +kernel), by decide +kernel⟩
theorem kV_L_110 : CallV "CheekTownLaw" "CheekTown" 110 yX11_span := ⟨rfl, tb6 222 (by decide +kernel) (by decide +kernel), tb6 223 (by decide +kernel) (by decide +kernel), tb6 224 (by decide +kernel) (by decide +kernel)⟩
theorem kc_X11_log : CodeOK yX11_log cX11_log 3 (some .int) 2 := ⟨tb6 232 (by decide +kernel) (by decide +kernel), tb1 1 (by decide +kernel) (by decide +kernel), by decide +kernel⟩
theorem kV_L_113 : CallV "CheekTownLaw" "CheekTown" 113 yX11_log := ⟨rfl, tb6 229 (by decide +kernel) (by decide +kernel), tb6 230 (by decide +kernel) (by decide +kernel), tb6 231 (by decide +kernel) (by decide +kernel)⟩
theorem kcH_L_town : CodeHOK yL_town cL_town 3 (some .int) [(0, 8, 11, 13), (0, 8, 14, 15)] 2 := ⟨tb3 67 (by decide +kernel) (by decide +kernel), tb1 0 (by decide +kernel) (by decide +kernel), by decide +kernel⟩
theorem kcH_L_law : CodeHOK yL_law cL_law 3 (some .int) [(0, 8, 11, 13)] 2 := ⟨tb4 225 (by decide +kernel) (by decide +kernel), tb1 0 (by decide +kernel) (by decide +kernel), by decide +kernel⟩
theorem kcH_L_cost : CodeHOK yL_cost cL_cost 5 (some .int) [(0, 10, 13, 24)] 4 := ⟨tb5 41 (by decide +kernel) (by decide +kernel), tb1 0 (by decide +kernel) (by decide +kernel), by decide +kernel⟩
theorem kcH_L_habit : CodeHOK yL_habit cL_habit 5 (some .int) [(0, 10, 13, 24)] 4 := ⟨tb5 69 (by decide +kernel) (by decide +kernel), tb1 0 (by decide +kernel) (by decide +kernel), by decide +kernel⟩
theorem kcH_L_person : CodeHOK yL_person cL_person 5 (some .int) [(0, 10, 13, 24), (0, 10, 17, 32)] 4 := ⟨tb5 85 (by decide +kernel) (by decide +kernel), tb1 0 (by decide +kernel) (by decide +kernel), by decide +kernel⟩
theorem kcH_L_saw : CodeHOK yL_saw cL_saw 6 (some .int) [(0, 12, 15, 24), (0, 12, 19, 13)] 5 := ⟨tb5 121 (by decide +kernel) (by decide +kernel), tb1 0 (by decide +kernel) (by decide +kernel), by decide +kernel⟩
theorem kcH_L_tie : CodeHOK yL_tie cL_tie 5 (some .int) [(0, 10, 13, 24)] 4 := ⟨tb5 133 (by decide +kernel) (by decide +kernel), tb1 0 (by decide +kernel) (by decide +kernel), by decide +kernel⟩
theorem kcH_L_will : CodeHOK yL_will cL_will 5 (some .int) [(0, 10, 13, 24), (0, 10, 17, 13)] 4 := ⟨tb5 145 (by decide +kernel) (by decide +kernel), tb1 0 (by decide +kernel) (by decide +kernel), by decide +kernel⟩
theorem kcH_L_meet : CodeHOK yL_meet cL_meet 5 (some .int) [(0, 10, 13, 24), (0, 10, 17, 13)] 4 := ⟨tb5 170 (by decide +kernel) (by decide +kernel), tb1 0 (by decide +kernel) (by decide +kernel), by decide +kernel⟩
theorem kcH_L_rounds : CodeHOK yL_rounds cL_rounds 4 (some .int) [(0, 9, 12, 13)] 3 := ⟨tb5 219 (by decide +kernel) (by decide +kernel), tb1 0 (by decide +kernel) (by decide +kernel), by decide +kernel⟩
theorem kcH_L_own : CodeHOK yL_own cL_own 5 (some .int) [(0, 10, 13, 24)] 4 := ⟨tb5 235 (by decide +kernel) (by decide +kernel), tb1 0 (by decide +kernel) (by decide +kernel), by decide +kernel⟩
theorem kcH_L_cold : CodeHOK yL_cold cL_cold 5 (some .int) [(0, 17, 20, 24)] 4 := ⟨tb6 2 (by decide +kernel) (by decide +kernel), tb1 0 (by decide +kernel) (by decide +kernel), by decide +kernel⟩
theorem kcH_L_ties : CodeHOK yL_ties cL_ties 5 (some .int) [(0, 10, 13, 24), (0, 10, 17, 13), (0, 10, 21, 62), (0, 10, 25, 15)] 4 := ⟨tb6 9 (by decide +kernel) (by decide +kernel), tb1 0 (by decide +kernel) (by decide +kernel), by decide +kernel⟩
theorem kcH_L_cut : CodeHOK yL_cut cL_cut 4 (some .int) [(0, 9, 12, 24)] 3 := ⟨tb6 36 (by decide +kernel) (by decide +kernel), tb1 0 (by decide +kernel) (by decide +kernel), by decide +kernel⟩
theorem kcH_L_feast : CodeHOK yL_feast cL_feast 5 (some .int) [(0, 10, 13, 24)] 4 := ⟨tb6 47 (by decide +kernel) (by decide +kernel), tb1 0 (by decide +kernel) (by decide +kernel), by decide +kernel⟩
theorem kcH_L_expected : CodeHOK yL_expected cL_expected 5 (some .int) [(0, 10, 13, 24)] 4 := ⟨tb6 54 (by decide +kernel) (by decide +kernel), tb1 0 (by decide +kernel) (by decide +kernel), by decide +kernel⟩
theorem kcH_L_best : CodeHOK yL_best cL_best 4 (some .int) [(0, 9, 12, 24)] 3 := ⟨tb6 61 (by decide +kernel) (by decide +kernel), tb1 0 (by decide +kernel) (by decide +kernel), by decide +kernel⟩
theorem kcH_L_odds : CodeHOK yL_odds cL_odds 5 (some .int) [(0, 10, 13, 24)] 4 := ⟨tb6 68 (by decide +kernel) (by decide +kernel), tb1 0 (by decide +kernel) (by decide +kernel), by decide +kernel⟩
theorem kcH_L_from : CodeHOK yL_from cL_from 4 (some .int) [(0, 9, 12, 13)] 3 := ⟨tb6 79 (by decide +kernel) (by decide +kernel), tb1 0 (by decide +kernel) (by decide +kernel), by decide +kernel⟩
theorem kcH_L_rests : CodeHOK yL_rests cL_rests 5 (some .int) [(0, 10, 13, 24), (0, 10, 17, 13)] 4 := ⟨tb6 103 (by decide +kernel) (by decide +kernel), tb1 0 (by decide +kernel) (by decide +kernel), by decide +kernel⟩
theorem kcH_L_sake : CodeHOK yL_sake cL_sake 6 (some .int) [(0, 12, 15, 24), (0, 12, 19, 13)] 5 := ⟨tb6 114 (by decide +kernel) (by decide +kernel), tb1 0 (by decide +kernel) (by decide +kernel), by decide +kernel⟩
theorem kcH_L_begins : CodeHOK yL_begins cL_begins 4 (some .int) [(0, 9, 12, 13)] 3 := ⟨tb6 124 (by decide +kernel) (by decide +kernel), tb1 0 (by decide +kernel) (by decide +kernel), by decide +kernel⟩
theorem kcH_L_after : CodeHOK yL_after cL_after 5 (some .int) [(0, 10, 13, 13), (0, 10, 17, 32)] 4 := ⟨tb6 139 (by decide +kernel) (by decide +kernel), tb1 0 (by decide +kernel) (by decide +kernel), by decide +kernel⟩
theorem kcH_L_custom : CodeHOK yL_custom cL_custom 5 (some .int) [(0, 10, 13, 24), (0, 10, 17, 13)] 4 := ⟨tb6 169 (by decide +kernel) (by decide +kernel), tb1 0 (by decide +kernel) (by decide +kernel), by decide +kernel⟩
theorem kcH_L_told : CodeHOK yL_told cL_told 5 (some .int) [(0, 10, 13, 24), (0, 10, 17, 13)] 4 := ⟨tb6 180 (by decide +kernel) (by decide +kernel), tb1 0 (by decide +kernel) (by decide +kernel), by decide +kernel⟩
theorem kcH_L_colds : CodeHOK yL_colds cL_colds 5 (some .int) [(0, 10, 13, 13)] 4 := ⟨tb6 195 (by decide +kernel) (by decide +kernel), tb1 0 (by decide +kernel) (by decide +kernel), by decide +kernel⟩
theorem kcH_L_spared : CodeHOK yL_spared cL_spared 5 (some .int) [(0, 10, 13, 24), (0, 10, 17, 13)] 4 := ⟨tb6 207 (by decide +kernel) (by decide +kernel), tb1 0 (by decide +kernel) (by decide +kernel), by decide +kernel⟩
theorem kcH_L_trial : CodeHOK yL_trial cL_trial 5 (some .int) [(0, 10, 13, 13), (0, 10, 17, 32)] 4 := ⟨tb6 214 (by decide +kernel) (by decide +kernel), tb1 0 (by decide +kernel) (by decide +kernel), by decide +kernel⟩
theorem kcH_L_span : CodeHOK yL_span cL_span 5 (some .int) [(0, 10, 13, 13)] 4 := ⟨tb6 221 (by decide +kernel) (by decide +kernel), tb1 0 (by decide +kernel) (by decide +kernel), by decide +kernel⟩
theorem kcH_L_log : CodeHOK yL_log cL_log 5 (some .int) [(0, 10, 13, 32)] 4 := ⟨tb6 228 (by decide +kernel) (by decide +kernel), tb1 0 (by decide +kernel) (by decide +kernel), by decide +kernel⟩
set_option maxHeartbeats 4000000 in
set_option maxRecDepth 100000 in
theorem t_L_town (l : Launch) (hfl : l.stackTraces = false) (G : wG) (N : Nat) (a0 : Nat) (a1 : Nat) (M : Mem) (r : Rho) : Ctr l yL_town (wWsH yL_town cL_town 3 (some .int) [(0, 8, 11, 13), (0, 8, 14, 15)]) rm_L_town rm_L_town.cells rm_L_town.slots G [.ref a0, .ref a1] M r ((f_L_town N a0 a1 M).map (fun z => (.inl (some (.int z.1)), z.2, r))) := by
  refine Ctr.ofH (own := "CheekTownLaw") (by decide +kernel) hfl rfl (Nat.le_of_ble_eq_true rfl) (fun p e s m args below meth c E htab hr hnm hw ls hl => ?_)
  obtain ⟨hx, hb, hts, hown, hml, hTT, -⟩ := id E
  have hl : lv_has ls 3 [(0, .ref a0), (1, .ref a1)] := hl
  obtain ⟨H, hH⟩ : ∃ H, H = s.heap := ⟨_, rfl⟩
  obtain ⟨locs, hlo⟩ : ∃ L : List Loc, L = [] := ⟨_, rfl⟩
  rw [← hH, ← hlo]
  rw [← hlo] at hw
  replace hw : w_W G M r s H locs := by rw [hH]; exact hw
  unfold f_L_town
  refine lv_aload_n hx hb dL_town_0 rfl (lv_at hl 1 rfl) ?_
  refine lv_iconst (v := 0) hx hb dL_town_1 (by decide) ?_
  refine lv_aload_n hx hb dL_town_2 rfl (lv_at hl 0 rfl) ?_
  refine W_bind fun _ hck => ?_
  refine W_bind fun z1 hz => ?_
  refine w_afterS (cells1 := 2) (slots1 := 13) (vv := (fun v => some (.int v))) (w_runV E kV_L_7 kc_X11_town (t_CT_town l hfl G N a0 M r ((fun z => (z.1.elim (fun v => .inl (some (.int v))) .inr, z.2, r)) z1) (by rw [hz]; rfl)) ⟨Nat.le_of_ble_eq_true rfl, Nat.le_of_ble_eq_true rfl⟩ hw (w_recv E hw (by decide) ⟨_, _, rfl⟩ (ck_ok hck)) rfl hl.1 rfl (Nat.le_of_ble_eq_true rfl) dL_town_3 ⟨Nat.le_of_ble_eq_true rfl, Nat.le_of_ble_eq_true rfl⟩) hw rfl (Nat.le_of_ble_eq_true rfl) (Nat.le_of_ble_eq_true rfl) (fun v2 H locs _ hw => ?_) (fun E9 H locs q ce _ hw hce hcv hcl => ?_)
  · refine W.eq (g2 := F0 m 6 ls [.int v2, .int 0, .ref a1]) rfl ?_
    have hw : w_W G z1.2 r s H locs := hw
    refine lv_i2l (v := Int32.toInt64 v2) hx hb dL_town_6 rfl ?_
    refine gx_last E hw dL_town_7 (fun M3 H locs _ hw => ?_)
    refine lv_goto (tgt := 17) hx hb dL_town_8 (by decide) ?_
    refine lv_iconst (v := 0) hx hb dL_town_17 (by decide) ?_
    exact p_iret E hw hr (Nat.le_of_ble_eq_true rfl) (Nat.le_of_ble_eq_true rfl) rfl dL_town_18
  · refine vxW_ite (fun h9 => ?_) (fun _ => ?_)
    · subst h9
      refine gx_catch (pre := []) (x := (0, 8, 11, 13)) (suf := [(0, 8, 14, 15)]) E (htab.trans rfl) (fun _ h => absurd h List.not_mem_nil) rfl (by decide) kL_L_13 kCa_IllegalArgumentException hce hcv hcl ?_
      refine W.eq (g2 := F0 m 11 ls [.ref q]) rfl ?_
      have hw : w_W G z1.2 r s H locs := hw
      refine lv_astore_n (lv' := [(2, .ref q), (0, .ref a0), (1, .ref a1)]) hx hb dL_town_11 rfl hl (by decide) rfl (fun ls hl => ?_)
      refine lv_iconst (v := 1) hx hb dL_town_12 (by decide) ?_
      exact p_iret E hw hr (Nat.le_of_ble_eq_true rfl) (Nat.le_of_ble_eq_true rfl) rfl dL_town_13
    refine vxW_ite (fun h9 => ?_) (fun _ => ?_)
    · subst h9
      refine gx_catch (pre := [(0, 8, 11, 13)]) (x := (0, 8, 14, 15)) (suf := []) E (htab.trans rfl) (List.forall_mem_cons.mpr ⟨⟨by decide, "java/lang/IllegalArgumentException", kL_L_13, by decide⟩, (fun _ h => absurd h List.not_mem_nil)⟩) rfl (by decide) kL_L_15 kCa_UnsupportedOperationException hce hcv hcl ?_
      refine W.eq (g2 := F0 m 14 ls [.ref q]) rfl ?_
      have hw : w_W G z1.2 r s H locs := hw
      refine lv_astore_n (lv' := [(2, .ref q), (0, .ref a0), (1, .ref a1)]) hx hb dL_town_14 rfl hl (by decide) rfl (fun ls hl => ?_)
      refine lv_iconst (v := 2) hx hb dL_town_15 (by decide) ?_
      exact p_iret E hw hr (Nat.le_of_ble_eq_true rfl) (Nat.le_of_ble_eq_true rfl) rfl dL_town_16
    exact vxW_none
set_option maxHeartbeats 4000000 in
set_option maxRecDepth 100000 in
theorem t_L_law (l : Launch) (hfl : l.stackTraces = false) (G : wG) (N : Nat) (a0 : Nat) (a1 : Nat) (M : Mem) (r : Rho) : Ctr l yL_law (wWsH yL_law cL_law 3 (some .int) [(0, 8, 11, 13)]) rm_L_law rm_L_law.cells rm_L_law.slots G [.ref a0, .ref a1] M r ((f_L_law N a0 a1 M).map (fun z => (.inl (some (.int z.1)), z.2, r))) := by
  refine Ctr.ofH (own := "CheekTownLaw") (by decide +kernel) hfl rfl (Nat.le_of_ble_eq_true rfl) (fun p e s m args below meth c E htab hr hnm hw ls hl => ?_)
  obtain ⟨hx, hb, hts, hown, hml, hTT, -⟩ := id E
  have hl : lv_has ls 3 [(0, .ref a0), (1, .ref a1)] := hl
  obtain ⟨H, hH⟩ : ∃ H, H = s.heap := ⟨_, rfl⟩
  obtain ⟨locs, hlo⟩ : ∃ L : List Loc, L = [] := ⟨_, rfl⟩
  rw [← hH, ← hlo]
  rw [← hlo] at hw
  replace hw : w_W G M r s H locs := by rw [hH]; exact hw
  unfold f_L_law
  refine lv_aload_n hx hb dL_law_0 rfl (lv_at hl 1 rfl) ?_
  refine lv_iconst (v := 0) hx hb dL_law_1 (by decide) ?_
  refine lv_aload_n hx hb dL_law_2 rfl (lv_at hl 0 rfl) ?_
  refine W_bind fun _ hck => ?_
  refine W_bind fun z1 hz => ?_
  refine w_afterS (cells1 := 8) (slots1 := 876) (vv := (fun v => some (.int v))) (w_runV E kV_L_17 kc_X11_law (t_CT_law l hfl G N a0 M r ((fun z => (z.1.elim (fun v => .inl (some (.int v))) .inr, z.2, r)) z1) (by rw [hz]; rfl)) ⟨Nat.le_of_ble_eq_true rfl, Nat.le_of_ble_eq_true rfl⟩ hw (w_recv E hw (by decide) ⟨_, _, rfl⟩ (ck_ok hck)) rfl hl.1 rfl (Nat.le_of_ble_eq_true rfl) dL_law_3 ⟨Nat.le_of_ble_eq_true rfl, Nat.le_of_ble_eq_true rfl⟩) hw rfl (Nat.le_of_ble_eq_true rfl) (Nat.le_of_ble_eq_true rfl) (fun v2 H locs _ hw => ?_) (fun E9 H locs q ce _ hw hce hcv hcl => ?_)
  · refine W.eq (g2 := F0 m 6 ls [.int v2, .int 0, .ref a1]) rfl ?_
    have hw : w_W G z1.2 r s H locs := hw
    refine lv_i2l (v := Int32.toInt64 v2) hx hb dL_law_6 rfl ?_
    refine gx_last E hw dL_law_7 (fun M3 H locs _ hw => ?_)
    refine lv_goto (tgt := 14) hx hb dL_law_8 (by decide) ?_
    refine lv_iconst (v := 0) hx hb dL_law_14 (by decide) ?_
    exact p_iret E hw hr (Nat.le_of_ble_eq_true rfl) (Nat.le_of_ble_eq_true rfl) rfl dL_law_15
  · refine vxW_ite (fun h9 => ?_) (fun _ => ?_)
    · subst h9
      refine gx_catch (pre := []) (x := (0, 8, 11, 13)) (suf := []) E (htab.trans rfl) (fun _ h => absurd h List.not_mem_nil) rfl (by decide) kL_L_13 kCa_IllegalArgumentException hce hcv hcl ?_
      refine W.eq (g2 := F0 m 11 ls [.ref q]) rfl ?_
      have hw : w_W G z1.2 r s H locs := hw
      refine lv_astore_n (lv' := [(2, .ref q), (0, .ref a0), (1, .ref a1)]) hx hb dL_law_11 rfl hl (by decide) rfl (fun ls hl => ?_)
      refine lv_iconst (v := 1) hx hb dL_law_12 (by decide) ?_
      exact p_iret E hw hr (Nat.le_of_ble_eq_true rfl) (Nat.le_of_ble_eq_true rfl) rfl dL_law_13
    exact vxW_none
set_option maxHeartbeats 4000000 in
set_option maxRecDepth 100000 in
theorem t_L_cost (l : Launch) (hfl : l.stackTraces = false) (G : wG) (a0 : Nat) (a1 : Int32) (a2 : Int32) (a3 : Nat) (M : Mem) (r : Rho) : Ctr l yL_cost (wWsH yL_cost cL_cost 5 (some .int) [(0, 10, 13, 24)]) rm_L_cost rm_L_cost.cells rm_L_cost.slots G [.ref a0, .int a1, .int a2, .ref a3] M r ((f_L_cost a0 a1 a2 a3 M).map (fun z => (.inl (some (.int z.1)), z.2, r))) := by
  refine Ctr.ofH (own := "CheekTownLaw") (by decide +kernel) hfl rfl (Nat.le_of_ble_eq_true rfl) (fun p e s m args below meth c E htab hr hnm hw ls hl => ?_)
  obtain ⟨hx, hb, hts, hown, hml, hTT, -⟩ := id E
  have hl : lv_has ls 5 [(0, .ref a0), (1, .int a1), (2, .int a2), (3, .ref a3)] := hl
  obtain ⟨H, hH⟩ : ∃ H, H = s.heap := ⟨_, rfl⟩
  obtain ⟨locs, hlo⟩ : ∃ L : List Loc, L = [] := ⟨_, rfl⟩
  rw [← hH, ← hlo]
  rw [← hlo] at hw
  replace hw : w_W G M r s H locs := by rw [hH]; exact hw
  unfold f_L_cost
  refine lv_aload_n hx hb dL_cost_0 rfl (lv_at hl 3 rfl) ?_
  refine lv_iconst (v := 0) hx hb dL_cost_1 (by decide) ?_
  refine lv_aload_n hx hb dL_cost_2 rfl (lv_at hl 0 rfl) ?_
  refine lv_iload_n hx hb dL_cost_3 rfl (lv_at hl 1 rfl) ?_
  refine lv_iload_n hx hb dL_cost_4 rfl (lv_at hl 2 rfl) ?_
  refine W_bind fun _ hck => ?_
  refine W_bind fun z1 hz => ?_
  refine w_afterS (cells1 := 2) (slots1 := 12) (vv := (fun v => some (.int v))) (w_runV E kV_L_20 kc_X11_cost (t_CT_cost l hfl G a0 a1 a2 M r ((fun z => (z.1.elim (fun v => .inl (some (.int v))) .inr, z.2, r)) z1) (by rw [hz]; rfl)) ⟨Nat.le_of_ble_eq_true rfl, Nat.le_of_ble_eq_true rfl⟩ hw (w_recv E hw (by decide) ⟨_, _, rfl⟩ (ck_ok hck)) rfl hl.1 rfl (Nat.le_of_ble_eq_true rfl) dL_cost_5 ⟨Nat.le_of_ble_eq_true rfl, Nat.le_of_ble_eq_true rfl⟩) hw rfl (Nat.le_of_ble_eq_true rfl) (Nat.le_of_ble_eq_true rfl) (fun v2 H locs _ hw => ?_) (fun E9 H locs q ce _ hw hce hcv hcl => ?_)
  · refine W.eq (g2 := F0 m 8 ls [.int v2, .int 0, .ref a3]) rfl ?_
    have hw : w_W G z1.2 r s H locs := hw
    refine lv_i2l (v := Int32.toInt64 v2) hx hb dL_cost_8 rfl ?_
    refine gx_last E hw dL_cost_9 (fun M3 H locs _ hw => ?_)
    refine lv_goto (tgt := 17) hx hb dL_cost_10 (by decide) ?_
    refine lv_iconst (v := 0) hx hb dL_cost_17 (by decide) ?_
    exact p_iret E hw hr (Nat.le_of_ble_eq_true rfl) (Nat.le_of_ble_eq_true rfl) rfl dL_cost_18
  · refine vxW_ite (fun h9 => ?_) (fun _ => ?_)
    · subst h9
      refine gx_catch (pre := []) (x := (0, 10, 13, 24)) (suf := []) E (htab.trans rfl) (fun _ h => absurd h List.not_mem_nil) rfl (by decide) kL_L_24 kCa_IndexOutOfBoundsException hce hcv hcl ?_
      refine W.eq (g2 := F0 m 13 ls [.ref q]) rfl ?_
      have hw : w_W G z1.2 r s H locs := hw
      refine lv_astore (lv' := [(4, .ref q), (0, .ref a0), (1, .int a1), (2, .int a2), (3, .ref a3)]) hx hb dL_cost_13 hl (by decide) rfl (fun ls hl => ?_)
      refine lv_iconst (v := 1) hx hb dL_cost_15 (by decide) ?_
      exact p_iret E hw hr (Nat.le_of_ble_eq_true rfl) (Nat.le_of_ble_eq_true rfl) rfl dL_cost_16
    exact vxW_none
set_option maxHeartbeats 4000000 in
set_option maxRecDepth 100000 in
theorem t_L_habit (l : Launch) (hfl : l.stackTraces = false) (G : wG) (N : Nat) (a0 : Nat) (a1 : Int32) (a2 : Int32) (a3 : Nat) (M : Mem) (r : Rho) : Ctr l yL_habit (wWsH yL_habit cL_habit 5 (some .int) [(0, 10, 13, 24)]) rm_L_habit rm_L_habit.cells rm_L_habit.slots G [.ref a0, .int a1, .int a2, .ref a3] M r ((f_L_habit N a0 a1 a2 a3 M).map (fun z => (.inl (some (.int z.1)), z.2, r))) := by
  refine Ctr.ofH (own := "CheekTownLaw") (by decide +kernel) hfl rfl (Nat.le_of_ble_eq_true rfl) (fun p e s m args below meth c E htab hr hnm hw ls hl => ?_)
  obtain ⟨hx, hb, hts, hown, hml, hTT, -⟩ := id E
  have hl : lv_has ls 5 [(0, .ref a0), (1, .int a1), (2, .int a2), (3, .ref a3)] := hl
  obtain ⟨H, hH⟩ : ∃ H, H = s.heap := ⟨_, rfl⟩
  obtain ⟨locs, hlo⟩ : ∃ L : List Loc, L = [] := ⟨_, rfl⟩
  rw [← hH, ← hlo]
  rw [← hlo] at hw
  replace hw : w_W G M r s H locs := by rw [hH]; exact hw
  unfold f_L_habit
  refine lv_aload_n hx hb dL_habit_0 rfl (lv_at hl 3 rfl) ?_
  refine lv_iconst (v := 0) hx hb dL_habit_1 (by decide) ?_
  refine lv_aload_n hx hb dL_habit_2 rfl (lv_at hl 0 rfl) ?_
  refine lv_iload_n hx hb dL_habit_3 rfl (lv_at hl 1 rfl) ?_
  refine lv_iload_n hx hb dL_habit_4 rfl (lv_at hl 2 rfl) ?_
  refine W_bind fun _ hck => ?_
  refine W_bind fun z1 hz => ?_
  refine w_afterS (cells1 := 2) (slots1 := 12) (vv := (fun v => some (.int v))) (w_runV E kV_L_26 kc_X11_habit (t_CT_habit l hfl G N a0 a1 a2 M r ((fun z => (z.1.elim (fun v => .inl (some (.int v))) .inr, z.2, r)) z1) (by rw [hz]; rfl)) ⟨Nat.le_of_ble_eq_true rfl, Nat.le_of_ble_eq_true rfl⟩ hw (w_recv E hw (by decide) ⟨_, _, rfl⟩ (ck_ok hck)) rfl hl.1 rfl (Nat.le_of_ble_eq_true rfl) dL_habit_5 ⟨Nat.le_of_ble_eq_true rfl, Nat.le_of_ble_eq_true rfl⟩) hw rfl (Nat.le_of_ble_eq_true rfl) (Nat.le_of_ble_eq_true rfl) (fun v2 H locs _ hw => ?_) (fun E9 H locs q ce _ hw hce hcv hcl => ?_)
  · refine W.eq (g2 := F0 m 8 ls [.int v2, .int 0, .ref a3]) rfl ?_
    have hw : w_W G z1.2 r s H locs := hw
    refine lv_i2l (v := Int32.toInt64 v2) hx hb dL_habit_8 rfl ?_
    refine gx_last E hw dL_habit_9 (fun M3 H locs _ hw => ?_)
    refine lv_goto (tgt := 17) hx hb dL_habit_10 (by decide) ?_
    refine lv_iconst (v := 0) hx hb dL_habit_17 (by decide) ?_
    exact p_iret E hw hr (Nat.le_of_ble_eq_true rfl) (Nat.le_of_ble_eq_true rfl) rfl dL_habit_18
  · refine vxW_ite (fun h9 => ?_) (fun _ => ?_)
    · subst h9
      refine gx_catch (pre := []) (x := (0, 10, 13, 24)) (suf := []) E (htab.trans rfl) (fun _ h => absurd h List.not_mem_nil) rfl (by decide) kL_L_24 kCa_IndexOutOfBoundsException hce hcv hcl ?_
      refine W.eq (g2 := F0 m 13 ls [.ref q]) rfl ?_
      have hw : w_W G z1.2 r s H locs := hw
      refine lv_astore (lv' := [(4, .ref q), (0, .ref a0), (1, .int a1), (2, .int a2), (3, .ref a3)]) hx hb dL_habit_13 hl (by decide) rfl (fun ls hl => ?_)
      refine lv_iconst (v := 1) hx hb dL_habit_15 (by decide) ?_
      exact p_iret E hw hr (Nat.le_of_ble_eq_true rfl) (Nat.le_of_ble_eq_true rfl) rfl dL_habit_16
    exact vxW_none
set_option maxHeartbeats 4000000 in
set_option maxRecDepth 100000 in
theorem t_L_person (l : Launch) (hfl : l.stackTraces = false) (G : wG) (N : Nat) (a0 : Nat) (a1 : Int32) (a2 : Int32) (a3 : Nat) (M : Mem) (r : Rho) : Ctr l yL_person (wWsH yL_person cL_person 5 (some .int) [(0, 10, 13, 24), (0, 10, 17, 32)]) rm_L_person rm_L_person.cells rm_L_person.slots G [.ref a0, .int a1, .int a2, .ref a3] M r ((f_L_person N a0 a1 a2 a3 M).map (fun z => (.inl (some (.int z.1)), z.2, r))) := by
  refine Ctr.ofH (own := "CheekTownLaw") (by decide +kernel) hfl rfl (Nat.le_of_ble_eq_true rfl) (fun p e s m args below meth c E htab hr hnm hw ls hl => ?_)
  obtain ⟨hx, hb, hts, hown, hml, hTT, -⟩ := id E
  have hl : lv_has ls 5 [(0, .ref a0), (1, .int a1), (2, .int a2), (3, .ref a3)] := hl
  obtain ⟨H, hH⟩ : ∃ H, H = s.heap := ⟨_, rfl⟩
  obtain ⟨locs, hlo⟩ : ∃ L : List Loc, L = [] := ⟨_, rfl⟩
  rw [← hH, ← hlo]
  rw [← hlo] at hw
  replace hw : w_W G M r s H locs := by rw [hH]; exact hw
  unfold f_L_person
  refine lv_aload_n hx hb dL_person_0 rfl (lv_at hl 3 rfl) ?_
  refine lv_iconst (v := 0) hx hb dL_person_1 (by decide) ?_
  refine lv_aload_n hx hb dL_person_2 rfl (lv_at hl 0 rfl) ?_
  refine lv_iload_n hx hb dL_person_3 rfl (lv_at hl 1 rfl) ?_
  refine lv_iload_n hx hb dL_person_4 rfl (lv_at hl 2 rfl) ?_
  refine W_bind fun _ hck => ?_
  refine W_bind fun z1 hz => ?_
  refine w_afterS (cells1 := 2) (slots1 := 12) (vv := (fun v => some (.int v))) (w_runV E kV_L_29 kc_X11_person (t_CT_person l hfl G N a0 a1 a2 M r ((fun z => (z.1.elim (fun v => .inl (some (.int v))) .inr, z.2, r)) z1) (by rw [hz]; rfl)) ⟨Nat.le_of_ble_eq_true rfl, Nat.le_of_ble_eq_true rfl⟩ hw (w_recv E hw (by decide) ⟨_, _, rfl⟩ (ck_ok hck)) rfl hl.1 rfl (Nat.le_of_ble_eq_true rfl) dL_person_5 ⟨Nat.le_of_ble_eq_true rfl, Nat.le_of_ble_eq_true rfl⟩) hw rfl (Nat.le_of_ble_eq_true rfl) (Nat.le_of_ble_eq_true rfl) (fun v2 H locs _ hw => ?_) (fun E9 H locs q ce _ hw hce hcv hcl => ?_)
  · refine W.eq (g2 := F0 m 8 ls [.int v2, .int 0, .ref a3]) rfl ?_
    have hw : w_W G z1.2 r s H locs := hw
    refine lv_i2l (v := Int32.toInt64 v2) hx hb dL_person_8 rfl ?_
    refine gx_last E hw dL_person_9 (fun M3 H locs _ hw => ?_)
    refine lv_goto (tgt := 21) hx hb dL_person_10 (by decide) ?_
    refine lv_iconst (v := 0) hx hb dL_person_21 (by decide) ?_
    exact p_iret E hw hr (Nat.le_of_ble_eq_true rfl) (Nat.le_of_ble_eq_true rfl) rfl dL_person_22
  · refine vxW_ite (fun h9 => ?_) (fun _ => ?_)
    · subst h9
      refine gx_catch (pre := []) (x := (0, 10, 13, 24)) (suf := [(0, 10, 17, 32)]) E (htab.trans rfl) (fun _ h => absurd h List.not_mem_nil) rfl (by decide) kL_L_24 kCa_IndexOutOfBoundsException hce hcv hcl ?_
      refine W.eq (g2 := F0 m 13 ls [.ref q]) rfl ?_
      have hw : w_W G z1.2 r s H locs := hw
      refine lv_astore (lv' := [(4, .ref q), (0, .ref a0), (1, .int a1), (2, .int a2), (3, .ref a3)]) hx hb dL_person_13 hl (by decide) rfl (fun ls hl => ?_)
      refine lv_iconst (v := 1) hx hb dL_person_15 (by decide) ?_
      exact p_iret E hw hr (Nat.le_of_ble_eq_true rfl) (Nat.le_of_ble_eq_true rfl) rfl dL_person_16
    refine vxW_ite (fun h9 => ?_) (fun _ => ?_)
    · subst h9
      refine gx_catch (pre := [(0, 10, 13, 24)]) (x := (0, 10, 17, 32)) (suf := []) E (htab.trans rfl) (List.forall_mem_cons.mpr ⟨⟨by decide, "java/lang/IndexOutOfBoundsException", kL_L_24, by decide⟩, (fun _ h => absurd h List.not_mem_nil)⟩) rfl (by decide) kL_L_32 kCa_NoSuchElementException hce hcv hcl ?_
      refine W.eq (g2 := F0 m 17 ls [.ref q]) rfl ?_
      have hw : w_W G z1.2 r s H locs := hw
      refine lv_astore (lv' := [(4, .ref q), (0, .ref a0), (1, .int a1), (2, .int a2), (3, .ref a3)]) hx hb dL_person_17 hl (by decide) rfl (fun ls hl => ?_)
      refine lv_iconst (v := 2) hx hb dL_person_19 (by decide) ?_
      exact p_iret E hw hr (Nat.le_of_ble_eq_true rfl) (Nat.le_of_ble_eq_true rfl) rfl dL_person_20
    exact vxW_none
set_option maxHeartbeats 4000000 in
set_option maxRecDepth 100000 in
theorem t_L_saw (l : Launch) (hfl : l.stackTraces = false) (G : wG) (a0 : Nat) (a1 : Int32) (a2 : Int32) (a3 : Int32) (a4 : Nat) (M : Mem) (r : Rho) : Ctr l yL_saw (wWsH yL_saw cL_saw 6 (some .int) [(0, 12, 15, 24), (0, 12, 19, 13)]) rm_L_saw rm_L_saw.cells rm_L_saw.slots G [.ref a0, .int a1, .int a2, .int a3, .ref a4] M r ((f_L_saw a0 a1 a2 a3 a4 M).map (fun z => (.inl (some (.int z.1)), z.2, r))) := by
  refine Ctr.ofH (own := "CheekTownLaw") (by decide +kernel) hfl rfl (Nat.le_of_ble_eq_true rfl) (fun p e s m args below meth c E htab hr hnm hw ls hl => ?_)
  obtain ⟨hx, hb, hts, hown, hml, hTT, -⟩ := id E
  have hl : lv_has ls 6 [(0, .ref a0), (1, .int a1), (2, .int a2), (3, .int a3), (4, .ref a4)] := hl
  obtain ⟨H, hH⟩ : ∃ H, H = s.heap := ⟨_, rfl⟩
  obtain ⟨locs, hlo⟩ : ∃ L : List Loc, L = [] := ⟨_, rfl⟩
  rw [← hH, ← hlo]
  rw [← hlo] at hw
  replace hw : w_W G M r s H locs := by rw [hH]; exact hw
  unfold f_L_saw
  refine lv_aload hx hb dL_saw_0 (lv_at hl 4 rfl) ?_
  refine lv_iconst (v := 0) hx hb dL_saw_2 (by decide) ?_
  refine lv_aload_n hx hb dL_saw_3 rfl (lv_at hl 0 rfl) ?_
  refine lv_iload_n hx hb dL_saw_4 rfl (lv_at hl 1 rfl) ?_
  refine lv_iload_n hx hb dL_saw_5 rfl (lv_at hl 2 rfl) ?_
  refine lv_iload_n hx hb dL_saw_6 rfl (lv_at hl 3 rfl) ?_
  refine W_bind fun _ hck => ?_
  refine W_bind fun z1 hz => ?_
  refine w_afterS (cells1 := 3) (slots1 := 18) (vv := (fun v => some (.int v))) (w_runV E kV_L_34 kc_X11_saw (t_CT_saw l hfl G a0 a1 a2 a3 M r ((fun z => (z.1.elim (fun v => .inl (some (.int v))) .inr, z.2, r)) z1) (by rw [hz]; rfl)) ⟨Nat.le_of_ble_eq_true rfl, Nat.le_of_ble_eq_true rfl⟩ hw (w_recv E hw (by decide) ⟨_, _, rfl⟩ (ck_ok hck)) rfl hl.1 rfl (Nat.le_of_ble_eq_true rfl) dL_saw_7 ⟨Nat.le_of_ble_eq_true rfl, Nat.le_of_ble_eq_true rfl⟩) hw rfl (Nat.le_of_ble_eq_true rfl) (Nat.le_of_ble_eq_true rfl) (fun v2 H locs _ hw => ?_) (fun E9 H locs q ce _ hw hce hcv hcl => ?_)
  · refine W.eq (g2 := F0 m 10 ls [.int v2, .int 0, .ref a4]) rfl ?_
    have hw : w_W G z1.2 r s H locs := hw
    refine lv_i2l (v := Int32.toInt64 v2) hx hb dL_saw_10 rfl ?_
    refine gx_last E hw dL_saw_11 (fun M3 H locs _ hw => ?_)
    refine lv_goto (tgt := 23) hx hb dL_saw_12 (by decide) ?_
    refine lv_iconst (v := 0) hx hb dL_saw_23 (by decide) ?_
    exact p_iret E hw hr (Nat.le_of_ble_eq_true rfl) (Nat.le_of_ble_eq_true rfl) rfl dL_saw_24
  · refine vxW_ite (fun h9 => ?_) (fun _ => ?_)
    · subst h9
      refine gx_catch (pre := []) (x := (0, 12, 15, 24)) (suf := [(0, 12, 19, 13)]) E (htab.trans rfl) (fun _ h => absurd h List.not_mem_nil) rfl (by decide) kL_L_24 kCa_IndexOutOfBoundsException hce hcv hcl ?_
      refine W.eq (g2 := F0 m 15 ls [.ref q]) rfl ?_
      have hw : w_W G z1.2 r s H locs := hw
      refine lv_astore (lv' := [(5, .ref q), (0, .ref a0), (1, .int a1), (2, .int a2), (3, .int a3), (4, .ref a4)]) hx hb dL_saw_15 hl (by decide) rfl (fun ls hl => ?_)
      refine lv_iconst (v := 1) hx hb dL_saw_17 (by decide) ?_
      exact p_iret E hw hr (Nat.le_of_ble_eq_true rfl) (Nat.le_of_ble_eq_true rfl) rfl dL_saw_18
    refine vxW_ite (fun h9 => ?_) (fun _ => ?_)
    · subst h9
      refine gx_catch (pre := [(0, 12, 15, 24)]) (x := (0, 12, 19, 13)) (suf := []) E (htab.trans rfl) (List.forall_mem_cons.mpr ⟨⟨by decide, "java/lang/IndexOutOfBoundsException", kL_L_24, by decide⟩, (fun _ h => absurd h List.not_mem_nil)⟩) rfl (by decide) kL_L_13 kCa_IllegalArgumentException hce hcv hcl ?_
      refine W.eq (g2 := F0 m 19 ls [.ref q]) rfl ?_
      have hw : w_W G z1.2 r s H locs := hw
      refine lv_astore (lv' := [(5, .ref q), (0, .ref a0), (1, .int a1), (2, .int a2), (3, .int a3), (4, .ref a4)]) hx hb dL_saw_19 hl (by decide) rfl (fun ls hl => ?_)
      refine lv_iconst (v := 2) hx hb dL_saw_21 (by decide) ?_
      exact p_iret E hw hr (Nat.le_of_ble_eq_true rfl) (Nat.le_of_ble_eq_true rfl) rfl dL_saw_22
    exact vxW_none
set_option maxHeartbeats 4000000 in
set_option maxRecDepth 100000 in
theorem t_L_tie (l : Launch) (hfl : l.stackTraces = false) (G : wG) (a0 : Nat) (a1 : Int32) (a2 : Int32) (a3 : Nat) (M : Mem) (r : Rho) : Ctr l yL_tie (wWsH yL_tie cL_tie 5 (some .int) [(0, 10, 13, 24)]) rm_L_tie rm_L_tie.cells rm_L_tie.slots G [.ref a0, .int a1, .int a2, .ref a3] M r ((f_L_tie a0 a1 a2 a3 M).map (fun z => (.inl (some (.int z.1)), z.2, r))) := by
  refine Ctr.ofH (own := "CheekTownLaw") (by decide +kernel) hfl rfl (Nat.le_of_ble_eq_true rfl) (fun p e s m args below meth c E htab hr hnm hw ls hl => ?_)
  obtain ⟨hx, hb, hts, hown, hml, hTT, -⟩ := id E
  have hl : lv_has ls 5 [(0, .ref a0), (1, .int a1), (2, .int a2), (3, .ref a3)] := hl
  obtain ⟨H, hH⟩ : ∃ H, H = s.heap := ⟨_, rfl⟩
  obtain ⟨locs, hlo⟩ : ∃ L : List Loc, L = [] := ⟨_, rfl⟩
  rw [← hH, ← hlo]
  rw [← hlo] at hw
  replace hw : w_W G M r s H locs := by rw [hH]; exact hw
  unfold f_L_tie
  refine lv_aload_n hx hb dL_tie_0 rfl (lv_at hl 3 rfl) ?_
  refine lv_iconst (v := 0) hx hb dL_tie_1 (by decide) ?_
  refine lv_aload_n hx hb dL_tie_2 rfl (lv_at hl 0 rfl) ?_
  refine lv_iload_n hx hb dL_tie_3 rfl (lv_at hl 1 rfl) ?_
  refine lv_iload_n hx hb dL_tie_4 rfl (lv_at hl 2 rfl) ?_
  refine W_bind fun _ hck => ?_
  refine W_bind fun z1 hz => ?_
  refine w_afterS (cells1 := 1) (slots1 := 6) (vv := (fun v => some (.int v))) (w_runV E kV_L_38 kc_X11_tie (t_CT_tie l hfl G a0 a1 a2 M r ((fun z => (z.1.elim (fun v => .inl (some (.int v))) .inr, z.2, r)) z1) (by rw [hz]; rfl)) ⟨Nat.le_of_ble_eq_true rfl, Nat.le_of_ble_eq_true rfl⟩ hw (w_recv E hw (by decide) ⟨_, _, rfl⟩ (ck_ok hck)) rfl hl.1 rfl (Nat.le_of_ble_eq_true rfl) dL_tie_5 ⟨Nat.le_of_ble_eq_true rfl, Nat.le_of_ble_eq_true rfl⟩) hw rfl (Nat.le_of_ble_eq_true rfl) (Nat.le_of_ble_eq_true rfl) (fun v2 H locs _ hw => ?_) (fun E9 H locs q ce _ hw hce hcv hcl => ?_)
  · refine W.eq (g2 := F0 m 8 ls [.int v2, .int 0, .ref a3]) rfl ?_
    have hw : w_W G z1.2 r s H locs := hw
    refine lv_i2l (v := Int32.toInt64 v2) hx hb dL_tie_8 rfl ?_
    refine gx_last E hw dL_tie_9 (fun M3 H locs _ hw => ?_)
    refine lv_goto (tgt := 17) hx hb dL_tie_10 (by decide) ?_
    refine lv_iconst (v := 0) hx hb dL_tie_17 (by decide) ?_
    exact p_iret E hw hr (Nat.le_of_ble_eq_true rfl) (Nat.le_of_ble_eq_true rfl) rfl dL_tie_18
  · refine vxW_ite (fun h9 => ?_) (fun _ => ?_)
    · subst h9
      refine gx_catch (pre := []) (x := (0, 10, 13, 24)) (suf := []) E (htab.trans rfl) (fun _ h => absurd h List.not_mem_nil) rfl (by decide) kL_L_24 kCa_IndexOutOfBoundsException hce hcv hcl ?_
      refine W.eq (g2 := F0 m 13 ls [.ref q]) rfl ?_
      have hw : w_W G z1.2 r s H locs := hw
      refine lv_astore (lv' := [(4, .ref q), (0, .ref a0), (1, .int a1), (2, .int a2), (3, .ref a3)]) hx hb dL_tie_13 hl (by decide) rfl (fun ls hl => ?_)
      refine lv_iconst (v := 1) hx hb dL_tie_15 (by decide) ?_
      exact p_iret E hw hr (Nat.le_of_ble_eq_true rfl) (Nat.le_of_ble_eq_true rfl) rfl dL_tie_16
    exact vxW_none
set_option maxHeartbeats 4000000 in
set_option maxRecDepth 100000 in
theorem t_L_will (l : Launch) (hfl : l.stackTraces = false) (G : wG) (N : Nat) (a0 : Nat) (a1 : Int32) (a2 : Int32) (a3 : Nat) (M : Mem) (r : Rho) : Ctr l yL_will (wWsH yL_will cL_will 5 (some .int) [(0, 10, 13, 24), (0, 10, 17, 13)]) rm_L_will rm_L_will.cells rm_L_will.slots G [.ref a0, .int a1, .int a2, .ref a3] M r ((f_L_will N a0 a1 a2 a3 M).map (fun z => (.inl (some (.int z.1)), z.2, r))) := by
  refine Ctr.ofH (own := "CheekTownLaw") (by decide +kernel) hfl rfl (Nat.le_of_ble_eq_true rfl) (fun p e s m args below meth c E htab hr hnm hw ls hl => ?_)
  obtain ⟨hx, hb, hts, hown, hml, hTT, -⟩ := id E
  have hl : lv_has ls 5 [(0, .ref a0), (1, .int a1), (2, .int a2), (3, .ref a3)] := hl
  obtain ⟨H, hH⟩ : ∃ H, H = s.heap := ⟨_, rfl⟩
  obtain ⟨locs, hlo⟩ : ∃ L : List Loc, L = [] := ⟨_, rfl⟩
  rw [← hH, ← hlo]
  rw [← hlo] at hw
  replace hw : w_W G M r s H locs := by rw [hH]; exact hw
  unfold f_L_will
  refine lv_aload_n hx hb dL_will_0 rfl (lv_at hl 3 rfl) ?_
  refine lv_iconst (v := 0) hx hb dL_will_1 (by decide) ?_
  refine lv_aload_n hx hb dL_will_2 rfl (lv_at hl 0 rfl) ?_
  refine lv_iload_n hx hb dL_will_3 rfl (lv_at hl 1 rfl) ?_
  refine lv_iload_n hx hb dL_will_4 rfl (lv_at hl 2 rfl) ?_
  refine W_bind fun _ hck => ?_
  refine W_bind fun z1 hz => ?_
  refine w_afterS (cells1 := 3) (slots1 := 18) (vv := (fun v => some (.int v))) (w_runV E kV_L_42 kc_X11_will (t_CT_will l hfl G N a0 a1 a2 M r ((fun z => (z.1.elim (fun v => .inl (some (.int v))) .inr, z.2, r)) z1) (by rw [hz]; rfl)) ⟨Nat.le_of_ble_eq_true rfl, Nat.le_of_ble_eq_true rfl⟩ hw (w_recv E hw (by decide) ⟨_, _, rfl⟩ (ck_ok hck)) rfl hl.1 rfl (Nat.le_of_ble_eq_true rfl) dL_will_5 ⟨Nat.le_of_ble_eq_true rfl, Nat.le_of_ble_eq_true rfl⟩) hw rfl (Nat.le_of_ble_eq_true rfl) (Nat.le_of_ble_eq_true rfl) (fun v2 H locs _ hw => ?_) (fun E9 H locs q ce _ hw hce hcv hcl => ?_)
  · refine W.eq (g2 := F0 m 8 ls [.int v2, .int 0, .ref a3]) rfl ?_
    have hw : w_W G z1.2 r s H locs := hw
    refine lv_i2l (v := Int32.toInt64 v2) hx hb dL_will_8 rfl ?_
    refine gx_last E hw dL_will_9 (fun M3 H locs _ hw => ?_)
    refine lv_goto (tgt := 21) hx hb dL_will_10 (by decide) ?_
    refine lv_iconst (v := 0) hx hb dL_will_21 (by decide) ?_
    exact p_iret E hw hr (Nat.le_of_ble_eq_true rfl) (Nat.le_of_ble_eq_true rfl) rfl dL_will_22
  · refine vxW_ite (fun h9 => ?_) (fun _ => ?_)
    · subst h9
      refine gx_catch (pre := []) (x := (0, 10, 13, 24)) (suf := [(0, 10, 17, 13)]) E (htab.trans rfl) (fun _ h => absurd h List.not_mem_nil) rfl (by decide) kL_L_24 kCa_IndexOutOfBoundsException hce hcv hcl ?_
      refine W.eq (g2 := F0 m 13 ls [.ref q]) rfl ?_
      have hw : w_W G z1.2 r s H locs := hw
      refine lv_astore (lv' := [(4, .ref q), (0, .ref a0), (1, .int a1), (2, .int a2), (3, .ref a3)]) hx hb dL_will_13 hl (by decide) rfl (fun ls hl => ?_)
      refine lv_iconst (v := 1) hx hb dL_will_15 (by decide) ?_
      exact p_iret E hw hr (Nat.le_of_ble_eq_true rfl) (Nat.le_of_ble_eq_true rfl) rfl dL_will_16
    refine vxW_ite (fun h9 => ?_) (fun _ => ?_)
    · subst h9
      refine gx_catch (pre := [(0, 10, 13, 24)]) (x := (0, 10, 17, 13)) (suf := []) E (htab.trans rfl) (List.forall_mem_cons.mpr ⟨⟨by decide, "java/lang/IndexOutOfBoundsException", kL_L_24, by decide⟩, (fun _ h => absurd h List.not_mem_nil)⟩) rfl (by decide) kL_L_13 kCa_IllegalArgumentException hce hcv hcl ?_
      refine W.eq (g2 := F0 m 17 ls [.ref q]) rfl ?_
      have hw : w_W G z1.2 r s H locs := hw
      refine lv_astore (lv' := [(4, .ref q), (0, .ref a0), (1, .int a1), (2, .int a2), (3, .ref a3)]) hx hb dL_will_17 hl (by decide) rfl (fun ls hl => ?_)
      refine lv_iconst (v := 2) hx hb dL_will_19 (by decide) ?_
      exact p_iret E hw hr (Nat.le_of_ble_eq_true rfl) (Nat.le_of_ble_eq_true rfl) rfl dL_will_20
    exact vxW_none
set_option maxHeartbeats 4000000 in
set_option maxRecDepth 100000 in
theorem t_L_meet (l : Launch) (hfl : l.stackTraces = false) (G : wG) (N : Nat) (a0 : Nat) (a1 : Int32) (a2 : Int32) (a3 : Nat) (M : Mem) (r : Rho) : Ctr l yL_meet (wWsH yL_meet cL_meet 5 (some .int) [(0, 10, 13, 24), (0, 10, 17, 13)]) rm_L_meet rm_L_meet.cells rm_L_meet.slots G [.ref a0, .int a1, .int a2, .ref a3] M r ((f_L_meet N a0 a1 a2 a3 M).map (fun z => (.inl (some (.int z.1)), z.2, r))) := by
  refine Ctr.ofH (own := "CheekTownLaw") (by decide +kernel) hfl rfl (Nat.le_of_ble_eq_true rfl) (fun p e s m args below meth c E htab hr hnm hw ls hl => ?_)
  obtain ⟨hx, hb, hts, hown, hml, hTT, -⟩ := id E
  have hl : lv_has ls 5 [(0, .ref a0), (1, .int a1), (2, .int a2), (3, .ref a3)] := hl
  obtain ⟨H, hH⟩ : ∃ H, H = s.heap := ⟨_, rfl⟩
  obtain ⟨locs, hlo⟩ : ∃ L : List Loc, L = [] := ⟨_, rfl⟩
  rw [← hH, ← hlo]
  rw [← hlo] at hw
  replace hw : w_W G M r s H locs := by rw [hH]; exact hw
  unfold f_L_meet
  refine lv_aload_n hx hb dL_meet_0 rfl (lv_at hl 3 rfl) ?_
  refine lv_iconst (v := 0) hx hb dL_meet_1 (by decide) ?_
  refine lv_aload_n hx hb dL_meet_2 rfl (lv_at hl 0 rfl) ?_
  refine lv_iload_n hx hb dL_meet_3 rfl (lv_at hl 1 rfl) ?_
  refine lv_iload_n hx hb dL_meet_4 rfl (lv_at hl 2 rfl) ?_
  refine W_bind fun _ hck => ?_
  refine W_bind fun z1 hz => ?_
  refine w_afterS (cells1 := 3) (slots1 := 18) (vv := (fun v => some (.int v))) (w_runV E kV_L_45 kc_X11_meet (t_CT_meet l hfl G N a0 a1 a2 M r ((fun z => (z.1.elim (fun v => .inl (some (.int v))) .inr, z.2, r)) z1) (by rw [hz]; rfl)) ⟨Nat.le_of_ble_eq_true rfl, Nat.le_of_ble_eq_true rfl⟩ hw (w_recv E hw (by decide) ⟨_, _, rfl⟩ (ck_ok hck)) rfl hl.1 rfl (Nat.le_of_ble_eq_true rfl) dL_meet_5 ⟨Nat.le_of_ble_eq_true rfl, Nat.le_of_ble_eq_true rfl⟩) hw rfl (Nat.le_of_ble_eq_true rfl) (Nat.le_of_ble_eq_true rfl) (fun v2 H locs _ hw => ?_) (fun E9 H locs q ce _ hw hce hcv hcl => ?_)
  · refine W.eq (g2 := F0 m 8 ls [.int v2, .int 0, .ref a3]) rfl ?_
    have hw : w_W G z1.2 r s H locs := hw
    refine lv_i2l (v := Int32.toInt64 v2) hx hb dL_meet_8 rfl ?_
    refine gx_last E hw dL_meet_9 (fun M3 H locs _ hw => ?_)
    refine lv_goto (tgt := 21) hx hb dL_meet_10 (by decide) ?_
    refine lv_iconst (v := 0) hx hb dL_meet_21 (by decide) ?_
    exact p_iret E hw hr (Nat.le_of_ble_eq_true rfl) (Nat.le_of_ble_eq_true rfl) rfl dL_meet_22
  · refine vxW_ite (fun h9 => ?_) (fun _ => ?_)
    · subst h9
      refine gx_catch (pre := []) (x := (0, 10, 13, 24)) (suf := [(0, 10, 17, 13)]) E (htab.trans rfl) (fun _ h => absurd h List.not_mem_nil) rfl (by decide) kL_L_24 kCa_IndexOutOfBoundsException hce hcv hcl ?_
      refine W.eq (g2 := F0 m 13 ls [.ref q]) rfl ?_
      have hw : w_W G z1.2 r s H locs := hw
      refine lv_astore (lv' := [(4, .ref q), (0, .ref a0), (1, .int a1), (2, .int a2), (3, .ref a3)]) hx hb dL_meet_13 hl (by decide) rfl (fun ls hl => ?_)
      refine lv_iconst (v := 1) hx hb dL_meet_15 (by decide) ?_
      exact p_iret E hw hr (Nat.le_of_ble_eq_true rfl) (Nat.le_of_ble_eq_true rfl) rfl dL_meet_16
    refine vxW_ite (fun h9 => ?_) (fun _ => ?_)
    · subst h9
      refine gx_catch (pre := [(0, 10, 13, 24)]) (x := (0, 10, 17, 13)) (suf := []) E (htab.trans rfl) (List.forall_mem_cons.mpr ⟨⟨by decide, "java/lang/IndexOutOfBoundsException", kL_L_24, by decide⟩, (fun _ h => absurd h List.not_mem_nil)⟩) rfl (by decide) kL_L_13 kCa_IllegalArgumentException hce hcv hcl ?_
      refine W.eq (g2 := F0 m 17 ls [.ref q]) rfl ?_
      have hw : w_W G z1.2 r s H locs := hw
      refine lv_astore (lv' := [(4, .ref q), (0, .ref a0), (1, .int a1), (2, .int a2), (3, .ref a3)]) hx hb dL_meet_17 hl (by decide) rfl (fun ls hl => ?_)
      refine lv_iconst (v := 2) hx hb dL_meet_19 (by decide) ?_
      exact p_iret E hw hr (Nat.le_of_ble_eq_true rfl) (Nat.le_of_ble_eq_true rfl) rfl dL_meet_20
    exact vxW_none
set_option maxHeartbeats 4000000 in
set_option maxRecDepth 100000 in
theorem t_L_rounds (l : Launch) (hfl : l.stackTraces = false) (G : wG) (N : Nat) (a0 : Nat) (a1 : Int32) (a2 : Nat) (M : Mem) (r : Rho) : Ctr l yL_rounds (wWsH yL_rounds cL_rounds 4 (some .int) [(0, 9, 12, 13)]) rm_L_rounds rm_L_rounds.cells rm_L_rounds.slots G [.ref a0, .int a1, .ref a2] M r ((f_L_rounds N a0 a1 a2 M).map (fun z => (.inl (some (.int z.1)), z.2, r))) := by
  refine Ctr.ofH (own := "CheekTownLaw") (by decide +kernel) hfl rfl (Nat.le_of_ble_eq_true rfl) (fun p e s m args below meth c E htab hr hnm hw ls hl => ?_)
  obtain ⟨hx, hb, hts, hown, hml, hTT, -⟩ := id E
  have hl : lv_has ls 4 [(0, .ref a0), (1, .int a1), (2, .ref a2)] := hl
  obtain ⟨H, hH⟩ : ∃ H, H = s.heap := ⟨_, rfl⟩
  obtain ⟨locs, hlo⟩ : ∃ L : List Loc, L = [] := ⟨_, rfl⟩
  rw [← hH, ← hlo]
  rw [← hlo] at hw
  replace hw : w_W G M r s H locs := by rw [hH]; exact hw
  unfold f_L_rounds
  refine lv_aload_n hx hb dL_rounds_0 rfl (lv_at hl 2 rfl) ?_
  refine lv_iconst (v := 0) hx hb dL_rounds_1 (by decide) ?_
  refine lv_aload_n hx hb dL_rounds_2 rfl (lv_at hl 0 rfl) ?_
  refine lv_iload_n hx hb dL_rounds_3 rfl (lv_at hl 1 rfl) ?_
  refine W_bind fun _ hck => ?_
  refine W_bind fun z1 hz => ?_
  refine w_afterS (cells1 := 1) (slots1 := 6) (vv := (fun v => some (.int v))) (w_runV E kV_L_48 kc_X11_rounds (t_CT_rounds l hfl G N a0 a1 M r ((fun z => (z.1.elim (fun v => .inl (some (.int v))) .inr, z.2, r)) z1) (by rw [hz]; rfl)) ⟨Nat.le_of_ble_eq_true rfl, Nat.le_of_ble_eq_true rfl⟩ hw (w_recv E hw (by decide) ⟨_, _, rfl⟩ (ck_ok hck)) rfl hl.1 rfl (Nat.le_of_ble_eq_true rfl) dL_rounds_4 ⟨Nat.le_of_ble_eq_true rfl, Nat.le_of_ble_eq_true rfl⟩) hw rfl (Nat.le_of_ble_eq_true rfl) (Nat.le_of_ble_eq_true rfl) (fun v2 H locs _ hw => ?_) (fun E9 H locs q ce _ hw hce hcv hcl => ?_)
  · refine W.eq (g2 := F0 m 7 ls [.int v2, .int 0, .ref a2]) rfl ?_
    have hw : w_W G z1.2 r s H locs := hw
    refine lv_i2l (v := Int32.toInt64 v2) hx hb dL_rounds_7 rfl ?_
    refine gx_last E hw dL_rounds_8 (fun M3 H locs _ hw => ?_)
    refine lv_goto (tgt := 15) hx hb dL_rounds_9 (by decide) ?_
    refine lv_iconst (v := 0) hx hb dL_rounds_15 (by decide) ?_
    exact p_iret E hw hr (Nat.le_of_ble_eq_true rfl) (Nat.le_of_ble_eq_true rfl) rfl dL_rounds_16
  · refine vxW_ite (fun h9 => ?_) (fun _ => ?_)
    · subst h9
      refine gx_catch (pre := []) (x := (0, 9, 12, 13)) (suf := []) E (htab.trans rfl) (fun _ h => absurd h List.not_mem_nil) rfl (by decide) kL_L_13 kCa_IllegalArgumentException hce hcv hcl ?_
      refine W.eq (g2 := F0 m 12 ls [.ref q]) rfl ?_
      have hw : w_W G z1.2 r s H locs := hw
      refine lv_astore_n (lv' := [(3, .ref q), (0, .ref a0), (1, .int a1), (2, .ref a2)]) hx hb dL_rounds_12 rfl hl (by decide) rfl (fun ls hl => ?_)
      refine lv_iconst (v := 1) hx hb dL_rounds_13 (by decide) ?_
      exact p_iret E hw hr (Nat.le_of_ble_eq_true rfl) (Nat.le_of_ble_eq_true rfl) rfl dL_rounds_14
    exact vxW_none
set_option maxHeartbeats 4000000 in
set_option maxRecDepth 100000 in
theorem t_L_own (l : Launch) (hfl : l.stackTraces = false) (G : wG) (N : Nat) (a0 : Nat) (a1 : Int32) (a2 : Int32) (a3 : Nat) (M : Mem) (r : Rho) : Ctr l yL_own (wWsH yL_own cL_own 5 (some .int) [(0, 10, 13, 24)]) rm_L_own rm_L_own.cells rm_L_own.slots G [.ref a0, .int a1, .int a2, .ref a3] M r ((f_L_own N a0 a1 a2 a3 M).map (fun z => (.inl (some (.int z.1)), z.2, r))) := by
  refine Ctr.ofH (own := "CheekTownLaw") (by decide +kernel) hfl rfl (Nat.le_of_ble_eq_true rfl) (fun p e s m args below meth c E htab hr hnm hw ls hl => ?_)
  obtain ⟨hx, hb, hts, hown, hml, hTT, -⟩ := id E
  have hl : lv_has ls 5 [(0, .ref a0), (1, .int a1), (2, .int a2), (3, .ref a3)] := hl
  obtain ⟨H, hH⟩ : ∃ H, H = s.heap := ⟨_, rfl⟩
  obtain ⟨locs, hlo⟩ : ∃ L : List Loc, L = [] := ⟨_, rfl⟩
  rw [← hH, ← hlo]
  rw [← hlo] at hw
  replace hw : w_W G M r s H locs := by rw [hH]; exact hw
  unfold f_L_own
  refine lv_aload_n hx hb dL_own_0 rfl (lv_at hl 3 rfl) ?_
  refine lv_iconst (v := 0) hx hb dL_own_1 (by decide) ?_
  refine lv_aload_n hx hb dL_own_2 rfl (lv_at hl 0 rfl) ?_
  refine lv_iload_n hx hb dL_own_3 rfl (lv_at hl 1 rfl) ?_
  refine lv_iload_n hx hb dL_own_4 rfl (lv_at hl 2 rfl) ?_
  refine W_bind fun _ hck => ?_
  refine W_bind fun z1 hz => ?_
  refine w_afterS (cells1 := 2) (slots1 := 12) (vv := (fun v => some (.int v))) (w_runV E kV_L_52 kc_X11_own (t_CT_own l hfl G N a0 a1 a2 M r ((fun z => (z.1.elim (fun v => .inl (some (.int v))) .inr, z.2, r)) z1) (by rw [hz]; rfl)) ⟨Nat.le_of_ble_eq_true rfl, Nat.le_of_ble_eq_true rfl⟩ hw (w_recv E hw (by decide) ⟨_, _, rfl⟩ (ck_ok hck)) rfl hl.1 rfl (Nat.le_of_ble_eq_true rfl) dL_own_5 ⟨Nat.le_of_ble_eq_true rfl, Nat.le_of_ble_eq_true rfl⟩) hw rfl (Nat.le_of_ble_eq_true rfl) (Nat.le_of_ble_eq_true rfl) (fun v2 H locs _ hw => ?_) (fun E9 H locs q ce _ hw hce hcv hcl => ?_)
  · refine W.eq (g2 := F0 m 8 ls [.int v2, .int 0, .ref a3]) rfl ?_
    have hw : w_W G z1.2 r s H locs := hw
    refine lv_i2l (v := Int32.toInt64 v2) hx hb dL_own_8 rfl ?_
    refine gx_last E hw dL_own_9 (fun M3 H locs _ hw => ?_)
    refine lv_goto (tgt := 17) hx hb dL_own_10 (by decide) ?_
    refine lv_iconst (v := 0) hx hb dL_own_17 (by decide) ?_
    exact p_iret E hw hr (Nat.le_of_ble_eq_true rfl) (Nat.le_of_ble_eq_true rfl) rfl dL_own_18
  · refine vxW_ite (fun h9 => ?_) (fun _ => ?_)
    · subst h9
      refine gx_catch (pre := []) (x := (0, 10, 13, 24)) (suf := []) E (htab.trans rfl) (fun _ h => absurd h List.not_mem_nil) rfl (by decide) kL_L_24 kCa_IndexOutOfBoundsException hce hcv hcl ?_
      refine W.eq (g2 := F0 m 13 ls [.ref q]) rfl ?_
      have hw : w_W G z1.2 r s H locs := hw
      refine lv_astore (lv' := [(4, .ref q), (0, .ref a0), (1, .int a1), (2, .int a2), (3, .ref a3)]) hx hb dL_own_13 hl (by decide) rfl (fun ls hl => ?_)
      refine lv_iconst (v := 1) hx hb dL_own_15 (by decide) ?_
      exact p_iret E hw hr (Nat.le_of_ble_eq_true rfl) (Nat.le_of_ble_eq_true rfl) rfl dL_own_16
    exact vxW_none
set_option maxHeartbeats 4000000 in
set_option maxRecDepth 100000 in
theorem t_L_cold (l : Launch) (hfl : l.stackTraces = false) (G : wG) (N : Nat) (a0 : Nat) (a1 : Int32) (a2 : Int32) (a3 : Nat) (M : Mem) (r : Rho) : Ctr l yL_cold (wWsH yL_cold cL_cold 5 (some .int) [(0, 17, 20, 24)]) rm_L_cold rm_L_cold.cells rm_L_cold.slots G [.ref a0, .int a1, .int a2, .ref a3] M r ((f_L_cold N a0 a1 a2 a3 M).map (fun z => (.inl (some (.int z.1)), z.2, r))) := by
  refine Ctr.ofH (own := "CheekTownLaw") (by decide +kernel) hfl rfl (Nat.le_of_ble_eq_true rfl) (fun p e s m args below meth c E htab hr hnm hw ls hl => ?_)
  obtain ⟨hx, hb, hts, hown, hml, hTT, -⟩ := id E
  have hl : lv_has ls 5 [(0, .ref a0), (1, .int a1), (2, .int a2), (3, .ref a3)] := hl
  obtain ⟨H, hH⟩ : ∃ H, H = s.heap := ⟨_, rfl⟩
  obtain ⟨locs, hlo⟩ : ∃ L : List Loc, L = [] := ⟨_, rfl⟩
  rw [← hH, ← hlo]
  rw [← hlo] at hw
  replace hw : w_W G M r s H locs := by rw [hH]; exact hw
  have w16 : ∀ (y1 : Int32) (y2 : Int64) (M : Mem) (H : Heap) (locs : List Loc) (ls : Array Slot), w_W G M r s H locs → lv_has ls 5 [] → W p l e rm_L_cold s m args below meth c H locs 1 6 (PQ G below args s rm_L_cold.cells rm_L_cold.slots (fun z => (.inl (some (.int z.1)), z.2, r)) (f_L_cold_16 N a0 a1 a2 a3 y1 y2 M)) (F0 m 16 ls [.long y2, .int y1, .ref a3]) := by
    intro y1 y2 M H locs ls hw hl
    unfold f_L_cold_16
    refine gx_last E hw dL_cold_16 (fun M3 H locs _ hw => ?_)
    refine lv_goto (tgt := 24) hx hb dL_cold_17 (by decide) ?_
    refine lv_iconst (v := 0) hx hb dL_cold_24 (by decide) ?_
    exact p_iret E hw hr (Nat.le_of_ble_eq_true rfl) (Nat.le_of_ble_eq_true rfl) rfl dL_cold_25
  unfold f_L_cold
  refine lv_aload_n hx hb dL_cold_0 rfl (lv_at hl 3 rfl) ?_
  refine lv_iconst (v := 0) hx hb dL_cold_1 (by decide) ?_
  refine lv_aload_n hx hb dL_cold_2 rfl (lv_at hl 0 rfl) ?_
  refine lv_iload_n hx hb dL_cold_3 rfl (lv_at hl 1 rfl) ?_
  refine lv_iload_n hx hb dL_cold_4 rfl (lv_at hl 2 rfl) ?_
  refine W_bind fun _ hck => ?_
  refine W_bind fun z1 hz => ?_
  refine w_afterS (cells1 := 1) (slots1 := 6) (vv := (fun v => some (.int v))) (w_runV E kV_L_55 kc_X11_cold (t_CT_cold l hfl G N a0 a1 a2 M r ((fun z => (z.1.elim (fun v => .inl (some (.int v))) .inr, z.2, r)) z1) (by rw [hz]; rfl)) ⟨Nat.le_of_ble_eq_true rfl, Nat.le_of_ble_eq_true rfl⟩ hw (w_recv E hw (by decide) ⟨_, _, rfl⟩ (ck_ok hck)) rfl hl.1 rfl (Nat.le_of_ble_eq_true rfl) dL_cold_5 ⟨Nat.le_of_ble_eq_true rfl, Nat.le_of_ble_eq_true rfl⟩) hw rfl (Nat.le_of_ble_eq_true rfl) (Nat.le_of_ble_eq_true rfl) (fun v2 H locs _ hw => ?_) (fun E9 H locs q ce _ hw hce hcv hcl => ?_)
  · refine W.eq (g2 := F0 m 8 ls [.int v2, .int 0, .ref a3]) rfl ?_
    have hw : w_W G z1.2 r s H locs := hw
    refine cx_if_eq (tgt := 15) E dL_cold_8 (by decide) (fun _ => ?_) (fun _ => ?_)
    · refine lv_lconst (v := 0) hx hb dL_cold_15 (by decide) ?_
      exact w16  0 0 z1.2 _ _ _ hw (lv_sub hl [] rfl)
    · refine lv_lconst (v := 1) hx hb dL_cold_11 (by decide) ?_
      refine lv_goto (tgt := 16) hx hb dL_cold_12 (by decide) ?_
      exact w16  0 1 z1.2 _ _ _ hw (lv_sub hl [] rfl)
  · refine vxW_ite (fun h9 => ?_) (fun _ => ?_)
    · subst h9
      refine gx_catch (pre := []) (x := (0, 17, 20, 24)) (suf := []) E (htab.trans rfl) (fun _ h => absurd h List.not_mem_nil) rfl (by decide) kL_L_24 kCa_IndexOutOfBoundsException hce hcv hcl ?_
      refine W.eq (g2 := F0 m 20 ls [.ref q]) rfl ?_
      have hw : w_W G z1.2 r s H locs := hw
      refine lv_astore (lv' := [(4, .ref q), (0, .ref a0), (1, .int a1), (2, .int a2), (3, .ref a3)]) hx hb dL_cold_20 hl (by decide) rfl (fun ls hl => ?_)
      refine lv_iconst (v := 1) hx hb dL_cold_22 (by decide) ?_
      exact p_iret E hw hr (Nat.le_of_ble_eq_true rfl) (Nat.le_of_ble_eq_true rfl) rfl dL_cold_23
    exact vxW_none
set_option maxHeartbeats 4000000 in
set_option maxRecDepth 100000 in
theorem t_L_ties (l : Launch) (hfl : l.stackTraces = false) (G : wG) (N : Nat) (a0 : Nat) (a1 : Int32) (a2 : Int32) (a3 : Nat) (M : Mem) (r : Rho) : Ctr l yL_ties (wWsH yL_ties cL_ties 5 (some .int) [(0, 10, 13, 24), (0, 10, 17, 13), (0, 10, 21, 62), (0, 10, 25, 15)]) rm_L_ties rm_L_ties.cells rm_L_ties.slots G [.ref a0, .int a1, .int a2, .ref a3] M r ((f_L_ties N a0 a1 a2 a3 M).map (fun z => (.inl (some (.int z.1)), z.2, r))) := by
  refine Ctr.ofH (own := "CheekTownLaw") (by decide +kernel) hfl rfl (Nat.le_of_ble_eq_true rfl) (fun p e s m args below meth c E htab hr hnm hw ls hl => ?_)
  obtain ⟨hx, hb, hts, hown, hml, hTT, -⟩ := id E
  have hl : lv_has ls 5 [(0, .ref a0), (1, .int a1), (2, .int a2), (3, .ref a3)] := hl
  obtain ⟨H, hH⟩ : ∃ H, H = s.heap := ⟨_, rfl⟩
  obtain ⟨locs, hlo⟩ : ∃ L : List Loc, L = [] := ⟨_, rfl⟩
  rw [← hH, ← hlo]
  rw [← hlo] at hw
  replace hw : w_W G M r s H locs := by rw [hH]; exact hw
  unfold f_L_ties
  refine lv_aload_n hx hb dL_ties_0 rfl (lv_at hl 3 rfl) ?_
  refine lv_iconst (v := 0) hx hb dL_ties_1 (by decide) ?_
  refine lv_aload_n hx hb dL_ties_2 rfl (lv_at hl 0 rfl) ?_
  refine lv_iload_n hx hb dL_ties_3 rfl (lv_at hl 1 rfl) ?_
  refine lv_iload_n hx hb dL_ties_4 rfl (lv_at hl 2 rfl) ?_
  refine W_bind fun _ hck => ?_
  refine W_bind fun z1 hz => ?_
  refine w_afterS (cells1 := 4) (slots1 := 24) (vv := (fun v => some (.int v))) (w_runV E kV_L_59 kc_X11_ties (t_CT_ties l hfl G N a0 a1 a2 M r ((fun z => (z.1.elim (fun v => .inl (some (.int v))) .inr, z.2, r)) z1) (by rw [hz]; rfl)) ⟨Nat.le_of_ble_eq_true rfl, Nat.le_of_ble_eq_true rfl⟩ hw (w_recv E hw (by decide) ⟨_, _, rfl⟩ (ck_ok hck)) rfl hl.1 rfl (Nat.le_of_ble_eq_true rfl) dL_ties_5 ⟨Nat.le_of_ble_eq_true rfl, Nat.le_of_ble_eq_true rfl⟩) hw rfl (Nat.le_of_ble_eq_true rfl) (Nat.le_of_ble_eq_true rfl) (fun v2 H locs _ hw => ?_) (fun E9 H locs q ce _ hw hce hcv hcl => ?_)
  · refine W.eq (g2 := F0 m 8 ls [.int v2, .int 0, .ref a3]) rfl ?_
    have hw : w_W G z1.2 r s H locs := hw
    refine lv_i2l (v := Int32.toInt64 v2) hx hb dL_ties_8 rfl ?_
    refine gx_last E hw dL_ties_9 (fun M3 H locs _ hw => ?_)
    refine lv_goto (tgt := 29) hx hb dL_ties_10 (by decide) ?_
    refine lv_iconst (v := 0) hx hb dL_ties_29 (by decide) ?_
    exact p_iret E hw hr (Nat.le_of_ble_eq_true rfl) (Nat.le_of_ble_eq_true rfl) rfl dL_ties_30
  · refine vxW_ite (fun h9 => ?_) (fun _ => ?_)
    · subst h9
      refine gx_catch (pre := []) (x := (0, 10, 13, 24)) (suf := [(0, 10, 17, 13), (0, 10, 21, 62), (0, 10, 25, 15)]) E (htab.trans rfl) (fun _ h => absurd h List.not_mem_nil) rfl (by decide) kL_L_24 kCa_IndexOutOfBoundsException hce hcv hcl ?_
      refine W.eq (g2 := F0 m 13 ls [.ref q]) rfl ?_
      have hw : w_W G z1.2 r s H locs := hw
      refine lv_astore (lv' := [(4, .ref q), (0, .ref a0), (1, .int a1), (2, .int a2), (3, .ref a3)]) hx hb dL_ties_13 hl (by decide) rfl (fun ls hl => ?_)
      refine lv_iconst (v := 1) hx hb dL_ties_15 (by decide) ?_
      exact p_iret E hw hr (Nat.le_of_ble_eq_true rfl) (Nat.le_of_ble_eq_true rfl) rfl dL_ties_16
    refine vxW_ite (fun h9 => ?_) (fun _ => ?_)
    · subst h9
      refine gx_catch (pre := [(0, 10, 13, 24)]) (x := (0, 10, 17, 13)) (suf := [(0, 10, 21, 62), (0, 10, 25, 15)]) E (htab.trans rfl) (List.forall_mem_cons.mpr ⟨⟨by decide, "java/lang/IndexOutOfBoundsException", kL_L_24, by decide⟩, (fun _ h => absurd h List.not_mem_nil)⟩) rfl (by decide) kL_L_13 kCa_IllegalArgumentException hce hcv hcl ?_
      refine W.eq (g2 := F0 m 17 ls [.ref q]) rfl ?_
      have hw : w_W G z1.2 r s H locs := hw
      refine lv_astore (lv' := [(4, .ref q), (0, .ref a0), (1, .int a1), (2, .int a2), (3, .ref a3)]) hx hb dL_ties_17 hl (by decide) rfl (fun ls hl => ?_)
      refine lv_iconst (v := 2) hx hb dL_ties_19 (by decide) ?_
      exact p_iret E hw hr (Nat.le_of_ble_eq_true rfl) (Nat.le_of_ble_eq_true rfl) rfl dL_ties_20
    refine vxW_ite (fun h9 => ?_) (fun _ => ?_)
    · subst h9
      refine gx_catch (pre := [(0, 10, 13, 24), (0, 10, 17, 13)]) (x := (0, 10, 21, 62)) (suf := [(0, 10, 25, 15)]) E (htab.trans rfl) (List.forall_mem_cons.mpr ⟨⟨by decide, "java/lang/IndexOutOfBoundsException", kL_L_24, by decide⟩, (List.forall_mem_cons.mpr ⟨⟨by decide, "java/lang/IllegalArgumentException", kL_L_13, by decide⟩, (fun _ h => absurd h List.not_mem_nil)⟩)⟩) rfl (by decide) kL_L_62 kCa_IllegalStateException hce hcv hcl ?_
      refine W.eq (g2 := F0 m 21 ls [.ref q]) rfl ?_
      have hw : w_W G z1.2 r s H locs := hw
      refine lv_astore (lv' := [(4, .ref q), (0, .ref a0), (1, .int a1), (2, .int a2), (3, .ref a3)]) hx hb dL_ties_21 hl (by decide) rfl (fun ls hl => ?_)
      refine lv_iconst (v := 3) hx hb dL_ties_23 (by decide) ?_
      exact p_iret E hw hr (Nat.le_of_ble_eq_true rfl) (Nat.le_of_ble_eq_true rfl) rfl dL_ties_24
    refine vxW_ite (fun h9 => ?_) (fun _ => ?_)
    · subst h9
      refine gx_catch (pre := [(0, 10, 13, 24), (0, 10, 17, 13), (0, 10, 21, 62)]) (x := (0, 10, 25, 15)) (suf := []) E (htab.trans rfl) (List.forall_mem_cons.mpr ⟨⟨by decide, "java/lang/IndexOutOfBoundsException", kL_L_24, by decide⟩, (List.forall_mem_cons.mpr ⟨⟨by decide, "java/lang/IllegalArgumentException", kL_L_13, by decide⟩, (List.forall_mem_cons.mpr ⟨⟨by decide, "java/lang/IllegalStateException", kL_L_62, by decide⟩, (fun _ h => absurd h List.not_mem_nil)⟩)⟩)⟩) rfl (by decide) kL_L_15 kCa_UnsupportedOperationException hce hcv hcl ?_
      refine W.eq (g2 := F0 m 25 ls [.ref q]) rfl ?_
      have hw : w_W G z1.2 r s H locs := hw
      refine lv_astore (lv' := [(4, .ref q), (0, .ref a0), (1, .int a1), (2, .int a2), (3, .ref a3)]) hx hb dL_ties_25 hl (by decide) rfl (fun ls hl => ?_)
      refine lv_iconst (v := 4) hx hb dL_ties_27 (by decide) ?_
      exact p_iret E hw hr (Nat.le_of_ble_eq_true rfl) (Nat.le_of_ble_eq_true rfl) rfl dL_ties_28
    exact vxW_none
set_option maxHeartbeats 4000000 in
set_option maxRecDepth 100000 in
theorem t_L_cut (l : Launch) (hfl : l.stackTraces = false) (G : wG) (N : Nat) (a0 : Nat) (a1 : Int32) (a2 : Nat) (M : Mem) (r : Rho) : Ctr l yL_cut (wWsH yL_cut cL_cut 4 (some .int) [(0, 9, 12, 24)]) rm_L_cut rm_L_cut.cells rm_L_cut.slots G [.ref a0, .int a1, .ref a2] M r ((f_L_cut N a0 a1 a2 M).map (fun z => (.inl (some (.int z.1)), z.2, r))) := by
  refine Ctr.ofH (own := "CheekTownLaw") (by decide +kernel) hfl rfl (Nat.le_of_ble_eq_true rfl) (fun p e s m args below meth c E htab hr hnm hw ls hl => ?_)
  obtain ⟨hx, hb, hts, hown, hml, hTT, -⟩ := id E
  have hl : lv_has ls 4 [(0, .ref a0), (1, .int a1), (2, .ref a2)] := hl
  obtain ⟨H, hH⟩ : ∃ H, H = s.heap := ⟨_, rfl⟩
  obtain ⟨locs, hlo⟩ : ∃ L : List Loc, L = [] := ⟨_, rfl⟩
  rw [← hH, ← hlo]
  rw [← hlo] at hw
  replace hw : w_W G M r s H locs := by rw [hH]; exact hw
  unfold f_L_cut
  refine lv_aload_n hx hb dL_cut_0 rfl (lv_at hl 2 rfl) ?_
  refine lv_iconst (v := 0) hx hb dL_cut_1 (by decide) ?_
  refine lv_aload_n hx hb dL_cut_2 rfl (lv_at hl 0 rfl) ?_
  refine lv_iload_n hx hb dL_cut_3 rfl (lv_at hl 1 rfl) ?_
  refine W_bind fun _ hck => ?_
  refine W_bind fun z1 hz => ?_
  refine w_afterS (cells1 := 1) (slots1 := 6) (vv := (fun v => some (.int v))) (w_runV E kV_L_64 kc_X11_cut (t_CT_cut l hfl G N a0 a1 M r ((fun z => (z.1.elim (fun v => .inl (some (.int v))) .inr, z.2, r)) z1) (by rw [hz]; rfl)) ⟨Nat.le_of_ble_eq_true rfl, Nat.le_of_ble_eq_true rfl⟩ hw (w_recv E hw (by decide) ⟨_, _, rfl⟩ (ck_ok hck)) rfl hl.1 rfl (Nat.le_of_ble_eq_true rfl) dL_cut_4 ⟨Nat.le_of_ble_eq_true rfl, Nat.le_of_ble_eq_true rfl⟩) hw rfl (Nat.le_of_ble_eq_true rfl) (Nat.le_of_ble_eq_true rfl) (fun v2 H locs _ hw => ?_) (fun E9 H locs q ce _ hw hce hcv hcl => ?_)
  · refine W.eq (g2 := F0 m 7 ls [.int v2, .int 0, .ref a2]) rfl ?_
    have hw : w_W G z1.2 r s H locs := hw
    refine lv_i2l (v := Int32.toInt64 v2) hx hb dL_cut_7 rfl ?_
    refine gx_last E hw dL_cut_8 (fun M3 H locs _ hw => ?_)
    refine lv_goto (tgt := 15) hx hb dL_cut_9 (by decide) ?_
    refine lv_iconst (v := 0) hx hb dL_cut_15 (by decide) ?_
    exact p_iret E hw hr (Nat.le_of_ble_eq_true rfl) (Nat.le_of_ble_eq_true rfl) rfl dL_cut_16
  · refine vxW_ite (fun h9 => ?_) (fun _ => ?_)
    · subst h9
      refine gx_catch (pre := []) (x := (0, 9, 12, 24)) (suf := []) E (htab.trans rfl) (fun _ h => absurd h List.not_mem_nil) rfl (by decide) kL_L_24 kCa_IndexOutOfBoundsException hce hcv hcl ?_
      refine W.eq (g2 := F0 m 12 ls [.ref q]) rfl ?_
      have hw : w_W G z1.2 r s H locs := hw
      refine lv_astore_n (lv' := [(3, .ref q), (0, .ref a0), (1, .int a1), (2, .ref a2)]) hx hb dL_cut_12 rfl hl (by decide) rfl (fun ls hl => ?_)
      refine lv_iconst (v := 1) hx hb dL_cut_13 (by decide) ?_
      exact p_iret E hw hr (Nat.le_of_ble_eq_true rfl) (Nat.le_of_ble_eq_true rfl) rfl dL_cut_14
    exact vxW_none
set_option maxHeartbeats 4000000 in
set_option maxRecDepth 100000 in
theorem t_L_feast (l : Launch) (hfl : l.stackTraces = false) (G : wG) (N : Nat) (a0 : Nat) (a1 : Int32) (a2 : Int32) (a3 : Nat) (M : Mem) (r : Rho) : Ctr l yL_feast (wWsH yL_feast cL_feast 5 (some .int) [(0, 10, 13, 24)]) rm_L_feast rm_L_feast.cells rm_L_feast.slots G [.ref a0, .int a1, .int a2, .ref a3] M r ((f_L_feast N a0 a1 a2 a3 M).map (fun z => (.inl (some (.int z.1)), z.2, r))) := by
  refine Ctr.ofH (own := "CheekTownLaw") (by decide +kernel) hfl rfl (Nat.le_of_ble_eq_true rfl) (fun p e s m args below meth c E htab hr hnm hw ls hl => ?_)
  obtain ⟨hx, hb, hts, hown, hml, hTT, -⟩ := id E
  have hl : lv_has ls 5 [(0, .ref a0), (1, .int a1), (2, .int a2), (3, .ref a3)] := hl
  obtain ⟨H, hH⟩ : ∃ H, H = s.heap := ⟨_, rfl⟩
  obtain ⟨locs, hlo⟩ : ∃ L : List Loc, L = [] := ⟨_, rfl⟩
  rw [← hH, ← hlo]
  rw [← hlo] at hw
  replace hw : w_W G M r s H locs := by rw [hH]; exact hw
  unfold f_L_feast
  refine lv_aload_n hx hb dL_feast_0 rfl (lv_at hl 3 rfl) ?_
  refine lv_iconst (v := 0) hx hb dL_feast_1 (by decide) ?_
  refine lv_aload_n hx hb dL_feast_2 rfl (lv_at hl 0 rfl) ?_
  refine lv_iload_n hx hb dL_feast_3 rfl (lv_at hl 1 rfl) ?_
  refine lv_iload_n hx hb dL_feast_4 rfl (lv_at hl 2 rfl) ?_
  refine W_bind fun _ hck => ?_
  refine W_bind fun z1 hz => ?_
  refine w_afterS (cells1 := 1) (slots1 := 6) (vv := (fun v => some (.int v))) (w_runV E kV_L_67 kc_X11_feast (t_CT_feast l hfl G N a0 a1 a2 M r ((fun z => (z.1.elim (fun v => .inl (some (.int v))) .inr, z.2, r)) z1) (by rw [hz]; rfl)) ⟨Nat.le_of_ble_eq_true rfl, Nat.le_of_ble_eq_true rfl⟩ hw (w_recv E hw (by decide) ⟨_, _, rfl⟩ (ck_ok hck)) rfl hl.1 rfl (Nat.le_of_ble_eq_true rfl) dL_feast_5 ⟨Nat.le_of_ble_eq_true rfl, Nat.le_of_ble_eq_true rfl⟩) hw rfl (Nat.le_of_ble_eq_true rfl) (Nat.le_of_ble_eq_true rfl) (fun v2 H locs _ hw => ?_) (fun E9 H locs q ce _ hw hce hcv hcl => ?_)
  · refine W.eq (g2 := F0 m 8 ls [.int v2, .int 0, .ref a3]) rfl ?_
    have hw : w_W G z1.2 r s H locs := hw
    refine lv_i2l (v := Int32.toInt64 v2) hx hb dL_feast_8 rfl ?_
    refine gx_last E hw dL_feast_9 (fun M3 H locs _ hw => ?_)
    refine lv_goto (tgt := 17) hx hb dL_feast_10 (by decide) ?_
    refine lv_iconst (v := 0) hx hb dL_feast_17 (by decide) ?_
    exact p_iret E hw hr (Nat.le_of_ble_eq_true rfl) (Nat.le_of_ble_eq_true rfl) rfl dL_feast_18
  · refine vxW_ite (fun h9 => ?_) (fun _ => ?_)
    · subst h9
      refine gx_catch (pre := []) (x := (0, 10, 13, 24)) (suf := []) E (htab.trans rfl) (fun _ h => absurd h List.not_mem_nil) rfl (by decide) kL_L_24 kCa_IndexOutOfBoundsException hce hcv hcl ?_
      refine W.eq (g2 := F0 m 13 ls [.ref q]) rfl ?_
      have hw : w_W G z1.2 r s H locs := hw
      refine lv_astore (lv' := [(4, .ref q), (0, .ref a0), (1, .int a1), (2, .int a2), (3, .ref a3)]) hx hb dL_feast_13 hl (by decide) rfl (fun ls hl => ?_)
      refine lv_iconst (v := 1) hx hb dL_feast_15 (by decide) ?_
      exact p_iret E hw hr (Nat.le_of_ble_eq_true rfl) (Nat.le_of_ble_eq_true rfl) rfl dL_feast_16
    exact vxW_none
set_option maxHeartbeats 4000000 in
set_option maxRecDepth 100000 in
theorem t_L_expected (l : Launch) (hfl : l.stackTraces = false) (G : wG) (N : Nat) (a0 : Nat) (a1 : Int32) (a2 : Int32) (a3 : Nat) (M : Mem) (r : Rho) : Ctr l yL_expected (wWsH yL_expected cL_expected 5 (some .int) [(0, 10, 13, 24)]) rm_L_expected rm_L_expected.cells rm_L_expected.slots G [.ref a0, .int a1, .int a2, .ref a3] M r ((f_L_expected N a0 a1 a2 a3 M).map (fun z => (.inl (some (.int z.1)), z.2, r))) := by
  refine Ctr.ofH (own := "CheekTownLaw") (by decide +kernel) hfl rfl (Nat.le_of_ble_eq_true rfl) (fun p e s m args below meth c E htab hr hnm hw ls hl => ?_)
  obtain ⟨hx, hb, hts, hown, hml, hTT, -⟩ := id E
  have hl : lv_has ls 5 [(0, .ref a0), (1, .int a1), (2, .int a2), (3, .ref a3)] := hl
  obtain ⟨H, hH⟩ : ∃ H, H = s.heap := ⟨_, rfl⟩
  obtain ⟨locs, hlo⟩ : ∃ L : List Loc, L = [] := ⟨_, rfl⟩
  rw [← hH, ← hlo]
  rw [← hlo] at hw
  replace hw : w_W G M r s H locs := by rw [hH]; exact hw
  unfold f_L_expected
  refine lv_aload_n hx hb dL_expected_0 rfl (lv_at hl 3 rfl) ?_
  refine lv_iconst (v := 0) hx hb dL_expected_1 (by decide) ?_
  refine lv_aload_n hx hb dL_expected_2 rfl (lv_at hl 0 rfl) ?_
  refine lv_iload_n hx hb dL_expected_3 rfl (lv_at hl 1 rfl) ?_
  refine lv_iload_n hx hb dL_expected_4 rfl (lv_at hl 2 rfl) ?_
  refine W_bind fun _ hck => ?_
  refine W_bind fun z1 hz => ?_
  refine w_afterS (cells1 := 2) (slots1 := 12) (vv := (fun v => some (.int v))) (w_runV E kV_L_70 kc_X11_expected (t_CT_expected l hfl G N a0 a1 a2 M r ((fun z => (z.1.elim (fun v => .inl (some (.int v))) .inr, z.2, r)) z1) (by rw [hz]; rfl)) ⟨Nat.le_of_ble_eq_true rfl, Nat.le_of_ble_eq_true rfl⟩ hw (w_recv E hw (by decide) ⟨_, _, rfl⟩ (ck_ok hck)) rfl hl.1 rfl (Nat.le_of_ble_eq_true rfl) dL_expected_5 ⟨Nat.le_of_ble_eq_true rfl, Nat.le_of_ble_eq_true rfl⟩) hw rfl (Nat.le_of_ble_eq_true rfl) (Nat.le_of_ble_eq_true rfl) (fun v2 H locs _ hw => ?_) (fun E9 H locs q ce _ hw hce hcv hcl => ?_)
  · refine W.eq (g2 := F0 m 8 ls [.int v2, .int 0, .ref a3]) rfl ?_
    have hw : w_W G z1.2 r s H locs := hw
    refine lv_i2l (v := Int32.toInt64 v2) hx hb dL_expected_8 rfl ?_
    refine gx_last E hw dL_expected_9 (fun M3 H locs _ hw => ?_)
    refine lv_goto (tgt := 17) hx hb dL_expected_10 (by decide) ?_
    refine lv_iconst (v := 0) hx hb dL_expected_17 (by decide) ?_
    exact p_iret E hw hr (Nat.le_of_ble_eq_true rfl) (Nat.le_of_ble_eq_true rfl) rfl dL_expected_18
  · refine vxW_ite (fun h9 => ?_) (fun _ => ?_)
    · subst h9
      refine gx_catch (pre := []) (x := (0, 10, 13, 24)) (suf := []) E (htab.trans rfl) (fun _ h => absurd h List.not_mem_nil) rfl (by decide) kL_L_24 kCa_IndexOutOfBoundsException hce hcv hcl ?_
      refine W.eq (g2 := F0 m 13 ls [.ref q]) rfl ?_
      have hw : w_W G z1.2 r s H locs := hw
      refine lv_astore (lv' := [(4, .ref q), (0, .ref a0), (1, .int a1), (2, .int a2), (3, .ref a3)]) hx hb dL_expected_13 hl (by decide) rfl (fun ls hl => ?_)
      refine lv_iconst (v := 1) hx hb dL_expected_15 (by decide) ?_
      exact p_iret E hw hr (Nat.le_of_ble_eq_true rfl) (Nat.le_of_ble_eq_true rfl) rfl dL_expected_16
    exact vxW_none
set_option maxHeartbeats 4000000 in
set_option maxRecDepth 100000 in
theorem t_L_best (l : Launch) (hfl : l.stackTraces = false) (G : wG) (N : Nat) (a0 : Nat) (a1 : Int32) (a2 : Nat) (M : Mem) (r : Rho) : Ctr l yL_best (wWsH yL_best cL_best 4 (some .int) [(0, 9, 12, 24)]) rm_L_best rm_L_best.cells rm_L_best.slots G [.ref a0, .int a1, .ref a2] M r ((f_L_best N a0 a1 a2 M).map (fun z => (.inl (some (.int z.1)), z.2, r))) := by
  refine Ctr.ofH (own := "CheekTownLaw") (by decide +kernel) hfl rfl (Nat.le_of_ble_eq_true rfl) (fun p e s m args below meth c E htab hr hnm hw ls hl => ?_)
  obtain ⟨hx, hb, hts, hown, hml, hTT, -⟩ := id E
  have hl : lv_has ls 4 [(0, .ref a0), (1, .int a1), (2, .ref a2)] := hl
  obtain ⟨H, hH⟩ : ∃ H, H = s.heap := ⟨_, rfl⟩
  obtain ⟨locs, hlo⟩ : ∃ L : List Loc, L = [] := ⟨_, rfl⟩
  rw [← hH, ← hlo]
  rw [← hlo] at hw
  replace hw : w_W G M r s H locs := by rw [hH]; exact hw
  unfold f_L_best
  refine lv_aload_n hx hb dL_best_0 rfl (lv_at hl 2 rfl) ?_
  refine lv_iconst (v := 0) hx hb dL_best_1 (by decide) ?_
  refine lv_aload_n hx hb dL_best_2 rfl (lv_at hl 0 rfl) ?_
  refine lv_iload_n hx hb dL_best_3 rfl (lv_at hl 1 rfl) ?_
  refine W_bind fun _ hck => ?_
  refine W_bind fun z1 hz => ?_
  refine w_afterS (cells1 := 1) (slots1 := 6) (vv := (fun v => some (.int v))) (w_runV E kV_L_73 kc_X11_best (t_CT_best l hfl G N a0 a1 M r ((fun z => (z.1.elim (fun v => .inl (some (.int v))) .inr, z.2, r)) z1) (by rw [hz]; rfl)) ⟨Nat.le_of_ble_eq_true rfl, Nat.le_of_ble_eq_true rfl⟩ hw (w_recv E hw (by decide) ⟨_, _, rfl⟩ (ck_ok hck)) rfl hl.1 rfl (Nat.le_of_ble_eq_true rfl) dL_best_4 ⟨Nat.le_of_ble_eq_true rfl, Nat.le_of_ble_eq_true rfl⟩) hw rfl (Nat.le_of_ble_eq_true rfl) (Nat.le_of_ble_eq_true rfl) (fun v2 H locs _ hw => ?_) (fun E9 H locs q ce _ hw hce hcv hcl => ?_)
  · refine W.eq (g2 := F0 m 7 ls [.int v2, .int 0, .ref a2]) rfl ?_
    have hw : w_W G z1.2 r s H locs := hw
    refine lv_i2l (v := Int32.toInt64 v2) hx hb dL_best_7 rfl ?_
    refine gx_last E hw dL_best_8 (fun M3 H locs _ hw => ?_)
    refine lv_goto (tgt := 15) hx hb dL_best_9 (by decide) ?_
    refine lv_iconst (v := 0) hx hb dL_best_15 (by decide) ?_
    exact p_iret E hw hr (Nat.le_of_ble_eq_true rfl) (Nat.le_of_ble_eq_true rfl) rfl dL_best_16
  · refine vxW_ite (fun h9 => ?_) (fun _ => ?_)
    · subst h9
      refine gx_catch (pre := []) (x := (0, 9, 12, 24)) (suf := []) E (htab.trans rfl) (fun _ h => absurd h List.not_mem_nil) rfl (by decide) kL_L_24 kCa_IndexOutOfBoundsException hce hcv hcl ?_
      refine W.eq (g2 := F0 m 12 ls [.ref q]) rfl ?_
      have hw : w_W G z1.2 r s H locs := hw
      refine lv_astore_n (lv' := [(3, .ref q), (0, .ref a0), (1, .int a1), (2, .ref a2)]) hx hb dL_best_12 rfl hl (by decide) rfl (fun ls hl => ?_)
      refine lv_iconst (v := 1) hx hb dL_best_13 (by decide) ?_
      exact p_iret E hw hr (Nat.le_of_ble_eq_true rfl) (Nat.le_of_ble_eq_true rfl) rfl dL_best_14
    exact vxW_none
set_option maxHeartbeats 4000000 in
set_option maxRecDepth 100000 in
theorem t_L_odds (l : Launch) (hfl : l.stackTraces = false) (G : wG) (N : Nat) (a0 : Nat) (a1 : Int32) (a2 : Int32) (a3 : Nat) (M : Mem) (r : Rho) : Ctr l yL_odds (wWsH yL_odds cL_odds 5 (some .int) [(0, 10, 13, 24)]) rm_L_odds rm_L_odds.cells rm_L_odds.slots G [.ref a0, .int a1, .int a2, .ref a3] M r ((f_L_odds N a0 a1 a2 a3 M).map (fun z => (.inl (some (.int z.1)), z.2, r))) := by
  refine Ctr.ofH (own := "CheekTownLaw") (by decide +kernel) hfl rfl (Nat.le_of_ble_eq_true rfl) (fun p e s m args below meth c E htab hr hnm hw ls hl => ?_)
  obtain ⟨hx, hb, hts, hown, hml, hTT, -⟩ := id E
  have hl : lv_has ls 5 [(0, .ref a0), (1, .int a1), (2, .int a2), (3, .ref a3)] := hl
  obtain ⟨H, hH⟩ : ∃ H, H = s.heap := ⟨_, rfl⟩
  obtain ⟨locs, hlo⟩ : ∃ L : List Loc, L = [] := ⟨_, rfl⟩
  rw [← hH, ← hlo]
  rw [← hlo] at hw
  replace hw : w_W G M r s H locs := by rw [hH]; exact hw
  unfold f_L_odds
  refine lv_aload_n hx hb dL_odds_0 rfl (lv_at hl 3 rfl) ?_
  refine lv_iconst (v := 0) hx hb dL_odds_1 (by decide) ?_
  refine lv_aload_n hx hb dL_odds_2 rfl (lv_at hl 0 rfl) ?_
  refine lv_iload_n hx hb dL_odds_3 rfl (lv_at hl 1 rfl) ?_
  refine lv_iload_n hx hb dL_odds_4 rfl (lv_at hl 2 rfl) ?_
  refine W_bind fun _ hck => ?_
  refine W_bind fun z1 hz => ?_
  refine w_afterS (cells1 := 2) (slots1 := 12) (vv := (fun v => some (.int v))) (w_runV E kV_L_76 kc_X11_odds (t_CT_odds l hfl G N a0 a1 a2 M r ((fun z => (z.1.elim (fun v => .inl (some (.int v))) .inr, z.2, r)) z1) (by rw [hz]; rfl)) ⟨Nat.le_of_ble_eq_true rfl, Nat.le_of_ble_eq_true rfl⟩ hw (w_recv E hw (by decide) ⟨_, _, rfl⟩ (ck_ok hck)) rfl hl.1 rfl (Nat.le_of_ble_eq_true rfl) dL_odds_5 ⟨Nat.le_of_ble_eq_true rfl, Nat.le_of_ble_eq_true rfl⟩) hw rfl (Nat.le_of_ble_eq_true rfl) (Nat.le_of_ble_eq_true rfl) (fun v2 H locs _ hw => ?_) (fun E9 H locs q ce _ hw hce hcv hcl => ?_)
  · refine W.eq (g2 := F0 m 8 ls [.int v2, .int 0, .ref a3]) rfl ?_
    have hw : w_W G z1.2 r s H locs := hw
    refine lv_i2l (v := Int32.toInt64 v2) hx hb dL_odds_8 rfl ?_
    refine gx_last E hw dL_odds_9 (fun M3 H locs _ hw => ?_)
    refine lv_goto (tgt := 17) hx hb dL_odds_10 (by decide) ?_
    refine lv_iconst (v := 0) hx hb dL_odds_17 (by decide) ?_
    exact p_iret E hw hr (Nat.le_of_ble_eq_true rfl) (Nat.le_of_ble_eq_true rfl) rfl dL_odds_18
  · refine vxW_ite (fun h9 => ?_) (fun _ => ?_)
    · subst h9
      refine gx_catch (pre := []) (x := (0, 10, 13, 24)) (suf := []) E (htab.trans rfl) (fun _ h => absurd h List.not_mem_nil) rfl (by decide) kL_L_24 kCa_IndexOutOfBoundsException hce hcv hcl ?_
      refine W.eq (g2 := F0 m 13 ls [.ref q]) rfl ?_
      have hw : w_W G z1.2 r s H locs := hw
      refine lv_astore (lv' := [(4, .ref q), (0, .ref a0), (1, .int a1), (2, .int a2), (3, .ref a3)]) hx hb dL_odds_13 hl (by decide) rfl (fun ls hl => ?_)
      refine lv_iconst (v := 1) hx hb dL_odds_15 (by decide) ?_
      exact p_iret E hw hr (Nat.le_of_ble_eq_true rfl) (Nat.le_of_ble_eq_true rfl) rfl dL_odds_16
    exact vxW_none
set_option maxHeartbeats 4000000 in
set_option maxRecDepth 100000 in
theorem t_L_from (l : Launch) (hfl : l.stackTraces = false) (G : wG) (N : Nat) (a0 : Nat) (a1 : Int32) (a2 : Nat) (M : Mem) (r : Rho) : Ctr l yL_from (wWsH yL_from cL_from 4 (some .int) [(0, 9, 12, 13)]) rm_L_from rm_L_from.cells rm_L_from.slots G [.ref a0, .int a1, .ref a2] M r ((f_L_from N a0 a1 a2 M).map (fun z => (.inl (some (.int z.1)), z.2, r))) := by
  refine Ctr.ofH (own := "CheekTownLaw") (by decide +kernel) hfl rfl (Nat.le_of_ble_eq_true rfl) (fun p e s m args below meth c E htab hr hnm hw ls hl => ?_)
  obtain ⟨hx, hb, hts, hown, hml, hTT, -⟩ := id E
  have hl : lv_has ls 4 [(0, .ref a0), (1, .int a1), (2, .ref a2)] := hl
  obtain ⟨H, hH⟩ : ∃ H, H = s.heap := ⟨_, rfl⟩
  obtain ⟨locs, hlo⟩ : ∃ L : List Loc, L = [] := ⟨_, rfl⟩
  rw [← hH, ← hlo]
  rw [← hlo] at hw
  replace hw : w_W G M r s H locs := by rw [hH]; exact hw
  unfold f_L_from
  refine lv_aload_n hx hb dL_from_0 rfl (lv_at hl 2 rfl) ?_
  refine lv_iconst (v := 0) hx hb dL_from_1 (by decide) ?_
  refine lv_aload_n hx hb dL_from_2 rfl (lv_at hl 0 rfl) ?_
  refine lv_iload_n hx hb dL_from_3 rfl (lv_at hl 1 rfl) ?_
  refine W_bind fun _ hck => ?_
  refine W_bind fun z1 hz => ?_
  refine w_afterS (cells1 := 1) (slots1 := 6) (vv := (fun v => some (.int v))) (w_runV E kV_L_79 kc_X11_from (t_CT_from l hfl G N a0 a1 M r ((fun z => (z.1.elim (fun v => .inl (some (.int v))) .inr, z.2, r)) z1) (by rw [hz]; rfl)) ⟨Nat.le_of_ble_eq_true rfl, Nat.le_of_ble_eq_true rfl⟩ hw (w_recv E hw (by decide) ⟨_, _, rfl⟩ (ck_ok hck)) rfl hl.1 rfl (Nat.le_of_ble_eq_true rfl) dL_from_4 ⟨Nat.le_of_ble_eq_true rfl, Nat.le_of_ble_eq_true rfl⟩) hw rfl (Nat.le_of_ble_eq_true rfl) (Nat.le_of_ble_eq_true rfl) (fun v2 H locs _ hw => ?_) (fun E9 H locs q ce _ hw hce hcv hcl => ?_)
  · refine W.eq (g2 := F0 m 7 ls [.int v2, .int 0, .ref a2]) rfl ?_
    have hw : w_W G z1.2 r s H locs := hw
    refine lv_i2l (v := Int32.toInt64 v2) hx hb dL_from_7 rfl ?_
    refine gx_last E hw dL_from_8 (fun M3 H locs _ hw => ?_)
    refine lv_goto (tgt := 15) hx hb dL_from_9 (by decide) ?_
    refine lv_iconst (v := 0) hx hb dL_from_15 (by decide) ?_
    exact p_iret E hw hr (Nat.le_of_ble_eq_true rfl) (Nat.le_of_ble_eq_true rfl) rfl dL_from_16
  · refine vxW_ite (fun h9 => ?_) (fun _ => ?_)
    · subst h9
      refine gx_catch (pre := []) (x := (0, 9, 12, 13)) (suf := []) E (htab.trans rfl) (fun _ h => absurd h List.not_mem_nil) rfl (by decide) kL_L_13 kCa_IllegalArgumentException hce hcv hcl ?_
      refine W.eq (g2 := F0 m 12 ls [.ref q]) rfl ?_
      have hw : w_W G z1.2 r s H locs := hw
      refine lv_astore_n (lv' := [(3, .ref q), (0, .ref a0), (1, .int a1), (2, .ref a2)]) hx hb dL_from_12 rfl hl (by decide) rfl (fun ls hl => ?_)
      refine lv_iconst (v := 1) hx hb dL_from_13 (by decide) ?_
      exact p_iret E hw hr (Nat.le_of_ble_eq_true rfl) (Nat.le_of_ble_eq_true rfl) rfl dL_from_14
    exact vxW_none
set_option maxHeartbeats 4000000 in
set_option maxRecDepth 100000 in
theorem t_L_rests (l : Launch) (hfl : l.stackTraces = false) (G : wG) (N : Nat) (a0 : Nat) (a1 : Int32) (a2 : Int32) (a3 : Nat) (M : Mem) (r : Rho) : Ctr l yL_rests (wWsH yL_rests cL_rests 5 (some .int) [(0, 10, 13, 24), (0, 10, 17, 13)]) rm_L_rests rm_L_rests.cells rm_L_rests.slots G [.ref a0, .int a1, .int a2, .ref a3] M r ((f_L_rests N a0 a1 a2 a3 M).map (fun z => (.inl (some (.int z.1)), z.2, r))) := by
  refine Ctr.ofH (own := "CheekTownLaw") (by decide +kernel) hfl rfl (Nat.le_of_ble_eq_true rfl) (fun p e s m args below meth c E htab hr hnm hw ls hl => ?_)
  obtain ⟨hx, hb, hts, hown, hml, hTT, -⟩ := id E
  have hl : lv_has ls 5 [(0, .ref a0), (1, .int a1), (2, .int a2), (3, .ref a3)] := hl
  obtain ⟨H, hH⟩ : ∃ H, H = s.heap := ⟨_, rfl⟩
  obtain ⟨locs, hlo⟩ : ∃ L : List Loc, L = [] := ⟨_, rfl⟩
  rw [← hH, ← hlo]
  rw [← hlo] at hw
  replace hw : w_W G M r s H locs := by rw [hH]; exact hw
  unfold f_L_rests
  refine lv_aload_n hx hb dL_rests_0 rfl (lv_at hl 3 rfl) ?_
  refine lv_iconst (v := 0) hx hb dL_rests_1 (by decide) ?_
  refine lv_aload_n hx hb dL_rests_2 rfl (lv_at hl 0 rfl) ?_
  refine lv_iload_n hx hb dL_rests_3 rfl (lv_at hl 1 rfl) ?_
  refine lv_iload_n hx hb dL_rests_4 rfl (lv_at hl 2 rfl) ?_
  refine W_bind fun _ hck => ?_
  refine W_bind fun z1 hz => ?_
  refine w_afterS (cells1 := 3) (slots1 := 18) (vv := (fun v => some (.int v))) (w_runV E kV_L_83 kc_X11_rests (t_CT_rests l hfl G N a0 a1 a2 M r ((fun z => (z.1.elim (fun v => .inl (some (.int v))) .inr, z.2, r)) z1) (by rw [hz]; rfl)) ⟨Nat.le_of_ble_eq_true rfl, Nat.le_of_ble_eq_true rfl⟩ hw (w_recv E hw (by decide) ⟨_, _, rfl⟩ (ck_ok hck)) rfl hl.1 rfl (Nat.le_of_ble_eq_true rfl) dL_rests_5 ⟨Nat.le_of_ble_eq_true rfl, Nat.le_of_ble_eq_true rfl⟩) hw rfl (Nat.le_of_ble_eq_true rfl) (Nat.le_of_ble_eq_true rfl) (fun v2 H locs _ hw => ?_) (fun E9 H locs q ce _ hw hce hcv hcl => ?_)
  · refine W.eq (g2 := F0 m 8 ls [.int v2, .int 0, .ref a3]) rfl ?_
    have hw : w_W G z1.2 r s H locs := hw
    refine lv_i2l (v := Int32.toInt64 v2) hx hb dL_rests_8 rfl ?_
    refine gx_last E hw dL_rests_9 (fun M3 H locs _ hw => ?_)
    refine lv_goto (tgt := 21) hx hb dL_rests_10 (by decide) ?_
    refine lv_iconst (v := 0) hx hb dL_rests_21 (by decide) ?_
    exact p_iret E hw hr (Nat.le_of_ble_eq_true rfl) (Nat.le_of_ble_eq_true rfl) rfl dL_rests_22
  · refine vxW_ite (fun h9 => ?_) (fun _ => ?_)
    · subst h9
      refine gx_catch (pre := []) (x := (0, 10, 13, 24)) (suf := [(0, 10, 17, 13)]) E (htab.trans rfl) (fun _ h => absurd h List.not_mem_nil) rfl (by decide) kL_L_24 kCa_IndexOutOfBoundsException hce hcv hcl ?_
      refine W.eq (g2 := F0 m 13 ls [.ref q]) rfl ?_
      have hw : w_W G z1.2 r s H locs := hw
      refine lv_astore (lv' := [(4, .ref q), (0, .ref a0), (1, .int a1), (2, .int a2), (3, .ref a3)]) hx hb dL_rests_13 hl (by decide) rfl (fun ls hl => ?_)
      refine lv_iconst (v := 1) hx hb dL_rests_15 (by decide) ?_
      exact p_iret E hw hr (Nat.le_of_ble_eq_true rfl) (Nat.le_of_ble_eq_true rfl) rfl dL_rests_16
    refine vxW_ite (fun h9 => ?_) (fun _ => ?_)
    · subst h9
      refine gx_catch (pre := [(0, 10, 13, 24)]) (x := (0, 10, 17, 13)) (suf := []) E (htab.trans rfl) (List.forall_mem_cons.mpr ⟨⟨by decide, "java/lang/IndexOutOfBoundsException", kL_L_24, by decide⟩, (fun _ h => absurd h List.not_mem_nil)⟩) rfl (by decide) kL_L_13 kCa_IllegalArgumentException hce hcv hcl ?_
      refine W.eq (g2 := F0 m 17 ls [.ref q]) rfl ?_
      have hw : w_W G z1.2 r s H locs := hw
      refine lv_astore (lv' := [(4, .ref q), (0, .ref a0), (1, .int a1), (2, .int a2), (3, .ref a3)]) hx hb dL_rests_17 hl (by decide) rfl (fun ls hl => ?_)
      refine lv_iconst (v := 2) hx hb dL_rests_19 (by decide) ?_
      exact p_iret E hw hr (Nat.le_of_ble_eq_true rfl) (Nat.le_of_ble_eq_true rfl) rfl dL_rests_20
    exact vxW_none
set_option maxHeartbeats 4000000 in
set_option maxRecDepth 100000 in
theorem t_L_sake (l : Launch) (hfl : l.stackTraces = false) (G : wG) (a0 : Nat) (a1 : Int32) (a2 : Int32) (a3 : Int32) (a4 : Nat) (M : Mem) (r : Rho) : Ctr l yL_sake (wWsH yL_sake cL_sake 6 (some .int) [(0, 12, 15, 24), (0, 12, 19, 13)]) rm_L_sake rm_L_sake.cells rm_L_sake.slots G [.ref a0, .int a1, .int a2, .int a3, .ref a4] M r ((f_L_sake a0 a1 a2 a3 a4 M).map (fun z => (.inl (some (.int z.1)), z.2, r))) := by
  refine Ctr.ofH (own := "CheekTownLaw") (by decide +kernel) hfl rfl (Nat.le_of_ble_eq_true rfl) (fun p e s m args below meth c E htab hr hnm hw ls hl => ?_)
  obtain ⟨hx, hb, hts, hown, hml, hTT, -⟩ := id E
  have hl : lv_has ls 6 [(0, .ref a0), (1, .int a1), (2, .int a2), (3, .int a3), (4, .ref a4)] := hl
  obtain ⟨H, hH⟩ : ∃ H, H = s.heap := ⟨_, rfl⟩
  obtain ⟨locs, hlo⟩ : ∃ L : List Loc, L = [] := ⟨_, rfl⟩
  rw [← hH, ← hlo]
  rw [← hlo] at hw
  replace hw : w_W G M r s H locs := by rw [hH]; exact hw
  unfold f_L_sake
  refine lv_aload hx hb dL_sake_0 (lv_at hl 4 rfl) ?_
  refine lv_iconst (v := 0) hx hb dL_sake_2 (by decide) ?_
  refine lv_aload_n hx hb dL_sake_3 rfl (lv_at hl 0 rfl) ?_
  refine lv_iload_n hx hb dL_sake_4 rfl (lv_at hl 1 rfl) ?_
  refine lv_iload_n hx hb dL_sake_5 rfl (lv_at hl 2 rfl) ?_
  refine lv_iload_n hx hb dL_sake_6 rfl (lv_at hl 3 rfl) ?_
  refine W_bind fun _ hck => ?_
  refine W_bind fun z1 hz => ?_
  refine w_afterS (cells1 := 3) (slots1 := 18) (vv := (fun v => some (.int v))) (w_runV E kV_L_86 kc_X11_sake (t_CT_sake l hfl G a0 a1 a2 a3 M r ((fun z => (z.1.elim (fun v => .inl (some (.int v))) .inr, z.2, r)) z1) (by rw [hz]; rfl)) ⟨Nat.le_of_ble_eq_true rfl, Nat.le_of_ble_eq_true rfl⟩ hw (w_recv E hw (by decide) ⟨_, _, rfl⟩ (ck_ok hck)) rfl hl.1 rfl (Nat.le_of_ble_eq_true rfl) dL_sake_7 ⟨Nat.le_of_ble_eq_true rfl, Nat.le_of_ble_eq_true rfl⟩) hw rfl (Nat.le_of_ble_eq_true rfl) (Nat.le_of_ble_eq_true rfl) (fun v2 H locs _ hw => ?_) (fun E9 H locs q ce _ hw hce hcv hcl => ?_)
  · refine W.eq (g2 := F0 m 10 ls [.int v2, .int 0, .ref a4]) rfl ?_
    have hw : w_W G z1.2 r s H locs := hw
    refine lv_i2l (v := Int32.toInt64 v2) hx hb dL_sake_10 rfl ?_
    refine gx_last E hw dL_sake_11 (fun M3 H locs _ hw => ?_)
    refine lv_goto (tgt := 23) hx hb dL_sake_12 (by decide) ?_
    refine lv_iconst (v := 0) hx hb dL_sake_23 (by decide) ?_
    exact p_iret E hw hr (Nat.le_of_ble_eq_true rfl) (Nat.le_of_ble_eq_true rfl) rfl dL_sake_24
  · refine vxW_ite (fun h9 => ?_) (fun _ => ?_)
    · subst h9
      refine gx_catch (pre := []) (x := (0, 12, 15, 24)) (suf := [(0, 12, 19, 13)]) E (htab.trans rfl) (fun _ h => absurd h List.not_mem_nil) rfl (by decide) kL_L_24 kCa_IndexOutOfBoundsException hce hcv hcl ?_
      refine W.eq (g2 := F0 m 15 ls [.ref q]) rfl ?_
      have hw : w_W G z1.2 r s H locs := hw
      refine lv_astore (lv' := [(5, .ref q), (0, .ref a0), (1, .int a1), (2, .int a2), (3, .int a3), (4, .ref a4)]) hx hb dL_sake_15 hl (by decide) rfl (fun ls hl => ?_)
      refine lv_iconst (v := 1) hx hb dL_sake_17 (by decide) ?_
      exact p_iret E hw hr (Nat.le_of_ble_eq_true rfl) (Nat.le_of_ble_eq_true rfl) rfl dL_sake_18
    refine vxW_ite (fun h9 => ?_) (fun _ => ?_)
    · subst h9
      refine gx_catch (pre := [(0, 12, 15, 24)]) (x := (0, 12, 19, 13)) (suf := []) E (htab.trans rfl) (List.forall_mem_cons.mpr ⟨⟨by decide, "java/lang/IndexOutOfBoundsException", kL_L_24, by decide⟩, (fun _ h => absurd h List.not_mem_nil)⟩) rfl (by decide) kL_L_13 kCa_IllegalArgumentException hce hcv hcl ?_
      refine W.eq (g2 := F0 m 19 ls [.ref q]) rfl ?_
      have hw : w_W G z1.2 r s H locs := hw
      refine lv_astore (lv' := [(5, .ref q), (0, .ref a0), (1, .int a1), (2, .int a2), (3, .int a3), (4, .ref a4)]) hx hb dL_sake_19 hl (by decide) rfl (fun ls hl => ?_)
      refine lv_iconst (v := 2) hx hb dL_sake_21 (by decide) ?_
      exact p_iret E hw hr (Nat.le_of_ble_eq_true rfl) (Nat.le_of_ble_eq_true rfl) rfl dL_sake_22
    exact vxW_none
set_option maxHeartbeats 4000000 in
set_option maxRecDepth 100000 in
theorem t_L_begins (l : Launch) (hfl : l.stackTraces = false) (G : wG) (N : Nat) (a0 : Nat) (a1 : Int32) (a2 : Nat) (M : Mem) (r : Rho) : Ctr l yL_begins (wWsH yL_begins cL_begins 4 (some .int) [(0, 9, 12, 13)]) rm_L_begins rm_L_begins.cells rm_L_begins.slots G [.ref a0, .int a1, .ref a2] M r ((f_L_begins N a0 a1 a2 M).map (fun z => (.inl (some (.int z.1)), z.2, r))) := by
  refine Ctr.ofH (own := "CheekTownLaw") (by decide +kernel) hfl rfl (Nat.le_of_ble_eq_true rfl) (fun p e s m args below meth c E htab hr hnm hw ls hl => ?_)
  obtain ⟨hx, hb, hts, hown, hml, hTT, -⟩ := id E
  have hl : lv_has ls 4 [(0, .ref a0), (1, .int a1), (2, .ref a2)] := hl
  obtain ⟨H, hH⟩ : ∃ H, H = s.heap := ⟨_, rfl⟩
  obtain ⟨locs, hlo⟩ : ∃ L : List Loc, L = [] := ⟨_, rfl⟩
  rw [← hH, ← hlo]
  rw [← hlo] at hw
  replace hw : w_W G M r s H locs := by rw [hH]; exact hw
  unfold f_L_begins
  refine lv_aload_n hx hb dL_begins_0 rfl (lv_at hl 2 rfl) ?_
  refine lv_iconst (v := 0) hx hb dL_begins_1 (by decide) ?_
  refine lv_aload_n hx hb dL_begins_2 rfl (lv_at hl 0 rfl) ?_
  refine lv_iload_n hx hb dL_begins_3 rfl (lv_at hl 1 rfl) ?_
  refine W_bind fun _ hck => ?_
  refine W_bind fun z1 hz => ?_
  refine w_afterS (cells1 := 1) (slots1 := 6) (vv := (fun v => some (.int v))) (w_runV E kV_L_89 kc_X11_begins (t_CT_begins l hfl G N a0 a1 M r ((fun z => (z.1.elim (fun v => .inl (some (.int v))) .inr, z.2, r)) z1) (by rw [hz]; rfl)) ⟨Nat.le_of_ble_eq_true rfl, Nat.le_of_ble_eq_true rfl⟩ hw (w_recv E hw (by decide) ⟨_, _, rfl⟩ (ck_ok hck)) rfl hl.1 rfl (Nat.le_of_ble_eq_true rfl) dL_begins_4 ⟨Nat.le_of_ble_eq_true rfl, Nat.le_of_ble_eq_true rfl⟩) hw rfl (Nat.le_of_ble_eq_true rfl) (Nat.le_of_ble_eq_true rfl) (fun v2 H locs _ hw => ?_) (fun E9 H locs q ce _ hw hce hcv hcl => ?_)
  · refine W.eq (g2 := F0 m 7 ls [.int v2, .int 0, .ref a2]) rfl ?_
    have hw : w_W G z1.2 r s H locs := hw
    refine lv_i2l (v := Int32.toInt64 v2) hx hb dL_begins_7 rfl ?_
    refine gx_last E hw dL_begins_8 (fun M3 H locs _ hw => ?_)
    refine lv_goto (tgt := 15) hx hb dL_begins_9 (by decide) ?_
    refine lv_iconst (v := 0) hx hb dL_begins_15 (by decide) ?_
    exact p_iret E hw hr (Nat.le_of_ble_eq_true rfl) (Nat.le_of_ble_eq_true rfl) rfl dL_begins_16
  · refine vxW_ite (fun h9 => ?_) (fun _ => ?_)
    · subst h9
      refine gx_catch (pre := []) (x := (0, 9, 12, 13)) (suf := []) E (htab.trans rfl) (fun _ h => absurd h List.not_mem_nil) rfl (by decide) kL_L_13 kCa_IllegalArgumentException hce hcv hcl ?_
      refine W.eq (g2 := F0 m 12 ls [.ref q]) rfl ?_
      have hw : w_W G z1.2 r s H locs := hw
      refine lv_astore_n (lv' := [(3, .ref q), (0, .ref a0), (1, .int a1), (2, .ref a2)]) hx hb dL_begins_12 rfl hl (by decide) rfl (fun ls hl => ?_)
      refine lv_iconst (v := 1) hx hb dL_begins_13 (by decide) ?_
      exact p_iret E hw hr (Nat.le_of_ble_eq_true rfl) (Nat.le_of_ble_eq_true rfl) rfl dL_begins_14
    exact vxW_none
set_option maxHeartbeats 4000000 in
set_option maxRecDepth 100000 in
theorem t_L_after (l : Launch) (hfl : l.stackTraces = false) (G : wG) (N : Nat) (a0 : Nat) (a1 : Int32) (a2 : Int32) (a3 : Nat) (M : Mem) (r : Rho) : Ctr l yL_after (wWsH yL_after cL_after 5 (some .int) [(0, 10, 13, 13), (0, 10, 17, 32)]) rm_L_after rm_L_after.cells rm_L_after.slots G [.ref a0, .int a1, .int a2, .ref a3] M r ((f_L_after N a0 a1 a2 a3 M).map (fun z => (.inl (some (.int z.1)), z.2, r))) := by
  refine Ctr.ofH (own := "CheekTownLaw") (by decide +kernel) hfl rfl (Nat.le_of_ble_eq_true rfl) (fun p e s m args below meth c E htab hr hnm hw ls hl => ?_)
  obtain ⟨hx, hb, hts, hown, hml, hTT, -⟩ := id E
  have hl : lv_has ls 5 [(0, .ref a0), (1, .int a1), (2, .int a2), (3, .ref a3)] := hl
  obtain ⟨H, hH⟩ : ∃ H, H = s.heap := ⟨_, rfl⟩
  obtain ⟨locs, hlo⟩ : ∃ L : List Loc, L = [] := ⟨_, rfl⟩
  rw [← hH, ← hlo]
  rw [← hlo] at hw
  replace hw : w_W G M r s H locs := by rw [hH]; exact hw
  unfold f_L_after
  refine lv_aload_n hx hb dL_after_0 rfl (lv_at hl 3 rfl) ?_
  refine lv_iconst (v := 0) hx hb dL_after_1 (by decide) ?_
  refine lv_aload_n hx hb dL_after_2 rfl (lv_at hl 0 rfl) ?_
  refine lv_iload_n hx hb dL_after_3 rfl (lv_at hl 1 rfl) ?_
  refine lv_iload_n hx hb dL_after_4 rfl (lv_at hl 2 rfl) ?_
  refine W_bind fun _ hck => ?_
  refine W_bind fun z1 hz => ?_
  refine w_afterS (cells1 := 2) (slots1 := 12) (vv := (fun v => some (.int v))) (w_runV E kV_L_92 kc_X11_after (t_CT_after l hfl G N a0 a1 a2 M r ((fun z => (z.1.elim (fun v => .inl (some (.int v))) .inr, z.2, r)) z1) (by rw [hz]; rfl)) ⟨Nat.le_of_ble_eq_true rfl, Nat.le_of_ble_eq_true rfl⟩ hw (w_recv E hw (by decide) ⟨_, _, rfl⟩ (ck_ok hck)) rfl hl.1 rfl (Nat.le_of_ble_eq_true rfl) dL_after_5 ⟨Nat.le_of_ble_eq_true rfl, Nat.le_of_ble_eq_true rfl⟩) hw rfl (Nat.le_of_ble_eq_true rfl) (Nat.le_of_ble_eq_true rfl) (fun v2 H locs _ hw => ?_) (fun E9 H locs q ce _ hw hce hcv hcl => ?_)
  · refine W.eq (g2 := F0 m 8 ls [.int v2, .int 0, .ref a3]) rfl ?_
    have hw : w_W G z1.2 r s H locs := hw
    refine lv_i2l (v := Int32.toInt64 v2) hx hb dL_after_8 rfl ?_
    refine gx_last E hw dL_after_9 (fun M3 H locs _ hw => ?_)
    refine lv_goto (tgt := 21) hx hb dL_after_10 (by decide) ?_
    refine lv_iconst (v := 0) hx hb dL_after_21 (by decide) ?_
    exact p_iret E hw hr (Nat.le_of_ble_eq_true rfl) (Nat.le_of_ble_eq_true rfl) rfl dL_after_22
  · refine vxW_ite (fun h9 => ?_) (fun _ => ?_)
    · subst h9
      refine gx_catch (pre := []) (x := (0, 10, 13, 13)) (suf := [(0, 10, 17, 32)]) E (htab.trans rfl) (fun _ h => absurd h List.not_mem_nil) rfl (by decide) kL_L_13 kCa_IllegalArgumentException hce hcv hcl ?_
      refine W.eq (g2 := F0 m 13 ls [.ref q]) rfl ?_
      have hw : w_W G z1.2 r s H locs := hw
      refine lv_astore (lv' := [(4, .ref q), (0, .ref a0), (1, .int a1), (2, .int a2), (3, .ref a3)]) hx hb dL_after_13 hl (by decide) rfl (fun ls hl => ?_)
      refine lv_iconst (v := 1) hx hb dL_after_15 (by decide) ?_
      exact p_iret E hw hr (Nat.le_of_ble_eq_true rfl) (Nat.le_of_ble_eq_true rfl) rfl dL_after_16
    refine vxW_ite (fun h9 => ?_) (fun _ => ?_)
    · subst h9
      refine gx_catch (pre := [(0, 10, 13, 13)]) (x := (0, 10, 17, 32)) (suf := []) E (htab.trans rfl) (List.forall_mem_cons.mpr ⟨⟨by decide, "java/lang/IllegalArgumentException", kL_L_13, by decide⟩, (fun _ h => absurd h List.not_mem_nil)⟩) rfl (by decide) kL_L_32 kCa_NoSuchElementException hce hcv hcl ?_
      refine W.eq (g2 := F0 m 17 ls [.ref q]) rfl ?_
      have hw : w_W G z1.2 r s H locs := hw
      refine lv_astore (lv' := [(4, .ref q), (0, .ref a0), (1, .int a1), (2, .int a2), (3, .ref a3)]) hx hb dL_after_17 hl (by decide) rfl (fun ls hl => ?_)
      refine lv_iconst (v := 2) hx hb dL_after_19 (by decide) ?_
      exact p_iret E hw hr (Nat.le_of_ble_eq_true rfl) (Nat.le_of_ble_eq_true rfl) rfl dL_after_20
    exact vxW_none
set_option maxHeartbeats 4000000 in
set_option maxRecDepth 100000 in
theorem t_L_custom (l : Launch) (hfl : l.stackTraces = false) (G : wG) (N : Nat) (a0 : Nat) (a1 : Int32) (a2 : Int32) (a3 : Nat) (M : Mem) (r : Rho) : Ctr l yL_custom (wWsH yL_custom cL_custom 5 (some .int) [(0, 10, 13, 24), (0, 10, 17, 13)]) rm_L_custom rm_L_custom.cells rm_L_custom.slots G [.ref a0, .int a1, .int a2, .ref a3] M r ((f_L_custom N a0 a1 a2 a3 M).map (fun z => (.inl (some (.int z.1)), z.2, r))) := by
  refine Ctr.ofH (own := "CheekTownLaw") (by decide +kernel) hfl rfl (Nat.le_of_ble_eq_true rfl) (fun p e s m args below meth c E htab hr hnm hw ls hl => ?_)
  obtain ⟨hx, hb, hts, hown, hml, hTT, -⟩ := id E
  have hl : lv_has ls 5 [(0, .ref a0), (1, .int a1), (2, .int a2), (3, .ref a3)] := hl
  obtain ⟨H, hH⟩ : ∃ H, H = s.heap := ⟨_, rfl⟩
  obtain ⟨locs, hlo⟩ : ∃ L : List Loc, L = [] := ⟨_, rfl⟩
  rw [← hH, ← hlo]
  rw [← hlo] at hw
  replace hw : w_W G M r s H locs := by rw [hH]; exact hw
  unfold f_L_custom
  refine lv_aload_n hx hb dL_custom_0 rfl (lv_at hl 3 rfl) ?_
  refine lv_iconst (v := 0) hx hb dL_custom_1 (by decide) ?_
  refine lv_aload_n hx hb dL_custom_2 rfl (lv_at hl 0 rfl) ?_
  refine lv_iload_n hx hb dL_custom_3 rfl (lv_at hl 1 rfl) ?_
  refine lv_iload_n hx hb dL_custom_4 rfl (lv_at hl 2 rfl) ?_
  refine W_bind fun _ hck => ?_
  refine W_bind fun z1 hz => ?_
  refine w_afterS (cells1 := 2) (slots1 := 12) (vv := (fun v => some (.int v))) (w_runV E kV_L_95 kc_X11_custom (t_CT_custom l hfl G N a0 a1 a2 M r ((fun z => (z.1.elim (fun v => .inl (some (.int v))) .inr, z.2, r)) z1) (by rw [hz]; rfl)) ⟨Nat.le_of_ble_eq_true rfl, Nat.le_of_ble_eq_true rfl⟩ hw (w_recv E hw (by decide) ⟨_, _, rfl⟩ (ck_ok hck)) rfl hl.1 rfl (Nat.le_of_ble_eq_true rfl) dL_custom_5 ⟨Nat.le_of_ble_eq_true rfl, Nat.le_of_ble_eq_true rfl⟩) hw rfl (Nat.le_of_ble_eq_true rfl) (Nat.le_of_ble_eq_true rfl) (fun v2 H locs _ hw => ?_) (fun E9 H locs q ce _ hw hce hcv hcl => ?_)
  · refine W.eq (g2 := F0 m 8 ls [.int v2, .int 0, .ref a3]) rfl ?_
    have hw : w_W G z1.2 r s H locs := hw
    refine lv_i2l (v := Int32.toInt64 v2) hx hb dL_custom_8 rfl ?_
    refine gx_last E hw dL_custom_9 (fun M3 H locs _ hw => ?_)
    refine lv_goto (tgt := 21) hx hb dL_custom_10 (by decide) ?_
    refine lv_iconst (v := 0) hx hb dL_custom_21 (by decide) ?_
    exact p_iret E hw hr (Nat.le_of_ble_eq_true rfl) (Nat.le_of_ble_eq_true rfl) rfl dL_custom_22
  · refine vxW_ite (fun h9 => ?_) (fun _ => ?_)
    · subst h9
      refine gx_catch (pre := []) (x := (0, 10, 13, 24)) (suf := [(0, 10, 17, 13)]) E (htab.trans rfl) (fun _ h => absurd h List.not_mem_nil) rfl (by decide) kL_L_24 kCa_IndexOutOfBoundsException hce hcv hcl ?_
      refine W.eq (g2 := F0 m 13 ls [.ref q]) rfl ?_
      have hw : w_W G z1.2 r s H locs := hw
      refine lv_astore (lv' := [(4, .ref q), (0, .ref a0), (1, .int a1), (2, .int a2), (3, .ref a3)]) hx hb dL_custom_13 hl (by decide) rfl (fun ls hl => ?_)
      refine lv_iconst (v := 1) hx hb dL_custom_15 (by decide) ?_
      exact p_iret E hw hr (Nat.le_of_ble_eq_true rfl) (Nat.le_of_ble_eq_true rfl) rfl dL_custom_16
    refine vxW_ite (fun h9 => ?_) (fun _ => ?_)
    · subst h9
      refine gx_catch (pre := [(0, 10, 13, 24)]) (x := (0, 10, 17, 13)) (suf := []) E (htab.trans rfl) (List.forall_mem_cons.mpr ⟨⟨by decide, "java/lang/IndexOutOfBoundsException", kL_L_24, by decide⟩, (fun _ h => absurd h List.not_mem_nil)⟩) rfl (by decide) kL_L_13 kCa_IllegalArgumentException hce hcv hcl ?_
      refine W.eq (g2 := F0 m 17 ls [.ref q]) rfl ?_
      have hw : w_W G z1.2 r s H locs := hw
      refine lv_astore (lv' := [(4, .ref q), (0, .ref a0), (1, .int a1), (2, .int a2), (3, .ref a3)]) hx hb dL_custom_17 hl (by decide) rfl (fun ls hl => ?_)
      refine lv_iconst (v := 2) hx hb dL_custom_19 (by decide) ?_
      exact p_iret E hw hr (Nat.le_of_ble_eq_true rfl) (Nat.le_of_ble_eq_true rfl) rfl dL_custom_20
    exact vxW_none
set_option maxHeartbeats 4000000 in
set_option maxRecDepth 100000 in
theorem t_L_told (l : Launch) (hfl : l.stackTraces = false) (G : wG) (N : Nat) (a0 : Nat) (a1 : Int32) (a2 : Int32) (a3 : Nat) (M : Mem) (r : Rho) : Ctr l yL_told (wWsH yL_told cL_told 5 (some .int) [(0, 10, 13, 24), (0, 10, 17, 13)]) rm_L_told rm_L_told.cells rm_L_told.slots G [.ref a0, .int a1, .int a2, .ref a3] M r ((f_L_told N a0 a1 a2 a3 M).map (fun z => (.inl (some (.int z.1)), z.2, r))) := by
  refine Ctr.ofH (own := "CheekTownLaw") (by decide +kernel) hfl rfl (Nat.le_of_ble_eq_true rfl) (fun p e s m args below meth c E htab hr hnm hw ls hl => ?_)
  obtain ⟨hx, hb, hts, hown, hml, hTT, -⟩ := id E
  have hl : lv_has ls 5 [(0, .ref a0), (1, .int a1), (2, .int a2), (3, .ref a3)] := hl
  obtain ⟨H, hH⟩ : ∃ H, H = s.heap := ⟨_, rfl⟩
  obtain ⟨locs, hlo⟩ : ∃ L : List Loc, L = [] := ⟨_, rfl⟩
  rw [← hH, ← hlo]
  rw [← hlo] at hw
  replace hw : w_W G M r s H locs := by rw [hH]; exact hw
  unfold f_L_told
  refine lv_aload_n hx hb dL_told_0 rfl (lv_at hl 3 rfl) ?_
  refine lv_iconst (v := 0) hx hb dL_told_1 (by decide) ?_
  refine lv_aload_n hx hb dL_told_2 rfl (lv_at hl 0 rfl) ?_
  refine lv_iload_n hx hb dL_told_3 rfl (lv_at hl 1 rfl) ?_
  refine lv_iload_n hx hb dL_told_4 rfl (lv_at hl 2 rfl) ?_
  refine W_bind fun _ hck => ?_
  refine W_bind fun z1 hz => ?_
  refine w_afterS (cells1 := 2) (slots1 := 12) (vv := (fun v => some (.int v))) (w_runV E kV_L_98 kc_X11_told (t_CT_told l hfl G N a0 a1 a2 M r ((fun z => (z.1.elim (fun v => .inl (some (.int v))) .inr, z.2, r)) z1) (by rw [hz]; rfl)) ⟨Nat.le_of_ble_eq_true rfl, Nat.le_of_ble_eq_true rfl⟩ hw (w_recv E hw (by decide) ⟨_, _, rfl⟩ (ck_ok hck)) rfl hl.1 rfl (Nat.le_of_ble_eq_true rfl) dL_told_5 ⟨Nat.le_of_ble_eq_true rfl, Nat.le_of_ble_eq_true rfl⟩) hw rfl (Nat.le_of_ble_eq_true rfl) (Nat.le_of_ble_eq_true rfl) (fun v2 H locs _ hw => ?_) (fun E9 H locs q ce _ hw hce hcv hcl => ?_)
  · refine W.eq (g2 := F0 m 8 ls [.int v2, .int 0, .ref a3]) rfl ?_
    have hw : w_W G z1.2 r s H locs := hw
    refine lv_i2l (v := Int32.toInt64 v2) hx hb dL_told_8 rfl ?_
    refine gx_last E hw dL_told_9 (fun M3 H locs _ hw => ?_)
    refine lv_goto (tgt := 21) hx hb dL_told_10 (by decide) ?_
    refine lv_iconst (v := 0) hx hb dL_told_21 (by decide) ?_
    exact p_iret E hw hr (Nat.le_of_ble_eq_true rfl) (Nat.le_of_ble_eq_true rfl) rfl dL_told_22
  · refine vxW_ite (fun h9 => ?_) (fun _ => ?_)
    · subst h9
      refine gx_catch (pre := []) (x := (0, 10, 13, 24)) (suf := [(0, 10, 17, 13)]) E (htab.trans rfl) (fun _ h => absurd h List.not_mem_nil) rfl (by decide) kL_L_24 kCa_IndexOutOfBoundsException hce hcv hcl ?_
      refine W.eq (g2 := F0 m 13 ls [.ref q]) rfl ?_
      have hw : w_W G z1.2 r s H locs := hw
      refine lv_astore (lv' := [(4, .ref q), (0, .ref a0), (1, .int a1), (2, .int a2), (3, .ref a3)]) hx hb dL_told_13 hl (by decide) rfl (fun ls hl => ?_)
      refine lv_iconst (v := 1) hx hb dL_told_15 (by decide) ?_
      exact p_iret E hw hr (Nat.le_of_ble_eq_true rfl) (Nat.le_of_ble_eq_true rfl) rfl dL_told_16
    refine vxW_ite (fun h9 => ?_) (fun _ => ?_)
    · subst h9
      refine gx_catch (pre := [(0, 10, 13, 24)]) (x := (0, 10, 17, 13)) (suf := []) E (htab.trans rfl) (List.forall_mem_cons.mpr ⟨⟨by decide, "java/lang/IndexOutOfBoundsException", kL_L_24, by decide⟩, (fun _ h => absurd h List.not_mem_nil)⟩) rfl (by decide) kL_L_13 kCa_IllegalArgumentException hce hcv hcl ?_
      refine W.eq (g2 := F0 m 17 ls [.ref q]) rfl ?_
      have hw : w_W G z1.2 r s H locs := hw
      refine lv_astore (lv' := [(4, .ref q), (0, .ref a0), (1, .int a1), (2, .int a2), (3, .ref a3)]) hx hb dL_told_17 hl (by decide) rfl (fun ls hl => ?_)
      refine lv_iconst (v := 2) hx hb dL_told_19 (by decide) ?_
      exact p_iret E hw hr (Nat.le_of_ble_eq_true rfl) (Nat.le_of_ble_eq_true rfl) rfl dL_told_20
    exact vxW_none
set_option maxHeartbeats 4000000 in
set_option maxRecDepth 100000 in
theorem t_L_colds (l : Launch) (hfl : l.stackTraces = false) (G : wG) (N : Nat) (a0 : Nat) (a1 : Int32) (a2 : Int32) (a3 : Nat) (M : Mem) (r : Rho) : Ctr l yL_colds (wWsH yL_colds cL_colds 5 (some .int) [(0, 10, 13, 13)]) rm_L_colds rm_L_colds.cells rm_L_colds.slots G [.ref a0, .int a1, .int a2, .ref a3] M r ((f_L_colds N a0 a1 a2 a3 M).map (fun z => (.inl (some (.int z.1)), z.2, r))) := by
  refine Ctr.ofH (own := "CheekTownLaw") (by decide +kernel) hfl rfl (Nat.le_of_ble_eq_true rfl) (fun p e s m args below meth c E htab hr hnm hw ls hl => ?_)
  obtain ⟨hx, hb, hts, hown, hml, hTT, -⟩ := id E
  have hl : lv_has ls 5 [(0, .ref a0), (1, .int a1), (2, .int a2), (3, .ref a3)] := hl
  obtain ⟨H, hH⟩ : ∃ H, H = s.heap := ⟨_, rfl⟩
  obtain ⟨locs, hlo⟩ : ∃ L : List Loc, L = [] := ⟨_, rfl⟩
  rw [← hH, ← hlo]
  rw [← hlo] at hw
  replace hw : w_W G M r s H locs := by rw [hH]; exact hw
  unfold f_L_colds
  refine lv_aload_n hx hb dL_colds_0 rfl (lv_at hl 3 rfl) ?_
  refine lv_iconst (v := 0) hx hb dL_colds_1 (by decide) ?_
  refine lv_aload_n hx hb dL_colds_2 rfl (lv_at hl 0 rfl) ?_
  refine lv_iload_n hx hb dL_colds_3 rfl (lv_at hl 1 rfl) ?_
  refine lv_iload_n hx hb dL_colds_4 rfl (lv_at hl 2 rfl) ?_
  refine W_bind fun _ hck => ?_
  refine W_bind fun z1 hz => ?_
  refine w_afterS (cells1 := 1) (slots1 := 6) (vv := (fun v => some (.int v))) (w_runV E kV_L_101 kc_X11_colds (t_CT_colds l hfl G N a0 a1 a2 M r ((fun z => (z.1.elim (fun v => .inl (some (.int v))) .inr, z.2, r)) z1) (by rw [hz]; rfl)) ⟨Nat.le_of_ble_eq_true rfl, Nat.le_of_ble_eq_true rfl⟩ hw (w_recv E hw (by decide) ⟨_, _, rfl⟩ (ck_ok hck)) rfl hl.1 rfl (Nat.le_of_ble_eq_true rfl) dL_colds_5 ⟨Nat.le_of_ble_eq_true rfl, Nat.le_of_ble_eq_true rfl⟩) hw rfl (Nat.le_of_ble_eq_true rfl) (Nat.le_of_ble_eq_true rfl) (fun v2 H locs _ hw => ?_) (fun E9 H locs q ce _ hw hce hcv hcl => ?_)
  · refine W.eq (g2 := F0 m 8 ls [.int v2, .int 0, .ref a3]) rfl ?_
    have hw : w_W G z1.2 r s H locs := hw
    refine lv_i2l (v := Int32.toInt64 v2) hx hb dL_colds_8 rfl ?_
    refine gx_last E hw dL_colds_9 (fun M3 H locs _ hw => ?_)
    refine lv_goto (tgt := 17) hx hb dL_colds_10 (by decide) ?_
    refine lv_iconst (v := 0) hx hb dL_colds_17 (by decide) ?_
    exact p_iret E hw hr (Nat.le_of_ble_eq_true rfl) (Nat.le_of_ble_eq_true rfl) rfl dL_colds_18
  · refine vxW_ite (fun h9 => ?_) (fun _ => ?_)
    · subst h9
      refine gx_catch (pre := []) (x := (0, 10, 13, 13)) (suf := []) E (htab.trans rfl) (fun _ h => absurd h List.not_mem_nil) rfl (by decide) kL_L_13 kCa_IllegalArgumentException hce hcv hcl ?_
      refine W.eq (g2 := F0 m 13 ls [.ref q]) rfl ?_
      have hw : w_W G z1.2 r s H locs := hw
      refine lv_astore (lv' := [(4, .ref q), (0, .ref a0), (1, .int a1), (2, .int a2), (3, .ref a3)]) hx hb dL_colds_13 hl (by decide) rfl (fun ls hl => ?_)
      refine lv_iconst (v := 1) hx hb dL_colds_15 (by decide) ?_
      exact p_iret E hw hr (Nat.le_of_ble_eq_true rfl) (Nat.le_of_ble_eq_true rfl) rfl dL_colds_16
    exact vxW_none
set_option maxHeartbeats 4000000 in
set_option maxRecDepth 100000 in
theorem t_L_spared (l : Launch) (hfl : l.stackTraces = false) (G : wG) (N : Nat) (a0 : Nat) (a1 : Int32) (a2 : Int32) (a3 : Nat) (M : Mem) (r : Rho) : Ctr l yL_spared (wWsH yL_spared cL_spared 5 (some .int) [(0, 10, 13, 24), (0, 10, 17, 13)]) rm_L_spared rm_L_spared.cells rm_L_spared.slots G [.ref a0, .int a1, .int a2, .ref a3] M r ((f_L_spared N a0 a1 a2 a3 M).map (fun z => (.inl (some (.int z.1)), z.2, r))) := by
  refine Ctr.ofH (own := "CheekTownLaw") (by decide +kernel) hfl rfl (Nat.le_of_ble_eq_true rfl) (fun p e s m args below meth c E htab hr hnm hw ls hl => ?_)
  obtain ⟨hx, hb, hts, hown, hml, hTT, -⟩ := id E
  have hl : lv_has ls 5 [(0, .ref a0), (1, .int a1), (2, .int a2), (3, .ref a3)] := hl
  obtain ⟨H, hH⟩ : ∃ H, H = s.heap := ⟨_, rfl⟩
  obtain ⟨locs, hlo⟩ : ∃ L : List Loc, L = [] := ⟨_, rfl⟩
  rw [← hH, ← hlo]
  rw [← hlo] at hw
  replace hw : w_W G M r s H locs := by rw [hH]; exact hw
  unfold f_L_spared
  refine lv_aload_n hx hb dL_spared_0 rfl (lv_at hl 3 rfl) ?_
  refine lv_iconst (v := 0) hx hb dL_spared_1 (by decide) ?_
  refine lv_aload_n hx hb dL_spared_2 rfl (lv_at hl 0 rfl) ?_
  refine lv_iload_n hx hb dL_spared_3 rfl (lv_at hl 1 rfl) ?_
  refine lv_iload_n hx hb dL_spared_4 rfl (lv_at hl 2 rfl) ?_
  refine W_bind fun _ hck => ?_
  refine W_bind fun z1 hz => ?_
  refine w_afterS (cells1 := 2) (slots1 := 12) (vv := (fun v => some (.int v))) (w_runV E kV_L_104 kc_X11_spared (t_CT_spared l hfl G N a0 a1 a2 M r ((fun z => (z.1.elim (fun v => .inl (some (.int v))) .inr, z.2, r)) z1) (by rw [hz]; rfl)) ⟨Nat.le_of_ble_eq_true rfl, Nat.le_of_ble_eq_true rfl⟩ hw (w_recv E hw (by decide) ⟨_, _, rfl⟩ (ck_ok hck)) rfl hl.1 rfl (Nat.le_of_ble_eq_true rfl) dL_spared_5 ⟨Nat.le_of_ble_eq_true rfl, Nat.le_of_ble_eq_true rfl⟩) hw rfl (Nat.le_of_ble_eq_true rfl) (Nat.le_of_ble_eq_true rfl) (fun v2 H locs _ hw => ?_) (fun E9 H locs q ce _ hw hce hcv hcl => ?_)
  · refine W.eq (g2 := F0 m 8 ls [.int v2, .int 0, .ref a3]) rfl ?_
    have hw : w_W G z1.2 r s H locs := hw
    refine lv_i2l (v := Int32.toInt64 v2) hx hb dL_spared_8 rfl ?_
    refine gx_last E hw dL_spared_9 (fun M3 H locs _ hw => ?_)
    refine lv_goto (tgt := 21) hx hb dL_spared_10 (by decide) ?_
    refine lv_iconst (v := 0) hx hb dL_spared_21 (by decide) ?_
    exact p_iret E hw hr (Nat.le_of_ble_eq_true rfl) (Nat.le_of_ble_eq_true rfl) rfl dL_spared_22
  · refine vxW_ite (fun h9 => ?_) (fun _ => ?_)
    · subst h9
      refine gx_catch (pre := []) (x := (0, 10, 13, 24)) (suf := [(0, 10, 17, 13)]) E (htab.trans rfl) (fun _ h => absurd h List.not_mem_nil) rfl (by decide) kL_L_24 kCa_IndexOutOfBoundsException hce hcv hcl ?_
      refine W.eq (g2 := F0 m 13 ls [.ref q]) rfl ?_
      have hw : w_W G z1.2 r s H locs := hw
      refine lv_astore (lv' := [(4, .ref q), (0, .ref a0), (1, .int a1), (2, .int a2), (3, .ref a3)]) hx hb dL_spared_13 hl (by decide) rfl (fun ls hl => ?_)
      refine lv_iconst (v := 1) hx hb dL_spared_15 (by decide) ?_
      exact p_iret E hw hr (Nat.le_of_ble_eq_true rfl) (Nat.le_of_ble_eq_true rfl) rfl dL_spared_16
    refine vxW_ite (fun h9 => ?_) (fun _ => ?_)
    · subst h9
      refine gx_catch (pre := [(0, 10, 13, 24)]) (x := (0, 10, 17, 13)) (suf := []) E (htab.trans rfl) (List.forall_mem_cons.mpr ⟨⟨by decide, "java/lang/IndexOutOfBoundsException", kL_L_24, by decide⟩, (fun _ h => absurd h List.not_mem_nil)⟩) rfl (by decide) kL_L_13 kCa_IllegalArgumentException hce hcv hcl ?_
      refine W.eq (g2 := F0 m 17 ls [.ref q]) rfl ?_
      have hw : w_W G z1.2 r s H locs := hw
      refine lv_astore (lv' := [(4, .ref q), (0, .ref a0), (1, .int a1), (2, .int a2), (3, .ref a3)]) hx hb dL_spared_17 hl (by decide) rfl (fun ls hl => ?_)
      refine lv_iconst (v := 2) hx hb dL_spared_19 (by decide) ?_
      exact p_iret E hw hr (Nat.le_of_ble_eq_true rfl) (Nat.le_of_ble_eq_true rfl) rfl dL_spared_20
    exact vxW_none
set_option maxHeartbeats 4000000 in
set_option maxRecDepth 100000 in
theorem t_L_trial (l : Launch) (hfl : l.stackTraces = false) (G : wG) (N : Nat) (a0 : Nat) (a1 : Int32) (a2 : Int32) (a3 : Nat) (M : Mem) (r : Rho) : Ctr l yL_trial (wWsH yL_trial cL_trial 5 (some .int) [(0, 10, 13, 13), (0, 10, 17, 32)]) rm_L_trial rm_L_trial.cells rm_L_trial.slots G [.ref a0, .int a1, .int a2, .ref a3] M r ((f_L_trial N a0 a1 a2 a3 M).map (fun z => (.inl (some (.int z.1)), z.2, r))) := by
  refine Ctr.ofH (own := "CheekTownLaw") (by decide +kernel) hfl rfl (Nat.le_of_ble_eq_true rfl) (fun p e s m args below meth c E htab hr hnm hw ls hl => ?_)
  obtain ⟨hx, hb, hts, hown, hml, hTT, -⟩ := id E
  have hl : lv_has ls 5 [(0, .ref a0), (1, .int a1), (2, .int a2), (3, .ref a3)] := hl
  obtain ⟨H, hH⟩ : ∃ H, H = s.heap := ⟨_, rfl⟩
  obtain ⟨locs, hlo⟩ : ∃ L : List Loc, L = [] := ⟨_, rfl⟩
  rw [← hH, ← hlo]
  rw [← hlo] at hw
  replace hw : w_W G M r s H locs := by rw [hH]; exact hw
  unfold f_L_trial
  refine lv_aload_n hx hb dL_trial_0 rfl (lv_at hl 3 rfl) ?_
  refine lv_iconst (v := 0) hx hb dL_trial_1 (by decide) ?_
  refine lv_aload_n hx hb dL_trial_2 rfl (lv_at hl 0 rfl) ?_
  refine lv_iload_n hx hb dL_trial_3 rfl (lv_at hl 1 rfl) ?_
  refine lv_iload_n hx hb dL_trial_4 rfl (lv_at hl 2 rfl) ?_
  refine W_bind fun _ hck => ?_
  refine W_bind fun z1 hz => ?_
  refine w_afterS (cells1 := 2) (slots1 := 12) (vv := (fun v => some (.int v))) (w_runV E kV_L_107 kc_X11_trial (t_CT_trial l hfl G N a0 a1 a2 M r ((fun z => (z.1.elim (fun v => .inl (some (.int v))) .inr, z.2, r)) z1) (by rw [hz]; rfl)) ⟨Nat.le_of_ble_eq_true rfl, Nat.le_of_ble_eq_true rfl⟩ hw (w_recv E hw (by decide) ⟨_, _, rfl⟩ (ck_ok hck)) rfl hl.1 rfl (Nat.le_of_ble_eq_true rfl) dL_trial_5 ⟨Nat.le_of_ble_eq_true rfl, Nat.le_of_ble_eq_true rfl⟩) hw rfl (Nat.le_of_ble_eq_true rfl) (Nat.le_of_ble_eq_true rfl) (fun v2 H locs _ hw => ?_) (fun E9 H locs q ce _ hw hce hcv hcl => ?_)
  · refine W.eq (g2 := F0 m 8 ls [.int v2, .int 0, .ref a3]) rfl ?_
    have hw : w_W G z1.2 r s H locs := hw
    refine lv_i2l (v := Int32.toInt64 v2) hx hb dL_trial_8 rfl ?_
    refine gx_last E hw dL_trial_9 (fun M3 H locs _ hw => ?_)
    refine lv_goto (tgt := 21) hx hb dL_trial_10 (by decide) ?_
    refine lv_iconst (v := 0) hx hb dL_trial_21 (by decide) ?_
    exact p_iret E hw hr (Nat.le_of_ble_eq_true rfl) (Nat.le_of_ble_eq_true rfl) rfl dL_trial_22
  · refine vxW_ite (fun h9 => ?_) (fun _ => ?_)
    · subst h9
      refine gx_catch (pre := []) (x := (0, 10, 13, 13)) (suf := [(0, 10, 17, 32)]) E (htab.trans rfl) (fun _ h => absurd h List.not_mem_nil) rfl (by decide) kL_L_13 kCa_IllegalArgumentException hce hcv hcl ?_
      refine W.eq (g2 := F0 m 13 ls [.ref q]) rfl ?_
      have hw : w_W G z1.2 r s H locs := hw
      refine lv_astore (lv' := [(4, .ref q), (0, .ref a0), (1, .int a1), (2, .int a2), (3, .ref a3)]) hx hb dL_trial_13 hl (by decide) rfl (fun ls hl => ?_)
      refine lv_iconst (v := 1) hx hb dL_trial_15 (by decide) ?_
      exact p_iret E hw hr (Nat.le_of_ble_eq_true rfl) (Nat.le_of_ble_eq_true rfl) rfl dL_trial_16
    refine vxW_ite (fun h9 => ?_) (fun _ => ?_)
    · subst h9
      refine gx_catch (pre := [(0, 10, 13, 13)]) (x := (0, 10, 17, 32)) (suf := []) E (htab.trans rfl) (List.forall_mem_cons.mpr ⟨⟨by decide, "java/lang/IllegalArgumentException", kL_L_13, by decide⟩, (fun _ h => absurd h List.not_mem_nil)⟩) rfl (by decide) kL_L_32 kCa_NoSuchElementException hce hcv hcl ?_
      refine W.eq (g2 := F0 m 17 ls [.ref q]) rfl ?_
      have hw : w_W G z1.2 r s H locs := hw
      refine lv_astore (lv' := [(4, .ref q), (0, .ref a0), (1, .int a1), (2, .int a2), (3, .ref a3)]) hx hb dL_trial_17 hl (by decide) rfl (fun ls hl => ?_)
      refine lv_iconst (v := 2) hx hb dL_trial_19 (by decide) ?_
      exact p_iret E hw hr (Nat.le_of_ble_eq_true rfl) (Nat.le_of_ble_eq_true rfl) rfl dL_trial_20
    exact vxW_none
set_option maxHeartbeats 4000000 in
set_option maxRecDepth 100000 in
theorem t_L_span (l : Launch) (hfl : l.stackTraces = false) (G : wG) (N : Nat) (a0 : Nat) (a1 : Int32) (a2 : Int32) (a3 : Nat) (M : Mem) (r : Rho) : Ctr l yL_span (wWsH yL_span cL_span 5 (some .int) [(0, 10, 13, 13)]) rm_L_span rm_L_span.cells rm_L_span.slots G [.ref a0, .int a1, .int a2, .ref a3] M r ((f_L_span N a0 a1 a2 a3 M).map (fun z => (.inl (some (.int z.1)), z.2, r))) := by
  refine Ctr.ofH (own := "CheekTownLaw") (by decide +kernel) hfl rfl (Nat.le_of_ble_eq_true rfl) (fun p e s m args below meth c E htab hr hnm hw ls hl => ?_)
  obtain ⟨hx, hb, hts, hown, hml, hTT, -⟩ := id E
  have hl : lv_has ls 5 [(0, .ref a0), (1, .int a1), (2, .int a2), (3, .ref a3)] := hl
  obtain ⟨H, hH⟩ : ∃ H, H = s.heap := ⟨_, rfl⟩
  obtain ⟨locs, hlo⟩ : ∃ L : List Loc, L = [] := ⟨_, rfl⟩
  rw [← hH, ← hlo]
  rw [← hlo] at hw
  replace hw : w_W G M r s H locs := by rw [hH]; exact hw
  unfold f_L_span
  refine lv_aload_n hx hb dL_span_0 rfl (lv_at hl 3 rfl) ?_
  refine lv_iconst (v := 0) hx hb dL_span_1 (by decide) ?_
  refine lv_aload_n hx hb dL_span_2 rfl (lv_at hl 0 rfl) ?_
  refine lv_iload_n hx hb dL_span_3 rfl (lv_at hl 1 rfl) ?_
  refine lv_iload_n hx hb dL_span_4 rfl (lv_at hl 2 rfl) ?_
  refine W_bind fun _ hck => ?_
  refine W_bind fun z1 hz => ?_
  refine w_afterS (cells1 := 1) (slots1 := 6) (vv := (fun v => some (.int v))) (w_runV E kV_L_110 kc_X11_span (t_CT_span l hfl G N a0 a1 a2 M r ((fun z => (z.1.elim (fun v => .inl (some (.int v))) .inr, z.2, r)) z1) (by rw [hz]; rfl)) ⟨Nat.le_of_ble_eq_true rfl, Nat.le_of_ble_eq_true rfl⟩ hw (w_recv E hw (by decide) ⟨_, _, rfl⟩ (ck_ok hck)) rfl hl.1 rfl (Nat.le_of_ble_eq_true rfl) dL_span_5 ⟨Nat.le_of_ble_eq_true rfl, Nat.le_of_ble_eq_true rfl⟩) hw rfl (Nat.le_of_ble_eq_true rfl) (Nat.le_of_ble_eq_true rfl) (fun v2 H locs _ hw => ?_) (fun E9 H locs q ce _ hw hce hcv hcl => ?_)
  · refine W.eq (g2 := F0 m 8 ls [.int v2, .int 0, .ref a3]) rfl ?_
    have hw : w_W G z1.2 r s H locs := hw
    refine lv_i2l (v := Int32.toInt64 v2) hx hb dL_span_8 rfl ?_
    refine gx_last E hw dL_span_9 (fun M3 H locs _ hw => ?_)
    refine lv_goto (tgt := 17) hx hb dL_span_10 (by decide) ?_
    refine lv_iconst (v := 0) hx hb dL_span_17 (by decide) ?_
    exact p_iret E hw hr (Nat.le_of_ble_eq_true rfl) (Nat.le_of_ble_eq_true rfl) rfl dL_span_18
  · refine vxW_ite (fun h9 => ?_) (fun _ => ?_)
    · subst h9
      refine gx_catch (pre := []) (x := (0, 10, 13, 13)) (suf := []) E (htab.trans rfl) (fun _ h => absurd h List.not_mem_nil) rfl (by decide) kL_L_13 kCa_IllegalArgumentException hce hcv hcl ?_
      refine W.eq (g2 := F0 m 13 ls [.ref q]) rfl ?_
      have hw : w_W G z1.2 r s H locs := hw
      refine lv_astore (lv' := [(4, .ref q), (0, .ref a0), (1, .int a1), (2, .int a2), (3, .ref a3)]) hx hb dL_span_13 hl (by decide) rfl (fun ls hl => ?_)
      refine lv_iconst (v := 1) hx hb dL_span_15 (by decide) ?_
      exact p_iret E hw hr (Nat.le_of_ble_eq_true rfl) (Nat.le_of_ble_eq_true rfl) rfl dL_span_16
    exact vxW_none
set_option maxHeartbeats 4000000 in
set_option maxRecDepth 100000 in
theorem t_L_log (l : Launch) (hfl : l.stackTraces = false) (G : wG) (a0 : Nat) (a1 : Int32) (a2 : Int32) (a3 : Nat) (M : Mem) (r : Rho) : Ctr l yL_log (wWsH yL_log cL_log 5 (some .int) [(0, 10, 13, 32)]) rm_L_log rm_L_log.cells rm_L_log.slots G [.ref a0, .int a1, .int a2, .ref a3] M r ((f_L_log a0 a1 a2 a3 M).map (fun z => (.inl (some (.int z.1)), z.2, r))) := by
  refine Ctr.ofH (own := "CheekTownLaw") (by decide +kernel) hfl rfl (Nat.le_of_ble_eq_true rfl) (fun p e s m args below meth c E htab hr hnm hw ls hl => ?_)
  obtain ⟨hx, hb, hts, hown, hml, hTT, -⟩ := id E
  have hl : lv_has ls 5 [(0, .ref a0), (1, .int a1), (2, .int a2), (3, .ref a3)] := hl
  obtain ⟨H, hH⟩ : ∃ H, H = s.heap := ⟨_, rfl⟩
  obtain ⟨locs, hlo⟩ : ∃ L : List Loc, L = [] := ⟨_, rfl⟩
  rw [← hH, ← hlo]
  rw [← hlo] at hw
  replace hw : w_W G M r s H locs := by rw [hH]; exact hw
  unfold f_L_log
  refine lv_aload_n hx hb dL_log_0 rfl (lv_at hl 3 rfl) ?_
  refine lv_iconst (v := 0) hx hb dL_log_1 (by decide) ?_
  refine lv_aload_n hx hb dL_log_2 rfl (lv_at hl 0 rfl) ?_
  refine lv_iload_n hx hb dL_log_3 rfl (lv_at hl 1 rfl) ?_
  refine lv_iload_n hx hb dL_log_4 rfl (lv_at hl 2 rfl) ?_
  refine W_bind fun _ hck => ?_
  refine W_bind fun z1 hz => ?_
  refine w_afterS (cells1 := 1) (slots1 := 6) (vv := (fun v => some (.int v))) (w_runV E kV_L_113 kc_X11_log (t_CT_log l hfl G a0 a1 a2 M r ((fun z => (z.1.elim (fun v => .inl (some (.int v))) .inr, z.2, r)) z1) (by rw [hz]; rfl)) ⟨Nat.le_of_ble_eq_true rfl, Nat.le_of_ble_eq_true rfl⟩ hw (w_recv E hw (by decide) ⟨_, _, rfl⟩ (ck_ok hck)) rfl hl.1 rfl (Nat.le_of_ble_eq_true rfl) dL_log_5 ⟨Nat.le_of_ble_eq_true rfl, Nat.le_of_ble_eq_true rfl⟩) hw rfl (Nat.le_of_ble_eq_true rfl) (Nat.le_of_ble_eq_true rfl) (fun v2 H locs _ hw => ?_) (fun E9 H locs q ce _ hw hce hcv hcl => ?_)
  · refine W.eq (g2 := F0 m 8 ls [.int v2, .int 0, .ref a3]) rfl ?_
    have hw : w_W G z1.2 r s H locs := hw
    refine lv_i2l (v := Int32.toInt64 v2) hx hb dL_log_8 rfl ?_
    refine gx_last E hw dL_log_9 (fun M3 H locs _ hw => ?_)
    refine lv_goto (tgt := 17) hx hb dL_log_10 (by decide) ?_
    refine lv_iconst (v := 0) hx hb dL_log_17 (by decide) ?_
    exact p_iret E hw hr (Nat.le_of_ble_eq_true rfl) (Nat.le_of_ble_eq_true rfl) rfl dL_log_18
  · refine vxW_ite (fun h9 => ?_) (fun _ => ?_)
    · subst h9
      refine gx_catch (pre := []) (x := (0, 10, 13, 32)) (suf := []) E (htab.trans rfl) (fun _ h => absurd h List.not_mem_nil) rfl (by decide) kL_L_32 kCa_NoSuchElementException hce hcv hcl ?_
      refine W.eq (g2 := F0 m 13 ls [.ref q]) rfl ?_
      have hw : w_W G z1.2 r s H locs := hw
      refine lv_astore (lv' := [(4, .ref q), (0, .ref a0), (1, .int a1), (2, .int a2), (3, .ref a3)]) hx hb dL_log_13 hl (by decide) rfl (fun ls hl => ?_)
      refine lv_iconst (v := 1) hx hb dL_log_15 (by decide) ?_
      exact p_iret E hw hr (Nat.le_of_ble_eq_true rfl) (Nat.le_of_ble_eq_true rfl) rfl dL_log_16
    exact vxW_none

