theorem dX7_nextArrival_22 : decode cX7_nextArrival 22 = .ok (.istore_n 3, 1) := by decide +kernel
theorem dX7_nextArrival_23 : decode cX7_nextArrival 23 = .ok (.iload_n 3, 1) := by decide +kernel
theorem dX7_nextArrival_24 : decode cX7_nextArrival 24 = .ok (.iconst (-1), 1) := by decide +kernel
theorem dX7_nextArrival_25 : decode cX7_nextArrival 25 = .ok (.if_icmp .ne 7, 3) := by decide +kernel
theorem dX7_nextArrival_28 : decode cX7_nextArrival 28 = .ok (.iconst (-1), 1) := by decide +kernel
theorem dX7_nextArrival_29 : decode cX7_nextArrival 29 = .ok (.goto 23, 3) := by decide +kernel
theorem dX7_nextArrival_32 : decode cX7_nextArrival 32 = .ok (.aload_n 0, 1) := by decide +kernel
theorem dX7_nextArrival_33 : decode cX7_nextArrival 33 = .ok (.getfield 12, 3) := by decide +kernel
theorem dX7_nextArrival_36 : decode cX7_nextArrival 36 = .ok (.getfield 173, 3) := by decide +kernel
theorem dX7_nextArrival_39 : decode cX7_nextArrival 39 = .ok (.getfield 182, 3) := by decide +kernel
theorem dX7_nextArrival_42 : decode cX7_nextArrival 42 = .ok (.iload_n 3, 1) := by decide +kernel
theorem dX7_nextArrival_43 : decode cX7_nextArrival 43 = .ok (.iaload, 1) := by decide +kernel
theorem dX7_nextArrival_44 : decode cX7_nextArrival 44 = .ok (.aload_n 0, 1) := by decide +kernel
theorem dX7_nextArrival_45 : decode cX7_nextArrival 45 = .ok (.getfield 12, 3) := by decide +kernel
theorem dX7_nextArrival_48 : decode cX7_nextArrival 48 = .ok (.getfield 133, 3) := by decide +kernel
theorem dX7_nextArrival_51 : decode cX7_nextArrival 51 = .ok (.isub, 1) := by decide +kernel
theorem dX7_nextArrival_52 : decode cX7_nextArrival 52 = .ok (.ireturn, 1) := by decide +kernel
theorem dX7_dueCount_0 : decode cX7_dueCount 0 = .ok (.aload_n 0, 1) := by decide +kernel
theorem dX7_dueCount_1 : decode cX7_dueCount 1 = .ok (.getfield 12, 3) := by decide +kernel
theorem dX7_dueCount_4 : decode cX7_dueCount 4 = .ok (.getfield 173, 3) := by decide +kernel
theorem dX7_dueCount_7 : decode cX7_dueCount 7 = .ok (.getfield 184, 3) := by decide +kernel
theorem dX7_dueCount_10 : decode cX7_dueCount 10 = .ok (.ireturn, 1) := by decide +kernel
theorem dX7_dueDay_0 : decode cX7_dueDay 0 = .ok (.aload_n 0, 1) := by decide +kernel
theorem dX7_dueDay_1 : decode cX7_dueDay 1 = .ok (.iload_n 1, 1) := by decide +kernel
theorem dX7_dueDay_2 : decode cX7_dueDay 2 = .ok (.invokevirtual 187, 3) := by decide +kernel
theorem dX7_dueDay_5 : decode cX7_dueDay 5 = .ok (.aload_n 0, 1) := by decide +kernel
theorem dX7_dueDay_6 : decode cX7_dueDay 6 = .ok (.getfield 12, 3) := by decide +kernel
theorem dX7_dueDay_9 : decode cX7_dueDay 9 = .ok (.getfield 173, 3) := by decide +kernel
theorem dX7_dueDay_12 : decode cX7_dueDay 12 = .ok (.getfield 182, 3) := by decide +kernel
theorem dX7_dueDay_15 : decode cX7_dueDay 15 = .ok (.iload_n 1, 1) := by decide +kernel
theorem dX7_dueDay_16 : decode cX7_dueDay 16 = .ok (.iaload, 1) := by decide +kernel
theorem dX7_dueDay_17 : decode cX7_dueDay 17 = .ok (.ireturn, 1) := by decide +kernel
theorem dX7_dueKind_0 : decode cX7_dueKind 0 = .ok (.aload_n 0, 1) := by decide +kernel
theorem dX7_dueKind_1 : decode cX7_dueKind 1 = .ok (.iload_n 1, 1) := by decide +kernel
theorem dX7_dueKind_2 : decode cX7_dueKind 2 = .ok (.invokevirtual 187, 3) := by decide +kernel
theorem dX7_dueKind_5 : decode cX7_dueKind 5 = .ok (.aload_n 0, 1) := by decide +kernel
theorem dX7_dueKind_6 : decode cX7_dueKind 6 = .ok (.getfield 12, 3) := by decide +kernel
theorem dX7_dueKind_9 : decode cX7_dueKind 9 = .ok (.getfield 173, 3) := by decide +kernel
theorem dX7_dueKind_12 : decode cX7_dueKind 12 = .ok (.getfield 190, 3) := by decide +kernel
theorem dX7_dueKind_15 : decode cX7_dueKind 15 = .ok (.iload_n 1, 1) := by decide +kernel
theorem dX7_dueKind_16 : decode cX7_dueKind 16 = .ok (.iaload, 1) := by decide +kernel
theorem dX7_dueKind_17 : decode cX7_dueKind 17 = .ok (.ireturn, 1) := by decide +kernel
theorem dX7_dueItem_0 : decode cX7_dueItem 0 = .ok (.aload_n 0, 1) := by decide +kernel
theorem dX7_dueItem_1 : decode cX7_dueItem 1 = .ok (.iload_n 1, 1) := by decide +kernel
theorem dX7_dueItem_2 : decode cX7_dueItem 2 = .ok (.invokevirtual 187, 3) := by decide +kernel
theorem dX7_dueItem_5 : decode cX7_dueItem 5 = .ok (.aload_n 0, 1) := by decide +kernel
theorem dX7_dueItem_6 : decode cX7_dueItem 6 = .ok (.getfield 12, 3) := by decide +kernel
theorem dX7_dueItem_9 : decode cX7_dueItem 9 = .ok (.getfield 173, 3) := by decide +kernel
theorem dX7_dueItem_12 : decode cX7_dueItem 12 = .ok (.getfield 193, 3) := by decide +kernel
theorem dX7_dueItem_15 : decode cX7_dueItem 15 = .ok (.iload_n 1, 1) := by decide +kernel
theorem dX7_dueItem_16 : decode cX7_dueItem 16 = .ok (.iaload, 1) := by decide +kernel
theorem dX7_dueItem_17 : decode cX7_dueItem 17 = .ok (.ireturn, 1) := by decide +kernel
theorem dX7_dueSite_0 : decode cX7_dueSite 0 = .ok (.aload_n 0, 1) := by decide +kernel
theorem dX7_dueSite_1 : decode cX7_dueSite 1 = .ok (.iload_n 1, 1) := by decide +kernel
theorem dX7_dueSite_2 : decode cX7_dueSite 2 = .ok (.invokevirtual 187, 3) := by decide +kernel
theorem dX7_dueSite_5 : decode cX7_dueSite 5 = .ok (.aload_n 0, 1) := by decide +kernel
theorem dX7_dueSite_6 : decode cX7_dueSite 6 = .ok (.getfield 12, 3) := by decide +kernel
theorem dX7_dueSite_9 : decode cX7_dueSite 9 = .ok (.getfield 173, 3) := by decide +kernel
theorem dX7_dueSite_12 : decode cX7_dueSite 12 = .ok (.getfield 196, 3) := by decide +kernel
theorem dX7_dueSite_15 : decode cX7_dueSite 15 = .ok (.iload_n 1, 1) := by decide +kernel
theorem dX7_dueSite_16 : decode cX7_dueSite 16 = .ok (.iaload, 1) := by decide +kernel
theorem dX7_dueSite_17 : decode cX7_dueSite 17 = .ok (.ireturn, 1) := by decide +kernel
theorem dX7_dueOwner_0 : decode cX7_dueOwner 0 = .ok (.aload_n 0, 1) := by decide +kernel
theorem dX7_dueOwner_1 : decode cX7_dueOwner 1 = .ok (.iload_n 1, 1) := by decide +kernel
theorem dX7_dueOwner_2 : decode cX7_dueOwner 2 = .ok (.invokevirtual 187, 3) := by decide +kernel
theorem dX7_dueOwner_5 : decode cX7_dueOwner 5 = .ok (.aload_n 0, 1) := by decide +kernel
theorem dX7_dueOwner_6 : decode cX7_dueOwner 6 = .ok (.getfield 12, 3) := by decide +kernel
theorem dX7_dueOwner_9 : decode cX7_dueOwner 9 = .ok (.getfield 173, 3) := by decide +kernel
theorem dX7_dueOwner_12 : decode cX7_dueOwner 12 = .ok (.getfield 199, 3) := by decide +kernel
theorem dX7_dueOwner_15 : decode cX7_dueOwner 15 = .ok (.iload_n 1, 1) := by decide +kernel
theorem dX7_dueOwner_16 : decode cX7_dueOwner 16 = .ok (.iaload, 1) := by decide +kernel
theorem dX7_dueOwner_17 : decode cX7_dueOwner 17 = .ok (.ireturn, 1) := by decide +kernel
theorem dX7_demands_0 : decode cX7_demands 0 = .ok (.aload_n 0, 1) := by decide +kernel
theorem dX7_demands_1 : decode cX7_demands 1 = .ok (.iload_n 1, 1) := by decide +kernel
theorem dX7_demands_2 : decode cX7_demands 2 = .ok (.iload_n 2, 1) := by decide +kernel
theorem dX7_demands_3 : decode cX7_demands 3 = .ok (.invokevirtual 202, 3) := by decide +kernel
theorem dX7_demands_6 : decode cX7_demands 6 = .ok (.aload_n 0, 1) := by decide +kernel
theorem dX7_demands_7 : decode cX7_demands 7 = .ok (.getfield 12, 3) := by decide +kernel
theorem dX7_demands_10 : decode cX7_demands 10 = .ok (.aload_n 0, 1) := by decide +kernel
theorem dX7_demands_11 : decode cX7_demands 11 = .ok (.getfield 12, 3) := by decide +kernel
theorem dX7_demands_14 : decode cX7_demands 14 = .ok (.getfield 140, 3) := by decide +kernel
theorem dX7_demands_17 : decode cX7_demands 17 = .ok (.getfield 206, 3) := by decide +kernel
theorem dX7_demands_20 : decode cX7_demands 20 = .ok (.iload_n 1, 1) := by decide +kernel
theorem dX7_demands_21 : decode cX7_demands 21 = .ok (.iload_n 2, 1) := by decide +kernel
theorem dX7_demands_22 : decode cX7_demands 22 = .ok (.invokevirtual 209, 3) := by decide +kernel
theorem dX7_demands_25 : decode cX7_demands 25 = .ok (.ireturn, 1) := by decide +kernel
theorem dX7_fillNumerator_0 : decode cX7_fillNumerator 0 = .ok (.aload_n 0, 1) := by decide +kernel
theorem dX7_fillNumerator_1 : decode cX7_fillNumerator 1 = .ok (.iload_n 1, 1) := by decide +kernel
theorem dX7_fillNumerator_2 : decode cX7_fillNumerator 2 = .ok (.iload_n 2, 1) := by decide +kernel
theorem dX7_fillNumerator_3 : decode cX7_fillNumerator 3 = .ok (.invokevirtual 202, 3) := by decide +kernel
theorem dX7_fillNumerator_6 : decode cX7_fillNumerator 6 = .ok (.aload_n 0, 1) := by decide +kernel
theorem dX7_fillNumerator_7 : decode cX7_fillNumerator 7 = .ok (.getfield 12, 3) := by decide +kernel
theorem dX7_fillNumerator_10 : decode cX7_fillNumerator 10 = .ok (.aload_n 0, 1) := by decide +kernel
theorem dX7_fillNumerator_11 : decode cX7_fillNumerator 11 = .ok (.getfield 12, 3) := by decide +kernel
theorem dX7_fillNumerator_14 : decode cX7_fillNumerator 14 = .ok (.getfield 140, 3) := by decide +kernel
theorem dX7_fillNumerator_17 : decode cX7_fillNumerator 17 = .ok (.getfield 212, 3) := by decide +kernel
theorem dX7_fillNumerator_20 : decode cX7_fillNumerator 20 = .ok (.iload_n 1, 1) := by decide +kernel
theorem dX7_fillNumerator_21 : decode cX7_fillNumerator 21 = .ok (.iload_n 2, 1) := by decide +kernel
theorem dX7_fillNumerator_22 : decode cX7_fillNumerator 22 = .ok (.invokevirtual 209, 3) := by decide +kernel
theorem dX7_fillNumerator_25 : decode cX7_fillNumerator 25 = .ok (.istore_n 3, 1) := by decide +kernel
theorem dX7_fillNumerator_26 : decode cX7_fillNumerator 26 = .ok (.iload_n 3, 1) := by decide +kernel
theorem dX7_fillNumerator_27 : decode cX7_fillNumerator 27 = .ok (.ifCond .ne 5, 3) := by decide +kernel
theorem dX7_fillNumerator_30 : decode cX7_fillNumerator 30 = .ok (.iconst 0, 1) := by decide +kernel
theorem dX7_fillNumerator_31 : decode cX7_fillNumerator 31 = .ok (.ireturn, 1) := by decide +kernel
theorem dX7_fillNumerator_32 : decode cX7_fillNumerator 32 = .ok (.iload_n 3, 1) := by decide +kernel
theorem dX7_fillNumerator_33 : decode cX7_fillNumerator 33 = .ok (.aload_n 0, 1) := by decide +kernel
theorem dX7_fillNumerator_34 : decode cX7_fillNumerator 34 = .ok (.getfield 12, 3) := by decide +kernel
theorem dX7_fillNumerator_37 : decode cX7_fillNumerator 37 = .ok (.aload_n 0, 1) := by decide +kernel
theorem dX7_fillNumerator_38 : decode cX7_fillNumerator 38 = .ok (.getfield 12, 3) := by decide +kernel
theorem dX7_fillNumerator_41 : decode cX7_fillNumerator 41 = .ok (.getfield 140, 3) := by decide +kernel
theorem dX7_fillNumerator_44 : decode cX7_fillNumerator 44 = .ok (.getfield 206, 3) := by decide +kernel
theorem dX7_fillNumerator_47 : decode cX7_fillNumerator 47 = .ok (.iload_n 1, 1) := by decide +kernel
theorem dX7_fillNumerator_48 : decode cX7_fillNumerator 48 = .ok (.iload_n 2, 1) := by decide +kernel
theorem dX7_fillNumerator_49 : decode cX7_fillNumerator 49 = .ok (.invokevirtual 209, 3) := by decide +kernel
theorem dX7_fillNumerator_52 : decode cX7_fillNumerator 52 = .ok (.iload_n 3, 1) := by decide +kernel
theorem dX7_fillNumerator_53 : decode cX7_fillNumerator 53 = .ok (.invokestatic 215, 3) := by decide +kernel
theorem dX7_fillNumerator_56 : decode cX7_fillNumerator 56 = .ok (.idiv, 1) := by decide +kernel
theorem dX7_fillNumerator_57 : decode cX7_fillNumerator 57 = .ok (.ireturn, 1) := by decide +kernel
theorem dX7_fillDenominator_0 : decode cX7_fillDenominator 0 = .ok (.aload_n 0, 1) := by decide +kernel
theorem dX7_fillDenominator_1 : decode cX7_fillDenominator 1 = .ok (.iload_n 1, 1) := by decide +kernel
theorem dX7_fillDenominator_2 : decode cX7_fillDenominator 2 = .ok (.iload_n 2, 1) := by decide +kernel
theorem dX7_fillDenominator_3 : decode cX7_fillDenominator 3 = .ok (.invokevirtual 202, 3) := by decide +kernel
theorem dX7_fillDenominator_6 : decode cX7_fillDenominator 6 = .ok (.aload_n 0, 1) := by decide +kernel
theorem dX7_fillDenominator_7 : decode cX7_fillDenominator 7 = .ok (.getfield 12, 3) := by decide +kernel
theorem dX7_fillDenominator_10 : decode cX7_fillDenominator 10 = .ok (.aload_n 0, 1) := by decide +kernel
theorem dX7_fillDenominator_11 : decode cX7_fillDenominator 11 = .ok (.getfield 12, 3) := by decide +kernel
theorem dX7_fillDenominator_14 : decode cX7_fillDenominator 14 = .ok (.getfield 140, 3) := by decide +kernel
theorem dX7_fillDenominator_17 : decode cX7_fillDenominator 17 = .ok (.getfield 212, 3) := by decide +kernel
theorem dX7_fillDenominator_20 : decode cX7_fillDenominator 20 = .ok (.iload_n 1, 1) := by decide +kernel
theorem dX7_fillDenominator_21 : decode cX7_fillDenominator 21 = .ok (.iload_n 2, 1) := by decide +kernel
theorem dX7_fillDenominator_22 : decode cX7_fillDenominator 22 = .ok (.invokevirtual 209, 3) := by decide +kernel
theorem dX7_fillDenominator_25 : decode cX7_fillDenominator 25 = .ok (.istore_n 3, 1) := by decide +kernel
theorem dX7_fillDenominator_26 : decode cX7_fillDenominator 26 = .ok (.iload_n 3, 1) := by decide +kernel
theorem dX7_fillDenominator_27 : decode cX7_fillDenominator 27 = .ok (.ifCond .ne 5, 3) := by decide +kernel
theorem dX7_fillDenominator_30 : decode cX7_fillDenominator 30 = .ok (.iconst 1, 1) := by decide +kernel
theorem dX7_fillDenominator_31 : decode cX7_fillDenominator 31 = .ok (.ireturn, 1) := by decide +kernel
theorem dX7_fillDenominator_32 : decode cX7_fillDenominator 32 = .ok (.aload_n 0, 1) := by decide +kernel
theorem dX7_fillDenominator_33 : decode cX7_fillDenominator 33 = .ok (.getfield 12, 3) := by decide +kernel
theorem dX7_fillDenominator_36 : decode cX7_fillDenominator 36 = .ok (.aload_n 0, 1) := by decide +kernel
theorem dX7_fillDenominator_37 : decode cX7_fillDenominator 37 = .ok (.getfield 12, 3) := by decide +kernel
theorem dX7_fillDenominator_40 : decode cX7_fillDenominator 40 = .ok (.getfield 140, 3) := by decide +kernel
theorem dX7_fillDenominator_43 : decode cX7_fillDenominator 43 = .ok (.getfield 206, 3) := by decide +kernel
theorem dX7_fillDenominator_46 : decode cX7_fillDenominator 46 = .ok (.iload_n 1, 1) := by decide +kernel
theorem dX7_fillDenominator_47 : decode cX7_fillDenominator 47 = .ok (.iload_n 2, 1) := by decide +kernel
theorem dX7_fillDenominator_48 : decode cX7_fillDenominator 48 = .ok (.invokevirtual 209, 3) := by decide +kernel
theorem dX7_fillDenominator_51 : decode cX7_fillDenominator 51 = .ok (.istore 4, 2) := by decide +kernel
theorem dX7_fillDenominator_53 : decode cX7_fillDenominator 53 = .ok (.iload 4, 2) := by decide +kernel
theorem dX7_fillDenominator_55 : decode cX7_fillDenominator 55 = .ok (.iload 4, 2) := by decide +kernel
theorem dX7_fillDenominator_57 : decode cX7_fillDenominator 57 = .ok (.iload_n 3, 1) := by decide +kernel
theorem dX7_fillDenominator_58 : decode cX7_fillDenominator 58 = .ok (.invokestatic 215, 3) := by decide +kernel
theorem dX7_fillDenominator_61 : decode cX7_fillDenominator 61 = .ok (.idiv, 1) := by decide +kernel
theorem dX7_fillDenominator_62 : decode cX7_fillDenominator 62 = .ok (.ireturn, 1) := by decide +kernel
theorem dX7_delays_0 : decode cX7_delays 0 = .ok (.aload_n 0, 1) := by decide +kernel
theorem dX7_delays_1 : decode cX7_delays 1 = .ok (.iload_n 1, 1) := by decide +kernel
theorem dX7_delays_2 : decode cX7_delays 2 = .ok (.iload_n 2, 1) := by decide +kernel
theorem dX7_delays_3 : decode cX7_delays 3 = .ok (.invokevirtual 202, 3) := by decide +kernel
theorem dX7_delays_6 : decode cX7_delays 6 = .ok (.aload_n 0, 1) := by decide +kernel
theorem dX7_delays_7 : decode cX7_delays 7 = .ok (.getfield 12, 3) := by decide +kernel
theorem dX7_delays_10 : decode cX7_delays 10 = .ok (.aload_n 0, 1) := by decide +kernel
theorem dX7_delays_11 : decode cX7_delays 11 = .ok (.getfield 12, 3) := by decide +kernel
theorem dX7_delays_14 : decode cX7_delays 14 = .ok (.getfield 140, 3) := by decide +kernel
theorem dX7_delays_17 : decode cX7_delays 17 = .ok (.getfield 218, 3) := by decide +kernel
theorem dX7_delays_20 : decode cX7_delays 20 = .ok (.iload_n 1, 1) := by decide +kernel
theorem dX7_delays_21 : decode cX7_delays 21 = .ok (.iload_n 2, 1) := by decide +kernel
theorem dX7_delays_22 : decode cX7_delays 22 = .ok (.invokevirtual 209, 3) := by decide +kernel
theorem dX7_delays_25 : decode cX7_delays 25 = .ok (.ireturn, 1) := by decide +kernel
theorem dX7_backorderDays_0 : decode cX7_backorderDays 0 = .ok (.aload_n 0, 1) := by decide +kernel
theorem dX7_backorderDays_1 : decode cX7_backorderDays 1 = .ok (.iload_n 1, 1) := by decide +kernel
theorem dX7_backorderDays_2 : decode cX7_backorderDays 2 = .ok (.iload_n 2, 1) := by decide +kernel
theorem dX7_backorderDays_3 : decode cX7_backorderDays 3 = .ok (.invokevirtual 202, 3) := by decide +kernel
theorem dX7_backorderDays_6 : decode cX7_backorderDays 6 = .ok (.aload_n 0, 1) := by decide +kernel
theorem dX7_backorderDays_7 : decode cX7_backorderDays 7 = .ok (.getfield 12, 3) := by decide +kernel
theorem dX7_backorderDays_10 : decode cX7_backorderDays 10 = .ok (.aload_n 0, 1) := by decide +kernel
theorem dX7_backorderDays_11 : decode cX7_backorderDays 11 = .ok (.getfield 12, 3) := by decide +kernel
theorem dX7_backorderDays_14 : decode cX7_backorderDays 14 = .ok (.getfield 140, 3) := by decide +kernel
theorem dX7_backorderDays_17 : decode cX7_backorderDays 17 = .ok (.getfield 221, 3) := by decide +kernel
theorem dX7_backorderDays_20 : decode cX7_backorderDays 20 = .ok (.iload_n 1, 1) := by decide +kernel
theorem dX7_backorderDays_21 : decode cX7_backorderDays 21 = .ok (.iload_n 2, 1) := by decide +kernel
theorem dX7_backorderDays_22 : decode cX7_backorderDays 22 = .ok (.invokevirtual 209, 3) := by decide +kernel
theorem dX7_backorderDays_25 : decode cX7_backorderDays 25 = .ok (.ireturn, 1) := by decide +kernel
theorem dX7_helped_0 : decode cX7_helped 0 = .ok (.aload_n 0, 1) := by decide +kernel
theorem dX7_helped_1 : decode cX7_helped 1 = .ok (.iload_n 1, 1) := by decide +kernel
theorem dX7_helped_2 : decode cX7_helped 2 = .ok (.iload_n 2, 1) := by decide +kernel
theorem dX7_helped_3 : decode cX7_helped 3 = .ok (.invokevirtual 202, 3) := by decide +kernel
theorem dX7_helped_6 : decode cX7_helped 6 = .ok (.aload_n 0, 1) := by decide +kernel
theorem dX7_helped_7 : decode cX7_helped 7 = .ok (.getfield 12, 3) := by decide +kernel
theorem dX7_helped_10 : decode cX7_helped 10 = .ok (.aload_n 0, 1) := by decide +kernel
theorem dX7_helped_11 : decode cX7_helped 11 = .ok (.getfield 12, 3) := by decide +kernel
theorem dX7_helped_14 : decode cX7_helped 14 = .ok (.getfield 140, 3) := by decide +kernel
theorem dX7_helped_17 : decode cX7_helped 17 = .ok (.getfield 224, 3) := by decide +kernel
theorem dX7_helped_20 : decode cX7_helped 20 = .ok (.iload_n 1, 1) := by decide +kernel
theorem dX7_helped_21 : decode cX7_helped 21 = .ok (.iload_n 2, 1) := by decide +kernel
theorem dX7_helped_22 : decode cX7_helped 22 = .ok (.invokevirtual 209, 3) := by decide +kernel
theorem dX7_helped_25 : decode cX7_helped 25 = .ok (.ireturn, 1) := by decide +kernel
theorem dX7_bestSite_0 : decode cX7_bestSite 0 = .ok (.aload_n 0, 1) := by decide +kernel
theorem dX7_bestSite_1 : decode cX7_bestSite 1 = .ok (.iload_n 1, 1) := by decide +kernel
theorem dX7_bestSite_2 : decode cX7_bestSite 2 = .ok (.invokevirtual 83, 3) := by decide +kernel
theorem dX7_bestSite_5 : decode cX7_bestSite 5 = .ok (.iload_n 2, 1) := by decide +kernel
theorem dX7_bestSite_6 : decode cX7_bestSite 6 = .ok (.iconst 0, 1) := by decide +kernel
theorem dX7_bestSite_7 : decode cX7_bestSite 7 = .ok (.ldc 136, 2) := by decide +kernel
theorem dX7_bestSite_9 : decode cX7_bestSite 9 = .ok (.invokestatic 30, 3) := by decide +kernel
theorem dX7_bestSite_12 : decode cX7_bestSite 12 = .ok (.iload_n 3, 1) := by decide +kernel
theorem dX7_bestSite_13 : decode cX7_bestSite 13 = .ok (.iconst 1, 1) := by decide +kernel
theorem dX7_bestSite_14 : decode cX7_bestSite 14 = .ok (.bipush 10, 2) := by decide +kernel
theorem dX7_bestSite_16 : decode cX7_bestSite 16 = .ok (.invokestatic 30, 3) := by decide +kernel
theorem dX7_bestSite_19 : decode cX7_bestSite 19 = .ok (.aload_n 0, 1) := by decide +kernel
theorem dX7_bestSite_20 : decode cX7_bestSite 20 = .ok (.iload_n 3, 1) := by decide +kernel
theorem dX7_bestSite_21 : decode cX7_bestSite 21 = .ok (.invokevirtual 127, 3) := by decide +kernel
theorem dX7_bestSite_24 : decode cX7_bestSite 24 = .ok (.iconst (-1), 1) := by decide +kernel
theorem dX7_bestSite_25 : decode cX7_bestSite 25 = .ok (.istore 4, 2) := by decide +kernel
theorem dX7_bestSite_27 : decode cX7_bestSite 27 = .ok (.iconst 0, 1) := by decide +kernel
theorem dX7_bestSite_28 : decode cX7_bestSite 28 = .ok (.istore 5, 2) := by decide +kernel
theorem dX7_bestSite_30 : decode cX7_bestSite 30 = .ok (.iconst 0, 1) := by decide +kernel
theorem dX7_bestSite_31 : decode cX7_bestSite 31 = .ok (.istore 6, 2) := by decide +kernel
theorem dX7_bestSite_33 : decode cX7_bestSite 33 = .ok (.iload 6, 2) := by decide +kernel
theorem dX7_bestSite_35 : decode cX7_bestSite 35 = .ok (.aload_n 0, 1) := by decide +kernel
theorem dX7_bestSite_36 : decode cX7_bestSite 36 = .ok (.getfield 12, 3) := by decide +kernel
theorem dX7_bestSite_39 : decode cX7_bestSite 39 = .ok (.getfield 34, 3) := by decide +kernel
theorem dX7_bestSite_42 : decode cX7_bestSite 42 = .ok (.getfield 55, 3) := by decide +kernel
theorem dX7_bestSite_45 : decode cX7_bestSite 45 = .ok (.if_icmp .ge 117, 3) := by decide +kernel
theorem dX7_bestSite_48 : decode cX7_bestSite 48 = .ok (.aload_n 0, 1) := by decide +kernel
theorem dX7_bestSite_49 : decode cX7_bestSite 49 = .ok (.getfield 12, 3) := by decide +kernel
theorem dX7_bestSite_52 : decode cX7_bestSite 52 = .ok (.getfield 89, 3) := by decide +kernel
theorem dX7_bestSite_55 : decode cX7_bestSite 55 = .ok (.iload 6, 2) := by decide +kernel
theorem dX7_bestSite_57 : decode cX7_bestSite 57 = .ok (.iload_n 1, 1) := by decide +kernel
theorem dX7_bestSite_58 : decode cX7_bestSite 58 = .ok (.invokestatic 86, 3) := by decide +kernel
theorem dX7_bestSite_61 : decode cX7_bestSite 61 = .ok (.iaload, 1) := by decide +kernel
theorem dX7_bestSite_62 : decode cX7_bestSite 62 = .ok (.bipush 20, 2) := by decide +kernel
theorem dX7_bestSite_64 : decode cX7_bestSite 64 = .ok (.if_icmp .ge 92, 3) := by decide +kernel
theorem dX7_bestSite_67 : decode cX7_bestSite 67 = .ok (.aload_n 0, 1) := by decide +kernel
theorem dX7_bestSite_68 : decode cX7_bestSite 68 = .ok (.getfield 16, 3) := by decide +kernel
theorem dX7_bestSite_71 : decode cX7_bestSite 71 = .ok (.aload_n 0, 1) := by decide +kernel
theorem dX7_bestSite_72 : decode cX7_bestSite 72 = .ok (.getfield 12, 3) := by decide +kernel
theorem dX7_bestSite_75 : decode cX7_bestSite 75 = .ok (.invokevirtual 227, 3) := by decide +kernel
theorem dX7_bestSite_78 : decode cX7_bestSite 78 = .ok (.aload_n 0, 1) := by decide +kernel
theorem dX7_bestSite_79 : decode cX7_bestSite 79 = .ok (.getfield 16, 3) := by decide +kernel
theorem dX7_bestSite_82 : decode cX7_bestSite 82 = .ok (.iload 6, 2) := by decide +kernel
theorem dX7_bestSite_84 : decode cX7_bestSite 84 = .ok (.iload_n 1, 1) := by decide +kernel
theorem dX7_bestSite_85 : decode cX7_bestSite 85 = .ok (.aload_n 0, 1) := by decide +kernel
theorem dX7_bestSite_86 : decode cX7_bestSite 86 = .ok (.getfield 16, 3) := by decide +kernel
theorem dX7_bestSite_89 : decode cX7_bestSite 89 = .ok (.getfield 89, 3) := by decide +kernel
theorem dX7_bestSite_92 : decode cX7_bestSite 92 = .ok (.iload 6, 2) := by decide +kernel
theorem dX7_bestSite_94 : decode cX7_bestSite 94 = .ok (.iload_n 1, 1) := by decide +kernel
theorem dX7_bestSite_95 : decode cX7_bestSite 95 = .ok (.invokestatic 86, 3) := by decide +kernel
theorem dX7_bestSite_98 : decode cX7_bestSite 98 = .ok (.iaload, 1) := by decide +kernel
theorem dX7_bestSite_99 : decode cX7_bestSite 99 = .ok (.iconst 1, 1) := by decide +kernel
theorem dX7_bestSite_100 : decode cX7_bestSite 100 = .ok (.iadd, 1) := by decide +kernel
theorem dX7_bestSite_101 : decode cX7_bestSite 101 = .ok (.invokevirtual 98, 3) := by decide +kernel
theorem dX7_bestSite_104 : decode cX7_bestSite 104 = .ok (.aload_n 0, 1) := by decide +kernel
theorem dX7_bestSite_105 : decode cX7_bestSite 105 = .ok (.getfield 16, 3) := by decide +kernel
theorem dX7_bestSite_108 : decode cX7_bestSite 108 = .ok (.iload_n 2, 1) := by decide +kernel
theorem dX7_bestSite_109 : decode cX7_bestSite 109 = .ok (.iload_n 3, 1) := by decide +kernel
theorem dX7_bestSite_110 : decode cX7_bestSite 110 = .ok (.invokevirtual 137, 3) := by decide +kernel
theorem dX7_bestSite_113 : decode cX7_bestSite 113 = .ok (.pop, 1) := by decide +kernel
theorem dX7_bestSite_114 : decode cX7_bestSite 114 = .ok (.aload_n 0, 1) := by decide +kernel
theorem dX7_bestSite_115 : decode cX7_bestSite 115 = .ok (.getfield 16, 3) := by decide +kernel
theorem dX7_bestSite_118 : decode cX7_bestSite 118 = .ok (.aload_n 0, 1) := by decide +kernel
theorem dX7_bestSite_119 : decode cX7_bestSite 119 = .ok (.getfield 16, 3) := by decide +kernel
theorem dX7_bestSite_122 : decode cX7_bestSite 122 = .ok (.getfield 140, 3) := by decide +kernel
theorem dX7_bestSite_125 : decode cX7_bestSite 125 = .ok (.getfield 221, 3) := by decide +kernel
theorem dX7_bestSite_128 : decode cX7_bestSite 128 = .ok (.iconst (-1), 1) := by decide +kernel
theorem dX7_bestSite_129 : decode cX7_bestSite 129 = .ok (.iconst (-1), 1) := by decide +kernel
theorem dX7_bestSite_130 : decode cX7_bestSite 130 = .ok (.invokevirtual 209, 3) := by decide +kernel
theorem dX7_bestSite_133 : decode cX7_bestSite 133 = .ok (.istore 7, 2) := by decide +kernel
theorem dX7_bestSite_135 : decode cX7_bestSite 135 = .ok (.iload 4, 2) := by decide +kernel
theorem dX7_bestSite_137 : decode cX7_bestSite 137 = .ok (.iconst (-1), 1) := by decide +kernel
theorem dX7_bestSite_138 : decode cX7_bestSite 138 = .ok (.if_icmp .eq 10, 3) := by decide +kernel
theorem dX7_bestSite_141 : decode cX7_bestSite 141 = .ok (.iload 7, 2) := by decide +kernel
theorem dX7_bestSite_143 : decode cX7_bestSite 143 = .ok (.iload 5, 2) := by decide +kernel
theorem dX7_bestSite_145 : decode cX7_bestSite 145 = .ok (.if_icmp .ge 11, 3) := by decide +kernel
theorem dX7_bestSite_148 : decode cX7_bestSite 148 = .ok (.iload 6, 2) := by decide +kernel
theorem dX7_bestSite_150 : decode cX7_bestSite 150 = .ok (.istore 4, 2) := by decide +kernel
theorem dX7_bestSite_152 : decode cX7_bestSite 152 = .ok (.iload 7, 2) := by decide +kernel
theorem dX7_bestSite_154 : decode cX7_bestSite 154 = .ok (.istore 5, 2) := by decide +kernel
theorem dX7_bestSite_156 : decode cX7_bestSite 156 = .ok (.iinc 6 1, 3) := by decide +kernel
theorem dX7_bestSite_159 : decode cX7_bestSite 159 = .ok (.goto (-126), 3) := by decide +kernel
theorem dX7_bestSite_162 : decode cX7_bestSite 162 = .ok (.iload 4, 2) := by decide +kernel
theorem dX7_bestSite_164 : decode cX7_bestSite 164 = .ok (.ireturn, 1) := by decide +kernel
theorem dX7_appendText_0 : decode cX7_appendText 0 = .ok (.aload_n 0, 1) := by decide +kernel
theorem dX7_appendText_1 : decode cX7_appendText 1 = .ok (.getfield 26, 3) := by decide +kernel
theorem dX7_appendText_4 : decode cX7_appendText 4 = .ok (.invokevirtual 231, 3) := by decide +kernel
theorem dX7_appendText_7 : decode cX7_appendText 7 = .ok (.ifCond .eq 13, 3) := by decide +kernel
theorem dX7_appendText_10 : decode cX7_appendText 10 = .ok (.new 44, 3) := by decide +kernel
theorem dX7_appendText_13 : decode cX7_appendText 13 = .ok (.dup, 1) := by decide +kernel
theorem dX7_appendText_14 : decode cX7_appendText 14 = .ok (.ldc 234, 2) := by decide +kernel
theorem dX7_appendText_16 : decode cX7_appendText 16 = .ok (.invokespecial 48, 3) := by decide +kernel
theorem dX7_appendText_19 : decode cX7_appendText 19 = .ok (.athrow, 1) := by decide +kernel
theorem dX7_appendText_20 : decode cX7_appendText 20 = .ok (.aload_n 0, 1) := by decide +kernel
theorem dX7_appendText_21 : decode cX7_appendText 21 = .ok (.getfield 26, 3) := by decide +kernel
theorem dX7_appendText_24 : decode cX7_appendText 24 = .ok (.iload_n 1, 1) := by decide +kernel
theorem dX7_appendText_25 : decode cX7_appendText 25 = .ok (.invokevirtual 236, 3) := by decide +kernel
theorem dX7_appendText_28 : decode cX7_appendText 28 = .ok (.aload_n 0, 1) := by decide +kernel
theorem dX7_appendText_29 : decode cX7_appendText 29 = .ok (.getfield 26, 3) := by decide +kernel
theorem dX7_appendText_32 : decode cX7_appendText 32 = .ok (.getfield 239, 3) := by decide +kernel
theorem dX7_appendText_35 : decode cX7_appendText 35 = .ok (.ireturn, 1) := by decide +kernel
theorem dX7_truncateText_0 : decode cX7_truncateText 0 = .ok (.iload_n 1, 1) := by decide +kernel
theorem dX7_truncateText_1 : decode cX7_truncateText 1 = .ok (.iconst 0, 1) := by decide +kernel
theorem dX7_truncateText_2 : decode cX7_truncateText 2 = .ok (.aload_n 0, 1) := by decide +kernel
theorem dX7_truncateText_3 : decode cX7_truncateText 3 = .ok (.getfield 26, 3) := by decide +kernel
theorem dX7_truncateText_6 : decode cX7_truncateText 6 = .ok (.getfield 239, 3) := by decide +kernel
theorem dX7_truncateText_9 : decode cX7_truncateText 9 = .ok (.invokestatic 30, 3) := by decide +kernel
theorem dX7_truncateText_12 : decode cX7_truncateText 12 = .ok (.aload_n 0, 1) := by decide +kernel
theorem dX7_truncateText_13 : decode cX7_truncateText 13 = .ok (.getfield 26, 3) := by decide +kernel
theorem dX7_truncateText_16 : decode cX7_truncateText 16 = .ok (.iload_n 1, 1) := by decide +kernel
theorem dX7_truncateText_17 : decode cX7_truncateText 17 = .ok (.putfield 239, 3) := by decide +kernel
theorem dX7_truncateText_20 : decode cX7_truncateText 20 = .ok (.iload_n 1, 1) := by decide +kernel
theorem dX7_truncateText_21 : decode cX7_truncateText 21 = .ok (.ireturn, 1) := by decide +kernel
theorem dX7_load_0 : decode cX7_load 0 = .ok (.aload_n 0, 1) := by decide +kernel
theorem dX7_load_1 : decode cX7_load 1 = .ok (.getfield 16, 3) := by decide +kernel
theorem dX7_load_4 : decode cX7_load 4 = .ok (.invokevirtual 242, 3) := by decide +kernel
theorem dX7_load_7 : decode cX7_load 7 = .ok (.aload_n 0, 1) := by decide +kernel
theorem dX7_load_8 : decode cX7_load 8 = .ok (.getfield 26, 3) := by decide +kernel
theorem dX7_load_11 : decode cX7_load 11 = .ok (.aload_n 0, 1) := by decide +kernel
theorem dX7_load_12 : decode cX7_load 12 = .ok (.getfield 16, 3) := by decide +kernel
theorem dX7_load_15 : decode cX7_load 15 = .ok (.invokevirtual 245, 3) := by decide +kernel
theorem dX7_load_18 : decode cX7_load 18 = .ok (.istore_n 1, 1) := by decide +kernel
theorem dX7_load_19 : decode cX7_load 19 = .ok (.aload_n 0, 1) := by decide +kernel
theorem dX7_load_20 : decode cX7_load 20 = .ok (.getfield 26, 3) := by decide +kernel
theorem dX7_load_23 : decode cX7_load 23 = .ok (.iconst 0, 1) := by decide +kernel
theorem dX7_load_24 : decode cX7_load 24 = .ok (.putfield 239, 3) := by decide +kernel
theorem dX7_load_27 : decode cX7_load 27 = .ok (.iload_n 1, 1) := by decide +kernel
theorem dX7_load_28 : decode cX7_load 28 = .ok (.iconst (-1), 1) := by decide +kernel
theorem dX7_load_29 : decode cX7_load 29 = .ok (.if_icmp .eq 21, 3) := by decide +kernel
theorem dX7_load_32 : decode cX7_load 32 = .ok (.aload_n 0, 1) := by decide +kernel
theorem dX7_load_33 : decode cX7_load 33 = .ok (.getfield 12, 3) := by decide +kernel
theorem dX7_load_36 : decode cX7_load 36 = .ok (.astore_n 2, 1) := by decide +kernel
theorem dX7_load_37 : decode cX7_load 37 = .ok (.aload_n 0, 1) := by decide +kernel
theorem dX7_load_38 : decode cX7_load 38 = .ok (.aload_n 0, 1) := by decide +kernel
theorem dX7_load_39 : decode cX7_load 39 = .ok (.getfield 16, 3) := by decide +kernel
theorem dX7_load_42 : decode cX7_load 42 = .ok (.putfield 12, 3) := by decide +kernel
theorem dX7_load_45 : decode cX7_load 45 = .ok (.aload_n 0, 1) := by decide +kernel
theorem dX7_load_46 : decode cX7_load 46 = .ok (.aload_n 2, 1) := by decide +kernel
theorem dX7_load_47 : decode cX7_load 47 = .ok (.putfield 16, 3) := by decide +kernel
theorem dX7_load_50 : decode cX7_load 50 = .ok (.iload_n 1, 1) := by decide +kernel
theorem dX7_load_51 : decode cX7_load 51 = .ok (.ireturn, 1) := by decide +kernel
theorem dX7_errorCode_0 : decode cX7_errorCode 0 = .ok (.aload_n 0, 1) := by decide +kernel
theorem dX7_errorCode_1 : decode cX7_errorCode 1 = .ok (.getfield 26, 3) := by decide +kernel
theorem dX7_errorCode_4 : decode cX7_errorCode 4 = .ok (.getfield 249, 3) := by decide +kernel
theorem dX7_errorCode_7 : decode cX7_errorCode 7 = .ok (.ireturn, 1) := by decide +kernel
theorem dX7_errorPosition_0 : decode cX7_errorPosition 0 = .ok (.aload_n 0, 1) := by decide +kernel
theorem dX7_errorPosition_1 : decode cX7_errorPosition 1 = .ok (.getfield 26, 3) := by decide +kernel
theorem dX7_errorPosition_4 : decode cX7_errorPosition 4 = .ok (.getfield 252, 3) := by decide +kernel
theorem dX7_errorPosition_7 : decode cX7_errorPosition 7 = .ok (.ireturn, 1) := by decide +kernel
theorem dX7_save_0 : decode cX7_save 0 = .ok (.iload_n 1, 1) := by decide +kernel
theorem dX7_save_1 : decode cX7_save 1 = .ok (.iconst 0, 1) := by decide +kernel
theorem dX7_save_2 : decode cX7_save 2 = .ok (.iconst 1, 1) := by decide +kernel
theorem dX7_save_3 : decode cX7_save 3 = .ok (.invokestatic 30, 3) := by decide +kernel
theorem dX7_save_6 : decode cX7_save 6 = .ok (.aload_n 0, 1) := by decide +kernel
theorem dX7_save_7 : decode cX7_save 7 = .ok (.getfield 19, 3) := by decide +kernel
theorem dX7_save_10 : decode cX7_save 10 = .ok (.iload_n 1, 1) := by decide +kernel
theorem dX7_save_11 : decode cX7_save 11 = .ok (.aaload, 1) := by decide +kernel
theorem dX7_save_12 : decode cX7_save 12 = .ok (.astore_n 2, 1) := by decide +kernel
theorem dX7_save_13 : decode cX7_save 13 = .ok (.aload_n 2, 1) := by decide +kernel
theorem dX7_save_14 : decode cX7_save 14 = .ok (.ifnonnull 18, 3) := by decide +kernel
theorem dX7_save_17 : decode cX7_save 17 = .ok (.new 9, 3) := by decide +kernel
theorem dX7_save_20 : decode cX7_save 20 = .ok (.dup, 1) := by decide +kernel
theorem dX7_save_21 : decode cX7_save 21 = .ok (.invokespecial 11, 3) := by decide +kernel
theorem dX7_save_24 : decode cX7_save 24 = .ok (.astore_n 2, 1) := by decide +kernel
theorem dX7_save_25 : decode cX7_save 25 = .ok (.aload_n 0, 1) := by decide +kernel
theorem dX7_save_26 : decode cX7_save 26 = .ok (.getfield 19, 3) := by decide +kernel
theorem dX7_save_29 : decode cX7_save 29 = .ok (.iload_n 1, 1) := by decide +kernel
theorem dX7_save_30 : decode cX7_save 30 = .ok (.aload_n 2, 1) := by decide +kernel
theorem dX7_save_31 : decode cX7_save 31 = .ok (.aastore, 1) := by decide +kernel
theorem dX7_save_32 : decode cX7_save 32 = .ok (.aload_n 2, 1) := by decide +kernel
theorem dX7_save_33 : decode cX7_save 33 = .ok (.aload_n 0, 1) := by decide +kernel
theorem dX7_save_34 : decode cX7_save 34 = .ok (.getfield 12, 3) := by decide +kernel
theorem dX7_save_37 : decode cX7_save 37 = .ok (.invokevirtual 227, 3) := by decide +kernel
theorem dX7_save_40 : decode cX7_save 40 = .ok (.return_, 1) := by decide +kernel
theorem dX7_restore_0 : decode cX7_restore 0 = .ok (.iload_n 1, 1) := by decide +kernel
theorem dX7_restore_1 : decode cX7_restore 1 = .ok (.iconst 0, 1) := by decide +kernel
theorem dX7_restore_2 : decode cX7_restore 2 = .ok (.iconst 1, 1) := by decide +kernel
theorem dX7_restore_3 : decode cX7_restore 3 = .ok (.invokestatic 30, 3) := by decide +kernel
theorem dX7_restore_6 : decode cX7_restore 6 = .ok (.aload_n 0, 1) := by decide +kernel
theorem dX7_restore_7 : decode cX7_restore 7 = .ok (.getfield 19, 3) := by decide +kernel
theorem dX7_restore_10 : decode cX7_restore 10 = .ok (.iload_n 1, 1) := by decide +kernel
theorem dX7_restore_11 : decode cX7_restore 11 = .ok (.aaload, 1) := by decide +kernel
theorem dX7_restore_12 : decode cX7_restore 12 = .ok (.astore_n 2, 1) := by decide +kernel
theorem dX7_restore_13 : decode cX7_restore 13 = .ok (.aload_n 2, 1) := by decide +kernel
theorem dX7_restore_14 : decode cX7_restore 14 = .ok (.ifnonnull 13, 3) := by decide +kernel
theorem dX7_restore_17 : decode cX7_restore 17 = .ok (.new 44, 3) := by decide +kernel
theorem dX7_restore_20 : decode cX7_restore 20 = .ok (.dup, 1) := by decide +kernel
theorem dX7_restore_21 : decode cX7_restore 21 = .ok (.ldc 255, 2) := by decide +kernel
theorem dX7_restore_23 : decode cX7_restore 23 = .ok (.invokespecial 48, 3) := by decide +kernel
theorem dX7_restore_26 : decode cX7_restore 26 = .ok (.athrow, 1) := by decide +kernel
theorem dX7_restore_27 : decode cX7_restore 27 = .ok (.aload_n 0, 1) := by decide +kernel
theorem dX7_restore_28 : decode cX7_restore 28 = .ok (.getfield 12, 3) := by decide +kernel
theorem dX7_restore_31 : decode cX7_restore 31 = .ok (.aload_n 2, 1) := by decide +kernel
theorem dX7_restore_32 : decode cX7_restore 32 = .ok (.invokevirtual 227, 3) := by decide +kernel
theorem dX7_restore_35 : decode cX7_restore 35 = .ok (.return_, 1) := by decide +kernel
theorem dX7_checkSite_0 : decode cX7_checkSite 0 = .ok (.aload_n 0, 1) := by decide +kernel
theorem dX7_checkSite_1 : decode cX7_checkSite 1 = .ok (.getfield 12, 3) := by decide +kernel
theorem dX7_checkSite_4 : decode cX7_checkSite 4 = .ok (.getfield 34, 3) := by decide +kernel
theorem dX7_checkSite_7 : decode cX7_checkSite 7 = .ok (.iload_n 1, 1) := by decide +kernel
theorem dX7_checkSite_8 : decode cX7_checkSite 8 = .ok (.invokevirtual 257, 3) := by decide +kernel
theorem dX7_checkSite_11 : decode cX7_checkSite 11 = .ok (.ifCond .ne 14, 3) := by decide +kernel
theorem dX7_checkSite_14 : decode cX7_checkSite 14 = .ok (.new 261, 3) := by decide +kernel
theorem dX7_checkSite_17 : decode cX7_checkSite 17 = .ok (.dup, 1) := by decide +kernel
theorem dX7_checkSite_18 : decode cX7_checkSite 18 = .ok (.ldc_w 263, 3) := by decide +kernel
theorem dX7_checkSite_21 : decode cX7_checkSite 21 = .ok (.invokespecial 265, 3) := by decide +kernel
theorem dX7_checkSite_24 : decode cX7_checkSite 24 = .ok (.athrow, 1) := by decide +kernel
theorem dX7_checkSite_25 : decode cX7_checkSite 25 = .ok (.return_, 1) := by decide +kernel
theorem dX7_checkBase_0 : decode cX7_checkBase 0 = .ok (.aload_n 0, 1) := by decide +kernel
theorem dX7_checkBase_1 : decode cX7_checkBase 1 = .ok (.getfield 12, 3) := by decide +kernel
theorem dX7_checkBase_4 : decode cX7_checkBase 4 = .ok (.getfield 34, 3) := by decide +kernel
theorem dX7_checkBase_7 : decode cX7_checkBase 7 = .ok (.iload_n 1, 1) := by decide +kernel
theorem dX7_checkBase_8 : decode cX7_checkBase 8 = .ok (.invokevirtual 266, 3) := by decide +kernel
theorem dX7_checkBase_11 : decode cX7_checkBase 11 = .ok (.ifCond .ne 14, 3) := by decide +kernel
theorem dX7_checkBase_14 : decode cX7_checkBase 14 = .ok (.new 261, 3) := by decide +kernel
theorem dX7_checkBase_17 : decode cX7_checkBase 17 = .ok (.dup, 1) := by decide +kernel
theorem dX7_checkBase_18 : decode cX7_checkBase 18 = .ok (.ldc_w 269, 3) := by decide +kernel
theorem dX7_checkBase_21 : decode cX7_checkBase 21 = .ok (.invokespecial 265, 3) := by decide +kernel
theorem dX7_checkBase_24 : decode cX7_checkBase 24 = .ok (.athrow, 1) := by decide +kernel
theorem dX7_checkBase_25 : decode cX7_checkBase 25 = .ok (.return_, 1) := by decide +kernel
theorem dX7_checkItem_0 : decode cX7_checkItem 0 = .ok (.aload_n 0, 1) := by decide +kernel
theorem dX7_checkItem_1 : decode cX7_checkItem 1 = .ok (.getfield 12, 3) := by decide +kernel
theorem dX7_checkItem_4 : decode cX7_checkItem 4 = .ok (.getfield 34, 3) := by decide +kernel
theorem dX7_checkItem_7 : decode cX7_checkItem 7 = .ok (.iload_n 1, 1) := by decide +kernel
theorem dX7_checkItem_8 : decode cX7_checkItem 8 = .ok (.invokevirtual 271, 3) := by decide +kernel
theorem dX7_checkItem_11 : decode cX7_checkItem 11 = .ok (.ifCond .ne 14, 3) := by decide +kernel
theorem dX7_checkItem_14 : decode cX7_checkItem 14 = .ok (.new 261, 3) := by decide +kernel
theorem dX7_checkItem_17 : decode cX7_checkItem 17 = .ok (.dup, 1) := by decide +kernel
theorem dX7_checkItem_18 : decode cX7_checkItem 18 = .ok (.ldc_w 274, 3) := by decide +kernel
theorem dX7_checkItem_21 : decode cX7_checkItem 21 = .ok (.invokespecial 265, 3) := by decide +kernel
theorem dX7_checkItem_24 : decode cX7_checkItem 24 = .ok (.athrow, 1) := by decide +kernel
theorem dX7_checkItem_25 : decode cX7_checkItem 25 = .ok (.return_, 1) := by decide +kernel
theorem dX7_checkFigure_0 : decode cX7_checkFigure 0 = .ok (.iload_n 1, 1) := by decide +kernel
theorem dX7_checkFigure_1 : decode cX7_checkFigure 1 = .ok (.iconst (-1), 1) := by decide +kernel
theorem dX7_checkFigure_2 : decode cX7_checkFigure 2 = .ok (.if_icmp .eq 8, 3) := by decide +kernel
theorem dX7_checkFigure_5 : decode cX7_checkFigure 5 = .ok (.aload_n 0, 1) := by decide +kernel
theorem dX7_checkFigure_6 : decode cX7_checkFigure 6 = .ok (.iload_n 1, 1) := by decide +kernel
theorem dX7_checkFigure_7 : decode cX7_checkFigure 7 = .ok (.invokevirtual 64, 3) := by decide +kernel
theorem dX7_checkFigure_10 : decode cX7_checkFigure 10 = .ok (.iload_n 2, 1) := by decide +kernel
theorem dX7_checkFigure_11 : decode cX7_checkFigure 11 = .ok (.iconst (-1), 1) := by decide +kernel
theorem dX7_checkFigure_12 : decode cX7_checkFigure 12 = .ok (.if_icmp .eq 8, 3) := by decide +kernel
theorem dX7_checkFigure_15 : decode cX7_checkFigure 15 = .ok (.aload_n 0, 1) := by decide +kernel
theorem dX7_checkFigure_16 : decode cX7_checkFigure 16 = .ok (.iload_n 2, 1) := by decide +kernel
theorem dX7_checkFigure_17 : decode cX7_checkFigure 17 = .ok (.invokevirtual 83, 3) := by decide +kernel
theorem dX7_checkFigure_20 : decode cX7_checkFigure 20 = .ok (.return_, 1) := by decide +kernel
theorem dX7_checkUnit_0 : decode cX7_checkUnit 0 = .ok (.iload_n 1, 1) := by decide +kernel
theorem dX7_checkUnit_1 : decode cX7_checkUnit 1 = .ok (.ifCond .lt 17, 3) := by decide +kernel
theorem dX7_checkUnit_4 : decode cX7_checkUnit 4 = .ok (.iload_n 1, 1) := by decide +kernel
theorem dX7_checkUnit_5 : decode cX7_checkUnit 5 = .ok (.aload_n 0, 1) := by decide +kernel
theorem dX7_checkUnit_6 : decode cX7_checkUnit 6 = .ok (.getfield 12, 3) := by decide +kernel
theorem dX7_checkUnit_9 : decode cX7_checkUnit 9 = .ok (.getfield 173, 3) := by decide +kernel
theorem dX7_checkUnit_12 : decode cX7_checkUnit 12 = .ok (.getfield 184, 3) := by decide +kernel
theorem dX7_checkUnit_15 : decode cX7_checkUnit 15 = .ok (.if_icmp .lt 14, 3) := by decide +kernel
theorem dX7_checkUnit_18 : decode cX7_checkUnit 18 = .ok (.new 261, 3) := by decide +kernel
theorem dX7_checkUnit_21 : decode cX7_checkUnit 21 = .ok (.dup, 1) := by decide +kernel
theorem dX7_checkUnit_22 : decode cX7_checkUnit 22 = .ok (.ldc_w 276, 3) := by decide +kernel
theorem dX7_checkUnit_25 : decode cX7_checkUnit 25 = .ok (.invokespecial 265, 3) := by decide +kernel
theorem dX7_checkUnit_28 : decode cX7_checkUnit 28 = .ok (.athrow, 1) := by decide +kernel
theorem dX7_checkUnit_29 : decode cX7_checkUnit 29 = .ok (.return_, 1) := by decide +kernel
theorem dX7_checkLastDay_0 : decode cX7_checkLastDay 0 = .ok (.aload_n 0, 1) := by decide +kernel
theorem dX7_checkLastDay_1 : decode cX7_checkLastDay 1 = .ok (.getfield 12, 3) := by decide +kernel
theorem dX7_checkLastDay_4 : decode cX7_checkLastDay 4 = .ok (.getfield 133, 3) := by decide +kernel
theorem dX7_checkLastDay_7 : decode cX7_checkLastDay 7 = .ok (.iload_n 1, 1) := by decide +kernel
theorem dX7_checkLastDay_8 : decode cX7_checkLastDay 8 = .ok (.iadd, 1) := by decide +kernel
theorem dX7_checkLastDay_9 : decode cX7_checkLastDay 9 = .ok (.sipush 9999, 3) := by decide +kernel
theorem dX7_checkLastDay_12 : decode cX7_checkLastDay 12 = .ok (.if_icmp .le 14, 3) := by decide +kernel
theorem dX7_checkLastDay_15 : decode cX7_checkLastDay 15 = .ok (.new 44, 3) := by decide +kernel
theorem dX7_checkLastDay_18 : decode cX7_checkLastDay 18 = .ok (.dup, 1) := by decide +kernel
theorem dX7_checkLastDay_19 : decode cX7_checkLastDay 19 = .ok (.ldc_w 278, 3) := by decide +kernel
theorem dX7_checkLastDay_22 : decode cX7_checkLastDay 22 = .ok (.invokespecial 48, 3) := by decide +kernel
theorem dX7_checkLastDay_25 : decode cX7_checkLastDay 25 = .ok (.athrow, 1) := by decide +kernel
theorem dX7_checkLastDay_26 : decode cX7_checkLastDay 26 = .ok (.return_, 1) := by decide +kernel
theorem dX7_checkRange_0 : decode cX7_checkRange 0 = .ok (.iload_n 0, 1) := by decide +kernel
theorem dX7_checkRange_1 : decode cX7_checkRange 1 = .ok (.iload_n 1, 1) := by decide +kernel
theorem dX7_checkRange_2 : decode cX7_checkRange 2 = .ok (.iload_n 2, 1) := by decide +kernel
theorem dX7_checkRange_3 : decode cX7_checkRange 3 = .ok (.invokestatic 280, 3) := by decide +kernel
theorem dX7_checkRange_6 : decode cX7_checkRange 6 = .ok (.ifCond .ne 14, 3) := by decide +kernel
theorem dX7_checkRange_9 : decode cX7_checkRange 9 = .ok (.new 68, 3) := by decide +kernel
theorem dX7_checkRange_12 : decode cX7_checkRange 12 = .ok (.dup, 1) := by decide +kernel
theorem dX7_checkRange_13 : decode cX7_checkRange 13 = .ok (.ldc_w 283, 3) := by decide +kernel
theorem dX7_checkRange_16 : decode cX7_checkRange 16 = .ok (.invokespecial 72, 3) := by decide +kernel
theorem dX7_checkRange_19 : decode cX7_checkRange 19 = .ok (.athrow, 1) := by decide +kernel
theorem dX7_checkRange_20 : decode cX7_checkRange 20 = .ok (.return_, 1) := by decide +kernel
theorem dX7_exchange_0 : decode cX7_exchange 0 = .ok (.aload_n 0, 1) := by decide +kernel
theorem dX7_exchange_1 : decode cX7_exchange 1 = .ok (.iload_n 1, 1) := by decide +kernel
theorem dX7_exchange_2 : decode cX7_exchange 2 = .ok (.iaload, 1) := by decide +kernel
theorem dX7_exchange_3 : decode cX7_exchange 3 = .ok (.istore_n 3, 1) := by decide +kernel
theorem dX7_exchange_4 : decode cX7_exchange 4 = .ok (.aload_n 0, 1) := by decide +kernel
theorem dX7_exchange_5 : decode cX7_exchange 5 = .ok (.iload_n 1, 1) := by decide +kernel
theorem dX7_exchange_6 : decode cX7_exchange 6 = .ok (.iload_n 2, 1) := by decide +kernel
theorem dX7_exchange_7 : decode cX7_exchange 7 = .ok (.iastore, 1) := by decide +kernel
theorem dX7_exchange_8 : decode cX7_exchange 8 = .ok (.iload_n 3, 1) := by decide +kernel
theorem dX7_exchange_9 : decode cX7_exchange 9 = .ok (.ireturn, 1) := by decide +kernel
theorem dX7_cell_0 : decode cX7_cell 0 = .ok (.iload_n 0, 1) := by decide +kernel
theorem dX7_cell_1 : decode cX7_cell 1 = .ok (.iconst 4, 1) := by decide +kernel
theorem dX7_cell_2 : decode cX7_cell 2 = .ok (.imul, 1) := by decide +kernel
theorem dX7_cell_3 : decode cX7_cell 3 = .ok (.iload_n 1, 1) := by decide +kernel
theorem dX7_cell_4 : decode cX7_cell 4 = .ok (.iadd, 1) := by decide +kernel
theorem dX7_cell_5 : decode cX7_cell 5 = .ok (.ireturn, 1) := by decide +kernel
theorem dX7_within_0 : decode cX7_within 0 = .ok (.iload_n 0, 1) := by decide +kernel
theorem dX7_within_1 : decode cX7_within 1 = .ok (.iload_n 1, 1) := by decide +kernel
theorem dX7_within_2 : decode cX7_within 2 = .ok (.if_icmp .lt 12, 3) := by decide +kernel
theorem dX7_within_5 : decode cX7_within 5 = .ok (.iload_n 0, 1) := by decide +kernel
theorem dX7_within_6 : decode cX7_within 6 = .ok (.iload_n 2, 1) := by decide +kernel
theorem dX7_within_7 : decode cX7_within 7 = .ok (.if_icmp .gt 7, 3) := by decide +kernel
theorem dX7_within_10 : decode cX7_within 10 = .ok (.iconst 1, 1) := by decide +kernel
theorem dX7_within_11 : decode cX7_within 11 = .ok (.goto 4, 3) := by decide +kernel
theorem dX7_within_14 : decode cX7_within 14 = .ok (.iconst 0, 1) := by decide +kernel
theorem dX7_within_15 : decode cX7_within 15 = .ok (.ireturn, 1) := by decide +kernel
theorem dX7_commonDivisor_0 : decode cX7_commonDivisor 0 = .ok (.iload_n 0, 1) := by decide +kernel
theorem dX7_commonDivisor_1 : decode cX7_commonDivisor 1 = .ok (.istore_n 2, 1) := by decide +kernel
theorem dX7_commonDivisor_2 : decode cX7_commonDivisor 2 = .ok (.iload_n 1, 1) := by decide +kernel
theorem dX7_commonDivisor_3 : decode cX7_commonDivisor 3 = .ok (.istore_n 3, 1) := by decide +kernel
theorem dX7_commonDivisor_4 : decode cX7_commonDivisor 4 = .ok (.iconst 0, 1) := by decide +kernel
theorem dX7_commonDivisor_5 : decode cX7_commonDivisor 5 = .ok (.istore 4, 2) := by decide +kernel
theorem dX7_commonDivisor_7 : decode cX7_commonDivisor 7 = .ok (.iload 4, 2) := by decide +kernel
theorem dX7_commonDivisor_9 : decode cX7_commonDivisor 9 = .ok (.bipush 64, 2) := by decide +kernel
theorem dX7_commonDivisor_11 : decode cX7_commonDivisor 11 = .ok (.if_icmp .ge 23, 3) := by decide +kernel
theorem dX7_commonDivisor_14 : decode cX7_commonDivisor 14 = .ok (.iload_n 3, 1) := by decide +kernel
theorem dX7_commonDivisor_15 : decode cX7_commonDivisor 15 = .ok (.ifCond .eq 19, 3) := by decide +kernel
theorem dX7_commonDivisor_18 : decode cX7_commonDivisor 18 = .ok (.iload_n 2, 1) := by decide +kernel
theorem dX7_commonDivisor_19 : decode cX7_commonDivisor 19 = .ok (.iload_n 3, 1) := by decide +kernel
theorem dX7_commonDivisor_20 : decode cX7_commonDivisor 20 = .ok (.irem, 1) := by decide +kernel
theorem dX7_commonDivisor_21 : decode cX7_commonDivisor 21 = .ok (.istore 5, 2) := by decide +kernel
theorem dX7_commonDivisor_23 : decode cX7_commonDivisor 23 = .ok (.iload_n 3, 1) := by decide +kernel
theorem dX7_commonDivisor_24 : decode cX7_commonDivisor 24 = .ok (.istore_n 2, 1) := by decide +kernel
theorem dX7_commonDivisor_25 : decode cX7_commonDivisor 25 = .ok (.iload 5, 2) := by decide +kernel
theorem dX7_commonDivisor_27 : decode cX7_commonDivisor 27 = .ok (.istore_n 3, 1) := by decide +kernel
theorem dX7_commonDivisor_28 : decode cX7_commonDivisor 28 = .ok (.iinc 4 1, 3) := by decide +kernel
theorem dX7_commonDivisor_31 : decode cX7_commonDivisor 31 = .ok (.goto (-24), 3) := by decide +kernel
theorem dX7_commonDivisor_34 : decode cX7_commonDivisor 34 = .ok (.iload_n 2, 1) := by decide +kernel
theorem dX7_commonDivisor_35 : decode cX7_commonDivisor 35 = .ok (.ifCond .ne 7, 3) := by decide +kernel
theorem dX7_commonDivisor_38 : decode cX7_commonDivisor 38 = .ok (.iconst 1, 1) := by decide +kernel
theorem dX7_commonDivisor_39 : decode cX7_commonDivisor 39 = .ok (.goto 4, 3) := by decide +kernel
theorem dX7_commonDivisor_42 : decode cX7_commonDivisor 42 = .ok (.iload_n 2, 1) := by decide +kernel
theorem dX7_commonDivisor_43 : decode cX7_commonDivisor 43 = .ok (.ireturn, 1) := by decide +kernel
theorem dX7_copyRow_0 : decode cX7_copyRow 0 = .ok (.aload_n 0, 1) := by decide +kernel
theorem dX7_copyRow_1 : decode cX7_copyRow 1 = .ok (.iconst 0, 1) := by decide +kernel
theorem dX7_copyRow_2 : decode cX7_copyRow 2 = .ok (.aload_n 1, 1) := by decide +kernel
theorem dX7_copyRow_3 : decode cX7_copyRow 3 = .ok (.iconst 0, 1) := by decide +kernel
theorem dX7_copyRow_4 : decode cX7_copyRow 4 = .ok (.iload_n 2, 1) := by decide +kernel
theorem dX7_copyRow_5 : decode cX7_copyRow 5 = .ok (.invokestatic 285, 3) := by decide +kernel
theorem dX7_copyRow_8 : decode cX7_copyRow 8 = .ok (.return_, 1) := by decide +kernel
theorem dX8_init_0 : decode cX8_init 0 = .ok (.aload_n 0, 1) := by decide +kernel
theorem dX8_init_1 : decode cX8_init 1 = .ok (.invokespecial 1, 3) := by decide +kernel
theorem dX8_init_4 : decode cX8_init 4 = .ok (.aload_n 0, 1) := by decide +kernel
theorem dX8_init_5 : decode cX8_init 5 = .ok (.sipush 7692, 3) := by decide +kernel
theorem dX8_init_8 : decode cX8_init 8 = .ok (.newarray .int, 2) := by decide +kernel
theorem dX8_init_10 : decode cX8_init 10 = .ok (.putfield 7, 3) := by decide +kernel
theorem dX8_init_13 : decode cX8_init 13 = .ok (.aload_n 0, 1) := by decide +kernel
theorem dX8_init_14 : decode cX8_init 14 = .ok (.sipush 7692, 3) := by decide +kernel
theorem dX8_init_17 : decode cX8_init 17 = .ok (.newarray .int, 2) := by decide +kernel
theorem dX8_init_19 : decode cX8_init 19 = .ok (.putfield 13, 3) := by decide +kernel
theorem dX8_init_22 : decode cX8_init 22 = .ok (.aload_n 0, 1) := by decide +kernel
theorem dX8_init_23 : decode cX8_init 23 = .ok (.sipush 15384, 3) := by decide +kernel
theorem dX8_init_26 : decode cX8_init 26 = .ok (.newarray .int, 2) := by decide +kernel
theorem dX8_init_28 : decode cX8_init 28 = .ok (.putfield 16, 3) := by decide +kernel
theorem dX8_init_31 : decode cX8_init 31 = .ok (.aload_n 0, 1) := by decide +kernel
theorem dX8_init_32 : decode cX8_init 32 = .ok (.iconst 2, 1) := by decide +kernel
theorem dX8_init_33 : decode cX8_init 33 = .ok (.newarray .boolean, 2) := by decide +kernel
theorem dX8_init_35 : decode cX8_init 35 = .ok (.putfield 19, 3) := by decide +kernel
theorem dX8_init_38 : decode cX8_init 38 = .ok (.aload_n 0, 1) := by decide +kernel
theorem dX8_init_39 : decode cX8_init 39 = .ok (.sipush 500, 3) := by decide +kernel
theorem dX8_init_42 : decode cX8_init 42 = .ok (.newarray .int, 2) := by decide +kernel
theorem dX8_init_44 : decode cX8_init 44 = .ok (.putfield 23, 3) := by decide +kernel
theorem dX8_init_47 : decode cX8_init 47 = .ok (.aload_n 0, 1) := by decide +kernel
theorem dX8_init_48 : decode cX8_init 48 = .ok (.iconst (-1), 1) := by decide +kernel
theorem dX8_init_49 : decode cX8_init 49 = .ok (.putfield 26, 3) := by decide +kernel
theorem dX8_init_52 : decode cX8_init 52 = .ok (.aload_n 0, 1) := by decide +kernel
theorem dX8_init_53 : decode cX8_init 53 = .ok (.getfield 7, 3) := by decide +kernel
theorem dX8_init_56 : decode cX8_init 56 = .ok (.iconst 3, 1) := by decide +kernel
theorem dX8_init_57 : decode cX8_init 57 = .ok (.iconst 1, 1) := by decide +kernel
theorem dX8_init_58 : decode cX8_init 58 = .ok (.iastore, 1) := by decide +kernel
theorem dX8_init_59 : decode cX8_init 59 = .ok (.return_, 1) := by decide +kernel
theorem dX8_thrown_0 : decode cX8_thrown 0 = .ok (.aload_n 0, 1) := by decide +kernel
theorem dX8_thrown_1 : decode cX8_thrown 1 = .ok (.getfield 30, 3) := by decide +kernel
theorem dX8_thrown_4 : decode cX8_thrown 4 = .ok (.ireturn, 1) := by decide +kernel
theorem dX8_fail_0 : decode cX8_fail 0 = .ok (.aload_n 0, 1) := by decide +kernel
theorem dX8_fail_1 : decode cX8_fail 1 = .ok (.iload_n 1, 1) := by decide +kernel
theorem dX8_fail_2 : decode cX8_fail 2 = .ok (.putfield 30, 3) := by decide +kernel
theorem dX8_fail_5 : decode cX8_fail 5 = .ok (.iconst 0, 1) := by decide +kernel
theorem dX8_fail_6 : decode cX8_fail 6 = .ok (.ireturn, 1) := by decide +kernel
theorem dX8_isBetween_0 : decode cX8_isBetween 0 = .ok (.iload_n 0, 1) := by decide +kernel
theorem dX8_isBetween_1 : decode cX8_isBetween 1 = .ok (.iload_n 1, 1) := by decide +kernel
theorem dX8_isBetween_2 : decode cX8_isBetween 2 = .ok (.if_icmp .lt 12, 3) := by decide +kernel
theorem dX8_isBetween_5 : decode cX8_isBetween 5 = .ok (.iload_n 0, 1) := by decide +kernel
theorem dX8_isBetween_6 : decode cX8_isBetween 6 = .ok (.iload_n 2, 1) := by decide +kernel
theorem dX8_isBetween_7 : decode cX8_isBetween 7 = .ok (.if_icmp .gt 7, 3) := by decide +kernel
theorem dX8_isBetween_10 : decode cX8_isBetween 10 = .ok (.iconst 1, 1) := by decide +kernel
theorem dX8_isBetween_11 : decode cX8_isBetween 11 = .ok (.goto 4, 3) := by decide +kernel
theorem dX8_isBetween_14 : decode cX8_isBetween 14 = .ok (.iconst 0, 1) := by decide +kernel
theorem dX8_isBetween_15 : decode cX8_isBetween 15 = .ok (.ireturn, 1) := by decide +kernel
theorem dX8_isItem_0 : decode cX8_isItem 0 = .ok (.iload_n 1, 1) := by decide +kernel
theorem dX8_isItem_1 : decode cX8_isItem 1 = .ok (.iconst 0, 1) := by decide +kernel
theorem dX8_isItem_2 : decode cX8_isItem 2 = .ok (.aload_n 0, 1) := by decide +kernel
theorem dX8_isItem_3 : decode cX8_isItem 3 = .ok (.getfield 7, 3) := by decide +kernel
theorem dX8_isItem_6 : decode cX8_isItem 6 = .ok (.iconst 2, 1) := by decide +kernel
theorem dX8_isItem_7 : decode cX8_isItem 7 = .ok (.iaload, 1) := by decide +kernel
theorem dX8_isItem_8 : decode cX8_isItem 8 = .ok (.iconst 1, 1) := by decide +kernel
theorem dX8_isItem_9 : decode cX8_isItem 9 = .ok (.isub, 1) := by decide +kernel
theorem dX8_isItem_10 : decode cX8_isItem 10 = .ok (.invokestatic 33, 3) := by decide +kernel
theorem dX8_isItem_13 : decode cX8_isItem 13 = .ok (.ireturn, 1) := by decide +kernel
theorem dX8_isSite_0 : decode cX8_isSite 0 = .ok (.iload_n 1, 1) := by decide +kernel
theorem dX8_isSite_1 : decode cX8_isSite 1 = .ok (.iconst 0, 1) := by decide +kernel
theorem dX8_isSite_2 : decode cX8_isSite 2 = .ok (.aload_n 0, 1) := by decide +kernel
theorem dX8_isSite_3 : decode cX8_isSite 3 = .ok (.getfield 7, 3) := by decide +kernel
theorem dX8_isSite_6 : decode cX8_isSite 6 = .ok (.iconst 3, 1) := by decide +kernel
theorem dX8_isSite_7 : decode cX8_isSite 7 = .ok (.iaload, 1) := by decide +kernel
theorem dX8_isSite_8 : decode cX8_isSite 8 = .ok (.iconst 1, 1) := by decide +kernel
theorem dX8_isSite_9 : decode cX8_isSite 9 = .ok (.isub, 1) := by decide +kernel
theorem dX8_isSite_10 : decode cX8_isSite 10 = .ok (.invokestatic 33, 3) := by decide +kernel
theorem dX8_isSite_13 : decode cX8_isSite 13 = .ok (.ireturn, 1) := by decide +kernel
theorem dX8_isBase_0 : decode cX8_isBase 0 = .ok (.iload_n 1, 1) := by decide +kernel
theorem dX8_isBase_1 : decode cX8_isBase 1 = .ok (.iconst 1, 1) := by decide +kernel
theorem dX8_isBase_2 : decode cX8_isBase 2 = .ok (.aload_n 0, 1) := by decide +kernel
theorem dX8_isBase_3 : decode cX8_isBase 3 = .ok (.getfield 7, 3) := by decide +kernel
theorem dX8_isBase_6 : decode cX8_isBase 6 = .ok (.iconst 3, 1) := by decide +kernel
theorem dX8_isBase_7 : decode cX8_isBase 7 = .ok (.iaload, 1) := by decide +kernel
theorem dX8_isBase_8 : decode cX8_isBase 8 = .ok (.iconst 1, 1) := by decide +kernel
theorem dX8_isBase_9 : decode cX8_isBase 9 = .ok (.isub, 1) := by decide +kernel
theorem dX8_isBase_10 : decode cX8_isBase 10 = .ok (.invokestatic 33, 3) := by decide +kernel
theorem dX8_isBase_13 : decode cX8_isBase 13 = .ok (.ireturn, 1) := by decide +kernel
theorem dX8_item_0 : decode cX8_item 0 = .ok (.aload_n 0, 1) := by decide +kernel
theorem dX8_item_1 : decode cX8_item 1 = .ok (.getfield 7, 3) := by decide +kernel
theorem dX8_item_4 : decode cX8_item 4 = .ok (.bipush 8, 2) := by decide +kernel
theorem dX8_item_6 : decode cX8_item 6 = .ok (.iconst 3, 1) := by decide +kernel
theorem dX8_item_7 : decode cX8_item 7 = .ok (.iload_n 1, 1) := by decide +kernel
theorem dX8_item_8 : decode cX8_item 8 = .ok (.imul, 1) := by decide +kernel
theorem dX8_item_9 : decode cX8_item 9 = .ok (.iadd, 1) := by decide +kernel
theorem dX8_item_10 : decode cX8_item 10 = .ok (.iload_n 2, 1) := by decide +kernel
theorem dX8_item_11 : decode cX8_item 11 = .ok (.iadd, 1) := by decide +kernel
theorem dX8_item_12 : decode cX8_item 12 = .ok (.iaload, 1) := by decide +kernel
theorem dX8_item_13 : decode cX8_item 13 = .ok (.ireturn, 1) := by decide +kernel
theorem dX8_at_0 : decode cX8_at 0 = .ok (.iload_n 0, 1) := by decide +kernel
theorem dX8_at_1 : decode cX8_at 1 = .ok (.iconst 4, 1) := by decide +kernel
theorem dX8_at_2 : decode cX8_at 2 = .ok (.iload_n 1, 1) := by decide +kernel
theorem dX8_at_3 : decode cX8_at 3 = .ok (.imul, 1) := by decide +kernel
theorem dX8_at_4 : decode cX8_at 4 = .ok (.iadd, 1) := by decide +kernel
theorem dX8_at_5 : decode cX8_at 5 = .ok (.iload_n 2, 1) := by decide +kernel
theorem dX8_at_6 : decode cX8_at 6 = .ok (.iadd, 1) := by decide +kernel
theorem dX8_at_7 : decode cX8_at 7 = .ok (.ireturn, 1) := by decide +kernel
theorem dX8_link_0 : decode cX8_link 0 = .ok (.aload_n 0, 1) := by decide +kernel
theorem dX8_link_1 : decode cX8_link 1 = .ok (.getfield 7, 3) := by decide +kernel
theorem dX8_link_4 : decode cX8_link 4 = .ok (.bipush 28, 2) := by decide +kernel
theorem dX8_link_6 : decode cX8_link 6 = .ok (.bipush 8, 2) := by decide +kernel
theorem dX8_link_8 : decode cX8_link 8 = .ok (.iload_n 1, 1) := by decide +kernel
theorem dX8_link_9 : decode cX8_link 9 = .ok (.imul, 1) := by decide +kernel
theorem dX8_link_10 : decode cX8_link 10 = .ok (.iadd, 1) := by decide +kernel
theorem dX8_link_11 : decode cX8_link 11 = .ok (.iload_n 2, 1) := by decide +kernel
theorem dX8_link_12 : decode cX8_link 12 = .ok (.iadd, 1) := by decide +kernel
theorem dX8_link_13 : decode cX8_link 13 = .ok (.iaload, 1) := by decide +kernel
theorem dX8_link_14 : decode cX8_link 14 = .ok (.ireturn, 1) := by decide +kernel
theorem dX8_copy_0 : decode cX8_copy 0 = .ok (.iconst 0, 1) := by decide +kernel
theorem dX8_copy_1 : decode cX8_copy 1 = .ok (.istore 4, 2) := by decide +kernel
theorem dX8_copy_3 : decode cX8_copy 3 = .ok (.iload 4, 2) := by decide +kernel
theorem dX8_copy_5 : decode cX8_copy 5 = .ok (.sipush 7692, 3) := by decide +kernel
theorem dX8_copy_8 : decode cX8_copy 8 = .ok (.if_icmp .ge 21, 3) := by decide +kernel
theorem dX8_copy_11 : decode cX8_copy 11 = .ok (.aload_n 2, 1) := by decide +kernel
theorem dX8_copy_12 : decode cX8_copy 12 = .ok (.iload_n 3, 1) := by decide +kernel
theorem dX8_copy_13 : decode cX8_copy 13 = .ok (.iload 4, 2) := by decide +kernel
theorem dX8_copy_15 : decode cX8_copy 15 = .ok (.iadd, 1) := by decide +kernel
theorem dX8_copy_16 : decode cX8_copy 16 = .ok (.aload_n 0, 1) := by decide +kernel
theorem dX8_copy_17 : decode cX8_copy 17 = .ok (.iload_n 1, 1) := by decide +kernel
theorem dX8_copy_18 : decode cX8_copy 18 = .ok (.iload 4, 2) := by decide +kernel
theorem dX8_copy_20 : decode cX8_copy 20 = .ok (.iadd, 1) := by decide +kernel
theorem dX8_copy_21 : decode cX8_copy 21 = .ok (.iaload, 1) := by decide +kernel
theorem dX8_copy_22 : decode cX8_copy 22 = .ok (.iastore, 1) := by decide +kernel
theorem dX8_copy_23 : decode cX8_copy 23 = .ok (.iinc 4 1, 3) := by decide +kernel
theorem dX8_copy_26 : decode cX8_copy 26 = .ok (.goto (-23), 3) := by decide +kernel
theorem dX8_copy_29 : decode cX8_copy 29 = .ok (.return_, 1) := by decide +kernel
theorem dX8_append_0 : decode cX8_append 0 = .ok (.aload_n 0, 1) := by decide +kernel
theorem dX8_append_1 : decode cX8_append 1 = .ok (.getfield 7, 3) := by decide +kernel
theorem dX8_append_4 : decode cX8_append 4 = .ok (.iload_n 1, 1) := by decide +kernel
theorem dX8_append_5 : decode cX8_append 5 = .ok (.dup2, 1) := by decide +kernel
theorem dX8_append_6 : decode cX8_append 6 = .ok (.iaload, 1) := by decide +kernel
theorem dX8_append_7 : decode cX8_append 7 = .ok (.iconst 1, 1) := by decide +kernel
theorem dX8_append_8 : decode cX8_append 8 = .ok (.iadd, 1) := by decide +kernel
theorem dX8_append_9 : decode cX8_append 9 = .ok (.iastore, 1) := by decide +kernel
theorem dX8_append_10 : decode cX8_append 10 = .ok (.iload_n 2, 1) := by decide +kernel
theorem dX8_append_11 : decode cX8_append 11 = .ok (.iload_n 3, 1) := by decide +kernel
theorem dX8_append_12 : decode cX8_append 12 = .ok (.aload_n 0, 1) := by decide +kernel
theorem dX8_append_13 : decode cX8_append 13 = .ok (.getfield 7, 3) := by decide +kernel
theorem dX8_append_16 : decode cX8_append 16 = .ok (.iload_n 1, 1) := by decide +kernel
theorem dX8_append_17 : decode cX8_append 17 = .ok (.iaload, 1) := by decide +kernel
theorem dX8_append_18 : decode cX8_append 18 = .ok (.iconst 1, 1) := by decide +kernel
theorem dX8_append_19 : decode cX8_append 19 = .ok (.isub, 1) := by decide +kernel
theorem dX8_append_20 : decode cX8_append 20 = .ok (.imul, 1) := by decide +kernel
theorem dX8_append_21 : decode cX8_append 21 = .ok (.iadd, 1) := by decide +kernel
theorem dX8_append_22 : decode cX8_append 22 = .ok (.ireturn, 1) := by decide +kernel
theorem dX8_remove_0 : decode cX8_remove 0 = .ok (.aload_n 0, 1) := by decide +kernel
theorem dX8_remove_1 : decode cX8_remove 1 = .ok (.getfield 7, 3) := by decide +kernel
theorem dX8_remove_4 : decode cX8_remove 4 = .ok (.iload_n 1, 1) := by decide +kernel
theorem dX8_remove_5 : decode cX8_remove 5 = .ok (.dup2, 1) := by decide +kernel
theorem dX8_remove_6 : decode cX8_remove 6 = .ok (.iaload, 1) := by decide +kernel
theorem dX8_remove_7 : decode cX8_remove 7 = .ok (.iconst 1, 1) := by decide +kernel
theorem dX8_remove_8 : decode cX8_remove 8 = .ok (.isub, 1) := by decide +kernel
theorem dX8_remove_9 : decode cX8_remove 9 = .ok (.iastore, 1) := by decide +kernel
theorem dX8_remove_10 : decode cX8_remove 10 = .ok (.iload_n 2, 1) := by decide +kernel
theorem dX8_remove_11 : decode cX8_remove 11 = .ok (.iload_n 3, 1) := by decide +kernel
theorem dX8_remove_12 : decode cX8_remove 12 = .ok (.iload 4, 2) := by decide +kernel
theorem dX8_remove_14 : decode cX8_remove 14 = .ok (.imul, 1) := by decide +kernel
theorem dX8_remove_15 : decode cX8_remove 15 = .ok (.iadd, 1) := by decide +kernel
theorem dX8_remove_16 : decode cX8_remove 16 = .ok (.istore 5, 2) := by decide +kernel
theorem dX8_remove_18 : decode cX8_remove 18 = .ok (.iload 5, 2) := by decide +kernel
theorem dX8_remove_20 : decode cX8_remove 20 = .ok (.iload_n 2, 1) := by decide +kernel
theorem dX8_remove_21 : decode cX8_remove 21 = .ok (.iload_n 3, 1) := by decide +kernel
theorem dX8_remove_22 : decode cX8_remove 22 = .ok (.aload_n 0, 1) := by decide +kernel
theorem dX8_remove_23 : decode cX8_remove 23 = .ok (.getfield 7, 3) := by decide +kernel
theorem dX8_remove_26 : decode cX8_remove 26 = .ok (.iload_n 1, 1) := by decide +kernel
theorem dX8_remove_27 : decode cX8_remove 27 = .ok (.iaload, 1) := by decide +kernel
theorem dX8_remove_28 : decode cX8_remove 28 = .ok (.imul, 1) := by decide +kernel
theorem dX8_remove_29 : decode cX8_remove 29 = .ok (.iadd, 1) := by decide +kernel
theorem dX8_remove_30 : decode cX8_remove 30 = .ok (.if_icmp .ge 25, 3) := by decide +kernel
theorem dX8_remove_33 : decode cX8_remove 33 = .ok (.aload_n 0, 1) := by decide +kernel
theorem dX8_remove_34 : decode cX8_remove 34 = .ok (.getfield 7, 3) := by decide +kernel
theorem dX8_remove_37 : decode cX8_remove 37 = .ok (.iload 5, 2) := by decide +kernel
theorem dX8_remove_39 : decode cX8_remove 39 = .ok (.aload_n 0, 1) := by decide +kernel
theorem dX8_remove_40 : decode cX8_remove 40 = .ok (.getfield 7, 3) := by decide +kernel
theorem dX8_remove_43 : decode cX8_remove 43 = .ok (.iload 5, 2) := by decide +kernel
theorem dX8_remove_45 : decode cX8_remove 45 = .ok (.iload_n 3, 1) := by decide +kernel
theorem dX8_remove_46 : decode cX8_remove 46 = .ok (.iadd, 1) := by decide +kernel
theorem dX8_remove_47 : decode cX8_remove 47 = .ok (.iaload, 1) := by decide +kernel
theorem dX8_remove_48 : decode cX8_remove 48 = .ok (.iastore, 1) := by decide +kernel
theorem dX8_remove_49 : decode cX8_remove 49 = .ok (.iinc 5 1, 3) := by decide +kernel
theorem dX8_remove_52 : decode cX8_remove 52 = .ok (.goto (-34), 3) := by decide +kernel
theorem dX8_remove_55 : decode cX8_remove 55 = .ok (.return_, 1) := by decide +kernel
theorem dX8_unit_0 : decode cX8_unit 0 = .ok (.aload_n 0, 1) := by decide +kernel
theorem dX8_unit_1 : decode cX8_unit 1 = .ok (.getfield 7, 3) := by decide +kernel
theorem dX8_unit_4 : decode cX8_unit 4 = .ok (.sipush 412, 3) := by decide +kernel
theorem dX8_unit_7 : decode cX8_unit 7 = .ok (.bipush 6, 2) := by decide +kernel
theorem dX8_unit_9 : decode cX8_unit 9 = .ok (.iload_n 1, 1) := by decide +kernel
theorem dX8_unit_10 : decode cX8_unit 10 = .ok (.imul, 1) := by decide +kernel
theorem dX8_unit_11 : decode cX8_unit 11 = .ok (.iadd, 1) := by decide +kernel
theorem dX8_unit_12 : decode cX8_unit 12 = .ok (.iload_n 2, 1) := by decide +kernel
theorem dX8_unit_13 : decode cX8_unit 13 = .ok (.iadd, 1) := by decide +kernel
theorem dX8_unit_14 : decode cX8_unit 14 = .ok (.iaload, 1) := by decide +kernel
theorem dX8_unit_15 : decode cX8_unit 15 = .ok (.ireturn, 1) := by decide +kernel
theorem dX8_appendUnit_0 : decode cX8_appendUnit 0 = .ok (.aload_n 0, 1) := by decide +kernel
theorem dX8_appendUnit_1 : decode cX8_appendUnit 1 = .ok (.iconst 4, 1) := by decide +kernel
theorem dX8_appendUnit_2 : decode cX8_appendUnit 2 = .ok (.sipush 412, 3) := by decide +kernel
theorem dX8_appendUnit_5 : decode cX8_appendUnit 5 = .ok (.bipush 6, 2) := by decide +kernel
theorem dX8_appendUnit_7 : decode cX8_appendUnit 7 = .ok (.invokevirtual 37, 3) := by decide +kernel
theorem dX8_appendUnit_10 : decode cX8_appendUnit 10 = .ok (.istore 7, 2) := by decide +kernel
theorem dX8_appendUnit_12 : decode cX8_appendUnit 12 = .ok (.aload_n 0, 1) := by decide +kernel
theorem dX8_appendUnit_13 : decode cX8_appendUnit 13 = .ok (.getfield 7, 3) := by decide +kernel
theorem dX8_appendUnit_16 : decode cX8_appendUnit 16 = .ok (.iload 7, 2) := by decide +kernel
theorem dX8_appendUnit_18 : decode cX8_appendUnit 18 = .ok (.iconst 0, 1) := by decide +kernel
theorem dX8_appendUnit_19 : decode cX8_appendUnit 19 = .ok (.iadd, 1) := by decide +kernel
theorem dX8_appendUnit_20 : decode cX8_appendUnit 20 = .ok (.iload_n 1, 1) := by decide +kernel
theorem dX8_appendUnit_21 : decode cX8_appendUnit 21 = .ok (.iastore, 1) := by decide +kernel
theorem dX8_appendUnit_22 : decode cX8_appendUnit 22 = .ok (.aload_n 0, 1) := by decide +kernel
theorem dX8_appendUnit_23 : decode cX8_appendUnit 23 = .ok (.getfield 7, 3) := by decide +kernel
theorem dX8_appendUnit_26 : decode cX8_appendUnit 26 = .ok (.iload 7, 2) := by decide +kernel
theorem dX8_appendUnit_28 : decode cX8_appendUnit 28 = .ok (.iconst 1, 1) := by decide +kernel
theorem dX8_appendUnit_29 : decode cX8_appendUnit 29 = .ok (.iadd, 1) := by decide +kernel
theorem dX8_appendUnit_30 : decode cX8_appendUnit 30 = .ok (.iload_n 2, 1) := by decide +kernel
theorem dX8_appendUnit_31 : decode cX8_appendUnit 31 = .ok (.iastore, 1) := by decide +kernel
theorem dX8_appendUnit_32 : decode cX8_appendUnit 32 = .ok (.aload_n 0, 1) := by decide +kernel
theorem dX8_appendUnit_33 : decode cX8_appendUnit 33 = .ok (.getfield 7, 3) := by decide +kernel
theorem dX8_appendUnit_36 : decode cX8_appendUnit 36 = .ok (.iload 7, 2) := by decide +kernel
theorem dX8_appendUnit_38 : decode cX8_appendUnit 38 = .ok (.iconst 2, 1) := by decide +kernel
theorem dX8_appendUnit_39 : decode cX8_appendUnit 39 = .ok (.iadd, 1) := by decide +kernel
theorem dX8_appendUnit_40 : decode cX8_appendUnit 40 = .ok (.iload_n 3, 1) := by decide +kernel
theorem dX8_appendUnit_41 : decode cX8_appendUnit 41 = .ok (.iastore, 1) := by decide +kernel
theorem dX8_appendUnit_42 : decode cX8_appendUnit 42 = .ok (.aload_n 0, 1) := by decide +kernel
theorem dX8_appendUnit_43 : decode cX8_appendUnit 43 = .ok (.getfield 7, 3) := by decide +kernel
theorem dX8_appendUnit_46 : decode cX8_appendUnit 46 = .ok (.iload 7, 2) := by decide +kernel
theorem dX8_appendUnit_48 : decode cX8_appendUnit 48 = .ok (.iconst 3, 1) := by decide +kernel
theorem dX8_appendUnit_49 : decode cX8_appendUnit 49 = .ok (.iadd, 1) := by decide +kernel
theorem dX8_appendUnit_50 : decode cX8_appendUnit 50 = .ok (.iload 4, 2) := by decide +kernel
theorem dX8_appendUnit_52 : decode cX8_appendUnit 52 = .ok (.iastore, 1) := by decide +kernel
theorem dX8_appendUnit_53 : decode cX8_appendUnit 53 = .ok (.aload_n 0, 1) := by decide +kernel
theorem dX8_appendUnit_54 : decode cX8_appendUnit 54 = .ok (.getfield 7, 3) := by decide +kernel
theorem dX8_appendUnit_57 : decode cX8_appendUnit 57 = .ok (.iload 7, 2) := by decide +kernel
theorem dX8_appendUnit_59 : decode cX8_appendUnit 59 = .ok (.iconst 4, 1) := by decide +kernel
theorem dX8_appendUnit_60 : decode cX8_appendUnit 60 = .ok (.iadd, 1) := by decide +kernel
theorem dX8_appendUnit_61 : decode cX8_appendUnit 61 = .ok (.iload 5, 2) := by decide +kernel
theorem dX8_appendUnit_63 : decode cX8_appendUnit 63 = .ok (.iastore, 1) := by decide +kernel
theorem dX8_appendUnit_64 : decode cX8_appendUnit 64 = .ok (.aload_n 0, 1) := by decide +kernel
theorem dX8_appendUnit_65 : decode cX8_appendUnit 65 = .ok (.getfield 7, 3) := by decide +kernel
theorem dX8_appendUnit_68 : decode cX8_appendUnit 68 = .ok (.iload 7, 2) := by decide +kernel
theorem dX8_appendUnit_70 : decode cX8_appendUnit 70 = .ok (.iconst 5, 1) := by decide +kernel
theorem dX8_appendUnit_71 : decode cX8_appendUnit 71 = .ok (.iadd, 1) := by decide +kernel
theorem dX8_appendUnit_72 : decode cX8_appendUnit 72 = .ok (.iload 6, 2) := by decide +kernel
theorem dX8_appendUnit_74 : decode cX8_appendUnit 74 = .ok (.iastore, 1) := by decide +kernel
theorem dX8_appendUnit_75 : decode cX8_appendUnit 75 = .ok (.return_, 1) := by decide +kernel
theorem dX8_customer_0 : decode cX8_customer 0 = .ok (.aload_n 0, 1) := by decide +kernel
theorem dX8_customer_1 : decode cX8_customer 1 = .ok (.getfield 7, 3) := by decide +kernel
theorem dX8_customer_4 : decode cX8_customer 4 = .ok (.sipush 4972, 3) := by decide +kernel
theorem dX8_customer_7 : decode cX8_customer 7 = .ok (.iconst 4, 1) := by decide +kernel
theorem dX8_customer_8 : decode cX8_customer 8 = .ok (.iload_n 1, 1) := by decide +kernel
theorem dX8_customer_9 : decode cX8_customer 9 = .ok (.imul, 1) := by decide +kernel
theorem dX8_customer_10 : decode cX8_customer 10 = .ok (.iadd, 1) := by decide +kernel
theorem dX8_customer_11 : decode cX8_customer 11 = .ok (.iload_n 2, 1) := by decide +kernel
theorem dX8_customer_12 : decode cX8_customer 12 = .ok (.iadd, 1) := by decide +kernel
theorem dX8_customer_13 : decode cX8_customer 13 = .ok (.iaload, 1) := by decide +kernel
theorem dX8_customer_14 : decode cX8_customer 14 = .ok (.ireturn, 1) := by decide +kernel
theorem dX8_order_0 : decode cX8_order 0 = .ok (.aload_n 0, 1) := by decide +kernel
theorem dX8_order_1 : decode cX8_order 1 = .ok (.getfield 7, 3) := by decide +kernel
theorem dX8_order_4 : decode cX8_order 4 = .ok (.sipush 5412, 3) := by decide +kernel
theorem dX8_order_7 : decode cX8_order 7 = .ok (.iconst 3, 1) := by decide +kernel
theorem dX8_order_8 : decode cX8_order 8 = .ok (.iload_n 1, 1) := by decide +kernel
theorem dX8_order_9 : decode cX8_order 9 = .ok (.imul, 1) := by decide +kernel
theorem dX8_order_10 : decode cX8_order 10 = .ok (.iadd, 1) := by decide +kernel
theorem dX8_order_11 : decode cX8_order 11 = .ok (.iload_n 2, 1) := by decide +kernel
theorem dX8_order_12 : decode cX8_order 12 = .ok (.iadd, 1) := by decide +kernel
theorem dX8_order_13 : decode cX8_order 13 = .ok (.iaload, 1) := by decide +kernel
theorem dX8_order_14 : decode cX8_order 14 = .ok (.ireturn, 1) := by decide +kernel
theorem dX8_appendItem_0 : decode cX8_appendItem 0 = .ok (.aload_n 0, 1) := by decide +kernel
theorem dX8_appendItem_1 : decode cX8_appendItem 1 = .ok (.iconst 2, 1) := by decide +kernel
theorem dX8_appendItem_2 : decode cX8_appendItem 2 = .ok (.bipush 8, 2) := by decide +kernel
theorem dX8_appendItem_4 : decode cX8_appendItem 4 = .ok (.iconst 3, 1) := by decide +kernel
theorem dX8_appendItem_5 : decode cX8_appendItem 5 = .ok (.invokevirtual 37, 3) := by decide +kernel
theorem dX8_appendItem_8 : decode cX8_appendItem 8 = .ok (.istore 4, 2) := by decide +kernel
theorem dX8_appendItem_10 : decode cX8_appendItem 10 = .ok (.aload_n 0, 1) := by decide +kernel
theorem dX8_appendItem_11 : decode cX8_appendItem 11 = .ok (.getfield 7, 3) := by decide +kernel
theorem dX8_appendItem_14 : decode cX8_appendItem 14 = .ok (.iload 4, 2) := by decide +kernel
theorem dX8_appendItem_16 : decode cX8_appendItem 16 = .ok (.iconst 0, 1) := by decide +kernel
theorem dX8_appendItem_17 : decode cX8_appendItem 17 = .ok (.iadd, 1) := by decide +kernel
theorem dX8_appendItem_18 : decode cX8_appendItem 18 = .ok (.iload_n 1, 1) := by decide +kernel
theorem dX8_appendItem_19 : decode cX8_appendItem 19 = .ok (.iastore, 1) := by decide +kernel
theorem dX8_appendItem_20 : decode cX8_appendItem 20 = .ok (.aload_n 0, 1) := by decide +kernel
theorem dX8_appendItem_21 : decode cX8_appendItem 21 = .ok (.getfield 7, 3) := by decide +kernel
theorem dX8_appendItem_24 : decode cX8_appendItem 24 = .ok (.iload 4, 2) := by decide +kernel
theorem dX8_appendItem_26 : decode cX8_appendItem 26 = .ok (.iconst 1, 1) := by decide +kernel
theorem dX8_appendItem_27 : decode cX8_appendItem 27 = .ok (.iadd, 1) := by decide +kernel
theorem dX8_appendItem_28 : decode cX8_appendItem 28 = .ok (.iload_n 2, 1) := by decide +kernel
theorem dX8_appendItem_29 : decode cX8_appendItem 29 = .ok (.iastore, 1) := by decide +kernel
theorem dX8_appendItem_30 : decode cX8_appendItem 30 = .ok (.aload_n 0, 1) := by decide +kernel
theorem dX8_appendItem_31 : decode cX8_appendItem 31 = .ok (.getfield 7, 3) := by decide +kernel
theorem dX8_appendItem_34 : decode cX8_appendItem 34 = .ok (.iload 4, 2) := by decide +kernel
theorem dX8_appendItem_36 : decode cX8_appendItem 36 = .ok (.iconst 2, 1) := by decide +kernel
theorem dX8_appendItem_37 : decode cX8_appendItem 37 = .ok (.iadd, 1) := by decide +kernel
theorem dX8_appendItem_38 : decode cX8_appendItem 38 = .ok (.iload_n 3, 1) := by decide +kernel
theorem dX8_appendItem_39 : decode cX8_appendItem 39 = .ok (.iastore, 1) := by decide +kernel
theorem dX8_appendItem_40 : decode cX8_appendItem 40 = .ok (.aload_n 0, 1) := by decide +kernel
theorem dX8_appendItem_41 : decode cX8_appendItem 41 = .ok (.getfield 7, 3) := by decide +kernel
theorem dX8_appendItem_44 : decode cX8_appendItem 44 = .ok (.iconst 2, 1) := by decide +kernel
theorem dX8_appendItem_45 : decode cX8_appendItem 45 = .ok (.iaload, 1) := by decide +kernel
theorem dX8_appendItem_46 : decode cX8_appendItem 46 = .ok (.iconst 1, 1) := by decide +kernel
theorem dX8_appendItem_47 : decode cX8_appendItem 47 = .ok (.isub, 1) := by decide +kernel
theorem dX8_appendItem_48 : decode cX8_appendItem 48 = .ok (.ireturn, 1) := by decide +kernel
theorem dX8_addItem_0 : decode cX8_addItem 0 = .ok (.aload_n 0, 1) := by decide +kernel
theorem dX8_addItem_1 : decode cX8_addItem 1 = .ok (.iconst 0, 1) := by decide +kernel
theorem dX8_addItem_2 : decode cX8_addItem 2 = .ok (.putfield 30, 3) := by decide +kernel
theorem dX8_addItem_5 : decode cX8_addItem 5 = .ok (.iload_n 1, 1) := by decide +kernel
theorem dX8_addItem_6 : decode cX8_addItem 6 = .ok (.iconst 1, 1) := by decide +kernel
theorem dX8_addItem_7 : decode cX8_addItem 7 = .ok (.bipush 30, 2) := by decide +kernel
theorem dX8_addItem_9 : decode cX8_addItem 9 = .ok (.invokestatic 33, 3) := by decide +kernel
theorem dX8_addItem_12 : decode cX8_addItem 12 = .ok (.ifCond .eq 22, 3) := by decide +kernel
theorem dX8_addItem_15 : decode cX8_addItem 15 = .ok (.iload_n 2, 1) := by decide +kernel
theorem dX8_addItem_16 : decode cX8_addItem 16 = .ok (.iconst 1, 1) := by decide +kernel
theorem dX8_addItem_17 : decode cX8_addItem 17 = .ok (.iconst 5, 1) := by decide +kernel
theorem dX8_addItem_18 : decode cX8_addItem 18 = .ok (.invokestatic 33, 3) := by decide +kernel
theorem dX8_addItem_21 : decode cX8_addItem 21 = .ok (.ifCond .eq 13, 3) := by decide +kernel
theorem dX8_addItem_24 : decode cX8_addItem 24 = .ok (.iload_n 3, 1) := by decide +kernel
theorem dX8_addItem_25 : decode cX8_addItem 25 = .ok (.iconst 1, 1) := by decide +kernel
theorem dX8_addItem_26 : decode cX8_addItem 26 = .ok (.bipush 30, 2) := by decide +kernel
theorem dX8_addItem_28 : decode cX8_addItem 28 = .ok (.invokestatic 33, 3) := by decide +kernel
theorem dX8_addItem_31 : decode cX8_addItem 31 = .ok (.ifCond .ne 9, 3) := by decide +kernel
theorem dX8_addItem_34 : decode cX8_addItem 34 = .ok (.aload_n 0, 1) := by decide +kernel
theorem dX8_addItem_35 : decode cX8_addItem 35 = .ok (.iconst 1, 1) := by decide +kernel
theorem dX8_addItem_36 : decode cX8_addItem 36 = .ok (.invokevirtual 41, 3) := by decide +kernel
theorem dX8_addItem_39 : decode cX8_addItem 39 = .ok (.ireturn, 1) := by decide +kernel
theorem dX8_addItem_40 : decode cX8_addItem 40 = .ok (.aload_n 0, 1) := by decide +kernel
theorem dX8_addItem_41 : decode cX8_addItem 41 = .ok (.getfield 7, 3) := by decide +kernel
theorem dX8_addItem_44 : decode cX8_addItem 44 = .ok (.iconst 2, 1) := by decide +kernel
theorem dX8_addItem_45 : decode cX8_addItem 45 = .ok (.iaload, 1) := by decide +kernel
theorem dX8_addItem_46 : decode cX8_addItem 46 = .ok (.iconst 4, 1) := by decide +kernel
theorem dX8_addItem_47 : decode cX8_addItem 47 = .ok (.if_icmp .ne 11, 3) := by decide +kernel
theorem dX8_addItem_50 : decode cX8_addItem 50 = .ok (.aload_n 0, 1) := by decide +kernel
theorem dX8_addItem_51 : decode cX8_addItem 51 = .ok (.iconst 2, 1) := by decide +kernel
theorem dX8_addItem_52 : decode cX8_addItem 52 = .ok (.invokevirtual 41, 3) := by decide +kernel
theorem dX8_addItem_55 : decode cX8_addItem 55 = .ok (.goto 10, 3) := by decide +kernel
theorem dX8_addItem_58 : decode cX8_addItem 58 = .ok (.aload_n 0, 1) := by decide +kernel
theorem dX8_addItem_59 : decode cX8_addItem 59 = .ok (.iload_n 1, 1) := by decide +kernel
theorem dX8_addItem_60 : decode cX8_addItem 60 = .ok (.iload_n 2, 1) := by decide +kernel
theorem dX8_addItem_61 : decode cX8_addItem 61 = .ok (.iload_n 3, 1) := by decide +kernel
theorem dX8_addItem_62 : decode cX8_addItem 62 = .ok (.invokevirtual 45, 3) := by decide +kernel
theorem dX8_addItem_65 : decode cX8_addItem 65 = .ok (.ireturn, 1) := by decide +kernel
theorem dX8_appendBase_0 : decode cX8_appendBase 0 = .ok (.aload_n 0, 1) := by decide +kernel
theorem dX8_appendBase_1 : decode cX8_appendBase 1 = .ok (.getfield 7, 3) := by decide +kernel
theorem dX8_appendBase_4 : decode cX8_appendBase 4 = .ok (.bipush 20, 2) := by decide +kernel
theorem dX8_appendBase_6 : decode cX8_appendBase 6 = .ok (.aload_n 0, 1) := by decide +kernel
theorem dX8_appendBase_7 : decode cX8_appendBase 7 = .ok (.getfield 7, 3) := by decide +kernel
theorem dX8_appendBase_10 : decode cX8_appendBase 10 = .ok (.iconst 3, 1) := by decide +kernel
theorem dX8_appendBase_11 : decode cX8_appendBase 11 = .ok (.iaload, 1) := by decide +kernel
theorem dX8_appendBase_12 : decode cX8_appendBase 12 = .ok (.iadd, 1) := by decide +kernel
theorem dX8_appendBase_13 : decode cX8_appendBase 13 = .ok (.iload_n 1, 1) := by decide +kernel
theorem dX8_appendBase_14 : decode cX8_appendBase 14 = .ok (.iastore, 1) := by decide +kernel
theorem dX8_appendBase_15 : decode cX8_appendBase 15 = .ok (.aload_n 0, 1) := by decide +kernel
theorem dX8_appendBase_16 : decode cX8_appendBase 16 = .ok (.getfield 7, 3) := by decide +kernel
theorem dX8_appendBase_19 : decode cX8_appendBase 19 = .ok (.iconst 3, 1) := by decide +kernel
theorem dX8_appendBase_20 : decode cX8_appendBase 20 = .ok (.dup2, 1) := by decide +kernel
theorem dX8_appendBase_21 : decode cX8_appendBase 21 = .ok (.iaload, 1) := by decide +kernel
theorem dX8_appendBase_22 : decode cX8_appendBase 22 = .ok (.iconst 1, 1) := by decide +kernel
theorem dX8_appendBase_23 : decode cX8_appendBase 23 = .ok (.iadd, 1) := by decide +kernel
theorem dX8_appendBase_24 : decode cX8_appendBase 24 = .ok (.iastore, 1) := by decide +kernel
theorem dX8_appendBase_25 : decode cX8_appendBase 25 = .ok (.aload_n 0, 1) := by decide +kernel
theorem dX8_appendBase_26 : decode cX8_appendBase 26 = .ok (.getfield 7, 3) := by decide +kernel
theorem dX8_appendBase_29 : decode cX8_appendBase 29 = .ok (.iconst 3, 1) := by decide +kernel
theorem dX8_appendBase_30 : decode cX8_appendBase 30 = .ok (.iaload, 1) := by decide +kernel
theorem dX8_appendBase_31 : decode cX8_appendBase 31 = .ok (.iconst 1, 1) := by decide +kernel
theorem dX8_appendBase_32 : decode cX8_appendBase 32 = .ok (.isub, 1) := by decide +kernel
theorem dX8_appendBase_33 : decode cX8_appendBase 33 = .ok (.ireturn, 1) := by decide +kernel
theorem dX8_addBase_0 : decode cX8_addBase 0 = .ok (.aload_n 0, 1) := by decide +kernel
theorem dX8_addBase_1 : decode cX8_addBase 1 = .ok (.iconst 0, 1) := by decide +kernel
theorem dX8_addBase_2 : decode cX8_addBase 2 = .ok (.putfield 30, 3) := by decide +kernel
theorem dX8_addBase_5 : decode cX8_addBase 5 = .ok (.iload_n 1, 1) := by decide +kernel
theorem dX8_addBase_6 : decode cX8_addBase 6 = .ok (.iconst 1, 1) := by decide +kernel
theorem dX8_addBase_7 : decode cX8_addBase 7 = .ok (.bipush 20, 2) := by decide +kernel
theorem dX8_addBase_9 : decode cX8_addBase 9 = .ok (.invokestatic 33, 3) := by decide +kernel
theorem dX8_addBase_12 : decode cX8_addBase 12 = .ok (.ifCond .ne 9, 3) := by decide +kernel
theorem dX8_addBase_15 : decode cX8_addBase 15 = .ok (.aload_n 0, 1) := by decide +kernel
theorem dX8_addBase_16 : decode cX8_addBase 16 = .ok (.iconst 1, 1) := by decide +kernel
theorem dX8_addBase_17 : decode cX8_addBase 17 = .ok (.invokevirtual 41, 3) := by decide +kernel
theorem dX8_addBase_20 : decode cX8_addBase 20 = .ok (.ireturn, 1) := by decide +kernel
theorem dX8_addBase_21 : decode cX8_addBase 21 = .ok (.aload_n 0, 1) := by decide +kernel
theorem dX8_addBase_22 : decode cX8_addBase 22 = .ok (.getfield 7, 3) := by decide +kernel
theorem dX8_addBase_25 : decode cX8_addBase 25 = .ok (.iconst 3, 1) := by decide +kernel
theorem dX8_addBase_26 : decode cX8_addBase 26 = .ok (.iaload, 1) := by decide +kernel
theorem dX8_addBase_27 : decode cX8_addBase 27 = .ok (.bipush 8, 2) := by decide +kernel
theorem dX8_addBase_29 : decode cX8_addBase 29 = .ok (.if_icmp .ne 11, 3) := by decide +kernel
theorem dX8_addBase_32 : decode cX8_addBase 32 = .ok (.aload_n 0, 1) := by decide +kernel
theorem dX8_addBase_33 : decode cX8_addBase 33 = .ok (.iconst 2, 1) := by decide +kernel
theorem dX8_addBase_34 : decode cX8_addBase 34 = .ok (.invokevirtual 41, 3) := by decide +kernel
theorem dX8_addBase_37 : decode cX8_addBase 37 = .ok (.goto 8, 3) := by decide +kernel
theorem dX8_addBase_40 : decode cX8_addBase 40 = .ok (.aload_n 0, 1) := by decide +kernel
theorem dX8_addBase_41 : decode cX8_addBase 41 = .ok (.iload_n 1, 1) := by decide +kernel
theorem dX8_addBase_42 : decode cX8_addBase 42 = .ok (.invokevirtual 48, 3) := by decide +kernel
theorem dX8_addBase_45 : decode cX8_addBase 45 = .ok (.ireturn, 1) := by decide +kernel
theorem dX8_itemCount_0 : decode cX8_itemCount 0 = .ok (.aload_n 0, 1) := by decide +kernel
theorem dX8_itemCount_1 : decode cX8_itemCount 1 = .ok (.iconst 0, 1) := by decide +kernel
theorem dX8_itemCount_2 : decode cX8_itemCount 2 = .ok (.putfield 30, 3) := by decide +kernel
theorem dX8_itemCount_5 : decode cX8_itemCount 5 = .ok (.aload_n 0, 1) := by decide +kernel
theorem dX8_itemCount_6 : decode cX8_itemCount 6 = .ok (.getfield 7, 3) := by decide +kernel
theorem dX8_itemCount_9 : decode cX8_itemCount 9 = .ok (.iconst 2, 1) := by decide +kernel
theorem dX8_itemCount_10 : decode cX8_itemCount 10 = .ok (.iaload, 1) := by decide +kernel
theorem dX8_itemCount_11 : decode cX8_itemCount 11 = .ok (.ireturn, 1) := by decide +kernel
theorem dX8_siteCount_0 : decode cX8_siteCount 0 = .ok (.aload_n 0, 1) := by decide +kernel
theorem dX8_siteCount_1 : decode cX8_siteCount 1 = .ok (.iconst 0, 1) := by decide +kernel
theorem dX8_siteCount_2 : decode cX8_siteCount 2 = .ok (.putfield 30, 3) := by decide +kernel
theorem dX8_siteCount_5 : decode cX8_siteCount 5 = .ok (.aload_n 0, 1) := by decide +kernel
theorem dX8_siteCount_6 : decode cX8_siteCount 6 = .ok (.getfield 7, 3) := by decide +kernel
theorem dX8_siteCount_9 : decode cX8_siteCount 9 = .ok (.iconst 3, 1) := by decide +kernel
theorem dX8_siteCount_10 : decode cX8_siteCount 10 = .ok (.iaload, 1) := by decide +kernel
theorem dX8_siteCount_11 : decode cX8_siteCount 11 = .ok (.ireturn, 1) := by decide +kernel
theorem dX8_putLink_0 : decode cX8_putLink 0 = .ok (.aload_n 0, 1) := by decide +kernel
theorem dX8_putLink_1 : decode cX8_putLink 1 = .ok (.iload_n 1, 1) := by decide +kernel
theorem dX8_putLink_2 : decode cX8_putLink 2 = .ok (.iload_n 2, 1) := by decide +kernel
theorem dX8_putLink_3 : decode cX8_putLink 3 = .ok (.invokevirtual 51, 3) := by decide +kernel
theorem dX8_putLink_6 : decode cX8_putLink 6 = .ok (.istore 4, 2) := by decide +kernel
theorem dX8_putLink_8 : decode cX8_putLink 8 = .ok (.aload_n 0, 1) := by decide +kernel
theorem dX8_putLink_9 : decode cX8_putLink 9 = .ok (.getfield 7, 3) := by decide +kernel
theorem dX8_putLink_12 : decode cX8_putLink 12 = .ok (.bipush 28, 2) := by decide +kernel
theorem dX8_putLink_14 : decode cX8_putLink 14 = .ok (.bipush 8, 2) := by decide +kernel
theorem dX8_putLink_16 : decode cX8_putLink 16 = .ok (.iload_n 1, 1) := by decide +kernel
theorem dX8_putLink_17 : decode cX8_putLink 17 = .ok (.imul, 1) := by decide +kernel
theorem dX8_putLink_18 : decode cX8_putLink 18 = .ok (.iadd, 1) := by decide +kernel
theorem dX8_putLink_19 : decode cX8_putLink 19 = .ok (.iload_n 2, 1) := by decide +kernel
theorem dX8_putLink_20 : decode cX8_putLink 20 = .ok (.iadd, 1) := by decide +kernel
theorem dX8_putLink_21 : decode cX8_putLink 21 = .ok (.iload_n 3, 1) := by decide +kernel
theorem dX8_putLink_22 : decode cX8_putLink 22 = .ok (.iastore, 1) := by decide +kernel
theorem dX8_putLink_23 : decode cX8_putLink 23 = .ok (.aload_n 0, 1) := by decide +kernel
theorem dX8_putLink_24 : decode cX8_putLink 24 = .ok (.getfield 7, 3) := by decide +kernel
theorem dX8_putLink_27 : decode cX8_putLink 27 = .ok (.bipush 28, 2) := by decide +kernel
theorem dX8_putLink_29 : decode cX8_putLink 29 = .ok (.bipush 8, 2) := by decide +kernel
theorem dX8_putLink_31 : decode cX8_putLink 31 = .ok (.iload_n 2, 1) := by decide +kernel
theorem dX8_putLink_32 : decode cX8_putLink 32 = .ok (.imul, 1) := by decide +kernel
theorem dX8_putLink_33 : decode cX8_putLink 33 = .ok (.iadd, 1) := by decide +kernel
theorem dX8_putLink_34 : decode cX8_putLink 34 = .ok (.iload_n 1, 1) := by decide +kernel
theorem dX8_putLink_35 : decode cX8_putLink 35 = .ok (.iadd, 1) := by decide +kernel
theorem dX8_putLink_36 : decode cX8_putLink 36 = .ok (.iload_n 3, 1) := by decide +kernel
theorem dX8_putLink_37 : decode cX8_putLink 37 = .ok (.iastore, 1) := by decide +kernel
theorem dX8_putLink_38 : decode cX8_putLink 38 = .ok (.iload 4, 2) := by decide +kernel
theorem dX8_putLink_40 : decode cX8_putLink 40 = .ok (.ireturn, 1) := by decide +kernel
theorem dX8_setLink_0 : decode cX8_setLink 0 = .ok (.aload_n 0, 1) := by decide +kernel
theorem dX8_setLink_1 : decode cX8_setLink 1 = .ok (.iconst 0, 1) := by decide +kernel
theorem dX8_setLink_2 : decode cX8_setLink 2 = .ok (.putfield 30, 3) := by decide +kernel
theorem dX8_setLink_5 : decode cX8_setLink 5 = .ok (.aload_n 0, 1) := by decide +kernel
theorem dX8_setLink_6 : decode cX8_setLink 6 = .ok (.iload_n 1, 1) := by decide +kernel
theorem dX8_setLink_7 : decode cX8_setLink 7 = .ok (.invokevirtual 55, 3) := by decide +kernel
theorem dX8_setLink_10 : decode cX8_setLink 10 = .ok (.ifCond .eq 11, 3) := by decide +kernel
theorem dX8_setLink_13 : decode cX8_setLink 13 = .ok (.aload_n 0, 1) := by decide +kernel
theorem dX8_setLink_14 : decode cX8_setLink 14 = .ok (.iload_n 2, 1) := by decide +kernel
theorem dX8_setLink_15 : decode cX8_setLink 15 = .ok (.invokevirtual 55, 3) := by decide +kernel
theorem dX8_setLink_18 : decode cX8_setLink 18 = .ok (.ifCond .ne 9, 3) := by decide +kernel
theorem dX8_setLink_21 : decode cX8_setLink 21 = .ok (.aload_n 0, 1) := by decide +kernel
theorem dX8_setLink_22 : decode cX8_setLink 22 = .ok (.iconst 1, 1) := by decide +kernel
theorem dX8_setLink_23 : decode cX8_setLink 23 = .ok (.invokevirtual 41, 3) := by decide +kernel
theorem dX8_setLink_26 : decode cX8_setLink 26 = .ok (.ireturn, 1) := by decide +kernel
theorem dX8_setLink_27 : decode cX8_setLink 27 = .ok (.iload_n 1, 1) := by decide +kernel
theorem dX8_setLink_28 : decode cX8_setLink 28 = .ok (.iload_n 2, 1) := by decide +kernel
theorem dX8_setLink_29 : decode cX8_setLink 29 = .ok (.if_icmp .eq 13, 3) := by decide +kernel
theorem dX8_setLink_32 : decode cX8_setLink 32 = .ok (.iload_n 3, 1) := by decide +kernel
theorem dX8_setLink_33 : decode cX8_setLink 33 = .ok (.iconst 0, 1) := by decide +kernel
theorem dX8_setLink_34 : decode cX8_setLink 34 = .ok (.bipush 20, 2) := by decide +kernel
theorem dX8_setLink_36 : decode cX8_setLink 36 = .ok (.invokestatic 33, 3) := by decide +kernel
theorem dX8_setLink_39 : decode cX8_setLink 39 = .ok (.ifCond .ne 9, 3) := by decide +kernel
theorem dX8_setLink_42 : decode cX8_setLink 42 = .ok (.aload_n 0, 1) := by decide +kernel
theorem dX8_setLink_43 : decode cX8_setLink 43 = .ok (.iconst 2, 1) := by decide +kernel
theorem dX8_setLink_44 : decode cX8_setLink 44 = .ok (.invokevirtual 41, 3) := by decide +kernel
theorem dX8_setLink_47 : decode cX8_setLink 47 = .ok (.ireturn, 1) := by decide +kernel
theorem dX8_setLink_48 : decode cX8_setLink 48 = .ok (.aload_n 0, 1) := by decide +kernel
theorem dX8_setLink_49 : decode cX8_setLink 49 = .ok (.iload_n 1, 1) := by decide +kernel
theorem dX8_setLink_50 : decode cX8_setLink 50 = .ok (.iload_n 2, 1) := by decide +kernel
theorem dX8_setLink_51 : decode cX8_setLink 51 = .ok (.iload_n 3, 1) := by decide +kernel
theorem dX8_setLink_52 : decode cX8_setLink 52 = .ok (.invokevirtual 59, 3) := by decide +kernel
theorem dX8_setLink_55 : decode cX8_setLink 55 = .ok (.ireturn, 1) := by decide +kernel
theorem dX8_putLevel_0 : decode cX8_putLevel 0 = .ok (.iload_n 3, 1) := by decide +kernel
theorem dX8_putLevel_1 : decode cX8_putLevel 1 = .ok (.aload_n 0, 1) := by decide +kernel
theorem dX8_putLevel_2 : decode cX8_putLevel 2 = .ok (.getfield 7, 3) := by decide +kernel
theorem dX8_putLevel_5 : decode cX8_putLevel 5 = .ok (.bipush 92, 2) := by decide +kernel
theorem dX8_putLevel_7 : decode cX8_putLevel 7 = .ok (.iload_n 1, 1) := by decide +kernel
theorem dX8_putLevel_8 : decode cX8_putLevel 8 = .ok (.iload_n 2, 1) := by decide +kernel
theorem dX8_putLevel_9 : decode cX8_putLevel 9 = .ok (.invokestatic 62, 3) := by decide +kernel
theorem dX8_putLevel_12 : decode cX8_putLevel 12 = .ok (.iaload, 1) := by decide +kernel
theorem dX8_putLevel_13 : decode cX8_putLevel 13 = .ok (.isub, 1) := by decide +kernel
theorem dX8_putLevel_14 : decode cX8_putLevel 14 = .ok (.istore 4, 2) := by decide +kernel
theorem dX8_putLevel_16 : decode cX8_putLevel 16 = .ok (.aload_n 0, 1) := by decide +kernel
theorem dX8_putLevel_17 : decode cX8_putLevel 17 = .ok (.getfield 7, 3) := by decide +kernel
theorem dX8_putLevel_20 : decode cX8_putLevel 20 = .ok (.bipush 92, 2) := by decide +kernel
theorem dX8_putLevel_22 : decode cX8_putLevel 22 = .ok (.iload_n 1, 1) := by decide +kernel
theorem dX8_putLevel_23 : decode cX8_putLevel 23 = .ok (.iload_n 2, 1) := by decide +kernel
theorem dX8_putLevel_24 : decode cX8_putLevel 24 = .ok (.invokestatic 62, 3) := by decide +kernel
theorem dX8_putLevel_27 : decode cX8_putLevel 27 = .ok (.iload_n 3, 1) := by decide +kernel
theorem dX8_putLevel_28 : decode cX8_putLevel 28 = .ok (.iastore, 1) := by decide +kernel
theorem dX8_putLevel_29 : decode cX8_putLevel 29 = .ok (.iconst 0, 1) := by decide +kernel
theorem dX8_putLevel_30 : decode cX8_putLevel 30 = .ok (.istore 5, 2) := by decide +kernel
theorem dX8_putLevel_32 : decode cX8_putLevel 32 = .ok (.iload 5, 2) := by decide +kernel
theorem dX8_putLevel_34 : decode cX8_putLevel 34 = .ok (.iload 4, 2) := by decide +kernel
theorem dX8_putLevel_36 : decode cX8_putLevel 36 = .ok (.if_icmp .ge 27, 3) := by decide +kernel
theorem dX8_putLevel_39 : decode cX8_putLevel 39 = .ok (.iload_n 1, 1) := by decide +kernel
theorem dX8_putLevel_40 : decode cX8_putLevel 40 = .ok (.ifCond .ne 11, 3) := by decide +kernel
theorem dX8_putLevel_43 : decode cX8_putLevel 43 = .ok (.aload_n 0, 1) := by decide +kernel
theorem dX8_putLevel_44 : decode cX8_putLevel 44 = .ok (.iload_n 2, 1) := by decide +kernel
theorem dX8_putLevel_45 : decode cX8_putLevel 45 = .ok (.invokevirtual 65, 3) := by decide +kernel
theorem dX8_putLevel_48 : decode cX8_putLevel 48 = .ok (.goto 9, 3) := by decide +kernel
theorem dX8_putLevel_51 : decode cX8_putLevel 51 = .ok (.aload_n 0, 1) := by decide +kernel
theorem dX8_putLevel_52 : decode cX8_putLevel 52 = .ok (.iload_n 1, 1) := by decide +kernel
theorem dX8_putLevel_53 : decode cX8_putLevel 53 = .ok (.iload_n 2, 1) := by decide +kernel
theorem dX8_putLevel_54 : decode cX8_putLevel 54 = .ok (.invokevirtual 69, 3) := by decide +kernel
theorem dX8_putLevel_57 : decode cX8_putLevel 57 = .ok (.iinc 5 1, 3) := by decide +kernel
theorem dX8_putLevel_60 : decode cX8_putLevel 60 = .ok (.goto (-28), 3) := by decide +kernel
theorem dX8_putLevel_63 : decode cX8_putLevel 63 = .ok (.aload_n 0, 1) := by decide +kernel
theorem dX8_putLevel_64 : decode cX8_putLevel 64 = .ok (.getfield 7, 3) := by decide +kernel
theorem dX8_putLevel_67 : decode cX8_putLevel 67 = .ok (.bipush 124, 2) := by decide +kernel
theorem dX8_putLevel_69 : decode cX8_putLevel 69 = .ok (.iload_n 1, 1) := by decide +kernel
theorem dX8_putLevel_70 : decode cX8_putLevel 70 = .ok (.iload_n 2, 1) := by decide +kernel
theorem dX8_putLevel_71 : decode cX8_putLevel 71 = .ok (.invokestatic 62, 3) := by decide +kernel
theorem dX8_putLevel_74 : decode cX8_putLevel 74 = .ok (.dup2, 1) := by decide +kernel
theorem dX8_putLevel_75 : decode cX8_putLevel 75 = .ok (.iaload, 1) := by decide +kernel
theorem dX8_putLevel_76 : decode cX8_putLevel 76 = .ok (.iload 4, 2) := by decide +kernel
theorem dX8_putLevel_78 : decode cX8_putLevel 78 = .ok (.iconst 0, 1) := by decide +kernel
theorem dX8_putLevel_79 : decode cX8_putLevel 79 = .ok (.invokestatic 73, 3) := by decide +kernel
theorem dX8_putLevel_82 : decode cX8_putLevel 82 = .ok (.iadd, 1) := by decide +kernel
theorem dX8_putLevel_83 : decode cX8_putLevel 83 = .ok (.iastore, 1) := by decide +kernel
theorem dX8_putLevel_84 : decode cX8_putLevel 84 = .ok (.return_, 1) := by decide +kernel
theorem dX8_setLevel_0 : decode cX8_setLevel 0 = .ok (.aload_n 0, 1) := by decide +kernel
theorem dX8_setLevel_1 : decode cX8_setLevel 1 = .ok (.iconst 0, 1) := by decide +kernel
theorem dX8_setLevel_2 : decode cX8_setLevel 2 = .ok (.putfield 30, 3) := by decide +kernel
theorem dX8_setLevel_5 : decode cX8_setLevel 5 = .ok (.aload_n 0, 1) := by decide +kernel
theorem dX8_setLevel_6 : decode cX8_setLevel 6 = .ok (.iload_n 1, 1) := by decide +kernel
theorem dX8_setLevel_7 : decode cX8_setLevel 7 = .ok (.invokevirtual 78, 3) := by decide +kernel
theorem dX8_setLevel_10 : decode cX8_setLevel 10 = .ok (.ifCond .eq 11, 3) := by decide +kernel
theorem dX8_setLevel_13 : decode cX8_setLevel 13 = .ok (.aload_n 0, 1) := by decide +kernel
theorem dX8_setLevel_14 : decode cX8_setLevel 14 = .ok (.iload_n 2, 1) := by decide +kernel
theorem dX8_setLevel_15 : decode cX8_setLevel 15 = .ok (.invokevirtual 81, 3) := by decide +kernel
theorem dX8_setLevel_18 : decode cX8_setLevel 18 = .ok (.ifCond .ne 9, 3) := by decide +kernel
theorem dX8_setLevel_21 : decode cX8_setLevel 21 = .ok (.aload_n 0, 1) := by decide +kernel
theorem dX8_setLevel_22 : decode cX8_setLevel 22 = .ok (.iconst 1, 1) := by decide +kernel
theorem dX8_setLevel_23 : decode cX8_setLevel 23 = .ok (.invokevirtual 41, 3) := by decide +kernel
theorem dX8_setLevel_26 : decode cX8_setLevel 26 = .ok (.ireturn, 1) := by decide +kernel
theorem dX8_setLevel_27 : decode cX8_setLevel 27 = .ok (.iload_n 3, 1) := by decide +kernel
theorem dX8_setLevel_28 : decode cX8_setLevel 28 = .ok (.iconst 0, 1) := by decide +kernel
theorem dX8_setLevel_29 : decode cX8_setLevel 29 = .ok (.bipush 20, 2) := by decide +kernel
theorem dX8_setLevel_31 : decode cX8_setLevel 31 = .ok (.invokestatic 33, 3) := by decide +kernel
theorem dX8_setLevel_34 : decode cX8_setLevel 34 = .ok (.ifCond .ne 9, 3) := by decide +kernel
theorem dX8_setLevel_37 : decode cX8_setLevel 37 = .ok (.aload_n 0, 1) := by decide +kernel
theorem dX8_setLevel_38 : decode cX8_setLevel 38 = .ok (.iconst 2, 1) := by decide +kernel
theorem dX8_setLevel_39 : decode cX8_setLevel 39 = .ok (.invokevirtual 41, 3) := by decide +kernel
theorem dX8_setLevel_42 : decode cX8_setLevel 42 = .ok (.ireturn, 1) := by decide +kernel
theorem dX8_setLevel_43 : decode cX8_setLevel 43 = .ok (.aload_n 0, 1) := by decide +kernel
theorem dX8_setLevel_44 : decode cX8_setLevel 44 = .ok (.getfield 7, 3) := by decide +kernel
theorem dX8_setLevel_47 : decode cX8_setLevel 47 = .ok (.bipush 92, 2) := by decide +kernel
theorem dX8_setLevel_49 : decode cX8_setLevel 49 = .ok (.iload_n 1, 1) := by decide +kernel
theorem dX8_setLevel_50 : decode cX8_setLevel 50 = .ok (.iload_n 2, 1) := by decide +kernel
theorem dX8_setLevel_51 : decode cX8_setLevel 51 = .ok (.invokestatic 62, 3) := by decide +kernel
theorem dX8_setLevel_54 : decode cX8_setLevel 54 = .ok (.iaload, 1) := by decide +kernel
theorem dX8_setLevel_55 : decode cX8_setLevel 55 = .ok (.istore 4, 2) := by decide +kernel
theorem dX8_setLevel_57 : decode cX8_setLevel 57 = .ok (.iload 4, 2) := by decide +kernel
theorem dX8_setLevel_59 : decode cX8_setLevel 59 = .ok (.iload_n 3, 1) := by decide +kernel
theorem dX8_setLevel_60 : decode cX8_setLevel 60 = .ok (.isub, 1) := by decide +kernel
theorem dX8_setLevel_61 : decode cX8_setLevel 61 = .ok (.aload_n 0, 1) := by decide +kernel
theorem dX8_setLevel_62 : decode cX8_setLevel 62 = .ok (.getfield 7, 3) := by decide +kernel
theorem dX8_setLevel_65 : decode cX8_setLevel 65 = .ok (.bipush 124, 2) := by decide +kernel
theorem dX8_setLevel_67 : decode cX8_setLevel 67 = .ok (.iload_n 1, 1) := by decide +kernel
theorem dX8_setLevel_68 : decode cX8_setLevel 68 = .ok (.iload_n 2, 1) := by decide +kernel
theorem dX8_setLevel_69 : decode cX8_setLevel 69 = .ok (.invokestatic 62, 3) := by decide +kernel
theorem dX8_setLevel_72 : decode cX8_setLevel 72 = .ok (.iaload, 1) := by decide +kernel
theorem dX8_setLevel_73 : decode cX8_setLevel 73 = .ok (.if_icmp .le 9, 3) := by decide +kernel
theorem dX8_setLevel_76 : decode cX8_setLevel 76 = .ok (.aload_n 0, 1) := by decide +kernel
theorem dX8_setLevel_77 : decode cX8_setLevel 77 = .ok (.iconst 3, 1) := by decide +kernel
theorem dX8_setLevel_78 : decode cX8_setLevel 78 = .ok (.invokevirtual 41, 3) := by decide +kernel
theorem dX8_setLevel_81 : decode cX8_setLevel 81 = .ok (.ireturn, 1) := by decide +kernel
theorem dX8_setLevel_82 : decode cX8_setLevel 82 = .ok (.aload_n 0, 1) := by decide +kernel
theorem dX8_setLevel_83 : decode cX8_setLevel 83 = .ok (.iload_n 1, 1) := by decide +kernel
theorem dX8_setLevel_84 : decode cX8_setLevel 84 = .ok (.iload_n 2, 1) := by decide +kernel
theorem dX8_setLevel_85 : decode cX8_setLevel 85 = .ok (.iload_n 3, 1) := by decide +kernel
theorem dX8_setLevel_86 : decode cX8_setLevel 86 = .ok (.invokevirtual 84, 3) := by decide +kernel
theorem dX8_setLevel_89 : decode cX8_setLevel 89 = .ok (.iload 4, 2) := by decide +kernel
theorem dX8_setLevel_91 : decode cX8_setLevel 91 = .ok (.ireturn, 1) := by decide +kernel
theorem dX8_setNumber_0 : decode cX8_setNumber 0 = .ok (.aload_n 0, 1) := by decide +kernel
theorem dX8_setNumber_1 : decode cX8_setNumber 1 = .ok (.iconst 0, 1) := by decide +kernel
theorem dX8_setNumber_2 : decode cX8_setNumber 2 = .ok (.putfield 30, 3) := by decide +kernel
theorem dX8_setNumber_5 : decode cX8_setNumber 5 = .ok (.aload_n 0, 1) := by decide +kernel
theorem dX8_setNumber_6 : decode cX8_setNumber 6 = .ok (.iload_n 2, 1) := by decide +kernel
theorem dX8_setNumber_7 : decode cX8_setNumber 7 = .ok (.invokevirtual 55, 3) := by decide +kernel
theorem dX8_setNumber_10 : decode cX8_setNumber 10 = .ok (.ifCond .eq 11, 3) := by decide +kernel
theorem dX8_setNumber_13 : decode cX8_setNumber 13 = .ok (.aload_n 0, 1) := by decide +kernel
theorem dX8_setNumber_14 : decode cX8_setNumber 14 = .ok (.iload_n 3, 1) := by decide +kernel
theorem dX8_setNumber_15 : decode cX8_setNumber 15 = .ok (.invokevirtual 81, 3) := by decide +kernel
theorem dX8_setNumber_18 : decode cX8_setNumber 18 = .ok (.ifCond .ne 9, 3) := by decide +kernel
theorem dX8_setNumber_21 : decode cX8_setNumber 21 = .ok (.aload_n 0, 1) := by decide +kernel
theorem dX8_setNumber_22 : decode cX8_setNumber 22 = .ok (.iconst 1, 1) := by decide +kernel
theorem dX8_setNumber_23 : decode cX8_setNumber 23 = .ok (.invokevirtual 41, 3) := by decide +kernel
theorem dX8_setNumber_26 : decode cX8_setNumber 26 = .ok (.ireturn, 1) := by decide +kernel
theorem dX8_setNumber_27 : decode cX8_setNumber 27 = .ok (.iload 4, 2) := by decide +kernel
theorem dX8_setNumber_29 : decode cX8_setNumber 29 = .ok (.iconst 0, 1) := by decide +kernel
theorem dX8_setNumber_30 : decode cX8_setNumber 30 = .ok (.iload 5, 2) := by decide +kernel
theorem dX8_setNumber_32 : decode cX8_setNumber 32 = .ok (.invokestatic 33, 3) := by decide +kernel
theorem dX8_setNumber_35 : decode cX8_setNumber 35 = .ok (.ifCond .ne 9, 3) := by decide +kernel
theorem dX8_setNumber_38 : decode cX8_setNumber 38 = .ok (.aload_n 0, 1) := by decide +kernel
theorem dX8_setNumber_39 : decode cX8_setNumber 39 = .ok (.iconst 2, 1) := by decide +kernel
theorem dX8_setNumber_40 : decode cX8_setNumber 40 = .ok (.invokevirtual 41, 3) := by decide +kernel
theorem dX8_setNumber_43 : decode cX8_setNumber 43 = .ok (.ireturn, 1) := by decide +kernel
theorem dX8_setNumber_44 : decode cX8_setNumber 44 = .ok (.aload_n 0, 1) := by decide +kernel
theorem dX8_setNumber_45 : decode cX8_setNumber 45 = .ok (.getfield 7, 3) := by decide +kernel
theorem dX8_setNumber_48 : decode cX8_setNumber 48 = .ok (.iload_n 1, 1) := by decide +kernel
theorem dX8_setNumber_49 : decode cX8_setNumber 49 = .ok (.iload_n 2, 1) := by decide +kernel
theorem dX8_setNumber_50 : decode cX8_setNumber 50 = .ok (.iload_n 3, 1) := by decide +kernel
theorem dX8_setNumber_51 : decode cX8_setNumber 51 = .ok (.invokestatic 62, 3) := by decide +kernel
theorem dX8_setNumber_54 : decode cX8_setNumber 54 = .ok (.iaload, 1) := by decide +kernel
theorem dX8_setNumber_55 : decode cX8_setNumber 55 = .ok (.istore 6, 2) := by decide +kernel
theorem dX8_setNumber_57 : decode cX8_setNumber 57 = .ok (.aload_n 0, 1) := by decide +kernel
theorem dX8_setNumber_58 : decode cX8_setNumber 58 = .ok (.getfield 7, 3) := by decide +kernel
theorem dX8_setNumber_61 : decode cX8_setNumber 61 = .ok (.iload_n 1, 1) := by decide +kernel
theorem dX8_setNumber_62 : decode cX8_setNumber 62 = .ok (.iload_n 2, 1) := by decide +kernel
theorem dX8_setNumber_63 : decode cX8_setNumber 63 = .ok (.iload_n 3, 1) := by decide +kernel
theorem dX8_setNumber_64 : decode cX8_setNumber 64 = .ok (.invokestatic 62, 3) := by decide +kernel
theorem dX8_setNumber_67 : decode cX8_setNumber 67 = .ok (.iload 4, 2) := by decide +kernel
theorem dX8_setNumber_69 : decode cX8_setNumber 69 = .ok (.iastore, 1) := by decide +kernel
theorem dX8_setNumber_70 : decode cX8_setNumber 70 = .ok (.iload 6, 2) := by decide +kernel
theorem dX8_setNumber_72 : decode cX8_setNumber 72 = .ok (.ireturn, 1) := by decide +kernel
theorem dX8_setShare_0 : decode cX8_setShare 0 = .ok (.aload_n 0, 1) := by decide +kernel
theorem dX8_setShare_1 : decode cX8_setShare 1 = .ok (.sipush 188, 3) := by decide +kernel
theorem dX8_setShare_4 : decode cX8_setShare 4 = .ok (.iload_n 1, 1) := by decide +kernel
theorem dX8_setShare_5 : decode cX8_setShare 5 = .ok (.iload_n 2, 1) := by decide +kernel
theorem dX8_setShare_6 : decode cX8_setShare 6 = .ok (.iload_n 3, 1) := by decide +kernel
theorem dX8_setShare_7 : decode cX8_setShare 7 = .ok (.bipush 10, 2) := by decide +kernel
theorem dX8_setShare_9 : decode cX8_setShare 9 = .ok (.invokevirtual 88, 3) := by decide +kernel
theorem dX8_setShare_12 : decode cX8_setShare 12 = .ok (.ireturn, 1) := by decide +kernel
theorem dX8_setReserve_0 : decode cX8_setReserve 0 = .ok (.aload_n 0, 1) := by decide +kernel
theorem dX8_setReserve_1 : decode cX8_setReserve 1 = .ok (.sipush 156, 3) := by decide +kernel
theorem dX8_setReserve_4 : decode cX8_setReserve 4 = .ok (.iload_n 1, 1) := by decide +kernel
theorem dX8_setReserve_5 : decode cX8_setReserve 5 = .ok (.iload_n 2, 1) := by decide +kernel
theorem dX8_setReserve_6 : decode cX8_setReserve 6 = .ok (.iload_n 3, 1) := by decide +kernel
theorem dX8_setReserve_7 : decode cX8_setReserve 7 = .ok (.bipush 20, 2) := by decide +kernel
theorem dX8_setReserve_9 : decode cX8_setReserve 9 = .ok (.invokevirtual 88, 3) := by decide +kernel
theorem dX8_setReserve_12 : decode cX8_setReserve 12 = .ok (.ireturn, 1) := by decide +kernel
theorem dX8_setRate_0 : decode cX8_setRate 0 = .ok (.aload_n 0, 1) := by decide +kernel
theorem dX8_setRate_1 : decode cX8_setRate 1 = .ok (.sipush 220, 3) := by decide +kernel
theorem dX8_setRate_4 : decode cX8_setRate 4 = .ok (.iload_n 1, 1) := by decide +kernel
theorem dX8_setRate_5 : decode cX8_setRate 5 = .ok (.iload_n 2, 1) := by decide +kernel
theorem dX8_setRate_6 : decode cX8_setRate 6 = .ok (.iload_n 3, 1) := by decide +kernel
theorem dX8_setRate_7 : decode cX8_setRate 7 = .ok (.bipush 100, 2) := by decide +kernel
theorem dX8_setRate_9 : decode cX8_setRate 9 = .ok (.invokevirtual 88, 3) := by decide +kernel
theorem dX8_setRate_12 : decode cX8_setRate 12 = .ok (.ireturn, 1) := by decide +kernel
theorem dX8_setLateralLimit_0 : decode cX8_setLateralLimit 0 = .ok (.aload_n 0, 1) := by decide +kernel
theorem dX8_setLateralLimit_1 : decode cX8_setLateralLimit 1 = .ok (.iconst 0, 1) := by decide +kernel
theorem dX8_setLateralLimit_2 : decode cX8_setLateralLimit 2 = .ok (.putfield 30, 3) := by decide +kernel
theorem dX8_setLateralLimit_5 : decode cX8_setLateralLimit 5 = .ok (.iload_n 1, 1) := by decide +kernel
theorem dX8_setLateralLimit_6 : decode cX8_setLateralLimit 6 = .ok (.iconst 0, 1) := by decide +kernel
theorem dX8_setLateralLimit_7 : decode cX8_setLateralLimit 7 = .ok (.bipush 20, 2) := by decide +kernel
theorem dX8_setLateralLimit_9 : decode cX8_setLateralLimit 9 = .ok (.invokestatic 33, 3) := by decide +kernel
theorem dX8_setLateralLimit_12 : decode cX8_setLateralLimit 12 = .ok (.ifCond .ne 9, 3) := by decide +kernel
theorem dX8_setLateralLimit_15 : decode cX8_setLateralLimit 15 = .ok (.aload_n 0, 1) := by decide +kernel
theorem dX8_setLateralLimit_16 : decode cX8_setLateralLimit 16 = .ok (.iconst 1, 1) := by decide +kernel
theorem dX8_setLateralLimit_17 : decode cX8_setLateralLimit 17 = .ok (.invokevirtual 41, 3) := by decide +kernel
theorem dX8_setLateralLimit_20 : decode cX8_setLateralLimit 20 = .ok (.ireturn, 1) := by decide +kernel
theorem dX8_setLateralLimit_21 : decode cX8_setLateralLimit 21 = .ok (.aload_n 0, 1) := by decide +kernel
theorem dX8_setLateralLimit_22 : decode cX8_setLateralLimit 22 = .ok (.getfield 7, 3) := by decide +kernel
theorem dX8_setLateralLimit_25 : decode cX8_setLateralLimit 25 = .ok (.iconst 1, 1) := by decide +kernel
theorem dX8_setLateralLimit_26 : decode cX8_setLateralLimit 26 = .ok (.iaload, 1) := by decide +kernel
theorem dX8_setLateralLimit_27 : decode cX8_setLateralLimit 27 = .ok (.istore_n 2, 1) := by decide +kernel
theorem dX8_setLateralLimit_28 : decode cX8_setLateralLimit 28 = .ok (.aload_n 0, 1) := by decide +kernel
theorem dX8_setLateralLimit_29 : decode cX8_setLateralLimit 29 = .ok (.getfield 7, 3) := by decide +kernel
theorem dX8_setLateralLimit_32 : decode cX8_setLateralLimit 32 = .ok (.iconst 1, 1) := by decide +kernel
theorem dX8_setLateralLimit_33 : decode cX8_setLateralLimit 33 = .ok (.iload_n 1, 1) := by decide +kernel
theorem dX8_setLateralLimit_34 : decode cX8_setLateralLimit 34 = .ok (.iastore, 1) := by decide +kernel
theorem dX8_setLateralLimit_35 : decode cX8_setLateralLimit 35 = .ok (.iload_n 2, 1) := by decide +kernel
theorem dX8_setLateralLimit_36 : decode cX8_setLateralLimit 36 = .ok (.ireturn, 1) := by decide +kernel
theorem dX8_supply_0 : decode cX8_supply 0 = .ok (.aload_n 0, 1) := by decide +kernel
theorem dX8_supply_1 : decode cX8_supply 1 = .ok (.iconst 2, 1) := by decide +kernel
theorem dX8_supply_2 : decode cX8_supply 2 = .ok (.iload_n 2, 1) := by decide +kernel
theorem dX8_supply_3 : decode cX8_supply 3 = .ok (.iload_n 1, 1) := by decide +kernel
theorem dX8_supply_4 : decode cX8_supply 4 = .ok (.iload_n 1, 1) := by decide +kernel
theorem dX8_supply_5 : decode cX8_supply 5 = .ok (.aload_n 0, 1) := by decide +kernel
theorem dX8_supply_6 : decode cX8_supply 6 = .ok (.getfield 7, 3) := by decide +kernel
theorem dX8_supply_9 : decode cX8_supply 9 = .ok (.iconst 0, 1) := by decide +kernel
theorem dX8_supply_10 : decode cX8_supply 10 = .ok (.iaload, 1) := by decide +kernel
theorem dX8_supply_11 : decode cX8_supply 11 = .ok (.aload_n 0, 1) := by decide +kernel
theorem dX8_supply_12 : decode cX8_supply 12 = .ok (.getfield 7, 3) := by decide +kernel
theorem dX8_supply_15 : decode cX8_supply 15 = .ok (.bipush 20, 2) := by decide +kernel
theorem dX8_supply_17 : decode cX8_supply 17 = .ok (.iload_n 1, 1) := by decide +kernel
theorem dX8_supply_18 : decode cX8_supply 18 = .ok (.iadd, 1) := by decide +kernel
theorem dX8_supply_19 : decode cX8_supply 19 = .ok (.iaload, 1) := by decide +kernel
theorem dX8_supply_20 : decode cX8_supply 20 = .ok (.iadd, 1) := by decide +kernel
theorem dX8_supply_21 : decode cX8_supply 21 = .ok (.iconst 0, 1) := by decide +kernel
theorem dX8_supply_22 : decode cX8_supply 22 = .ok (.invokevirtual 92, 3) := by decide +kernel
theorem dX8_supply_25 : decode cX8_supply 25 = .ok (.return_, 1) := by decide +kernel
theorem dX8_fillOrder_0 : decode cX8_fillOrder 0 = .ok (.iconst (-1), 1) := by decide +kernel
theorem dX8_fillOrder_1 : decode cX8_fillOrder 1 = .ok (.istore_n 2, 1) := by decide +kernel
theorem dX8_fillOrder_2 : decode cX8_fillOrder 2 = .ok (.iconst 0, 1) := by decide +kernel
theorem dX8_fillOrder_3 : decode cX8_fillOrder 3 = .ok (.istore_n 3, 1) := by decide +kernel
theorem dX8_fillOrder_4 : decode cX8_fillOrder 4 = .ok (.iload_n 3, 1) := by decide +kernel
theorem dX8_fillOrder_5 : decode cX8_fillOrder 5 = .ok (.aload_n 0, 1) := by decide +kernel
theorem dX8_fillOrder_6 : decode cX8_fillOrder 6 = .ok (.getfield 7, 3) := by decide +kernel
theorem dX8_fillOrder_9 : decode cX8_fillOrder 9 = .ok (.bipush 6, 2) := by decide +kernel
theorem dX8_fillOrder_11 : decode cX8_fillOrder 11 = .ok (.iaload, 1) := by decide +kernel
theorem dX8_fillOrder_12 : decode cX8_fillOrder 12 = .ok (.if_icmp .ge 57, 3) := by decide +kernel
theorem dX8_fillOrder_15 : decode cX8_fillOrder 15 = .ok (.aload_n 0, 1) := by decide +kernel
theorem dX8_fillOrder_16 : decode cX8_fillOrder 16 = .ok (.iload_n 3, 1) := by decide +kernel
theorem dX8_fillOrder_17 : decode cX8_fillOrder 17 = .ok (.iconst 0, 1) := by decide +kernel
theorem dX8_fillOrder_18 : decode cX8_fillOrder 18 = .ok (.invokevirtual 96, 3) := by decide +kernel
theorem dX8_fillOrder_21 : decode cX8_fillOrder 21 = .ok (.iload_n 1, 1) := by decide +kernel
theorem dX8_fillOrder_22 : decode cX8_fillOrder 22 = .ok (.if_icmp .ne 27, 3) := by decide +kernel
theorem dX8_fillOrder_25 : decode cX8_fillOrder 25 = .ok (.iload_n 2, 1) := by decide +kernel
theorem dX8_fillOrder_26 : decode cX8_fillOrder 26 = .ok (.iconst (-1), 1) := by decide +kernel
theorem dX8_fillOrder_27 : decode cX8_fillOrder 27 = .ok (.if_icmp .eq 18, 3) := by decide +kernel
theorem dX8_fillOrder_30 : decode cX8_fillOrder 30 = .ok (.aload_n 0, 1) := by decide +kernel
theorem dX8_fillOrder_31 : decode cX8_fillOrder 31 = .ok (.iload_n 3, 1) := by decide +kernel
theorem dX8_fillOrder_32 : decode cX8_fillOrder 32 = .ok (.iconst 2, 1) := by decide +kernel
theorem dX8_fillOrder_33 : decode cX8_fillOrder 33 = .ok (.invokevirtual 96, 3) := by decide +kernel
theorem dX8_fillOrder_36 : decode cX8_fillOrder 36 = .ok (.aload_n 0, 1) := by decide +kernel
theorem dX8_fillOrder_37 : decode cX8_fillOrder 37 = .ok (.iload_n 2, 1) := by decide +kernel
theorem dX8_fillOrder_38 : decode cX8_fillOrder 38 = .ok (.iconst 2, 1) := by decide +kernel
theorem dX8_fillOrder_39 : decode cX8_fillOrder 39 = .ok (.invokevirtual 96, 3) := by decide +kernel
theorem dX8_fillOrder_42 : decode cX8_fillOrder 42 = .ok (.if_icmp .le 7, 3) := by decide +kernel
theorem dX8_fillOrder_45 : decode cX8_fillOrder 45 = .ok (.iconst 1, 1) := by decide +kernel
theorem dX8_fillOrder_46 : decode cX8_fillOrder 46 = .ok (.goto 4, 3) := by decide +kernel
theorem dX8_fillOrder_49 : decode cX8_fillOrder 49 = .ok (.iconst 0, 1) := by decide +kernel
theorem dX8_fillOrder_50 : decode cX8_fillOrder 50 = .ok (.istore 4, 2) := by decide +kernel
theorem dX8_fillOrder_52 : decode cX8_fillOrder 52 = .ok (.iload 4, 2) := by decide +kernel
theorem dX8_fillOrder_54 : decode cX8_fillOrder 54 = .ok (.ifCond .eq 7, 3) := by decide +kernel
theorem dX8_fillOrder_57 : decode cX8_fillOrder 57 = .ok (.iload_n 3, 1) := by decide +kernel
theorem dX8_fillOrder_58 : decode cX8_fillOrder 58 = .ok (.goto 4, 3) := by decide +kernel
theorem dX8_fillOrder_61 : decode cX8_fillOrder 61 = .ok (.iload_n 2, 1) := by decide +kernel
theorem dX8_fillOrder_62 : decode cX8_fillOrder 62 = .ok (.istore_n 2, 1) := by decide +kernel
theorem dX8_fillOrder_63 : decode cX8_fillOrder 63 = .ok (.iinc 3 1, 3) := by decide +kernel
theorem dX8_fillOrder_66 : decode cX8_fillOrder 66 = .ok (.goto (-62), 3) := by decide +kernel
theorem dX8_fillOrder_69 : decode cX8_fillOrder 69 = .ok (.iload_n 2, 1) := by decide +kernel
theorem dX8_fillOrder_70 : decode cX8_fillOrder 70 = .ok (.iconst (-1), 1) := by decide +kernel
theorem dX8_fillOrder_71 : decode cX8_fillOrder 71 = .ok (.if_icmp .ne 20, 3) := by decide +kernel
theorem dX8_fillOrder_74 : decode cX8_fillOrder 74 = .ok (.aload_n 0, 1) := by decide +kernel
theorem dX8_fillOrder_75 : decode cX8_fillOrder 75 = .ok (.getfield 7, 3) := by decide +kernel
theorem dX8_fillOrder_78 : decode cX8_fillOrder 78 = .ok (.bipush 124, 2) := by decide +kernel
theorem dX8_fillOrder_80 : decode cX8_fillOrder 80 = .ok (.iconst 0, 1) := by decide +kernel
theorem dX8_fillOrder_81 : decode cX8_fillOrder 81 = .ok (.iload_n 1, 1) := by decide +kernel
theorem dX8_fillOrder_82 : decode cX8_fillOrder 82 = .ok (.invokestatic 62, 3) := by decide +kernel
theorem dX8_fillOrder_85 : decode cX8_fillOrder 85 = .ok (.dup2, 1) := by decide +kernel
theorem dX8_fillOrder_86 : decode cX8_fillOrder 86 = .ok (.iaload, 1) := by decide +kernel
theorem dX8_fillOrder_87 : decode cX8_fillOrder 87 = .ok (.iconst 1, 1) := by decide +kernel
theorem dX8_fillOrder_88 : decode cX8_fillOrder 88 = .ok (.iadd, 1) := by decide +kernel
theorem dX8_fillOrder_89 : decode cX8_fillOrder 89 = .ok (.iastore, 1) := by decide +kernel
theorem dX8_fillOrder_90 : decode cX8_fillOrder 90 = .ok (.return_, 1) := by decide +kernel
theorem dX8_fillOrder_91 : decode cX8_fillOrder 91 = .ok (.aload_n 0, 1) := by decide +kernel
theorem dX8_fillOrder_92 : decode cX8_fillOrder 92 = .ok (.iload_n 2, 1) := by decide +kernel
theorem dX8_fillOrder_93 : decode cX8_fillOrder 93 = .ok (.iconst 1, 1) := by decide +kernel
theorem dX8_fillOrder_94 : decode cX8_fillOrder 94 = .ok (.invokevirtual 96, 3) := by decide +kernel
theorem dX8_fillOrder_97 : decode cX8_fillOrder 97 = .ok (.istore_n 3, 1) := by decide +kernel
theorem dX8_fillOrder_98 : decode cX8_fillOrder 98 = .ok (.aload_n 0, 1) := by decide +kernel
theorem dX8_fillOrder_99 : decode cX8_fillOrder 99 = .ok (.bipush 6, 2) := by decide +kernel
theorem dX8_fillOrder_101 : decode cX8_fillOrder 101 = .ok (.sipush 5412, 3) := by decide +kernel
theorem dX8_fillOrder_104 : decode cX8_fillOrder 104 = .ok (.iconst 3, 1) := by decide +kernel
theorem dX8_fillOrder_105 : decode cX8_fillOrder 105 = .ok (.iload_n 2, 1) := by decide +kernel
theorem dX8_fillOrder_106 : decode cX8_fillOrder 106 = .ok (.invokevirtual 99, 3) := by decide +kernel
theorem dX8_fillOrder_109 : decode cX8_fillOrder 109 = .ok (.aload_n 0, 1) := by decide +kernel
theorem dX8_fillOrder_110 : decode cX8_fillOrder 110 = .ok (.iload_n 3, 1) := by decide +kernel
theorem dX8_fillOrder_111 : decode cX8_fillOrder 111 = .ok (.iload_n 1, 1) := by decide +kernel
theorem dX8_fillOrder_112 : decode cX8_fillOrder 112 = .ok (.invokevirtual 103, 3) := by decide +kernel
theorem dX8_fillOrder_115 : decode cX8_fillOrder 115 = .ok (.return_, 1) := by decide +kernel
theorem dX8_isCustomer_0 : decode cX8_isCustomer 0 = .ok (.aload_n 0, 1) := by decide +kernel
theorem dX8_isCustomer_1 : decode cX8_isCustomer 1 = .ok (.iload_n 1, 1) := by decide +kernel
theorem dX8_isCustomer_2 : decode cX8_isCustomer 2 = .ok (.iconst 0, 1) := by decide +kernel
theorem dX8_isCustomer_3 : decode cX8_isCustomer 3 = .ok (.invokevirtual 106, 3) := by decide +kernel
theorem dX8_isCustomer_6 : decode cX8_isCustomer 6 = .ok (.iload_n 2, 1) := by decide +kernel
theorem dX8_isCustomer_7 : decode cX8_isCustomer 7 = .ok (.if_icmp .ne 17, 3) := by decide +kernel
theorem dX8_isCustomer_10 : decode cX8_isCustomer 10 = .ok (.aload_n 0, 1) := by decide +kernel
theorem dX8_isCustomer_11 : decode cX8_isCustomer 11 = .ok (.iload_n 1, 1) := by decide +kernel
theorem dX8_isCustomer_12 : decode cX8_isCustomer 12 = .ok (.iconst 1, 1) := by decide +kernel
theorem dX8_isCustomer_13 : decode cX8_isCustomer 13 = .ok (.invokevirtual 106, 3) := by decide +kernel
theorem dX8_isCustomer_16 : decode cX8_isCustomer 16 = .ok (.iload_n 3, 1) := by decide +kernel
theorem dX8_isCustomer_17 : decode cX8_isCustomer 17 = .ok (.if_icmp .ne 7, 3) := by decide +kernel
theorem dX8_isCustomer_20 : decode cX8_isCustomer 20 = .ok (.iconst 1, 1) := by decide +kernel
theorem dX8_isCustomer_21 : decode cX8_isCustomer 21 = .ok (.goto 4, 3) := by decide +kernel
theorem dX8_isCustomer_24 : decode cX8_isCustomer 24 = .ok (.iconst 0, 1) := by decide +kernel
theorem dX8_isCustomer_25 : decode cX8_isCustomer 25 = .ok (.ireturn, 1) := by decide +kernel
theorem dX8_bestCustomer_0 : decode cX8_bestCustomer 0 = .ok (.iconst (-1), 1) := by decide +kernel
theorem dX8_bestCustomer_1 : decode cX8_bestCustomer 1 = .ok (.istore_n 3, 1) := by decide +kernel
theorem dX8_bestCustomer_2 : decode cX8_bestCustomer 2 = .ok (.iconst 0, 1) := by decide +kernel
theorem dX8_bestCustomer_3 : decode cX8_bestCustomer 3 = .ok (.istore 4, 2) := by decide +kernel
theorem dX8_bestCustomer_5 : decode cX8_bestCustomer 5 = .ok (.iload 4, 2) := by decide +kernel
theorem dX8_bestCustomer_7 : decode cX8_bestCustomer 7 = .ok (.aload_n 0, 1) := by decide +kernel
theorem dX8_bestCustomer_8 : decode cX8_bestCustomer 8 = .ok (.getfield 7, 3) := by decide +kernel
theorem dX8_bestCustomer_11 : decode cX8_bestCustomer 11 = .ok (.iconst 5, 1) := by decide +kernel
theorem dX8_bestCustomer_12 : decode cX8_bestCustomer 12 = .ok (.iaload, 1) := by decide +kernel
theorem dX8_bestCustomer_13 : decode cX8_bestCustomer 13 = .ok (.if_icmp .ge 60, 3) := by decide +kernel
theorem dX8_bestCustomer_16 : decode cX8_bestCustomer 16 = .ok (.aload_n 0, 1) := by decide +kernel
theorem dX8_bestCustomer_17 : decode cX8_bestCustomer 17 = .ok (.iload 4, 2) := by decide +kernel
theorem dX8_bestCustomer_19 : decode cX8_bestCustomer 19 = .ok (.iload_n 1, 1) := by decide +kernel
theorem dX8_bestCustomer_20 : decode cX8_bestCustomer 20 = .ok (.iload_n 2, 1) := by decide +kernel
theorem dX8_bestCustomer_21 : decode cX8_bestCustomer 21 = .ok (.invokevirtual 109, 3) := by decide +kernel
theorem dX8_bestCustomer_24 : decode cX8_bestCustomer 24 = .ok (.ifCond .eq 28, 3) := by decide +kernel
theorem dX8_bestCustomer_27 : decode cX8_bestCustomer 27 = .ok (.iload_n 3, 1) := by decide +kernel
theorem dX8_bestCustomer_28 : decode cX8_bestCustomer 28 = .ok (.iconst (-1), 1) := by decide +kernel
theorem dX8_bestCustomer_29 : decode cX8_bestCustomer 29 = .ok (.if_icmp .eq 19, 3) := by decide +kernel
theorem dX8_bestCustomer_32 : decode cX8_bestCustomer 32 = .ok (.aload_n 0, 1) := by decide +kernel
theorem dX8_bestCustomer_33 : decode cX8_bestCustomer 33 = .ok (.iload 4, 2) := by decide +kernel
theorem dX8_bestCustomer_35 : decode cX8_bestCustomer 35 = .ok (.iconst 2, 1) := by decide +kernel
theorem dX8_bestCustomer_36 : decode cX8_bestCustomer 36 = .ok (.invokevirtual 106, 3) := by decide +kernel
theorem dX8_bestCustomer_39 : decode cX8_bestCustomer 39 = .ok (.aload_n 0, 1) := by decide +kernel
theorem dX8_bestCustomer_40 : decode cX8_bestCustomer 40 = .ok (.iload_n 3, 1) := by decide +kernel
theorem dX8_bestCustomer_41 : decode cX8_bestCustomer 41 = .ok (.iconst 2, 1) := by decide +kernel
theorem dX8_bestCustomer_42 : decode cX8_bestCustomer 42 = .ok (.invokevirtual 106, 3) := by decide +kernel
theorem dX8_bestCustomer_45 : decode cX8_bestCustomer 45 = .ok (.if_icmp .le 7, 3) := by decide +kernel
theorem dX8_bestCustomer_48 : decode cX8_bestCustomer 48 = .ok (.iconst 1, 1) := by decide +kernel
theorem dX8_bestCustomer_49 : decode cX8_bestCustomer 49 = .ok (.goto 4, 3) := by decide +kernel
theorem dX8_bestCustomer_52 : decode cX8_bestCustomer 52 = .ok (.iconst 0, 1) := by decide +kernel
theorem dX8_bestCustomer_53 : decode cX8_bestCustomer 53 = .ok (.istore 5, 2) := by decide +kernel
theorem dX8_bestCustomer_55 : decode cX8_bestCustomer 55 = .ok (.iload 5, 2) := by decide +kernel
theorem dX8_bestCustomer_57 : decode cX8_bestCustomer 57 = .ok (.ifCond .eq 8, 3) := by decide +kernel
theorem dX8_bestCustomer_60 : decode cX8_bestCustomer 60 = .ok (.iload 4, 2) := by decide +kernel
theorem dX8_bestCustomer_62 : decode cX8_bestCustomer 62 = .ok (.goto 4, 3) := by decide +kernel
theorem dX8_bestCustomer_65 : decode cX8_bestCustomer 65 = .ok (.iload_n 3, 1) := by decide +kernel
theorem dX8_bestCustomer_66 : decode cX8_bestCustomer 66 = .ok (.istore_n 3, 1) := by decide +kernel
theorem dX8_bestCustomer_67 : decode cX8_bestCustomer 67 = .ok (.iinc 4 1, 3) := by decide +kernel
theorem dX8_bestCustomer_70 : decode cX8_bestCustomer 70 = .ok (.goto (-65), 3) := by decide +kernel
theorem dX8_bestCustomer_73 : decode cX8_bestCustomer 73 = .ok (.iload_n 3, 1) := by decide +kernel
theorem dX8_bestCustomer_74 : decode cX8_bestCustomer 74 = .ok (.ireturn, 1) := by decide +kernel
theorem dX8_comeToBase_0 : decode cX8_comeToBase 0 = .ok (.aload_n 0, 1) := by decide +kernel
theorem dX8_comeToBase_1 : decode cX8_comeToBase 1 = .ok (.iload_n 1, 1) := by decide +kernel
theorem dX8_comeToBase_2 : decode cX8_comeToBase 2 = .ok (.iload_n 2, 1) := by decide +kernel
theorem dX8_comeToBase_3 : decode cX8_comeToBase 3 = .ok (.invokevirtual 112, 3) := by decide +kernel
theorem dX8_comeToBase_6 : decode cX8_comeToBase 6 = .ok (.istore_n 3, 1) := by decide +kernel
theorem dX8_comeToBase_7 : decode cX8_comeToBase 7 = .ok (.iload_n 3, 1) := by decide +kernel
theorem dX8_comeToBase_8 : decode cX8_comeToBase 8 = .ok (.iconst (-1), 1) := by decide +kernel
theorem dX8_comeToBase_9 : decode cX8_comeToBase 9 = .ok (.if_icmp .ne 20, 3) := by decide +kernel
theorem dX8_comeToBase_12 : decode cX8_comeToBase 12 = .ok (.aload_n 0, 1) := by decide +kernel
theorem dX8_comeToBase_13 : decode cX8_comeToBase 13 = .ok (.getfield 7, 3) := by decide +kernel
theorem dX8_comeToBase_16 : decode cX8_comeToBase 16 = .ok (.bipush 124, 2) := by decide +kernel
theorem dX8_comeToBase_18 : decode cX8_comeToBase 18 = .ok (.iload_n 1, 1) := by decide +kernel
theorem dX8_comeToBase_19 : decode cX8_comeToBase 19 = .ok (.iload_n 2, 1) := by decide +kernel
theorem dX8_comeToBase_20 : decode cX8_comeToBase 20 = .ok (.invokestatic 62, 3) := by decide +kernel
theorem dX8_comeToBase_23 : decode cX8_comeToBase 23 = .ok (.dup2, 1) := by decide +kernel
theorem dX8_comeToBase_24 : decode cX8_comeToBase 24 = .ok (.iaload, 1) := by decide +kernel
theorem dX8_comeToBase_25 : decode cX8_comeToBase 25 = .ok (.iconst 1, 1) := by decide +kernel
theorem dX8_comeToBase_26 : decode cX8_comeToBase 26 = .ok (.iadd, 1) := by decide +kernel
theorem dX8_comeToBase_27 : decode cX8_comeToBase 27 = .ok (.iastore, 1) := by decide +kernel
theorem dX8_comeToBase_28 : decode cX8_comeToBase 28 = .ok (.return_, 1) := by decide +kernel
theorem dX8_comeToBase_29 : decode cX8_comeToBase 29 = .ok (.aload_n 0, 1) := by decide +kernel
theorem dX8_comeToBase_30 : decode cX8_comeToBase 30 = .ok (.getfield 7, 3) := by decide +kernel
theorem dX8_comeToBase_33 : decode cX8_comeToBase 33 = .ok (.sipush 316, 3) := by decide +kernel
theorem dX8_comeToBase_36 : decode cX8_comeToBase 36 = .ok (.iload_n 1, 1) := by decide +kernel
theorem dX8_comeToBase_37 : decode cX8_comeToBase 37 = .ok (.iload_n 2, 1) := by decide +kernel
theorem dX8_comeToBase_38 : decode cX8_comeToBase 38 = .ok (.invokestatic 62, 3) := by decide +kernel
theorem dX8_comeToBase_41 : decode cX8_comeToBase 41 = .ok (.dup2, 1) := by decide +kernel
theorem dX8_comeToBase_42 : decode cX8_comeToBase 42 = .ok (.iaload, 1) := by decide +kernel
theorem dX8_comeToBase_43 : decode cX8_comeToBase 43 = .ok (.aload_n 0, 1) := by decide +kernel
theorem dX8_comeToBase_44 : decode cX8_comeToBase 44 = .ok (.getfield 7, 3) := by decide +kernel
theorem dX8_comeToBase_47 : decode cX8_comeToBase 47 = .ok (.iconst 0, 1) := by decide +kernel
theorem dX8_comeToBase_48 : decode cX8_comeToBase 48 = .ok (.iaload, 1) := by decide +kernel
theorem dX8_comeToBase_49 : decode cX8_comeToBase 49 = .ok (.aload_n 0, 1) := by decide +kernel
theorem dX8_comeToBase_50 : decode cX8_comeToBase 50 = .ok (.iload_n 3, 1) := by decide +kernel
theorem dX8_comeToBase_51 : decode cX8_comeToBase 51 = .ok (.iconst 3, 1) := by decide +kernel
theorem dX8_comeToBase_52 : decode cX8_comeToBase 52 = .ok (.invokevirtual 106, 3) := by decide +kernel
theorem dX8_comeToBase_55 : decode cX8_comeToBase 55 = .ok (.isub, 1) := by decide +kernel
theorem dX8_comeToBase_56 : decode cX8_comeToBase 56 = .ok (.iadd, 1) := by decide +kernel
theorem dX8_comeToBase_57 : decode cX8_comeToBase 57 = .ok (.iastore, 1) := by decide +kernel
theorem dX8_comeToBase_58 : decode cX8_comeToBase 58 = .ok (.aload_n 0, 1) := by decide +kernel
theorem dX8_comeToBase_59 : decode cX8_comeToBase 59 = .ok (.iconst 5, 1) := by decide +kernel
theorem dX8_comeToBase_60 : decode cX8_comeToBase 60 = .ok (.sipush 4972, 3) := by decide +kernel
theorem dX8_comeToBase_63 : decode cX8_comeToBase 63 = .ok (.iconst 4, 1) := by decide +kernel
theorem dX8_comeToBase_64 : decode cX8_comeToBase 64 = .ok (.iload_n 3, 1) := by decide +kernel
theorem dX8_comeToBase_65 : decode cX8_comeToBase 65 = .ok (.invokevirtual 99, 3) := by decide +kernel
theorem dX8_comeToBase_68 : decode cX8_comeToBase 68 = .ok (.return_, 1) := by decide +kernel
theorem dX8_findHelper_0 : decode cX8_findHelper 0 = .ok (.iconst (-1), 1) := by decide +kernel
theorem dX8_findHelper_1 : decode cX8_findHelper 1 = .ok (.istore_n 3, 1) := by decide +kernel
theorem dX8_findHelper_2 : decode cX8_findHelper 2 = .ok (.iconst 1, 1) := by decide +kernel
theorem dX8_findHelper_3 : decode cX8_findHelper 3 = .ok (.istore 4, 2) := by decide +kernel
theorem dX8_findHelper_5 : decode cX8_findHelper 5 = .ok (.iload 4, 2) := by decide +kernel
theorem dX8_findHelper_7 : decode cX8_findHelper 7 = .ok (.aload_n 0, 1) := by decide +kernel
theorem dX8_findHelper_8 : decode cX8_findHelper 8 = .ok (.getfield 7, 3) := by decide +kernel
theorem dX8_findHelper_11 : decode cX8_findHelper 11 = .ok (.iconst 3, 1) := by decide +kernel
theorem dX8_findHelper_12 : decode cX8_findHelper 12 = .ok (.iaload, 1) := by decide +kernel
theorem dX8_findHelper_13 : decode cX8_findHelper 13 = .ok (.if_icmp .ge 132, 3) := by decide +kernel
theorem dX8_findHelper_16 : decode cX8_findHelper 16 = .ok (.aload_n 0, 1) := by decide +kernel
theorem dX8_findHelper_17 : decode cX8_findHelper 17 = .ok (.iload_n 1, 1) := by decide +kernel
theorem dX8_findHelper_18 : decode cX8_findHelper 18 = .ok (.iload 4, 2) := by decide +kernel
theorem dX8_findHelper_20 : decode cX8_findHelper 20 = .ok (.invokevirtual 51, 3) := by decide +kernel
theorem dX8_findHelper_23 : decode cX8_findHelper 23 = .ok (.istore 5, 2) := by decide +kernel
theorem dX8_findHelper_25 : decode cX8_findHelper 25 = .ok (.aload_n 0, 1) := by decide +kernel
theorem dX8_findHelper_26 : decode cX8_findHelper 26 = .ok (.getfield 7, 3) := by decide +kernel
theorem dX8_findHelper_29 : decode cX8_findHelper 29 = .ok (.bipush 124, 2) := by decide +kernel
theorem dX8_findHelper_31 : decode cX8_findHelper 31 = .ok (.iload 4, 2) := by decide +kernel
theorem dX8_findHelper_33 : decode cX8_findHelper 33 = .ok (.iload_n 2, 1) := by decide +kernel
theorem dX8_findHelper_34 : decode cX8_findHelper 34 = .ok (.invokestatic 62, 3) := by decide +kernel
theorem dX8_findHelper_37 : decode cX8_findHelper 37 = .ok (.iaload, 1) := by decide +kernel
theorem dX8_findHelper_38 : decode cX8_findHelper 38 = .ok (.istore 6, 2) := by decide +kernel
theorem dX8_findHelper_40 : decode cX8_findHelper 40 = .ok (.iload 4, 2) := by decide +kernel
theorem dX8_findHelper_42 : decode cX8_findHelper 42 = .ok (.iload_n 1, 1) := by decide +kernel
theorem dX8_findHelper_43 : decode cX8_findHelper 43 = .ok (.if_icmp .eq 41, 3) := by decide +kernel
theorem dX8_findHelper_46 : decode cX8_findHelper 46 = .ok (.iload 5, 2) := by decide +kernel
theorem dX8_findHelper_48 : decode cX8_findHelper 48 = .ok (.iconst 1, 1) := by decide +kernel
theorem dX8_findHelper_49 : decode cX8_findHelper 49 = .ok (.aload_n 0, 1) := by decide +kernel
theorem dX8_findHelper_50 : decode cX8_findHelper 50 = .ok (.getfield 7, 3) := by decide +kernel
theorem dX8_findHelper_53 : decode cX8_findHelper 53 = .ok (.iconst 1, 1) := by decide +kernel
theorem dX8_findHelper_54 : decode cX8_findHelper 54 = .ok (.iaload, 1) := by decide +kernel
theorem dX8_findHelper_55 : decode cX8_findHelper 55 = .ok (.invokestatic 33, 3) := by decide +kernel
theorem dX8_findHelper_58 : decode cX8_findHelper 58 = .ok (.ifCond .eq 26, 3) := by decide +kernel
theorem dX8_findHelper_61 : decode cX8_findHelper 61 = .ok (.iload 6, 2) := by decide +kernel
theorem dX8_findHelper_63 : decode cX8_findHelper 63 = .ok (.aload_n 0, 1) := by decide +kernel
theorem dX8_findHelper_64 : decode cX8_findHelper 64 = .ok (.getfield 7, 3) := by decide +kernel
theorem dX8_findHelper_67 : decode cX8_findHelper 67 = .ok (.sipush 156, 3) := by decide +kernel
theorem dX8_findHelper_70 : decode cX8_findHelper 70 = .ok (.iload 4, 2) := by decide +kernel
theorem dX8_findHelper_72 : decode cX8_findHelper 72 = .ok (.iload_n 2, 1) := by decide +kernel
theorem dX8_findHelper_73 : decode cX8_findHelper 73 = .ok (.invokestatic 62, 3) := by decide +kernel
theorem dX8_findHelper_76 : decode cX8_findHelper 76 = .ok (.iaload, 1) := by decide +kernel
theorem dX8_findHelper_77 : decode cX8_findHelper 77 = .ok (.if_icmp .le 7, 3) := by decide +kernel
theorem dX8_findHelper_80 : decode cX8_findHelper 80 = .ok (.iconst 1, 1) := by decide +kernel
theorem dX8_findHelper_81 : decode cX8_findHelper 81 = .ok (.goto 4, 3) := by decide +kernel
theorem dX8_findHelper_84 : decode cX8_findHelper 84 = .ok (.iconst 0, 1) := by decide +kernel
theorem dX8_findHelper_85 : decode cX8_findHelper 85 = .ok (.istore 7, 2) := by decide +kernel
theorem dX8_findHelper_87 : decode cX8_findHelper 87 = .ok (.iload 7, 2) := by decide +kernel
theorem dX8_findHelper_89 : decode cX8_findHelper 89 = .ok (.ifCond .eq 50, 3) := by decide +kernel
theorem dX8_findHelper_92 : decode cX8_findHelper 92 = .ok (.iload_n 3, 1) := by decide +kernel
theorem dX8_findHelper_93 : decode cX8_findHelper 93 = .ok (.iconst (-1), 1) := by decide +kernel
theorem dX8_findHelper_94 : decode cX8_findHelper 94 = .ok (.if_icmp .eq 42, 3) := by decide +kernel
theorem dX8_findHelper_97 : decode cX8_findHelper 97 = .ok (.iload 5, 2) := by decide +kernel
theorem dX8_findHelper_99 : decode cX8_findHelper 99 = .ok (.aload_n 0, 1) := by decide +kernel
theorem dX8_findHelper_100 : decode cX8_findHelper 100 = .ok (.iload_n 1, 1) := by decide +kernel
theorem dX8_findHelper_101 : decode cX8_findHelper 101 = .ok (.iload_n 3, 1) := by decide +kernel
theorem dX8_findHelper_102 : decode cX8_findHelper 102 = .ok (.invokevirtual 51, 3) := by decide +kernel
theorem dX8_findHelper_105 : decode cX8_findHelper 105 = .ok (.if_icmp .lt 31, 3) := by decide +kernel
theorem dX8_findHelper_108 : decode cX8_findHelper 108 = .ok (.iload 5, 2) := by decide +kernel
theorem dX8_findHelper_110 : decode cX8_findHelper 110 = .ok (.aload_n 0, 1) := by decide +kernel
theorem dX8_findHelper_111 : decode cX8_findHelper 111 = .ok (.iload_n 1, 1) := by decide +kernel
theorem dX8_findHelper_112 : decode cX8_findHelper 112 = .ok (.iload_n 3, 1) := by decide +kernel
theorem dX8_findHelper_113 : decode cX8_findHelper 113 = .ok (.invokevirtual 51, 3) := by decide +kernel
theorem dX8_findHelper_116 : decode cX8_findHelper 116 = .ok (.if_icmp .ne 23, 3) := by decide +kernel
theorem dX8_findHelper_119 : decode cX8_findHelper 119 = .ok (.iload 6, 2) := by decide +kernel
theorem dX8_findHelper_121 : decode cX8_findHelper 121 = .ok (.aload_n 0, 1) := by decide +kernel
theorem dX8_findHelper_122 : decode cX8_findHelper 122 = .ok (.getfield 7, 3) := by decide +kernel
theorem dX8_findHelper_125 : decode cX8_findHelper 125 = .ok (.bipush 124, 2) := by decide +kernel
theorem dX8_findHelper_127 : decode cX8_findHelper 127 = .ok (.iload_n 3, 1) := by decide +kernel
theorem dX8_findHelper_128 : decode cX8_findHelper 128 = .ok (.iload_n 2, 1) := by decide +kernel
theorem dX8_findHelper_129 : decode cX8_findHelper 129 = .ok (.invokestatic 62, 3) := by decide +kernel
theorem dX8_findHelper_132 : decode cX8_findHelper 132 = .ok (.iaload, 1) := by decide +kernel
theorem dX8_findHelper_133 : decode cX8_findHelper 133 = .ok (.if_icmp .le 6, 3) := by decide +kernel
theorem dX8_findHelper_136 : decode cX8_findHelper 136 = .ok (.iload 4, 2) := by decide +kernel
theorem dX8_findHelper_138 : decode cX8_findHelper 138 = .ok (.istore_n 3, 1) := by decide +kernel
theorem dX8_findHelper_139 : decode cX8_findHelper 139 = .ok (.iinc 4 1, 3) := by decide +kernel
theorem dX8_findHelper_142 : decode cX8_findHelper 142 = .ok (.goto (-137), 3) := by decide +kernel
theorem dX8_findHelper_145 : decode cX8_findHelper 145 = .ok (.iload_n 3, 1) := by decide +kernel
theorem dX8_findHelper_146 : decode cX8_findHelper 146 = .ok (.ireturn, 1) := by decide +kernel
theorem dX8_placeOrder_0 : decode cX8_placeOrder 0 = .ok (.aload_n 0, 1) := by decide +kernel
theorem dX8_placeOrder_1 : decode cX8_placeOrder 1 = .ok (.getfield 7, 3) := by decide +kernel
theorem dX8_placeOrder_4 : decode cX8_placeOrder 4 = .ok (.bipush 124, 2) := by decide +kernel
theorem dX8_placeOrder_6 : decode cX8_placeOrder 6 = .ok (.iconst 0, 1) := by decide +kernel
theorem dX8_placeOrder_7 : decode cX8_placeOrder 7 = .ok (.iload_n 2, 1) := by decide +kernel
theorem dX8_placeOrder_8 : decode cX8_placeOrder 8 = .ok (.invokestatic 62, 3) := by decide +kernel
theorem dX8_placeOrder_11 : decode cX8_placeOrder 11 = .ok (.iaload, 1) := by decide +kernel
theorem dX8_placeOrder_12 : decode cX8_placeOrder 12 = .ok (.ifCond .le 26, 3) := by decide +kernel
theorem dX8_placeOrder_15 : decode cX8_placeOrder 15 = .ok (.aload_n 0, 1) := by decide +kernel
theorem dX8_placeOrder_16 : decode cX8_placeOrder 16 = .ok (.getfield 7, 3) := by decide +kernel
theorem dX8_placeOrder_19 : decode cX8_placeOrder 19 = .ok (.bipush 124, 2) := by decide +kernel
theorem dX8_placeOrder_21 : decode cX8_placeOrder 21 = .ok (.iconst 0, 1) := by decide +kernel
theorem dX8_placeOrder_22 : decode cX8_placeOrder 22 = .ok (.iload_n 2, 1) := by decide +kernel
theorem dX8_placeOrder_23 : decode cX8_placeOrder 23 = .ok (.invokestatic 62, 3) := by decide +kernel
theorem dX8_placeOrder_26 : decode cX8_placeOrder 26 = .ok (.dup2, 1) := by decide +kernel
theorem dX8_placeOrder_27 : decode cX8_placeOrder 27 = .ok (.iaload, 1) := by decide +kernel
theorem dX8_placeOrder_28 : decode cX8_placeOrder 28 = .ok (.iconst 1, 1) := by decide +kernel
theorem dX8_placeOrder_29 : decode cX8_placeOrder 29 = .ok (.isub, 1) := by decide +kernel
theorem dX8_placeOrder_30 : decode cX8_placeOrder 30 = .ok (.iastore, 1) := by decide +kernel
theorem dX8_placeOrder_31 : decode cX8_placeOrder 31 = .ok (.aload_n 0, 1) := by decide +kernel
theorem dX8_placeOrder_32 : decode cX8_placeOrder 32 = .ok (.iload_n 1, 1) := by decide +kernel
theorem dX8_placeOrder_33 : decode cX8_placeOrder 33 = .ok (.iload_n 2, 1) := by decide +kernel
theorem dX8_placeOrder_34 : decode cX8_placeOrder 34 = .ok (.invokevirtual 103, 3) := by decide +kernel
theorem dX8_placeOrder_37 : decode cX8_placeOrder 37 = .ok (.return_, 1) := by decide +kernel
theorem dX8_placeOrder_38 : decode cX8_placeOrder 38 = .ok (.aload_n 0, 1) := by decide +kernel
theorem dX8_placeOrder_39 : decode cX8_placeOrder 39 = .ok (.bipush 6, 2) := by decide +kernel
theorem dX8_placeOrder_41 : decode cX8_placeOrder 41 = .ok (.sipush 5412, 3) := by decide +kernel
theorem dX8_placeOrder_44 : decode cX8_placeOrder 44 = .ok (.iconst 3, 1) := by decide +kernel
theorem dX8_placeOrder_45 : decode cX8_placeOrder 45 = .ok (.invokevirtual 37, 3) := by decide +kernel
theorem dX8_placeOrder_48 : decode cX8_placeOrder 48 = .ok (.istore 4, 2) := by decide +kernel
theorem dX8_placeOrder_50 : decode cX8_placeOrder 50 = .ok (.aload_n 0, 1) := by decide +kernel
theorem dX8_placeOrder_51 : decode cX8_placeOrder 51 = .ok (.getfield 7, 3) := by decide +kernel
