theorem dX8_sum_79 : decode cX8_sum 79 = .ok (.iaload, 1) := by decide +kernel
theorem dX8_sum_80 : decode cX8_sum 80 = .ok (.goto 4, 3) := by decide +kernel
theorem dX8_sum_83 : decode cX8_sum 83 = .ok (.iconst 0, 1) := by decide +kernel
theorem dX8_sum_84 : decode cX8_sum 84 = .ok (.iadd, 1) := by decide +kernel
theorem dX8_sum_85 : decode cX8_sum 85 = .ok (.istore 4, 2) := by decide +kernel
theorem dX8_sum_87 : decode cX8_sum 87 = .ok (.iinc 6 1, 3) := by decide +kernel
theorem dX8_sum_90 : decode cX8_sum 90 = .ok (.goto (-70), 3) := by decide +kernel
theorem dX8_sum_93 : decode cX8_sum 93 = .ok (.iinc 5 1, 3) := by decide +kernel
theorem dX8_sum_96 : decode cX8_sum 96 = .ok (.goto (-90), 3) := by decide +kernel
theorem dX8_sum_99 : decode cX8_sum 99 = .ok (.iload 4, 2) := by decide +kernel
theorem dX8_sum_101 : decode cX8_sum 101 = .ok (.ireturn, 1) := by decide +kernel
theorem dX8_areMeant_0 : decode cX8_areMeant 0 = .ok (.iload_n 1, 1) := by decide +kernel
theorem dX8_areMeant_1 : decode cX8_areMeant 1 = .ok (.iconst (-1), 1) := by decide +kernel
theorem dX8_areMeant_2 : decode cX8_areMeant 2 = .ok (.if_icmp .eq 11, 3) := by decide +kernel
theorem dX8_areMeant_5 : decode cX8_areMeant 5 = .ok (.aload_n 0, 1) := by decide +kernel
theorem dX8_areMeant_6 : decode cX8_areMeant 6 = .ok (.iload_n 1, 1) := by decide +kernel
theorem dX8_areMeant_7 : decode cX8_areMeant 7 = .ok (.invokevirtual 55, 3) := by decide +kernel
theorem dX8_areMeant_10 : decode cX8_areMeant 10 = .ok (.ifCond .eq 20, 3) := by decide +kernel
theorem dX8_areMeant_13 : decode cX8_areMeant 13 = .ok (.iload_n 2, 1) := by decide +kernel
theorem dX8_areMeant_14 : decode cX8_areMeant 14 = .ok (.iconst (-1), 1) := by decide +kernel
theorem dX8_areMeant_15 : decode cX8_areMeant 15 = .ok (.if_icmp .eq 11, 3) := by decide +kernel
theorem dX8_areMeant_18 : decode cX8_areMeant 18 = .ok (.aload_n 0, 1) := by decide +kernel
theorem dX8_areMeant_19 : decode cX8_areMeant 19 = .ok (.iload_n 2, 1) := by decide +kernel
theorem dX8_areMeant_20 : decode cX8_areMeant 20 = .ok (.invokevirtual 81, 3) := by decide +kernel
theorem dX8_areMeant_23 : decode cX8_areMeant 23 = .ok (.ifCond .eq 7, 3) := by decide +kernel
theorem dX8_areMeant_26 : decode cX8_areMeant 26 = .ok (.iconst 1, 1) := by decide +kernel
theorem dX8_areMeant_27 : decode cX8_areMeant 27 = .ok (.goto 4, 3) := by decide +kernel
theorem dX8_areMeant_30 : decode cX8_areMeant 30 = .ok (.iconst 0, 1) := by decide +kernel
theorem dX8_areMeant_31 : decode cX8_areMeant 31 = .ok (.ireturn, 1) := by decide +kernel
theorem dX8_figure_0 : decode cX8_figure 0 = .ok (.aload_n 0, 1) := by decide +kernel
theorem dX8_figure_1 : decode cX8_figure 1 = .ok (.iconst 0, 1) := by decide +kernel
theorem dX8_figure_2 : decode cX8_figure 2 = .ok (.putfield 30, 3) := by decide +kernel
theorem dX8_figure_5 : decode cX8_figure 5 = .ok (.aload_n 0, 1) := by decide +kernel
theorem dX8_figure_6 : decode cX8_figure 6 = .ok (.iload_n 2, 1) := by decide +kernel
theorem dX8_figure_7 : decode cX8_figure 7 = .ok (.iload_n 3, 1) := by decide +kernel
theorem dX8_figure_8 : decode cX8_figure 8 = .ok (.invokevirtual 208, 3) := by decide +kernel
theorem dX8_figure_11 : decode cX8_figure 11 = .ok (.ifCond .eq 13, 3) := by decide +kernel
theorem dX8_figure_14 : decode cX8_figure 14 = .ok (.aload_n 0, 1) := by decide +kernel
theorem dX8_figure_15 : decode cX8_figure 15 = .ok (.iload_n 1, 1) := by decide +kernel
theorem dX8_figure_16 : decode cX8_figure 16 = .ok (.iload_n 2, 1) := by decide +kernel
theorem dX8_figure_17 : decode cX8_figure 17 = .ok (.iload_n 3, 1) := by decide +kernel
theorem dX8_figure_18 : decode cX8_figure 18 = .ok (.invokevirtual 211, 3) := by decide +kernel
theorem dX8_figure_21 : decode cX8_figure 21 = .ok (.goto 8, 3) := by decide +kernel
theorem dX8_figure_24 : decode cX8_figure 24 = .ok (.aload_n 0, 1) := by decide +kernel
theorem dX8_figure_25 : decode cX8_figure 25 = .ok (.iconst 1, 1) := by decide +kernel
theorem dX8_figure_26 : decode cX8_figure 26 = .ok (.invokevirtual 41, 3) := by decide +kernel
theorem dX8_figure_29 : decode cX8_figure 29 = .ok (.ireturn, 1) := by decide +kernel
theorem dX8_demands_0 : decode cX8_demands 0 = .ok (.aload_n 0, 1) := by decide +kernel
theorem dX8_demands_1 : decode cX8_demands 1 = .ok (.sipush 252, 3) := by decide +kernel
theorem dX8_demands_4 : decode cX8_demands 4 = .ok (.iload_n 1, 1) := by decide +kernel
theorem dX8_demands_5 : decode cX8_demands 5 = .ok (.iload_n 2, 1) := by decide +kernel
theorem dX8_demands_6 : decode cX8_demands 6 = .ok (.invokevirtual 214, 3) := by decide +kernel
theorem dX8_demands_9 : decode cX8_demands 9 = .ok (.ireturn, 1) := by decide +kernel
theorem dX8_commonDivisor_0 : decode cX8_commonDivisor 0 = .ok (.iload_n 0, 1) := by decide +kernel
theorem dX8_commonDivisor_1 : decode cX8_commonDivisor 1 = .ok (.istore_n 2, 1) := by decide +kernel
theorem dX8_commonDivisor_2 : decode cX8_commonDivisor 2 = .ok (.iload_n 1, 1) := by decide +kernel
theorem dX8_commonDivisor_3 : decode cX8_commonDivisor 3 = .ok (.istore_n 3, 1) := by decide +kernel
theorem dX8_commonDivisor_4 : decode cX8_commonDivisor 4 = .ok (.iload_n 3, 1) := by decide +kernel
theorem dX8_commonDivisor_5 : decode cX8_commonDivisor 5 = .ok (.ifCond .eq 16, 3) := by decide +kernel
theorem dX8_commonDivisor_8 : decode cX8_commonDivisor 8 = .ok (.iload_n 2, 1) := by decide +kernel
theorem dX8_commonDivisor_9 : decode cX8_commonDivisor 9 = .ok (.iload_n 3, 1) := by decide +kernel
theorem dX8_commonDivisor_10 : decode cX8_commonDivisor 10 = .ok (.irem, 1) := by decide +kernel
theorem dX8_commonDivisor_11 : decode cX8_commonDivisor 11 = .ok (.istore 4, 2) := by decide +kernel
theorem dX8_commonDivisor_13 : decode cX8_commonDivisor 13 = .ok (.iload_n 3, 1) := by decide +kernel
theorem dX8_commonDivisor_14 : decode cX8_commonDivisor 14 = .ok (.istore_n 2, 1) := by decide +kernel
theorem dX8_commonDivisor_15 : decode cX8_commonDivisor 15 = .ok (.iload 4, 2) := by decide +kernel
theorem dX8_commonDivisor_17 : decode cX8_commonDivisor 17 = .ok (.istore_n 3, 1) := by decide +kernel
theorem dX8_commonDivisor_18 : decode cX8_commonDivisor 18 = .ok (.goto (-14), 3) := by decide +kernel
theorem dX8_commonDivisor_21 : decode cX8_commonDivisor 21 = .ok (.iload_n 2, 1) := by decide +kernel
theorem dX8_commonDivisor_22 : decode cX8_commonDivisor 22 = .ok (.ireturn, 1) := by decide +kernel
theorem dX8_fillRate_0 : decode cX8_fillRate 0 = .ok (.aload_n 0, 1) := by decide +kernel
theorem dX8_fillRate_1 : decode cX8_fillRate 1 = .ok (.iconst 0, 1) := by decide +kernel
theorem dX8_fillRate_2 : decode cX8_fillRate 2 = .ok (.putfield 30, 3) := by decide +kernel
theorem dX8_fillRate_5 : decode cX8_fillRate 5 = .ok (.aload_n 0, 1) := by decide +kernel
theorem dX8_fillRate_6 : decode cX8_fillRate 6 = .ok (.iload_n 1, 1) := by decide +kernel
theorem dX8_fillRate_7 : decode cX8_fillRate 7 = .ok (.iload_n 2, 1) := by decide +kernel
theorem dX8_fillRate_8 : decode cX8_fillRate 8 = .ok (.invokevirtual 208, 3) := by decide +kernel
theorem dX8_fillRate_11 : decode cX8_fillRate 11 = .ok (.ifCond .ne 9, 3) := by decide +kernel
theorem dX8_fillRate_14 : decode cX8_fillRate 14 = .ok (.aload_n 0, 1) := by decide +kernel
theorem dX8_fillRate_15 : decode cX8_fillRate 15 = .ok (.iconst 1, 1) := by decide +kernel
theorem dX8_fillRate_16 : decode cX8_fillRate 16 = .ok (.invokevirtual 41, 3) := by decide +kernel
theorem dX8_fillRate_19 : decode cX8_fillRate 19 = .ok (.ireturn, 1) := by decide +kernel
theorem dX8_fillRate_20 : decode cX8_fillRate 20 = .ok (.aload_n 0, 1) := by decide +kernel
theorem dX8_fillRate_21 : decode cX8_fillRate 21 = .ok (.sipush 284, 3) := by decide +kernel
theorem dX8_fillRate_24 : decode cX8_fillRate 24 = .ok (.iload_n 1, 1) := by decide +kernel
theorem dX8_fillRate_25 : decode cX8_fillRate 25 = .ok (.iload_n 2, 1) := by decide +kernel
theorem dX8_fillRate_26 : decode cX8_fillRate 26 = .ok (.invokevirtual 211, 3) := by decide +kernel
theorem dX8_fillRate_29 : decode cX8_fillRate 29 = .ok (.istore 4, 2) := by decide +kernel
theorem dX8_fillRate_31 : decode cX8_fillRate 31 = .ok (.aload_n 0, 1) := by decide +kernel
theorem dX8_fillRate_32 : decode cX8_fillRate 32 = .ok (.sipush 252, 3) := by decide +kernel
theorem dX8_fillRate_35 : decode cX8_fillRate 35 = .ok (.iload_n 1, 1) := by decide +kernel
theorem dX8_fillRate_36 : decode cX8_fillRate 36 = .ok (.iload_n 2, 1) := by decide +kernel
theorem dX8_fillRate_37 : decode cX8_fillRate 37 = .ok (.invokevirtual 211, 3) := by decide +kernel
theorem dX8_fillRate_40 : decode cX8_fillRate 40 = .ok (.istore 5, 2) := by decide +kernel
theorem dX8_fillRate_42 : decode cX8_fillRate 42 = .ok (.iload 4, 2) := by decide +kernel
theorem dX8_fillRate_44 : decode cX8_fillRate 44 = .ok (.ifCond .ne 13, 3) := by decide +kernel
theorem dX8_fillRate_47 : decode cX8_fillRate 47 = .ok (.iload_n 3, 1) := by decide +kernel
theorem dX8_fillRate_48 : decode cX8_fillRate 48 = .ok (.ifCond .eq 7, 3) := by decide +kernel
theorem dX8_fillRate_51 : decode cX8_fillRate 51 = .ok (.iconst 0, 1) := by decide +kernel
theorem dX8_fillRate_52 : decode cX8_fillRate 52 = .ok (.goto 4, 3) := by decide +kernel
theorem dX8_fillRate_55 : decode cX8_fillRate 55 = .ok (.iconst 1, 1) := by decide +kernel
theorem dX8_fillRate_56 : decode cX8_fillRate 56 = .ok (.ireturn, 1) := by decide +kernel
theorem dX8_fillRate_57 : decode cX8_fillRate 57 = .ok (.iload_n 3, 1) := by decide +kernel
theorem dX8_fillRate_58 : decode cX8_fillRate 58 = .ok (.ifCond .eq 8, 3) := by decide +kernel
theorem dX8_fillRate_61 : decode cX8_fillRate 61 = .ok (.iload 4, 2) := by decide +kernel
theorem dX8_fillRate_63 : decode cX8_fillRate 63 = .ok (.goto 5, 3) := by decide +kernel
theorem dX8_fillRate_66 : decode cX8_fillRate 66 = .ok (.iload 5, 2) := by decide +kernel
theorem dX8_fillRate_68 : decode cX8_fillRate 68 = .ok (.iload 4, 2) := by decide +kernel
theorem dX8_fillRate_70 : decode cX8_fillRate 70 = .ok (.iload 5, 2) := by decide +kernel
theorem dX8_fillRate_72 : decode cX8_fillRate 72 = .ok (.invokestatic 217, 3) := by decide +kernel
theorem dX8_fillRate_75 : decode cX8_fillRate 75 = .ok (.idiv, 1) := by decide +kernel
theorem dX8_fillRate_76 : decode cX8_fillRate 76 = .ok (.ireturn, 1) := by decide +kernel
theorem dX8_fillNumerator_0 : decode cX8_fillNumerator 0 = .ok (.aload_n 0, 1) := by decide +kernel
theorem dX8_fillNumerator_1 : decode cX8_fillNumerator 1 = .ok (.iload_n 1, 1) := by decide +kernel
theorem dX8_fillNumerator_2 : decode cX8_fillNumerator 2 = .ok (.iload_n 2, 1) := by decide +kernel
theorem dX8_fillNumerator_3 : decode cX8_fillNumerator 3 = .ok (.iconst 1, 1) := by decide +kernel
theorem dX8_fillNumerator_4 : decode cX8_fillNumerator 4 = .ok (.invokevirtual 220, 3) := by decide +kernel
theorem dX8_fillNumerator_7 : decode cX8_fillNumerator 7 = .ok (.ireturn, 1) := by decide +kernel
theorem dX8_fillDenominator_0 : decode cX8_fillDenominator 0 = .ok (.aload_n 0, 1) := by decide +kernel
theorem dX8_fillDenominator_1 : decode cX8_fillDenominator 1 = .ok (.iload_n 1, 1) := by decide +kernel
theorem dX8_fillDenominator_2 : decode cX8_fillDenominator 2 = .ok (.iload_n 2, 1) := by decide +kernel
theorem dX8_fillDenominator_3 : decode cX8_fillDenominator 3 = .ok (.iconst 0, 1) := by decide +kernel
theorem dX8_fillDenominator_4 : decode cX8_fillDenominator 4 = .ok (.invokevirtual 220, 3) := by decide +kernel
theorem dX8_fillDenominator_7 : decode cX8_fillDenominator 7 = .ok (.ireturn, 1) := by decide +kernel
theorem dX8_delays_0 : decode cX8_delays 0 = .ok (.aload_n 0, 1) := by decide +kernel
theorem dX8_delays_1 : decode cX8_delays 1 = .ok (.sipush 316, 3) := by decide +kernel
theorem dX8_delays_4 : decode cX8_delays 4 = .ok (.iload_n 1, 1) := by decide +kernel
theorem dX8_delays_5 : decode cX8_delays 5 = .ok (.iload_n 2, 1) := by decide +kernel
theorem dX8_delays_6 : decode cX8_delays 6 = .ok (.invokevirtual 214, 3) := by decide +kernel
theorem dX8_delays_9 : decode cX8_delays 9 = .ok (.ireturn, 1) := by decide +kernel
theorem dX8_backorderDays_0 : decode cX8_backorderDays 0 = .ok (.aload_n 0, 1) := by decide +kernel
theorem dX8_backorderDays_1 : decode cX8_backorderDays 1 = .ok (.sipush 348, 3) := by decide +kernel
theorem dX8_backorderDays_4 : decode cX8_backorderDays 4 = .ok (.iload_n 1, 1) := by decide +kernel
theorem dX8_backorderDays_5 : decode cX8_backorderDays 5 = .ok (.iload_n 2, 1) := by decide +kernel
theorem dX8_backorderDays_6 : decode cX8_backorderDays 6 = .ok (.invokevirtual 214, 3) := by decide +kernel
theorem dX8_backorderDays_9 : decode cX8_backorderDays 9 = .ok (.ireturn, 1) := by decide +kernel
theorem dX8_helped_0 : decode cX8_helped 0 = .ok (.aload_n 0, 1) := by decide +kernel
theorem dX8_helped_1 : decode cX8_helped 1 = .ok (.sipush 380, 3) := by decide +kernel
theorem dX8_helped_4 : decode cX8_helped 4 = .ok (.iload_n 1, 1) := by decide +kernel
theorem dX8_helped_5 : decode cX8_helped 5 = .ok (.iload_n 2, 1) := by decide +kernel
theorem dX8_helped_6 : decode cX8_helped 6 = .ok (.invokevirtual 214, 3) := by decide +kernel
theorem dX8_helped_9 : decode cX8_helped 9 = .ok (.ireturn, 1) := by decide +kernel
theorem dX8_bestSite_0 : decode cX8_bestSite 0 = .ok (.aload_n 0, 1) := by decide +kernel
theorem dX8_bestSite_1 : decode cX8_bestSite 1 = .ok (.iconst 0, 1) := by decide +kernel
theorem dX8_bestSite_2 : decode cX8_bestSite 2 = .ok (.putfield 30, 3) := by decide +kernel
theorem dX8_bestSite_5 : decode cX8_bestSite 5 = .ok (.aload_n 0, 1) := by decide +kernel
theorem dX8_bestSite_6 : decode cX8_bestSite 6 = .ok (.iload_n 1, 1) := by decide +kernel
theorem dX8_bestSite_7 : decode cX8_bestSite 7 = .ok (.invokevirtual 81, 3) := by decide +kernel
theorem dX8_bestSite_10 : decode cX8_bestSite 10 = .ok (.ifCond .ne 9, 3) := by decide +kernel
theorem dX8_bestSite_13 : decode cX8_bestSite 13 = .ok (.aload_n 0, 1) := by decide +kernel
theorem dX8_bestSite_14 : decode cX8_bestSite 14 = .ok (.iconst 1, 1) := by decide +kernel
theorem dX8_bestSite_15 : decode cX8_bestSite 15 = .ok (.invokevirtual 41, 3) := by decide +kernel
theorem dX8_bestSite_18 : decode cX8_bestSite 18 = .ok (.ireturn, 1) := by decide +kernel
theorem dX8_bestSite_19 : decode cX8_bestSite 19 = .ok (.iload_n 2, 1) := by decide +kernel
theorem dX8_bestSite_20 : decode cX8_bestSite 20 = .ok (.ifCond .lt 13, 3) := by decide +kernel
theorem dX8_bestSite_23 : decode cX8_bestSite 23 = .ok (.iload_n 3, 1) := by decide +kernel
theorem dX8_bestSite_24 : decode cX8_bestSite 24 = .ok (.iconst 1, 1) := by decide +kernel
theorem dX8_bestSite_25 : decode cX8_bestSite 25 = .ok (.bipush 10, 2) := by decide +kernel
theorem dX8_bestSite_27 : decode cX8_bestSite 27 = .ok (.invokestatic 33, 3) := by decide +kernel
theorem dX8_bestSite_30 : decode cX8_bestSite 30 = .ok (.ifCond .ne 9, 3) := by decide +kernel
theorem dX8_bestSite_33 : decode cX8_bestSite 33 = .ok (.aload_n 0, 1) := by decide +kernel
theorem dX8_bestSite_34 : decode cX8_bestSite 34 = .ok (.iconst 2, 1) := by decide +kernel
theorem dX8_bestSite_35 : decode cX8_bestSite 35 = .ok (.invokevirtual 41, 3) := by decide +kernel
theorem dX8_bestSite_38 : decode cX8_bestSite 38 = .ok (.ireturn, 1) := by decide +kernel
theorem dX8_bestSite_39 : decode cX8_bestSite 39 = .ok (.aload_n 0, 1) := by decide +kernel
theorem dX8_bestSite_40 : decode cX8_bestSite 40 = .ok (.getfield 7, 3) := by decide +kernel
theorem dX8_bestSite_43 : decode cX8_bestSite 43 = .ok (.iconst 0, 1) := by decide +kernel
theorem dX8_bestSite_44 : decode cX8_bestSite 44 = .ok (.iaload, 1) := by decide +kernel
theorem dX8_bestSite_45 : decode cX8_bestSite 45 = .ok (.iload_n 3, 1) := by decide +kernel
theorem dX8_bestSite_46 : decode cX8_bestSite 46 = .ok (.iadd, 1) := by decide +kernel
theorem dX8_bestSite_47 : decode cX8_bestSite 47 = .ok (.sipush 9999, 3) := by decide +kernel
theorem dX8_bestSite_50 : decode cX8_bestSite 50 = .ok (.if_icmp .le 9, 3) := by decide +kernel
theorem dX8_bestSite_53 : decode cX8_bestSite 53 = .ok (.aload_n 0, 1) := by decide +kernel
theorem dX8_bestSite_54 : decode cX8_bestSite 54 = .ok (.iconst 3, 1) := by decide +kernel
theorem dX8_bestSite_55 : decode cX8_bestSite 55 = .ok (.invokevirtual 41, 3) := by decide +kernel
theorem dX8_bestSite_58 : decode cX8_bestSite 58 = .ok (.ireturn, 1) := by decide +kernel
theorem dX8_bestSite_59 : decode cX8_bestSite 59 = .ok (.aload_n 0, 1) := by decide +kernel
theorem dX8_bestSite_60 : decode cX8_bestSite 60 = .ok (.getfield 7, 3) := by decide +kernel
theorem dX8_bestSite_63 : decode cX8_bestSite 63 = .ok (.iconst 0, 1) := by decide +kernel
theorem dX8_bestSite_64 : decode cX8_bestSite 64 = .ok (.aload_n 0, 1) := by decide +kernel
theorem dX8_bestSite_65 : decode cX8_bestSite 65 = .ok (.getfield 13, 3) := by decide +kernel
theorem dX8_bestSite_68 : decode cX8_bestSite 68 = .ok (.iconst 0, 1) := by decide +kernel
theorem dX8_bestSite_69 : decode cX8_bestSite 69 = .ok (.invokestatic 224, 3) := by decide +kernel
theorem dX8_bestSite_72 : decode cX8_bestSite 72 = .ok (.aload_n 0, 1) := by decide +kernel
theorem dX8_bestSite_73 : decode cX8_bestSite 73 = .ok (.getfield 7, 3) := by decide +kernel
theorem dX8_bestSite_76 : decode cX8_bestSite 76 = .ok (.iconst 3, 1) := by decide +kernel
theorem dX8_bestSite_77 : decode cX8_bestSite 77 = .ok (.iaload, 1) := by decide +kernel
theorem dX8_bestSite_78 : decode cX8_bestSite 78 = .ok (.istore 4, 2) := by decide +kernel
theorem dX8_bestSite_80 : decode cX8_bestSite 80 = .ok (.iconst (-1), 1) := by decide +kernel
theorem dX8_bestSite_81 : decode cX8_bestSite 81 = .ok (.istore 5, 2) := by decide +kernel
theorem dX8_bestSite_83 : decode cX8_bestSite 83 = .ok (.iconst 0, 1) := by decide +kernel
theorem dX8_bestSite_84 : decode cX8_bestSite 84 = .ok (.istore 6, 2) := by decide +kernel
theorem dX8_bestSite_86 : decode cX8_bestSite 86 = .ok (.iconst 0, 1) := by decide +kernel
theorem dX8_bestSite_87 : decode cX8_bestSite 87 = .ok (.istore 7, 2) := by decide +kernel
theorem dX8_bestSite_89 : decode cX8_bestSite 89 = .ok (.iload 7, 2) := by decide +kernel
theorem dX8_bestSite_91 : decode cX8_bestSite 91 = .ok (.iload 4, 2) := by decide +kernel
theorem dX8_bestSite_93 : decode cX8_bestSite 93 = .ok (.if_icmp .ge 105, 3) := by decide +kernel
theorem dX8_bestSite_96 : decode cX8_bestSite 96 = .ok (.aload_n 0, 1) := by decide +kernel
theorem dX8_bestSite_97 : decode cX8_bestSite 97 = .ok (.getfield 13, 3) := by decide +kernel
theorem dX8_bestSite_100 : decode cX8_bestSite 100 = .ok (.bipush 92, 2) := by decide +kernel
theorem dX8_bestSite_102 : decode cX8_bestSite 102 = .ok (.iload 7, 2) := by decide +kernel
theorem dX8_bestSite_104 : decode cX8_bestSite 104 = .ok (.iload_n 1, 1) := by decide +kernel
theorem dX8_bestSite_105 : decode cX8_bestSite 105 = .ok (.invokestatic 62, 3) := by decide +kernel
theorem dX8_bestSite_108 : decode cX8_bestSite 108 = .ok (.iaload, 1) := by decide +kernel
theorem dX8_bestSite_109 : decode cX8_bestSite 109 = .ok (.bipush 20, 2) := by decide +kernel
theorem dX8_bestSite_111 : decode cX8_bestSite 111 = .ok (.if_icmp .ne 6, 3) := by decide +kernel
theorem dX8_bestSite_114 : decode cX8_bestSite 114 = .ok (.goto 78, 3) := by decide +kernel
theorem dX8_bestSite_117 : decode cX8_bestSite 117 = .ok (.aload_n 0, 1) := by decide +kernel
theorem dX8_bestSite_118 : decode cX8_bestSite 118 = .ok (.iload 7, 2) := by decide +kernel
theorem dX8_bestSite_120 : decode cX8_bestSite 120 = .ok (.iload_n 1, 1) := by decide +kernel
theorem dX8_bestSite_121 : decode cX8_bestSite 121 = .ok (.aload_n 0, 1) := by decide +kernel
theorem dX8_bestSite_122 : decode cX8_bestSite 122 = .ok (.getfield 7, 3) := by decide +kernel
theorem dX8_bestSite_125 : decode cX8_bestSite 125 = .ok (.bipush 92, 2) := by decide +kernel
theorem dX8_bestSite_127 : decode cX8_bestSite 127 = .ok (.iload 7, 2) := by decide +kernel
theorem dX8_bestSite_129 : decode cX8_bestSite 129 = .ok (.iload_n 1, 1) := by decide +kernel
theorem dX8_bestSite_130 : decode cX8_bestSite 130 = .ok (.invokestatic 62, 3) := by decide +kernel
theorem dX8_bestSite_133 : decode cX8_bestSite 133 = .ok (.iaload, 1) := by decide +kernel
theorem dX8_bestSite_134 : decode cX8_bestSite 134 = .ok (.iconst 1, 1) := by decide +kernel
theorem dX8_bestSite_135 : decode cX8_bestSite 135 = .ok (.iadd, 1) := by decide +kernel
theorem dX8_bestSite_136 : decode cX8_bestSite 136 = .ok (.invokevirtual 84, 3) := by decide +kernel
theorem dX8_bestSite_139 : decode cX8_bestSite 139 = .ok (.aload_n 0, 1) := by decide +kernel
theorem dX8_bestSite_140 : decode cX8_bestSite 140 = .ok (.iload_n 2, 1) := by decide +kernel
theorem dX8_bestSite_141 : decode cX8_bestSite 141 = .ok (.iload_n 3, 1) := by decide +kernel
theorem dX8_bestSite_142 : decode cX8_bestSite 142 = .ok (.invokevirtual 183, 3) := by decide +kernel
theorem dX8_bestSite_145 : decode cX8_bestSite 145 = .ok (.istore 8, 2) := by decide +kernel
theorem dX8_bestSite_147 : decode cX8_bestSite 147 = .ok (.aload_n 0, 1) := by decide +kernel
theorem dX8_bestSite_148 : decode cX8_bestSite 148 = .ok (.sipush 348, 3) := by decide +kernel
theorem dX8_bestSite_151 : decode cX8_bestSite 151 = .ok (.iconst (-1), 1) := by decide +kernel
theorem dX8_bestSite_152 : decode cX8_bestSite 152 = .ok (.iconst (-1), 1) := by decide +kernel
theorem dX8_bestSite_153 : decode cX8_bestSite 153 = .ok (.invokevirtual 211, 3) := by decide +kernel
theorem dX8_bestSite_156 : decode cX8_bestSite 156 = .ok (.istore 9, 2) := by decide +kernel
theorem dX8_bestSite_158 : decode cX8_bestSite 158 = .ok (.iload 5, 2) := by decide +kernel
theorem dX8_bestSite_160 : decode cX8_bestSite 160 = .ok (.iconst (-1), 1) := by decide +kernel
theorem dX8_bestSite_161 : decode cX8_bestSite 161 = .ok (.if_icmp .eq 10, 3) := by decide +kernel
theorem dX8_bestSite_164 : decode cX8_bestSite 164 = .ok (.iload 9, 2) := by decide +kernel
theorem dX8_bestSite_166 : decode cX8_bestSite 166 = .ok (.iload 6, 2) := by decide +kernel
theorem dX8_bestSite_168 : decode cX8_bestSite 168 = .ok (.if_icmp .ge 11, 3) := by decide +kernel
theorem dX8_bestSite_171 : decode cX8_bestSite 171 = .ok (.iload 7, 2) := by decide +kernel
theorem dX8_bestSite_173 : decode cX8_bestSite 173 = .ok (.istore 5, 2) := by decide +kernel
theorem dX8_bestSite_175 : decode cX8_bestSite 175 = .ok (.iload 9, 2) := by decide +kernel
theorem dX8_bestSite_177 : decode cX8_bestSite 177 = .ok (.istore 6, 2) := by decide +kernel
theorem dX8_bestSite_179 : decode cX8_bestSite 179 = .ok (.aload_n 0, 1) := by decide +kernel
theorem dX8_bestSite_180 : decode cX8_bestSite 180 = .ok (.getfield 13, 3) := by decide +kernel
theorem dX8_bestSite_183 : decode cX8_bestSite 183 = .ok (.iconst 0, 1) := by decide +kernel
theorem dX8_bestSite_184 : decode cX8_bestSite 184 = .ok (.aload_n 0, 1) := by decide +kernel
theorem dX8_bestSite_185 : decode cX8_bestSite 185 = .ok (.getfield 7, 3) := by decide +kernel
theorem dX8_bestSite_188 : decode cX8_bestSite 188 = .ok (.iconst 0, 1) := by decide +kernel
theorem dX8_bestSite_189 : decode cX8_bestSite 189 = .ok (.invokestatic 224, 3) := by decide +kernel
theorem dX8_bestSite_192 : decode cX8_bestSite 192 = .ok (.iinc 7 1, 3) := by decide +kernel
theorem dX8_bestSite_195 : decode cX8_bestSite 195 = .ok (.goto (-106), 3) := by decide +kernel
theorem dX8_bestSite_198 : decode cX8_bestSite 198 = .ok (.iload 5, 2) := by decide +kernel
theorem dX8_bestSite_200 : decode cX8_bestSite 200 = .ok (.ireturn, 1) := by decide +kernel
theorem dX8_appendText_0 : decode cX8_appendText 0 = .ok (.aload_n 0, 1) := by decide +kernel
theorem dX8_appendText_1 : decode cX8_appendText 1 = .ok (.iconst 0, 1) := by decide +kernel
theorem dX8_appendText_2 : decode cX8_appendText 2 = .ok (.putfield 30, 3) := by decide +kernel
theorem dX8_appendText_5 : decode cX8_appendText 5 = .ok (.aload_n 0, 1) := by decide +kernel
theorem dX8_appendText_6 : decode cX8_appendText 6 = .ok (.getfield 228, 3) := by decide +kernel
theorem dX8_appendText_9 : decode cX8_appendText 9 = .ok (.iconst 4, 1) := by decide +kernel
theorem dX8_appendText_10 : decode cX8_appendText 10 = .ok (.iadd, 1) := by decide +kernel
theorem dX8_appendText_11 : decode cX8_appendText 11 = .ok (.sipush 500, 3) := by decide +kernel
theorem dX8_appendText_14 : decode cX8_appendText 14 = .ok (.if_icmp .le 9, 3) := by decide +kernel
theorem dX8_appendText_17 : decode cX8_appendText 17 = .ok (.aload_n 0, 1) := by decide +kernel
theorem dX8_appendText_18 : decode cX8_appendText 18 = .ok (.iconst 1, 1) := by decide +kernel
theorem dX8_appendText_19 : decode cX8_appendText 19 = .ok (.invokevirtual 41, 3) := by decide +kernel
theorem dX8_appendText_22 : decode cX8_appendText 22 = .ok (.ireturn, 1) := by decide +kernel
theorem dX8_appendText_23 : decode cX8_appendText 23 = .ok (.bipush 24, 2) := by decide +kernel
theorem dX8_appendText_25 : decode cX8_appendText 25 = .ok (.istore_n 2, 1) := by decide +kernel
theorem dX8_appendText_26 : decode cX8_appendText 26 = .ok (.iload_n 2, 1) := by decide +kernel
theorem dX8_appendText_27 : decode cX8_appendText 27 = .ok (.ifCond .lt 35, 3) := by decide +kernel
theorem dX8_appendText_30 : decode cX8_appendText 30 = .ok (.aload_n 0, 1) := by decide +kernel
theorem dX8_appendText_31 : decode cX8_appendText 31 = .ok (.getfield 23, 3) := by decide +kernel
theorem dX8_appendText_34 : decode cX8_appendText 34 = .ok (.aload_n 0, 1) := by decide +kernel
theorem dX8_appendText_35 : decode cX8_appendText 35 = .ok (.getfield 228, 3) := by decide +kernel
theorem dX8_appendText_38 : decode cX8_appendText 38 = .ok (.iload_n 1, 1) := by decide +kernel
theorem dX8_appendText_39 : decode cX8_appendText 39 = .ok (.iload_n 2, 1) := by decide +kernel
theorem dX8_appendText_40 : decode cX8_appendText 40 = .ok (.ishr, 1) := by decide +kernel
theorem dX8_appendText_41 : decode cX8_appendText 41 = .ok (.sipush 255, 3) := by decide +kernel
theorem dX8_appendText_44 : decode cX8_appendText 44 = .ok (.iand, 1) := by decide +kernel
theorem dX8_appendText_45 : decode cX8_appendText 45 = .ok (.iastore, 1) := by decide +kernel
theorem dX8_appendText_46 : decode cX8_appendText 46 = .ok (.aload_n 0, 1) := by decide +kernel
theorem dX8_appendText_47 : decode cX8_appendText 47 = .ok (.dup, 1) := by decide +kernel
theorem dX8_appendText_48 : decode cX8_appendText 48 = .ok (.getfield 228, 3) := by decide +kernel
theorem dX8_appendText_51 : decode cX8_appendText 51 = .ok (.iconst 1, 1) := by decide +kernel
theorem dX8_appendText_52 : decode cX8_appendText 52 = .ok (.iadd, 1) := by decide +kernel
theorem dX8_appendText_53 : decode cX8_appendText 53 = .ok (.putfield 228, 3) := by decide +kernel
theorem dX8_appendText_56 : decode cX8_appendText 56 = .ok (.iinc 2 (-8), 3) := by decide +kernel
theorem dX8_appendText_59 : decode cX8_appendText 59 = .ok (.goto (-33), 3) := by decide +kernel
theorem dX8_appendText_62 : decode cX8_appendText 62 = .ok (.aload_n 0, 1) := by decide +kernel
theorem dX8_appendText_63 : decode cX8_appendText 63 = .ok (.getfield 228, 3) := by decide +kernel
theorem dX8_appendText_66 : decode cX8_appendText 66 = .ok (.ireturn, 1) := by decide +kernel
theorem dX8_truncateText_0 : decode cX8_truncateText 0 = .ok (.aload_n 0, 1) := by decide +kernel
theorem dX8_truncateText_1 : decode cX8_truncateText 1 = .ok (.iconst 0, 1) := by decide +kernel
theorem dX8_truncateText_2 : decode cX8_truncateText 2 = .ok (.putfield 30, 3) := by decide +kernel
theorem dX8_truncateText_5 : decode cX8_truncateText 5 = .ok (.iload_n 1, 1) := by decide +kernel
theorem dX8_truncateText_6 : decode cX8_truncateText 6 = .ok (.iconst 0, 1) := by decide +kernel
theorem dX8_truncateText_7 : decode cX8_truncateText 7 = .ok (.aload_n 0, 1) := by decide +kernel
theorem dX8_truncateText_8 : decode cX8_truncateText 8 = .ok (.getfield 228, 3) := by decide +kernel
theorem dX8_truncateText_11 : decode cX8_truncateText 11 = .ok (.invokestatic 33, 3) := by decide +kernel
theorem dX8_truncateText_14 : decode cX8_truncateText 14 = .ok (.ifCond .ne 9, 3) := by decide +kernel
theorem dX8_truncateText_17 : decode cX8_truncateText 17 = .ok (.aload_n 0, 1) := by decide +kernel
theorem dX8_truncateText_18 : decode cX8_truncateText 18 = .ok (.iconst 1, 1) := by decide +kernel
theorem dX8_truncateText_19 : decode cX8_truncateText 19 = .ok (.invokevirtual 41, 3) := by decide +kernel
theorem dX8_truncateText_22 : decode cX8_truncateText 22 = .ok (.ireturn, 1) := by decide +kernel
theorem dX8_truncateText_23 : decode cX8_truncateText 23 = .ok (.aload_n 0, 1) := by decide +kernel
theorem dX8_truncateText_24 : decode cX8_truncateText 24 = .ok (.iload_n 1, 1) := by decide +kernel
theorem dX8_truncateText_25 : decode cX8_truncateText 25 = .ok (.putfield 228, 3) := by decide +kernel
theorem dX8_truncateText_28 : decode cX8_truncateText 28 = .ok (.aload_n 0, 1) := by decide +kernel
theorem dX8_truncateText_29 : decode cX8_truncateText 29 = .ok (.getfield 228, 3) := by decide +kernel
theorem dX8_truncateText_32 : decode cX8_truncateText 32 = .ok (.ireturn, 1) := by decide +kernel
theorem dX8_byteAt_0 : decode cX8_byteAt 0 = .ok (.iload_n 1, 1) := by decide +kernel
theorem dX8_byteAt_1 : decode cX8_byteAt 1 = .ok (.aload_n 0, 1) := by decide +kernel
theorem dX8_byteAt_2 : decode cX8_byteAt 2 = .ok (.getfield 228, 3) := by decide +kernel
theorem dX8_byteAt_5 : decode cX8_byteAt 5 = .ok (.if_icmp .ge 12, 3) := by decide +kernel
theorem dX8_byteAt_8 : decode cX8_byteAt 8 = .ok (.aload_n 0, 1) := by decide +kernel
theorem dX8_byteAt_9 : decode cX8_byteAt 9 = .ok (.getfield 23, 3) := by decide +kernel
theorem dX8_byteAt_12 : decode cX8_byteAt 12 = .ok (.iload_n 1, 1) := by decide +kernel
theorem dX8_byteAt_13 : decode cX8_byteAt 13 = .ok (.iaload, 1) := by decide +kernel
theorem dX8_byteAt_14 : decode cX8_byteAt 14 = .ok (.goto 4, 3) := by decide +kernel
theorem dX8_byteAt_17 : decode cX8_byteAt 17 = .ok (.iconst (-1), 1) := by decide +kernel
theorem dX8_byteAt_18 : decode cX8_byteAt 18 = .ok (.ireturn, 1) := by decide +kernel
theorem dX8_isLetter_0 : decode cX8_isLetter 0 = .ok (.iload_n 0, 1) := by decide +kernel
theorem dX8_isLetter_1 : decode cX8_isLetter 1 = .ok (.bipush 97, 2) := by decide +kernel
theorem dX8_isLetter_3 : decode cX8_isLetter 3 = .ok (.bipush 122, 2) := by decide +kernel
theorem dX8_isLetter_5 : decode cX8_isLetter 5 = .ok (.invokestatic 33, 3) := by decide +kernel
theorem dX8_isLetter_8 : decode cX8_isLetter 8 = .ok (.ireturn, 1) := by decide +kernel
theorem dX8_isDigit_0 : decode cX8_isDigit 0 = .ok (.iload_n 0, 1) := by decide +kernel
theorem dX8_isDigit_1 : decode cX8_isDigit 1 = .ok (.bipush 48, 2) := by decide +kernel
theorem dX8_isDigit_3 : decode cX8_isDigit 3 = .ok (.bipush 57, 2) := by decide +kernel
theorem dX8_isDigit_5 : decode cX8_isDigit 5 = .ok (.invokestatic 33, 3) := by decide +kernel
theorem dX8_isDigit_8 : decode cX8_isDigit 8 = .ok (.ireturn, 1) := by decide +kernel
theorem dX8_nextToken_0 : decode cX8_nextToken 0 = .ok (.aload_n 0, 1) := by decide +kernel
theorem dX8_nextToken_1 : decode cX8_nextToken 1 = .ok (.aload_n 0, 1) := by decide +kernel
theorem dX8_nextToken_2 : decode cX8_nextToken 2 = .ok (.getfield 231, 3) := by decide +kernel
theorem dX8_nextToken_5 : decode cX8_nextToken 5 = .ok (.invokevirtual 234, 3) := by decide +kernel
theorem dX8_nextToken_8 : decode cX8_nextToken 8 = .ok (.bipush 32, 2) := by decide +kernel
theorem dX8_nextToken_10 : decode cX8_nextToken 10 = .ok (.if_icmp .eq 16, 3) := by decide +kernel
theorem dX8_nextToken_13 : decode cX8_nextToken 13 = .ok (.aload_n 0, 1) := by decide +kernel
theorem dX8_nextToken_14 : decode cX8_nextToken 14 = .ok (.aload_n 0, 1) := by decide +kernel
theorem dX8_nextToken_15 : decode cX8_nextToken 15 = .ok (.getfield 231, 3) := by decide +kernel
theorem dX8_nextToken_18 : decode cX8_nextToken 18 = .ok (.invokevirtual 234, 3) := by decide +kernel
theorem dX8_nextToken_21 : decode cX8_nextToken 21 = .ok (.bipush 10, 2) := by decide +kernel
theorem dX8_nextToken_23 : decode cX8_nextToken 23 = .ok (.if_icmp .ne 16, 3) := by decide +kernel
theorem dX8_nextToken_26 : decode cX8_nextToken 26 = .ok (.aload_n 0, 1) := by decide +kernel
theorem dX8_nextToken_27 : decode cX8_nextToken 27 = .ok (.dup, 1) := by decide +kernel
theorem dX8_nextToken_28 : decode cX8_nextToken 28 = .ok (.getfield 231, 3) := by decide +kernel
theorem dX8_nextToken_31 : decode cX8_nextToken 31 = .ok (.iconst 1, 1) := by decide +kernel
theorem dX8_nextToken_32 : decode cX8_nextToken 32 = .ok (.iadd, 1) := by decide +kernel
theorem dX8_nextToken_33 : decode cX8_nextToken 33 = .ok (.putfield 231, 3) := by decide +kernel
theorem dX8_nextToken_36 : decode cX8_nextToken 36 = .ok (.goto (-36), 3) := by decide +kernel
theorem dX8_nextToken_39 : decode cX8_nextToken 39 = .ok (.aload_n 0, 1) := by decide +kernel
theorem dX8_nextToken_40 : decode cX8_nextToken 40 = .ok (.aload_n 0, 1) := by decide +kernel
theorem dX8_nextToken_41 : decode cX8_nextToken 41 = .ok (.getfield 231, 3) := by decide +kernel
theorem dX8_nextToken_44 : decode cX8_nextToken 44 = .ok (.putfield 237, 3) := by decide +kernel
theorem dX8_nextToken_47 : decode cX8_nextToken 47 = .ok (.aload_n 0, 1) := by decide +kernel
theorem dX8_nextToken_48 : decode cX8_nextToken 48 = .ok (.iconst 0, 1) := by decide +kernel
theorem dX8_nextToken_49 : decode cX8_nextToken 49 = .ok (.putfield 240, 3) := by decide +kernel
theorem dX8_nextToken_52 : decode cX8_nextToken 52 = .ok (.aload_n 0, 1) := by decide +kernel
theorem dX8_nextToken_53 : decode cX8_nextToken 53 = .ok (.lconst 0, 1) := by decide +kernel
theorem dX8_nextToken_54 : decode cX8_nextToken 54 = .ok (.putfield 243, 3) := by decide +kernel
theorem dX8_nextToken_57 : decode cX8_nextToken 57 = .ok (.aload_n 0, 1) := by decide +kernel
theorem dX8_nextToken_58 : decode cX8_nextToken 58 = .ok (.iconst 0, 1) := by decide +kernel
theorem dX8_nextToken_59 : decode cX8_nextToken 59 = .ok (.putfield 246, 3) := by decide +kernel
theorem dX8_nextToken_62 : decode cX8_nextToken 62 = .ok (.aload_n 0, 1) := by decide +kernel
theorem dX8_nextToken_63 : decode cX8_nextToken 63 = .ok (.aload_n 0, 1) := by decide +kernel
theorem dX8_nextToken_64 : decode cX8_nextToken 64 = .ok (.getfield 231, 3) := by decide +kernel
theorem dX8_nextToken_67 : decode cX8_nextToken 67 = .ok (.invokevirtual 234, 3) := by decide +kernel
theorem dX8_nextToken_70 : decode cX8_nextToken 70 = .ok (.istore_n 1, 1) := by decide +kernel
theorem dX8_nextToken_71 : decode cX8_nextToken 71 = .ok (.iload_n 1, 1) := by decide +kernel
theorem dX8_nextToken_72 : decode cX8_nextToken 72 = .ok (.iconst (-1), 1) := by decide +kernel
theorem dX8_nextToken_73 : decode cX8_nextToken 73 = .ok (.if_icmp .ne 11, 3) := by decide +kernel
theorem dX8_nextToken_76 : decode cX8_nextToken 76 = .ok (.aload_n 0, 1) := by decide +kernel
theorem dX8_nextToken_77 : decode cX8_nextToken 77 = .ok (.iconst 0, 1) := by decide +kernel
theorem dX8_nextToken_78 : decode cX8_nextToken 78 = .ok (.putfield 249, 3) := by decide +kernel
theorem dX8_nextToken_81 : decode cX8_nextToken 81 = .ok (.goto 198, 3) := by decide +kernel
theorem dX8_nextToken_84 : decode cX8_nextToken 84 = .ok (.iload_n 1, 1) := by decide +kernel
theorem dX8_nextToken_85 : decode cX8_nextToken 85 = .ok (.invokestatic 252, 3) := by decide +kernel
theorem dX8_nextToken_88 : decode cX8_nextToken 88 = .ok (.ifCond .eq 87, 3) := by decide +kernel
theorem dX8_nextToken_91 : decode cX8_nextToken 91 = .ok (.aload_n 0, 1) := by decide +kernel
theorem dX8_nextToken_92 : decode cX8_nextToken 92 = .ok (.iconst 2, 1) := by decide +kernel
theorem dX8_nextToken_93 : decode cX8_nextToken 93 = .ok (.putfield 249, 3) := by decide +kernel
theorem dX8_nextToken_96 : decode cX8_nextToken 96 = .ok (.aload_n 0, 1) := by decide +kernel
theorem dX8_nextToken_97 : decode cX8_nextToken 97 = .ok (.aload_n 0, 1) := by decide +kernel
theorem dX8_nextToken_98 : decode cX8_nextToken 98 = .ok (.getfield 231, 3) := by decide +kernel
theorem dX8_nextToken_101 : decode cX8_nextToken 101 = .ok (.invokevirtual 234, 3) := by decide +kernel
theorem dX8_nextToken_104 : decode cX8_nextToken 104 = .ok (.invokestatic 252, 3) := by decide +kernel
theorem dX8_nextToken_107 : decode cX8_nextToken 107 = .ok (.ifCond .eq 172, 3) := by decide +kernel
theorem dX8_nextToken_110 : decode cX8_nextToken 110 = .ok (.aload_n 0, 1) := by decide +kernel
theorem dX8_nextToken_111 : decode cX8_nextToken 111 = .ok (.aload_n 0, 1) := by decide +kernel
theorem dX8_nextToken_112 : decode cX8_nextToken 112 = .ok (.getfield 240, 3) := by decide +kernel
theorem dX8_nextToken_115 : decode cX8_nextToken 115 = .ok (.bipush 8, 2) := by decide +kernel
theorem dX8_nextToken_117 : decode cX8_nextToken 117 = .ok (.if_icmp .ge 28, 3) := by decide +kernel
theorem dX8_nextToken_120 : decode cX8_nextToken 120 = .ok (.ldc2_w 255, 3) := by decide +kernel
theorem dX8_nextToken_123 : decode cX8_nextToken 123 = .ok (.aload_n 0, 1) := by decide +kernel
theorem dX8_nextToken_124 : decode cX8_nextToken 124 = .ok (.getfield 243, 3) := by decide +kernel
theorem dX8_nextToken_127 : decode cX8_nextToken 127 = .ok (.lmul, 1) := by decide +kernel
theorem dX8_nextToken_128 : decode cX8_nextToken 128 = .ok (.aload_n 0, 1) := by decide +kernel
theorem dX8_nextToken_129 : decode cX8_nextToken 129 = .ok (.aload_n 0, 1) := by decide +kernel
theorem dX8_nextToken_130 : decode cX8_nextToken 130 = .ok (.getfield 231, 3) := by decide +kernel
theorem dX8_nextToken_133 : decode cX8_nextToken 133 = .ok (.invokevirtual 234, 3) := by decide +kernel
theorem dX8_nextToken_136 : decode cX8_nextToken 136 = .ok (.i2l, 1) := by decide +kernel
theorem dX8_nextToken_137 : decode cX8_nextToken 137 = .ok (.ladd, 1) := by decide +kernel
theorem dX8_nextToken_138 : decode cX8_nextToken 138 = .ok (.ldc2_w 257, 3) := by decide +kernel
theorem dX8_nextToken_141 : decode cX8_nextToken 141 = .ok (.lsub, 1) := by decide +kernel
theorem dX8_nextToken_142 : decode cX8_nextToken 142 = .ok (.goto 7, 3) := by decide +kernel
theorem dX8_nextToken_145 : decode cX8_nextToken 145 = .ok (.aload_n 0, 1) := by decide +kernel
theorem dX8_nextToken_146 : decode cX8_nextToken 146 = .ok (.getfield 243, 3) := by decide +kernel
theorem dX8_nextToken_149 : decode cX8_nextToken 149 = .ok (.putfield 243, 3) := by decide +kernel
theorem dX8_nextToken_152 : decode cX8_nextToken 152 = .ok (.aload_n 0, 1) := by decide +kernel
theorem dX8_nextToken_153 : decode cX8_nextToken 153 = .ok (.dup, 1) := by decide +kernel
theorem dX8_nextToken_154 : decode cX8_nextToken 154 = .ok (.getfield 240, 3) := by decide +kernel
theorem dX8_nextToken_157 : decode cX8_nextToken 157 = .ok (.iconst 1, 1) := by decide +kernel
theorem dX8_nextToken_158 : decode cX8_nextToken 158 = .ok (.iadd, 1) := by decide +kernel
theorem dX8_nextToken_159 : decode cX8_nextToken 159 = .ok (.putfield 240, 3) := by decide +kernel
theorem dX8_nextToken_162 : decode cX8_nextToken 162 = .ok (.aload_n 0, 1) := by decide +kernel
theorem dX8_nextToken_163 : decode cX8_nextToken 163 = .ok (.dup, 1) := by decide +kernel
theorem dX8_nextToken_164 : decode cX8_nextToken 164 = .ok (.getfield 231, 3) := by decide +kernel
theorem dX8_nextToken_167 : decode cX8_nextToken 167 = .ok (.iconst 1, 1) := by decide +kernel
theorem dX8_nextToken_168 : decode cX8_nextToken 168 = .ok (.iadd, 1) := by decide +kernel
theorem dX8_nextToken_169 : decode cX8_nextToken 169 = .ok (.putfield 231, 3) := by decide +kernel
theorem dX8_nextToken_172 : decode cX8_nextToken 172 = .ok (.goto (-76), 3) := by decide +kernel
theorem dX8_nextToken_175 : decode cX8_nextToken 175 = .ok (.iload_n 1, 1) := by decide +kernel
theorem dX8_nextToken_176 : decode cX8_nextToken 176 = .ok (.invokestatic 259, 3) := by decide +kernel
theorem dX8_nextToken_179 : decode cX8_nextToken 179 = .ok (.ifCond .eq 75, 3) := by decide +kernel
theorem dX8_nextToken_182 : decode cX8_nextToken 182 = .ok (.aload_n 0, 1) := by decide +kernel
theorem dX8_nextToken_183 : decode cX8_nextToken 183 = .ok (.iconst 3, 1) := by decide +kernel
theorem dX8_nextToken_184 : decode cX8_nextToken 184 = .ok (.putfield 249, 3) := by decide +kernel
theorem dX8_nextToken_187 : decode cX8_nextToken 187 = .ok (.aload_n 0, 1) := by decide +kernel
theorem dX8_nextToken_188 : decode cX8_nextToken 188 = .ok (.aload_n 0, 1) := by decide +kernel
theorem dX8_nextToken_189 : decode cX8_nextToken 189 = .ok (.getfield 231, 3) := by decide +kernel
theorem dX8_nextToken_192 : decode cX8_nextToken 192 = .ok (.invokevirtual 234, 3) := by decide +kernel
theorem dX8_nextToken_195 : decode cX8_nextToken 195 = .ok (.invokestatic 259, 3) := by decide +kernel
theorem dX8_nextToken_198 : decode cX8_nextToken 198 = .ok (.ifCond .eq 81, 3) := by decide +kernel
theorem dX8_nextToken_201 : decode cX8_nextToken 201 = .ok (.aload_n 0, 1) := by decide +kernel
theorem dX8_nextToken_202 : decode cX8_nextToken 202 = .ok (.aload_n 0, 1) := by decide +kernel
theorem dX8_nextToken_203 : decode cX8_nextToken 203 = .ok (.getfield 246, 3) := by decide +kernel
theorem dX8_nextToken_206 : decode cX8_nextToken 206 = .ok (.sipush 9999, 3) := by decide +kernel
theorem dX8_nextToken_209 : decode cX8_nextToken 209 = .ok (.if_icmp .le 10, 3) := by decide +kernel
theorem dX8_nextToken_212 : decode cX8_nextToken 212 = .ok (.aload_n 0, 1) := by decide +kernel
theorem dX8_nextToken_213 : decode cX8_nextToken 213 = .ok (.getfield 246, 3) := by decide +kernel
theorem dX8_nextToken_216 : decode cX8_nextToken 216 = .ok (.goto 22, 3) := by decide +kernel
theorem dX8_nextToken_219 : decode cX8_nextToken 219 = .ok (.bipush 10, 2) := by decide +kernel
theorem dX8_nextToken_221 : decode cX8_nextToken 221 = .ok (.aload_n 0, 1) := by decide +kernel
theorem dX8_nextToken_222 : decode cX8_nextToken 222 = .ok (.getfield 246, 3) := by decide +kernel
theorem dX8_nextToken_225 : decode cX8_nextToken 225 = .ok (.imul, 1) := by decide +kernel
theorem dX8_nextToken_226 : decode cX8_nextToken 226 = .ok (.aload_n 0, 1) := by decide +kernel
theorem dX8_nextToken_227 : decode cX8_nextToken 227 = .ok (.aload_n 0, 1) := by decide +kernel
theorem dX8_nextToken_228 : decode cX8_nextToken 228 = .ok (.getfield 231, 3) := by decide +kernel
theorem dX8_nextToken_231 : decode cX8_nextToken 231 = .ok (.invokevirtual 234, 3) := by decide +kernel
theorem dX8_nextToken_234 : decode cX8_nextToken 234 = .ok (.iadd, 1) := by decide +kernel
theorem dX8_nextToken_235 : decode cX8_nextToken 235 = .ok (.bipush 48, 2) := by decide +kernel
theorem dX8_nextToken_237 : decode cX8_nextToken 237 = .ok (.isub, 1) := by decide +kernel
theorem dX8_nextToken_238 : decode cX8_nextToken 238 = .ok (.putfield 246, 3) := by decide +kernel
theorem dX8_nextToken_241 : decode cX8_nextToken 241 = .ok (.aload_n 0, 1) := by decide +kernel
theorem dX8_nextToken_242 : decode cX8_nextToken 242 = .ok (.dup, 1) := by decide +kernel
theorem dX8_nextToken_243 : decode cX8_nextToken 243 = .ok (.getfield 231, 3) := by decide +kernel
theorem dX8_nextToken_246 : decode cX8_nextToken 246 = .ok (.iconst 1, 1) := by decide +kernel
theorem dX8_nextToken_247 : decode cX8_nextToken 247 = .ok (.iadd, 1) := by decide +kernel
theorem dX8_nextToken_248 : decode cX8_nextToken 248 = .ok (.putfield 231, 3) := by decide +kernel
theorem dX8_nextToken_251 : decode cX8_nextToken 251 = .ok (.goto (-64), 3) := by decide +kernel
theorem dX8_nextToken_254 : decode cX8_nextToken 254 = .ok (.aload_n 0, 1) := by decide +kernel
theorem dX8_nextToken_255 : decode cX8_nextToken 255 = .ok (.iload_n 1, 1) := by decide +kernel
theorem dX8_nextToken_256 : decode cX8_nextToken 256 = .ok (.bipush 59, 2) := by decide +kernel
theorem dX8_nextToken_258 : decode cX8_nextToken 258 = .ok (.if_icmp .ne 7, 3) := by decide +kernel
theorem dX8_nextToken_261 : decode cX8_nextToken 261 = .ok (.iconst 4, 1) := by decide +kernel
theorem dX8_nextToken_262 : decode cX8_nextToken 262 = .ok (.goto 4, 3) := by decide +kernel
theorem dX8_nextToken_265 : decode cX8_nextToken 265 = .ok (.iconst 1, 1) := by decide +kernel
theorem dX8_nextToken_266 : decode cX8_nextToken 266 = .ok (.putfield 249, 3) := by decide +kernel
theorem dX8_nextToken_269 : decode cX8_nextToken 269 = .ok (.aload_n 0, 1) := by decide +kernel
theorem dX8_nextToken_270 : decode cX8_nextToken 270 = .ok (.dup, 1) := by decide +kernel
theorem dX8_nextToken_271 : decode cX8_nextToken 271 = .ok (.getfield 231, 3) := by decide +kernel
theorem dX8_nextToken_274 : decode cX8_nextToken 274 = .ok (.iconst 1, 1) := by decide +kernel
theorem dX8_nextToken_275 : decode cX8_nextToken 275 = .ok (.iadd, 1) := by decide +kernel
theorem dX8_nextToken_276 : decode cX8_nextToken 276 = .ok (.putfield 231, 3) := by decide +kernel
theorem dX8_nextToken_279 : decode cX8_nextToken 279 = .ok (.return_, 1) := by decide +kernel
theorem dX8_isWord_0 : decode cX8_isWord 0 = .ok (.aload_n 0, 1) := by decide +kernel
theorem dX8_isWord_1 : decode cX8_isWord 1 = .ok (.getfield 249, 3) := by decide +kernel
theorem dX8_isWord_4 : decode cX8_isWord 4 = .ok (.iconst 2, 1) := by decide +kernel
theorem dX8_isWord_5 : decode cX8_isWord 5 = .ok (.if_icmp .ne 14, 3) := by decide +kernel
theorem dX8_isWord_8 : decode cX8_isWord 8 = .ok (.aload_n 0, 1) := by decide +kernel
theorem dX8_isWord_9 : decode cX8_isWord 9 = .ok (.getfield 240, 3) := by decide +kernel
theorem dX8_isWord_12 : decode cX8_isWord 12 = .ok (.aload_n 1, 1) := by decide +kernel
theorem dX8_isWord_13 : decode cX8_isWord 13 = .ok (.invokevirtual 262, 3) := by decide +kernel
theorem dX8_isWord_16 : decode cX8_isWord 16 = .ok (.if_icmp .eq 5, 3) := by decide +kernel
theorem dX8_isWord_19 : decode cX8_isWord 19 = .ok (.iconst 0, 1) := by decide +kernel
theorem dX8_isWord_20 : decode cX8_isWord 20 = .ok (.ireturn, 1) := by decide +kernel
theorem dX8_isWord_21 : decode cX8_isWord 21 = .ok (.lconst 0, 1) := by decide +kernel
theorem dX8_isWord_22 : decode cX8_isWord 22 = .ok (.lstore_n 2, 1) := by decide +kernel
theorem dX8_isWord_23 : decode cX8_isWord 23 = .ok (.iconst 0, 1) := by decide +kernel
theorem dX8_isWord_24 : decode cX8_isWord 24 = .ok (.istore 4, 2) := by decide +kernel
theorem dX8_isWord_26 : decode cX8_isWord 26 = .ok (.iload 4, 2) := by decide +kernel
theorem dX8_isWord_28 : decode cX8_isWord 28 = .ok (.aload_n 1, 1) := by decide +kernel
theorem dX8_isWord_29 : decode cX8_isWord 29 = .ok (.invokevirtual 262, 3) := by decide +kernel
theorem dX8_isWord_32 : decode cX8_isWord 32 = .ok (.if_icmp .ge 27, 3) := by decide +kernel
theorem dX8_isWord_35 : decode cX8_isWord 35 = .ok (.ldc2_w 255, 3) := by decide +kernel
theorem dX8_isWord_38 : decode cX8_isWord 38 = .ok (.lload_n 2, 1) := by decide +kernel
theorem dX8_isWord_39 : decode cX8_isWord 39 = .ok (.lmul, 1) := by decide +kernel
theorem dX8_isWord_40 : decode cX8_isWord 40 = .ok (.aload_n 1, 1) := by decide +kernel
theorem dX8_isWord_41 : decode cX8_isWord 41 = .ok (.iload 4, 2) := by decide +kernel
theorem dX8_isWord_43 : decode cX8_isWord 43 = .ok (.invokevirtual 267, 3) := by decide +kernel
theorem dX8_isWord_46 : decode cX8_isWord 46 = .ok (.i2l, 1) := by decide +kernel
theorem dX8_isWord_47 : decode cX8_isWord 47 = .ok (.ladd, 1) := by decide +kernel
theorem dX8_isWord_48 : decode cX8_isWord 48 = .ok (.ldc2_w 257, 3) := by decide +kernel
theorem dX8_isWord_51 : decode cX8_isWord 51 = .ok (.lsub, 1) := by decide +kernel
theorem dX8_isWord_52 : decode cX8_isWord 52 = .ok (.lstore_n 2, 1) := by decide +kernel
theorem dX8_isWord_53 : decode cX8_isWord 53 = .ok (.iinc 4 1, 3) := by decide +kernel
theorem dX8_isWord_56 : decode cX8_isWord 56 = .ok (.goto (-30), 3) := by decide +kernel
theorem dX8_isWord_59 : decode cX8_isWord 59 = .ok (.aload_n 0, 1) := by decide +kernel
theorem dX8_isWord_60 : decode cX8_isWord 60 = .ok (.getfield 243, 3) := by decide +kernel
theorem dX8_isWord_63 : decode cX8_isWord 63 = .ok (.lload_n 2, 1) := by decide +kernel
theorem dX8_isWord_64 : decode cX8_isWord 64 = .ok (.lcmp, 1) := by decide +kernel
theorem dX8_isWord_65 : decode cX8_isWord 65 = .ok (.ifCond .ne 7, 3) := by decide +kernel
theorem dX8_isWord_68 : decode cX8_isWord 68 = .ok (.iconst 1, 1) := by decide +kernel
theorem dX8_isWord_69 : decode cX8_isWord 69 = .ok (.goto 4, 3) := by decide +kernel
theorem dX8_isWord_72 : decode cX8_isWord 72 = .ok (.iconst 0, 1) := by decide +kernel
theorem dX8_isWord_73 : decode cX8_isWord 73 = .ok (.ireturn, 1) := by decide +kernel
theorem dX8_require_0 : decode cX8_require 0 = .ok (.iload_n 1, 1) := by decide +kernel
theorem dX8_require_1 : decode cX8_require 1 = .ok (.ifCond .ne 23, 3) := by decide +kernel
theorem dX8_require_4 : decode cX8_require 4 = .ok (.aload_n 0, 1) := by decide +kernel
theorem dX8_require_5 : decode cX8_require 5 = .ok (.getfield 271, 3) := by decide +kernel
theorem dX8_require_8 : decode cX8_require 8 = .ok (.ifCond .ne 16, 3) := by decide +kernel
theorem dX8_require_11 : decode cX8_require 11 = .ok (.aload_n 0, 1) := by decide +kernel
theorem dX8_require_12 : decode cX8_require 12 = .ok (.iload_n 2, 1) := by decide +kernel
theorem dX8_require_13 : decode cX8_require 13 = .ok (.putfield 271, 3) := by decide +kernel
theorem dX8_require_16 : decode cX8_require 16 = .ok (.aload_n 0, 1) := by decide +kernel
theorem dX8_require_17 : decode cX8_require 17 = .ok (.aload_n 0, 1) := by decide +kernel
theorem dX8_require_18 : decode cX8_require 18 = .ok (.getfield 237, 3) := by decide +kernel
theorem dX8_require_21 : decode cX8_require 21 = .ok (.putfield 26, 3) := by decide +kernel
theorem dX8_require_24 : decode cX8_require 24 = .ok (.return_, 1) := by decide +kernel
theorem dX8_advanceToken_0 : decode cX8_advanceToken 0 = .ok (.aload_n 0, 1) := by decide +kernel
theorem dX8_advanceToken_1 : decode cX8_advanceToken 1 = .ok (.getfield 271, 3) := by decide +kernel
theorem dX8_advanceToken_4 : decode cX8_advanceToken 4 = .ok (.ifCond .ne 7, 3) := by decide +kernel
theorem dX8_advanceToken_7 : decode cX8_advanceToken 7 = .ok (.aload_n 0, 1) := by decide +kernel
theorem dX8_advanceToken_8 : decode cX8_advanceToken 8 = .ok (.invokevirtual 274, 3) := by decide +kernel
theorem dX8_advanceToken_11 : decode cX8_advanceToken 11 = .ok (.return_, 1) := by decide +kernel
theorem dX8_parseNumber_0 : decode cX8_parseNumber 0 = .ok (.aload_n 0, 1) := by decide +kernel
theorem dX8_parseNumber_1 : decode cX8_parseNumber 1 = .ok (.aload_n 0, 1) := by decide +kernel
theorem dX8_parseNumber_2 : decode cX8_parseNumber 2 = .ok (.getfield 249, 3) := by decide +kernel
theorem dX8_parseNumber_5 : decode cX8_parseNumber 5 = .ok (.iconst 3, 1) := by decide +kernel
theorem dX8_parseNumber_6 : decode cX8_parseNumber 6 = .ok (.if_icmp .ne 7, 3) := by decide +kernel
theorem dX8_parseNumber_9 : decode cX8_parseNumber 9 = .ok (.iconst 1, 1) := by decide +kernel
theorem dX8_parseNumber_10 : decode cX8_parseNumber 10 = .ok (.goto 4, 3) := by decide +kernel
theorem dX8_parseNumber_13 : decode cX8_parseNumber 13 = .ok (.iconst 0, 1) := by decide +kernel
theorem dX8_parseNumber_14 : decode cX8_parseNumber 14 = .ok (.iconst 1, 1) := by decide +kernel
theorem dX8_parseNumber_15 : decode cX8_parseNumber 15 = .ok (.invokevirtual 277, 3) := by decide +kernel
theorem dX8_parseNumber_18 : decode cX8_parseNumber 18 = .ok (.aload_n 0, 1) := by decide +kernel
theorem dX8_parseNumber_19 : decode cX8_parseNumber 19 = .ok (.aload_n 0, 1) := by decide +kernel
theorem dX8_parseNumber_20 : decode cX8_parseNumber 20 = .ok (.getfield 246, 3) := by decide +kernel
theorem dX8_parseNumber_23 : decode cX8_parseNumber 23 = .ok (.iload_n 1, 1) := by decide +kernel
theorem dX8_parseNumber_24 : decode cX8_parseNumber 24 = .ok (.iload_n 2, 1) := by decide +kernel
theorem dX8_parseNumber_25 : decode cX8_parseNumber 25 = .ok (.invokestatic 33, 3) := by decide +kernel
theorem dX8_parseNumber_28 : decode cX8_parseNumber 28 = .ok (.iconst 2, 1) := by decide +kernel
theorem dX8_parseNumber_29 : decode cX8_parseNumber 29 = .ok (.invokevirtual 277, 3) := by decide +kernel
theorem dX8_parseNumber_32 : decode cX8_parseNumber 32 = .ok (.aload_n 0, 1) := by decide +kernel
theorem dX8_parseNumber_33 : decode cX8_parseNumber 33 = .ok (.getfield 246, 3) := by decide +kernel
theorem dX8_parseNumber_36 : decode cX8_parseNumber 36 = .ok (.istore_n 3, 1) := by decide +kernel
theorem dX8_parseNumber_37 : decode cX8_parseNumber 37 = .ok (.aload_n 0, 1) := by decide +kernel
theorem dX8_parseNumber_38 : decode cX8_parseNumber 38 = .ok (.invokevirtual 281, 3) := by decide +kernel
theorem dX8_parseNumber_41 : decode cX8_parseNumber 41 = .ok (.iload_n 3, 1) := by decide +kernel
theorem dX8_parseNumber_42 : decode cX8_parseNumber 42 = .ok (.ireturn, 1) := by decide +kernel
theorem dX8_parseBase_0 : decode cX8_parseBase 0 = .ok (.aload_n 0, 1) := by decide +kernel
theorem dX8_parseBase_1 : decode cX8_parseBase 1 = .ok (.iconst 1, 1) := by decide +kernel
theorem dX8_parseBase_2 : decode cX8_parseBase 2 = .ok (.aload_n 0, 1) := by decide +kernel
theorem dX8_parseBase_3 : decode cX8_parseBase 3 = .ok (.getfield 7, 3) := by decide +kernel
theorem dX8_parseBase_6 : decode cX8_parseBase 6 = .ok (.iconst 3, 1) := by decide +kernel
theorem dX8_parseBase_7 : decode cX8_parseBase 7 = .ok (.iaload, 1) := by decide +kernel
theorem dX8_parseBase_8 : decode cX8_parseBase 8 = .ok (.iconst 1, 1) := by decide +kernel
theorem dX8_parseBase_9 : decode cX8_parseBase 9 = .ok (.isub, 1) := by decide +kernel
theorem dX8_parseBase_10 : decode cX8_parseBase 10 = .ok (.invokevirtual 284, 3) := by decide +kernel
theorem dX8_parseBase_13 : decode cX8_parseBase 13 = .ok (.ireturn, 1) := by decide +kernel
theorem dX8_parseItem_0 : decode cX8_parseItem 0 = .ok (.aload_n 0, 1) := by decide +kernel
theorem dX8_parseItem_1 : decode cX8_parseItem 1 = .ok (.iconst 0, 1) := by decide +kernel
theorem dX8_parseItem_2 : decode cX8_parseItem 2 = .ok (.aload_n 0, 1) := by decide +kernel
theorem dX8_parseItem_3 : decode cX8_parseItem 3 = .ok (.getfield 7, 3) := by decide +kernel
theorem dX8_parseItem_6 : decode cX8_parseItem 6 = .ok (.iconst 2, 1) := by decide +kernel
theorem dX8_parseItem_7 : decode cX8_parseItem 7 = .ok (.iaload, 1) := by decide +kernel
theorem dX8_parseItem_8 : decode cX8_parseItem 8 = .ok (.iconst 1, 1) := by decide +kernel
theorem dX8_parseItem_9 : decode cX8_parseItem 9 = .ok (.isub, 1) := by decide +kernel
theorem dX8_parseItem_10 : decode cX8_parseItem 10 = .ok (.invokevirtual 284, 3) := by decide +kernel
theorem dX8_parseItem_13 : decode cX8_parseItem 13 = .ok (.ireturn, 1) := by decide +kernel
theorem dX8_parseItemStatement_0 : decode cX8_parseItemStatement 0 = .ok (.aload_n 0, 1) := by decide +kernel
theorem dX8_parseItemStatement_1 : decode cX8_parseItemStatement 1 = .ok (.aload_n 0, 1) := by decide +kernel
theorem dX8_parseItemStatement_2 : decode cX8_parseItemStatement 2 = .ok (.getfield 7, 3) := by decide +kernel
theorem dX8_parseItemStatement_5 : decode cX8_parseItemStatement 5 = .ok (.iconst 2, 1) := by decide +kernel
theorem dX8_parseItemStatement_6 : decode cX8_parseItemStatement 6 = .ok (.iaload, 1) := by decide +kernel
theorem dX8_parseItemStatement_7 : decode cX8_parseItemStatement 7 = .ok (.iconst 4, 1) := by decide +kernel
theorem dX8_parseItemStatement_8 : decode cX8_parseItemStatement 8 = .ok (.if_icmp .ge 7, 3) := by decide +kernel
theorem dX8_parseItemStatement_11 : decode cX8_parseItemStatement 11 = .ok (.iconst 1, 1) := by decide +kernel
theorem dX8_parseItemStatement_12 : decode cX8_parseItemStatement 12 = .ok (.goto 4, 3) := by decide +kernel
theorem dX8_parseItemStatement_15 : decode cX8_parseItemStatement 15 = .ok (.iconst 0, 1) := by decide +kernel
theorem dX8_parseItemStatement_16 : decode cX8_parseItemStatement 16 = .ok (.iconst 3, 1) := by decide +kernel
theorem dX8_parseItemStatement_17 : decode cX8_parseItemStatement 17 = .ok (.invokevirtual 277, 3) := by decide +kernel
theorem dX8_parseItemStatement_20 : decode cX8_parseItemStatement 20 = .ok (.aload_n 0, 1) := by decide +kernel
theorem dX8_parseItemStatement_21 : decode cX8_parseItemStatement 21 = .ok (.invokevirtual 281, 3) := by decide +kernel
theorem dX8_parseItemStatement_24 : decode cX8_parseItemStatement 24 = .ok (.aload_n 0, 1) := by decide +kernel
theorem dX8_parseItemStatement_25 : decode cX8_parseItemStatement 25 = .ok (.iconst 1, 1) := by decide +kernel
theorem dX8_parseItemStatement_26 : decode cX8_parseItemStatement 26 = .ok (.bipush 30, 2) := by decide +kernel
theorem dX8_parseItemStatement_28 : decode cX8_parseItemStatement 28 = .ok (.invokevirtual 284, 3) := by decide +kernel
theorem dX8_parseItemStatement_31 : decode cX8_parseItemStatement 31 = .ok (.istore_n 1, 1) := by decide +kernel
theorem dX8_parseItemStatement_32 : decode cX8_parseItemStatement 32 = .ok (.aload_n 0, 1) := by decide +kernel
theorem dX8_parseItemStatement_33 : decode cX8_parseItemStatement 33 = .ok (.iconst 1, 1) := by decide +kernel
theorem dX8_parseItemStatement_34 : decode cX8_parseItemStatement 34 = .ok (.iconst 5, 1) := by decide +kernel
theorem dX8_parseItemStatement_35 : decode cX8_parseItemStatement 35 = .ok (.invokevirtual 284, 3) := by decide +kernel
theorem dX8_parseItemStatement_38 : decode cX8_parseItemStatement 38 = .ok (.istore_n 2, 1) := by decide +kernel
theorem dX8_parseItemStatement_39 : decode cX8_parseItemStatement 39 = .ok (.aload_n 0, 1) := by decide +kernel
theorem dX8_parseItemStatement_40 : decode cX8_parseItemStatement 40 = .ok (.iconst 1, 1) := by decide +kernel
theorem dX8_parseItemStatement_41 : decode cX8_parseItemStatement 41 = .ok (.bipush 30, 2) := by decide +kernel
theorem dX8_parseItemStatement_43 : decode cX8_parseItemStatement 43 = .ok (.invokevirtual 284, 3) := by decide +kernel
theorem dX8_parseItemStatement_46 : decode cX8_parseItemStatement 46 = .ok (.istore_n 3, 1) := by decide +kernel
theorem dX8_parseItemStatement_47 : decode cX8_parseItemStatement 47 = .ok (.aload_n 0, 1) := by decide +kernel
theorem dX8_parseItemStatement_48 : decode cX8_parseItemStatement 48 = .ok (.getfield 271, 3) := by decide +kernel
theorem dX8_parseItemStatement_51 : decode cX8_parseItemStatement 51 = .ok (.ifCond .ne 12, 3) := by decide +kernel
theorem dX8_parseItemStatement_54 : decode cX8_parseItemStatement 54 = .ok (.aload_n 0, 1) := by decide +kernel
theorem dX8_parseItemStatement_55 : decode cX8_parseItemStatement 55 = .ok (.iload_n 1, 1) := by decide +kernel
theorem dX8_parseItemStatement_56 : decode cX8_parseItemStatement 56 = .ok (.iload_n 2, 1) := by decide +kernel
theorem dX8_parseItemStatement_57 : decode cX8_parseItemStatement 57 = .ok (.iload_n 3, 1) := by decide +kernel
theorem dX8_parseItemStatement_58 : decode cX8_parseItemStatement 58 = .ok (.invokevirtual 45, 3) := by decide +kernel
theorem dX8_parseItemStatement_61 : decode cX8_parseItemStatement 61 = .ok (.istore 4, 2) := by decide +kernel
theorem dX8_parseItemStatement_63 : decode cX8_parseItemStatement 63 = .ok (.return_, 1) := by decide +kernel
theorem dX8_parseBaseStatement_0 : decode cX8_parseBaseStatement 0 = .ok (.aload_n 0, 1) := by decide +kernel
theorem dX8_parseBaseStatement_1 : decode cX8_parseBaseStatement 1 = .ok (.aload_n 0, 1) := by decide +kernel
theorem dX8_parseBaseStatement_2 : decode cX8_parseBaseStatement 2 = .ok (.getfield 7, 3) := by decide +kernel
theorem dX8_parseBaseStatement_5 : decode cX8_parseBaseStatement 5 = .ok (.iconst 3, 1) := by decide +kernel
theorem dX8_parseBaseStatement_6 : decode cX8_parseBaseStatement 6 = .ok (.iaload, 1) := by decide +kernel
theorem dX8_parseBaseStatement_7 : decode cX8_parseBaseStatement 7 = .ok (.bipush 8, 2) := by decide +kernel
theorem dX8_parseBaseStatement_9 : decode cX8_parseBaseStatement 9 = .ok (.if_icmp .ge 7, 3) := by decide +kernel
theorem dX8_parseBaseStatement_12 : decode cX8_parseBaseStatement 12 = .ok (.iconst 1, 1) := by decide +kernel
theorem dX8_parseBaseStatement_13 : decode cX8_parseBaseStatement 13 = .ok (.goto 4, 3) := by decide +kernel
theorem dX8_parseBaseStatement_16 : decode cX8_parseBaseStatement 16 = .ok (.iconst 0, 1) := by decide +kernel
theorem dX8_parseBaseStatement_17 : decode cX8_parseBaseStatement 17 = .ok (.iconst 3, 1) := by decide +kernel
theorem dX8_parseBaseStatement_18 : decode cX8_parseBaseStatement 18 = .ok (.invokevirtual 277, 3) := by decide +kernel
theorem dX8_parseBaseStatement_21 : decode cX8_parseBaseStatement 21 = .ok (.aload_n 0, 1) := by decide +kernel
theorem dX8_parseBaseStatement_22 : decode cX8_parseBaseStatement 22 = .ok (.invokevirtual 281, 3) := by decide +kernel
theorem dX8_parseBaseStatement_25 : decode cX8_parseBaseStatement 25 = .ok (.aload_n 0, 1) := by decide +kernel
theorem dX8_parseBaseStatement_26 : decode cX8_parseBaseStatement 26 = .ok (.iconst 1, 1) := by decide +kernel
theorem dX8_parseBaseStatement_27 : decode cX8_parseBaseStatement 27 = .ok (.bipush 20, 2) := by decide +kernel
theorem dX8_parseBaseStatement_29 : decode cX8_parseBaseStatement 29 = .ok (.invokevirtual 284, 3) := by decide +kernel
theorem dX8_parseBaseStatement_32 : decode cX8_parseBaseStatement 32 = .ok (.istore_n 1, 1) := by decide +kernel
theorem dX8_parseBaseStatement_33 : decode cX8_parseBaseStatement 33 = .ok (.aload_n 0, 1) := by decide +kernel
theorem dX8_parseBaseStatement_34 : decode cX8_parseBaseStatement 34 = .ok (.getfield 271, 3) := by decide +kernel
theorem dX8_parseBaseStatement_37 : decode cX8_parseBaseStatement 37 = .ok (.ifCond .ne 9, 3) := by decide +kernel
theorem dX8_parseBaseStatement_40 : decode cX8_parseBaseStatement 40 = .ok (.aload_n 0, 1) := by decide +kernel
theorem dX8_parseBaseStatement_41 : decode cX8_parseBaseStatement 41 = .ok (.iload_n 1, 1) := by decide +kernel
theorem dX8_parseBaseStatement_42 : decode cX8_parseBaseStatement 42 = .ok (.invokevirtual 48, 3) := by decide +kernel
theorem dX8_parseBaseStatement_45 : decode cX8_parseBaseStatement 45 = .ok (.istore_n 2, 1) := by decide +kernel
theorem dX8_parseBaseStatement_46 : decode cX8_parseBaseStatement 46 = .ok (.return_, 1) := by decide +kernel
theorem dX8_parseLevelStatement_0 : decode cX8_parseLevelStatement 0 = .ok (.aload_n 0, 1) := by decide +kernel
theorem dX8_parseLevelStatement_1 : decode cX8_parseLevelStatement 1 = .ok (.invokevirtual 281, 3) := by decide +kernel
theorem dX8_parseLevelStatement_4 : decode cX8_parseLevelStatement 4 = .ok (.aload_n 0, 1) := by decide +kernel
theorem dX8_parseLevelStatement_5 : decode cX8_parseLevelStatement 5 = .ok (.iconst 0, 1) := by decide +kernel
theorem dX8_parseLevelStatement_6 : decode cX8_parseLevelStatement 6 = .ok (.aload_n 0, 1) := by decide +kernel
theorem dX8_parseLevelStatement_7 : decode cX8_parseLevelStatement 7 = .ok (.getfield 7, 3) := by decide +kernel
theorem dX8_parseLevelStatement_10 : decode cX8_parseLevelStatement 10 = .ok (.iconst 3, 1) := by decide +kernel
theorem dX8_parseLevelStatement_11 : decode cX8_parseLevelStatement 11 = .ok (.iaload, 1) := by decide +kernel
theorem dX8_parseLevelStatement_12 : decode cX8_parseLevelStatement 12 = .ok (.iconst 1, 1) := by decide +kernel
theorem dX8_parseLevelStatement_13 : decode cX8_parseLevelStatement 13 = .ok (.isub, 1) := by decide +kernel
theorem dX8_parseLevelStatement_14 : decode cX8_parseLevelStatement 14 = .ok (.invokevirtual 284, 3) := by decide +kernel
theorem dX8_parseLevelStatement_17 : decode cX8_parseLevelStatement 17 = .ok (.istore_n 1, 1) := by decide +kernel
theorem dX8_parseLevelStatement_18 : decode cX8_parseLevelStatement 18 = .ok (.aload_n 0, 1) := by decide +kernel
theorem dX8_parseLevelStatement_19 : decode cX8_parseLevelStatement 19 = .ok (.invokevirtual 287, 3) := by decide +kernel
theorem dX8_parseLevelStatement_22 : decode cX8_parseLevelStatement 22 = .ok (.istore_n 2, 1) := by decide +kernel
theorem dX8_parseLevelStatement_23 : decode cX8_parseLevelStatement 23 = .ok (.aload_n 0, 1) := by decide +kernel
theorem dX8_parseLevelStatement_24 : decode cX8_parseLevelStatement 24 = .ok (.iconst 0, 1) := by decide +kernel
theorem dX8_parseLevelStatement_25 : decode cX8_parseLevelStatement 25 = .ok (.bipush 20, 2) := by decide +kernel
theorem dX8_parseLevelStatement_27 : decode cX8_parseLevelStatement 27 = .ok (.invokevirtual 284, 3) := by decide +kernel
theorem dX8_parseLevelStatement_30 : decode cX8_parseLevelStatement 30 = .ok (.istore_n 3, 1) := by decide +kernel
theorem dX8_parseLevelStatement_31 : decode cX8_parseLevelStatement 31 = .ok (.aload_n 0, 1) := by decide +kernel
theorem dX8_parseLevelStatement_32 : decode cX8_parseLevelStatement 32 = .ok (.getfield 271, 3) := by decide +kernel
theorem dX8_parseLevelStatement_35 : decode cX8_parseLevelStatement 35 = .ok (.ifCond .ne 10, 3) := by decide +kernel
theorem dX8_parseLevelStatement_38 : decode cX8_parseLevelStatement 38 = .ok (.aload_n 0, 1) := by decide +kernel
theorem dX8_parseLevelStatement_39 : decode cX8_parseLevelStatement 39 = .ok (.iload_n 1, 1) := by decide +kernel
theorem dX8_parseLevelStatement_40 : decode cX8_parseLevelStatement 40 = .ok (.iload_n 2, 1) := by decide +kernel
theorem dX8_parseLevelStatement_41 : decode cX8_parseLevelStatement 41 = .ok (.iload_n 3, 1) := by decide +kernel
theorem dX8_parseLevelStatement_42 : decode cX8_parseLevelStatement 42 = .ok (.invokevirtual 84, 3) := by decide +kernel
theorem dX8_parseLevelStatement_45 : decode cX8_parseLevelStatement 45 = .ok (.return_, 1) := by decide +kernel
theorem dX8_parseLinkStatement_0 : decode cX8_parseLinkStatement 0 = .ok (.aload_n 0, 1) := by decide +kernel
theorem dX8_parseLinkStatement_1 : decode cX8_parseLinkStatement 1 = .ok (.invokevirtual 281, 3) := by decide +kernel
theorem dX8_parseLinkStatement_4 : decode cX8_parseLinkStatement 4 = .ok (.aload_n 0, 1) := by decide +kernel
theorem dX8_parseLinkStatement_5 : decode cX8_parseLinkStatement 5 = .ok (.invokevirtual 290, 3) := by decide +kernel
theorem dX8_parseLinkStatement_8 : decode cX8_parseLinkStatement 8 = .ok (.istore_n 1, 1) := by decide +kernel
theorem dX8_parseLinkStatement_9 : decode cX8_parseLinkStatement 9 = .ok (.aload_n 0, 1) := by decide +kernel
theorem dX8_parseLinkStatement_10 : decode cX8_parseLinkStatement 10 = .ok (.aload_n 0, 1) := by decide +kernel
theorem dX8_parseLinkStatement_11 : decode cX8_parseLinkStatement 11 = .ok (.getfield 249, 3) := by decide +kernel
theorem dX8_parseLinkStatement_14 : decode cX8_parseLinkStatement 14 = .ok (.iconst 3, 1) := by decide +kernel
theorem dX8_parseLinkStatement_15 : decode cX8_parseLinkStatement 15 = .ok (.if_icmp .ne 11, 3) := by decide +kernel
theorem dX8_parseLinkStatement_18 : decode cX8_parseLinkStatement 18 = .ok (.aload_n 0, 1) := by decide +kernel
theorem dX8_parseLinkStatement_19 : decode cX8_parseLinkStatement 19 = .ok (.getfield 246, 3) := by decide +kernel
theorem dX8_parseLinkStatement_22 : decode cX8_parseLinkStatement 22 = .ok (.iload_n 1, 1) := by decide +kernel
theorem dX8_parseLinkStatement_23 : decode cX8_parseLinkStatement 23 = .ok (.if_icmp .eq 7, 3) := by decide +kernel
theorem dX8_parseLinkStatement_26 : decode cX8_parseLinkStatement 26 = .ok (.iconst 1, 1) := by decide +kernel
theorem dX8_parseLinkStatement_27 : decode cX8_parseLinkStatement 27 = .ok (.goto 4, 3) := by decide +kernel
theorem dX8_parseLinkStatement_30 : decode cX8_parseLinkStatement 30 = .ok (.iconst 0, 1) := by decide +kernel
theorem dX8_parseLinkStatement_31 : decode cX8_parseLinkStatement 31 = .ok (.iconst 2, 1) := by decide +kernel
theorem dX8_parseLinkStatement_32 : decode cX8_parseLinkStatement 32 = .ok (.invokevirtual 277, 3) := by decide +kernel
theorem dX8_parseLinkStatement_35 : decode cX8_parseLinkStatement 35 = .ok (.aload_n 0, 1) := by decide +kernel
theorem dX8_parseLinkStatement_36 : decode cX8_parseLinkStatement 36 = .ok (.invokevirtual 290, 3) := by decide +kernel
theorem dX8_parseLinkStatement_39 : decode cX8_parseLinkStatement 39 = .ok (.istore_n 2, 1) := by decide +kernel
theorem dX8_parseLinkStatement_40 : decode cX8_parseLinkStatement 40 = .ok (.aload_n 0, 1) := by decide +kernel
theorem dX8_parseLinkStatement_41 : decode cX8_parseLinkStatement 41 = .ok (.iconst 1, 1) := by decide +kernel
theorem dX8_parseLinkStatement_42 : decode cX8_parseLinkStatement 42 = .ok (.bipush 20, 2) := by decide +kernel
theorem dX8_parseLinkStatement_44 : decode cX8_parseLinkStatement 44 = .ok (.invokevirtual 284, 3) := by decide +kernel
theorem dX8_parseLinkStatement_47 : decode cX8_parseLinkStatement 47 = .ok (.istore_n 3, 1) := by decide +kernel
theorem dX8_parseLinkStatement_48 : decode cX8_parseLinkStatement 48 = .ok (.aload_n 0, 1) := by decide +kernel
theorem dX8_parseLinkStatement_49 : decode cX8_parseLinkStatement 49 = .ok (.getfield 271, 3) := by decide +kernel
theorem dX8_parseLinkStatement_52 : decode cX8_parseLinkStatement 52 = .ok (.ifCond .ne 12, 3) := by decide +kernel
theorem dX8_parseLinkStatement_55 : decode cX8_parseLinkStatement 55 = .ok (.aload_n 0, 1) := by decide +kernel
theorem dX8_parseLinkStatement_56 : decode cX8_parseLinkStatement 56 = .ok (.iload_n 1, 1) := by decide +kernel
theorem dX8_parseLinkStatement_57 : decode cX8_parseLinkStatement 57 = .ok (.iload_n 2, 1) := by decide +kernel
theorem dX8_parseLinkStatement_58 : decode cX8_parseLinkStatement 58 = .ok (.iload_n 3, 1) := by decide +kernel
theorem dX8_parseLinkStatement_59 : decode cX8_parseLinkStatement 59 = .ok (.invokevirtual 59, 3) := by decide +kernel
theorem dX8_parseLinkStatement_62 : decode cX8_parseLinkStatement 62 = .ok (.istore 4, 2) := by decide +kernel
theorem dX8_parseLinkStatement_64 : decode cX8_parseLinkStatement 64 = .ok (.return_, 1) := by decide +kernel
theorem dX8_parseNumberStatement_0 : decode cX8_parseNumberStatement 0 = .ok (.aload_n 0, 1) := by decide +kernel
theorem dX8_parseNumberStatement_1 : decode cX8_parseNumberStatement 1 = .ok (.invokevirtual 281, 3) := by decide +kernel
theorem dX8_parseNumberStatement_4 : decode cX8_parseNumberStatement 4 = .ok (.aload_n 0, 1) := by decide +kernel
theorem dX8_parseNumberStatement_5 : decode cX8_parseNumberStatement 5 = .ok (.invokevirtual 290, 3) := by decide +kernel
theorem dX8_parseNumberStatement_8 : decode cX8_parseNumberStatement 8 = .ok (.istore_n 3, 1) := by decide +kernel
theorem dX8_parseNumberStatement_9 : decode cX8_parseNumberStatement 9 = .ok (.aload_n 0, 1) := by decide +kernel
theorem dX8_parseNumberStatement_10 : decode cX8_parseNumberStatement 10 = .ok (.invokevirtual 287, 3) := by decide +kernel
theorem dX8_parseNumberStatement_13 : decode cX8_parseNumberStatement 13 = .ok (.istore 4, 2) := by decide +kernel
theorem dX8_parseNumberStatement_15 : decode cX8_parseNumberStatement 15 = .ok (.aload_n 0, 1) := by decide +kernel
theorem dX8_parseNumberStatement_16 : decode cX8_parseNumberStatement 16 = .ok (.iconst 0, 1) := by decide +kernel
theorem dX8_parseNumberStatement_17 : decode cX8_parseNumberStatement 17 = .ok (.iload_n 2, 1) := by decide +kernel
theorem dX8_parseNumberStatement_18 : decode cX8_parseNumberStatement 18 = .ok (.invokevirtual 284, 3) := by decide +kernel
theorem dX8_parseNumberStatement_21 : decode cX8_parseNumberStatement 21 = .ok (.istore 5, 2) := by decide +kernel
theorem dX8_parseNumberStatement_23 : decode cX8_parseNumberStatement 23 = .ok (.aload_n 0, 1) := by decide +kernel
theorem dX8_parseNumberStatement_24 : decode cX8_parseNumberStatement 24 = .ok (.getfield 271, 3) := by decide +kernel
theorem dX8_parseNumberStatement_27 : decode cX8_parseNumberStatement 27 = .ok (.ifCond .ne 17, 3) := by decide +kernel
theorem dX8_parseNumberStatement_30 : decode cX8_parseNumberStatement 30 = .ok (.aload_n 0, 1) := by decide +kernel
theorem dX8_parseNumberStatement_31 : decode cX8_parseNumberStatement 31 = .ok (.getfield 7, 3) := by decide +kernel
theorem dX8_parseNumberStatement_34 : decode cX8_parseNumberStatement 34 = .ok (.iload_n 1, 1) := by decide +kernel
theorem dX8_parseNumberStatement_35 : decode cX8_parseNumberStatement 35 = .ok (.iload_n 3, 1) := by decide +kernel
theorem dX8_parseNumberStatement_36 : decode cX8_parseNumberStatement 36 = .ok (.iload 4, 2) := by decide +kernel
theorem dX8_parseNumberStatement_38 : decode cX8_parseNumberStatement 38 = .ok (.invokestatic 62, 3) := by decide +kernel
theorem dX8_parseNumberStatement_41 : decode cX8_parseNumberStatement 41 = .ok (.iload 5, 2) := by decide +kernel
theorem dX8_parseNumberStatement_43 : decode cX8_parseNumberStatement 43 = .ok (.iastore, 1) := by decide +kernel
theorem dX8_parseNumberStatement_44 : decode cX8_parseNumberStatement 44 = .ok (.return_, 1) := by decide +kernel
theorem dX8_parseStatement_0 : decode cX8_parseStatement 0 = .ok (.aload_n 0, 1) := by decide +kernel
theorem dX8_parseStatement_1 : decode cX8_parseStatement 1 = .ok (.ldc_w 293, 3) := by decide +kernel
theorem dX8_parseStatement_4 : decode cX8_parseStatement 4 = .ok (.invokevirtual 294, 3) := by decide +kernel
theorem dX8_parseStatement_7 : decode cX8_parseStatement 7 = .ok (.ifCond .eq 10, 3) := by decide +kernel
theorem dX8_parseStatement_10 : decode cX8_parseStatement 10 = .ok (.aload_n 0, 1) := by decide +kernel
theorem dX8_parseStatement_11 : decode cX8_parseStatement 11 = .ok (.invokevirtual 298, 3) := by decide +kernel
theorem dX8_parseStatement_14 : decode cX8_parseStatement 14 = .ok (.goto 167, 3) := by decide +kernel
theorem dX8_parseStatement_17 : decode cX8_parseStatement 17 = .ok (.aload_n 0, 1) := by decide +kernel
theorem dX8_parseStatement_18 : decode cX8_parseStatement 18 = .ok (.ldc_w 301, 3) := by decide +kernel
theorem dX8_parseStatement_21 : decode cX8_parseStatement 21 = .ok (.invokevirtual 294, 3) := by decide +kernel
theorem dX8_parseStatement_24 : decode cX8_parseStatement 24 = .ok (.ifCond .eq 10, 3) := by decide +kernel
theorem dX8_parseStatement_27 : decode cX8_parseStatement 27 = .ok (.aload_n 0, 1) := by decide +kernel
theorem dX8_parseStatement_28 : decode cX8_parseStatement 28 = .ok (.invokevirtual 303, 3) := by decide +kernel
theorem dX8_parseStatement_31 : decode cX8_parseStatement 31 = .ok (.goto 150, 3) := by decide +kernel
theorem dX8_parseStatement_34 : decode cX8_parseStatement 34 = .ok (.aload_n 0, 1) := by decide +kernel
theorem dX8_parseStatement_35 : decode cX8_parseStatement 35 = .ok (.ldc_w 306, 3) := by decide +kernel
theorem dX8_parseStatement_38 : decode cX8_parseStatement 38 = .ok (.invokevirtual 294, 3) := by decide +kernel
theorem dX8_parseStatement_41 : decode cX8_parseStatement 41 = .ok (.ifCond .eq 10, 3) := by decide +kernel
theorem dX8_parseStatement_44 : decode cX8_parseStatement 44 = .ok (.aload_n 0, 1) := by decide +kernel
theorem dX8_parseStatement_45 : decode cX8_parseStatement 45 = .ok (.invokevirtual 308, 3) := by decide +kernel
theorem dX8_parseStatement_48 : decode cX8_parseStatement 48 = .ok (.goto 133, 3) := by decide +kernel
theorem dX8_parseStatement_51 : decode cX8_parseStatement 51 = .ok (.aload_n 0, 1) := by decide +kernel
theorem dX8_parseStatement_52 : decode cX8_parseStatement 52 = .ok (.ldc_w 311, 3) := by decide +kernel
theorem dX8_parseStatement_55 : decode cX8_parseStatement 55 = .ok (.invokevirtual 294, 3) := by decide +kernel
theorem dX8_parseStatement_58 : decode cX8_parseStatement 58 = .ok (.ifCond .eq 10, 3) := by decide +kernel
theorem dX8_parseStatement_61 : decode cX8_parseStatement 61 = .ok (.aload_n 0, 1) := by decide +kernel
theorem dX8_parseStatement_62 : decode cX8_parseStatement 62 = .ok (.invokevirtual 312, 3) := by decide +kernel
theorem dX8_parseStatement_65 : decode cX8_parseStatement 65 = .ok (.goto 116, 3) := by decide +kernel
theorem dX8_parseStatement_68 : decode cX8_parseStatement 68 = .ok (.aload_n 0, 1) := by decide +kernel
theorem dX8_parseStatement_69 : decode cX8_parseStatement 69 = .ok (.ldc_w 315, 3) := by decide +kernel
theorem dX8_parseStatement_72 : decode cX8_parseStatement 72 = .ok (.invokevirtual 294, 3) := by decide +kernel
theorem dX8_parseStatement_75 : decode cX8_parseStatement 75 = .ok (.ifCond .eq 15, 3) := by decide +kernel
theorem dX8_parseStatement_78 : decode cX8_parseStatement 78 = .ok (.aload_n 0, 1) := by decide +kernel
theorem dX8_parseStatement_79 : decode cX8_parseStatement 79 = .ok (.sipush 188, 3) := by decide +kernel
theorem dX8_parseStatement_82 : decode cX8_parseStatement 82 = .ok (.bipush 10, 2) := by decide +kernel
theorem dX8_parseStatement_84 : decode cX8_parseStatement 84 = .ok (.invokevirtual 317, 3) := by decide +kernel
theorem dX8_parseStatement_87 : decode cX8_parseStatement 87 = .ok (.goto 94, 3) := by decide +kernel
theorem dX8_parseStatement_90 : decode cX8_parseStatement 90 = .ok (.aload_n 0, 1) := by decide +kernel
theorem dX8_parseStatement_91 : decode cX8_parseStatement 91 = .ok (.ldc_w 320, 3) := by decide +kernel
theorem dX8_parseStatement_94 : decode cX8_parseStatement 94 = .ok (.invokevirtual 294, 3) := by decide +kernel
theorem dX8_parseStatement_97 : decode cX8_parseStatement 97 = .ok (.ifCond .eq 15, 3) := by decide +kernel
theorem dX8_parseStatement_100 : decode cX8_parseStatement 100 = .ok (.aload_n 0, 1) := by decide +kernel
theorem dX8_parseStatement_101 : decode cX8_parseStatement 101 = .ok (.sipush 156, 3) := by decide +kernel
theorem dX8_parseStatement_104 : decode cX8_parseStatement 104 = .ok (.bipush 20, 2) := by decide +kernel
theorem dX8_parseStatement_106 : decode cX8_parseStatement 106 = .ok (.invokevirtual 317, 3) := by decide +kernel
theorem dX8_parseStatement_109 : decode cX8_parseStatement 109 = .ok (.goto 72, 3) := by decide +kernel
theorem dX8_parseStatement_112 : decode cX8_parseStatement 112 = .ok (.aload_n 0, 1) := by decide +kernel
theorem dX8_parseStatement_113 : decode cX8_parseStatement 113 = .ok (.ldc_w 322, 3) := by decide +kernel
theorem dX8_parseStatement_116 : decode cX8_parseStatement 116 = .ok (.invokevirtual 294, 3) := by decide +kernel
theorem dX8_parseStatement_119 : decode cX8_parseStatement 119 = .ok (.ifCond .eq 15, 3) := by decide +kernel
theorem dX8_parseStatement_122 : decode cX8_parseStatement 122 = .ok (.aload_n 0, 1) := by decide +kernel
theorem dX8_parseStatement_123 : decode cX8_parseStatement 123 = .ok (.sipush 220, 3) := by decide +kernel
theorem dX8_parseStatement_126 : decode cX8_parseStatement 126 = .ok (.bipush 100, 2) := by decide +kernel
theorem dX8_parseStatement_128 : decode cX8_parseStatement 128 = .ok (.invokevirtual 317, 3) := by decide +kernel
theorem dX8_parseStatement_131 : decode cX8_parseStatement 131 = .ok (.goto 50, 3) := by decide +kernel
theorem dX8_parseStatement_134 : decode cX8_parseStatement 134 = .ok (.aload_n 0, 1) := by decide +kernel
theorem dX8_parseStatement_135 : decode cX8_parseStatement 135 = .ok (.aload_n 0, 1) := by decide +kernel
theorem dX8_parseStatement_136 : decode cX8_parseStatement 136 = .ok (.ldc_w 324, 3) := by decide +kernel
theorem dX8_parseStatement_139 : decode cX8_parseStatement 139 = .ok (.invokevirtual 294, 3) := by decide +kernel
theorem dX8_parseStatement_142 : decode cX8_parseStatement 142 = .ok (.iconst 1, 1) := by decide +kernel
theorem dX8_parseStatement_143 : decode cX8_parseStatement 143 = .ok (.invokevirtual 277, 3) := by decide +kernel
theorem dX8_parseStatement_146 : decode cX8_parseStatement 146 = .ok (.aload_n 0, 1) := by decide +kernel
theorem dX8_parseStatement_147 : decode cX8_parseStatement 147 = .ok (.invokevirtual 281, 3) := by decide +kernel
theorem dX8_parseStatement_150 : decode cX8_parseStatement 150 = .ok (.aload_n 0, 1) := by decide +kernel
theorem dX8_parseStatement_151 : decode cX8_parseStatement 151 = .ok (.iconst 0, 1) := by decide +kernel
theorem dX8_parseStatement_152 : decode cX8_parseStatement 152 = .ok (.bipush 20, 2) := by decide +kernel
theorem dX8_parseStatement_154 : decode cX8_parseStatement 154 = .ok (.invokevirtual 284, 3) := by decide +kernel
theorem dX8_parseStatement_157 : decode cX8_parseStatement 157 = .ok (.istore_n 1, 1) := by decide +kernel
theorem dX8_parseStatement_158 : decode cX8_parseStatement 158 = .ok (.aload_n 0, 1) := by decide +kernel
theorem dX8_parseStatement_159 : decode cX8_parseStatement 159 = .ok (.getfield 7, 3) := by decide +kernel
theorem dX8_parseStatement_162 : decode cX8_parseStatement 162 = .ok (.iconst 1, 1) := by decide +kernel
theorem dX8_parseStatement_163 : decode cX8_parseStatement 163 = .ok (.aload_n 0, 1) := by decide +kernel
theorem dX8_parseStatement_164 : decode cX8_parseStatement 164 = .ok (.getfield 271, 3) := by decide +kernel
theorem dX8_parseStatement_167 : decode cX8_parseStatement 167 = .ok (.ifCond .ne 7, 3) := by decide +kernel
theorem dX8_parseStatement_170 : decode cX8_parseStatement 170 = .ok (.iload_n 1, 1) := by decide +kernel
theorem dX8_parseStatement_171 : decode cX8_parseStatement 171 = .ok (.goto 9, 3) := by decide +kernel
theorem dX8_parseStatement_174 : decode cX8_parseStatement 174 = .ok (.aload_n 0, 1) := by decide +kernel
theorem dX8_parseStatement_175 : decode cX8_parseStatement 175 = .ok (.getfield 7, 3) := by decide +kernel
theorem dX8_parseStatement_178 : decode cX8_parseStatement 178 = .ok (.iconst 1, 1) := by decide +kernel
theorem dX8_parseStatement_179 : decode cX8_parseStatement 179 = .ok (.iaload, 1) := by decide +kernel
theorem dX8_parseStatement_180 : decode cX8_parseStatement 180 = .ok (.iastore, 1) := by decide +kernel
theorem dX8_parseStatement_181 : decode cX8_parseStatement 181 = .ok (.aload_n 0, 1) := by decide +kernel
theorem dX8_parseStatement_182 : decode cX8_parseStatement 182 = .ok (.aload_n 0, 1) := by decide +kernel
theorem dX8_parseStatement_183 : decode cX8_parseStatement 183 = .ok (.getfield 249, 3) := by decide +kernel
theorem dX8_parseStatement_186 : decode cX8_parseStatement 186 = .ok (.iconst 4, 1) := by decide +kernel
theorem dX8_parseStatement_187 : decode cX8_parseStatement 187 = .ok (.if_icmp .ne 7, 3) := by decide +kernel
theorem dX8_parseStatement_190 : decode cX8_parseStatement 190 = .ok (.iconst 1, 1) := by decide +kernel
theorem dX8_parseStatement_191 : decode cX8_parseStatement 191 = .ok (.goto 4, 3) := by decide +kernel
theorem dX8_parseStatement_194 : decode cX8_parseStatement 194 = .ok (.iconst 0, 1) := by decide +kernel
theorem dX8_parseStatement_195 : decode cX8_parseStatement 195 = .ok (.iconst 1, 1) := by decide +kernel
theorem dX8_parseStatement_196 : decode cX8_parseStatement 196 = .ok (.invokevirtual 277, 3) := by decide +kernel
theorem dX8_parseStatement_199 : decode cX8_parseStatement 199 = .ok (.aload_n 0, 1) := by decide +kernel
theorem dX8_parseStatement_200 : decode cX8_parseStatement 200 = .ok (.invokevirtual 281, 3) := by decide +kernel
theorem dX8_parseStatement_203 : decode cX8_parseStatement 203 = .ok (.return_, 1) := by decide +kernel
theorem dX8_clearNetwork_0 : decode cX8_clearNetwork 0 = .ok (.iconst 0, 1) := by decide +kernel
theorem dX8_clearNetwork_1 : decode cX8_clearNetwork 1 = .ok (.istore_n 1, 1) := by decide +kernel
theorem dX8_clearNetwork_2 : decode cX8_clearNetwork 2 = .ok (.iload_n 1, 1) := by decide +kernel
theorem dX8_clearNetwork_3 : decode cX8_clearNetwork 3 = .ok (.sipush 7692, 3) := by decide +kernel
theorem dX8_clearNetwork_6 : decode cX8_clearNetwork 6 = .ok (.if_icmp .ge 16, 3) := by decide +kernel
theorem dX8_clearNetwork_9 : decode cX8_clearNetwork 9 = .ok (.aload_n 0, 1) := by decide +kernel
theorem dX8_clearNetwork_10 : decode cX8_clearNetwork 10 = .ok (.getfield 7, 3) := by decide +kernel
theorem dX8_clearNetwork_13 : decode cX8_clearNetwork 13 = .ok (.iload_n 1, 1) := by decide +kernel
theorem dX8_clearNetwork_14 : decode cX8_clearNetwork 14 = .ok (.iconst 0, 1) := by decide +kernel
theorem dX8_clearNetwork_15 : decode cX8_clearNetwork 15 = .ok (.iastore, 1) := by decide +kernel
theorem dX8_clearNetwork_16 : decode cX8_clearNetwork 16 = .ok (.iinc 1 1, 3) := by decide +kernel
theorem dX8_clearNetwork_19 : decode cX8_clearNetwork 19 = .ok (.goto (-17), 3) := by decide +kernel
theorem dX8_clearNetwork_22 : decode cX8_clearNetwork 22 = .ok (.aload_n 0, 1) := by decide +kernel
theorem dX8_clearNetwork_23 : decode cX8_clearNetwork 23 = .ok (.getfield 7, 3) := by decide +kernel
theorem dX8_clearNetwork_26 : decode cX8_clearNetwork 26 = .ok (.iconst 3, 1) := by decide +kernel
theorem dX8_clearNetwork_27 : decode cX8_clearNetwork 27 = .ok (.iconst 1, 1) := by decide +kernel
theorem dX8_clearNetwork_28 : decode cX8_clearNetwork 28 = .ok (.iastore, 1) := by decide +kernel
theorem dX8_clearNetwork_29 : decode cX8_clearNetwork 29 = .ok (.return_, 1) := by decide +kernel
theorem dX8_load_0 : decode cX8_load 0 = .ok (.aload_n 0, 1) := by decide +kernel
theorem dX8_load_1 : decode cX8_load 1 = .ok (.iconst 0, 1) := by decide +kernel
theorem dX8_load_2 : decode cX8_load 2 = .ok (.putfield 30, 3) := by decide +kernel
theorem dX8_load_5 : decode cX8_load 5 = .ok (.aload_n 0, 1) := by decide +kernel
theorem dX8_load_6 : decode cX8_load 6 = .ok (.getfield 7, 3) := by decide +kernel
theorem dX8_load_9 : decode cX8_load 9 = .ok (.iconst 0, 1) := by decide +kernel
theorem dX8_load_10 : decode cX8_load 10 = .ok (.aload_n 0, 1) := by decide +kernel
theorem dX8_load_11 : decode cX8_load 11 = .ok (.getfield 13, 3) := by decide +kernel
theorem dX8_load_14 : decode cX8_load 14 = .ok (.iconst 0, 1) := by decide +kernel
theorem dX8_load_15 : decode cX8_load 15 = .ok (.invokestatic 224, 3) := by decide +kernel
theorem dX8_load_18 : decode cX8_load 18 = .ok (.aload_n 0, 1) := by decide +kernel
theorem dX8_load_19 : decode cX8_load 19 = .ok (.invokevirtual 326, 3) := by decide +kernel
theorem dX8_load_22 : decode cX8_load 22 = .ok (.aload_n 0, 1) := by decide +kernel
theorem dX8_load_23 : decode cX8_load 23 = .ok (.iconst 0, 1) := by decide +kernel
theorem dX8_load_24 : decode cX8_load 24 = .ok (.putfield 271, 3) := by decide +kernel
theorem dX8_load_27 : decode cX8_load 27 = .ok (.aload_n 0, 1) := by decide +kernel
theorem dX8_load_28 : decode cX8_load 28 = .ok (.iconst (-1), 1) := by decide +kernel
theorem dX8_load_29 : decode cX8_load 29 = .ok (.putfield 26, 3) := by decide +kernel
theorem dX8_load_32 : decode cX8_load 32 = .ok (.aload_n 0, 1) := by decide +kernel
theorem dX8_load_33 : decode cX8_load 33 = .ok (.iconst 0, 1) := by decide +kernel
theorem dX8_load_34 : decode cX8_load 34 = .ok (.putfield 231, 3) := by decide +kernel
theorem dX8_load_37 : decode cX8_load 37 = .ok (.aload_n 0, 1) := by decide +kernel
theorem dX8_load_38 : decode cX8_load 38 = .ok (.invokevirtual 274, 3) := by decide +kernel
theorem dX8_load_41 : decode cX8_load 41 = .ok (.iconst 0, 1) := by decide +kernel
theorem dX8_load_42 : decode cX8_load 42 = .ok (.istore_n 1, 1) := by decide +kernel
theorem dX8_load_43 : decode cX8_load 43 = .ok (.aload_n 0, 1) := by decide +kernel
theorem dX8_load_44 : decode cX8_load 44 = .ok (.getfield 271, 3) := by decide +kernel
theorem dX8_load_47 : decode cX8_load 47 = .ok (.ifCond .ne 20, 3) := by decide +kernel
theorem dX8_load_50 : decode cX8_load 50 = .ok (.aload_n 0, 1) := by decide +kernel
theorem dX8_load_51 : decode cX8_load 51 = .ok (.getfield 249, 3) := by decide +kernel
theorem dX8_load_54 : decode cX8_load 54 = .ok (.ifCond .eq 13, 3) := by decide +kernel
theorem dX8_load_57 : decode cX8_load 57 = .ok (.aload_n 0, 1) := by decide +kernel
theorem dX8_load_58 : decode cX8_load 58 = .ok (.invokevirtual 329, 3) := by decide +kernel
theorem dX8_load_61 : decode cX8_load 61 = .ok (.iinc 1 1, 3) := by decide +kernel
theorem dX8_load_64 : decode cX8_load 64 = .ok (.goto (-21), 3) := by decide +kernel
theorem dX8_load_67 : decode cX8_load 67 = .ok (.aload_n 0, 1) := by decide +kernel
theorem dX8_load_68 : decode cX8_load 68 = .ok (.iconst 0, 1) := by decide +kernel
theorem dX8_load_69 : decode cX8_load 69 = .ok (.putfield 228, 3) := by decide +kernel
theorem dX8_load_72 : decode cX8_load 72 = .ok (.aload_n 0, 1) := by decide +kernel
theorem dX8_load_73 : decode cX8_load 73 = .ok (.getfield 271, 3) := by decide +kernel
theorem dX8_load_76 : decode cX8_load 76 = .ok (.ifCond .eq 18, 3) := by decide +kernel
theorem dX8_load_79 : decode cX8_load 79 = .ok (.aload_n 0, 1) := by decide +kernel
theorem dX8_load_80 : decode cX8_load 80 = .ok (.getfield 13, 3) := by decide +kernel
theorem dX8_load_83 : decode cX8_load 83 = .ok (.iconst 0, 1) := by decide +kernel
theorem dX8_load_84 : decode cX8_load 84 = .ok (.aload_n 0, 1) := by decide +kernel
theorem dX8_load_85 : decode cX8_load 85 = .ok (.getfield 7, 3) := by decide +kernel
theorem dX8_load_88 : decode cX8_load 88 = .ok (.iconst 0, 1) := by decide +kernel
theorem dX8_load_89 : decode cX8_load 89 = .ok (.invokestatic 224, 3) := by decide +kernel
theorem dX8_load_92 : decode cX8_load 92 = .ok (.iconst (-1), 1) := by decide +kernel
theorem dX8_load_93 : decode cX8_load 93 = .ok (.ireturn, 1) := by decide +kernel
theorem dX8_load_94 : decode cX8_load 94 = .ok (.iload_n 1, 1) := by decide +kernel
theorem dX8_load_95 : decode cX8_load 95 = .ok (.ireturn, 1) := by decide +kernel
theorem dX8_errorCode_0 : decode cX8_errorCode 0 = .ok (.aload_n 0, 1) := by decide +kernel
theorem dX8_errorCode_1 : decode cX8_errorCode 1 = .ok (.iconst 0, 1) := by decide +kernel
theorem dX8_errorCode_2 : decode cX8_errorCode 2 = .ok (.putfield 30, 3) := by decide +kernel
theorem dX8_errorCode_5 : decode cX8_errorCode 5 = .ok (.aload_n 0, 1) := by decide +kernel
theorem dX8_errorCode_6 : decode cX8_errorCode 6 = .ok (.getfield 271, 3) := by decide +kernel
theorem dX8_errorCode_9 : decode cX8_errorCode 9 = .ok (.ireturn, 1) := by decide +kernel
theorem dX8_errorPosition_0 : decode cX8_errorPosition 0 = .ok (.aload_n 0, 1) := by decide +kernel
theorem dX8_errorPosition_1 : decode cX8_errorPosition 1 = .ok (.iconst 0, 1) := by decide +kernel
theorem dX8_errorPosition_2 : decode cX8_errorPosition 2 = .ok (.putfield 30, 3) := by decide +kernel
theorem dX8_errorPosition_5 : decode cX8_errorPosition 5 = .ok (.aload_n 0, 1) := by decide +kernel
theorem dX8_errorPosition_6 : decode cX8_errorPosition 6 = .ok (.getfield 26, 3) := by decide +kernel
theorem dX8_errorPosition_9 : decode cX8_errorPosition 9 = .ok (.ireturn, 1) := by decide +kernel
theorem dX8_save_0 : decode cX8_save 0 = .ok (.aload_n 0, 1) := by decide +kernel
theorem dX8_save_1 : decode cX8_save 1 = .ok (.iload_n 1, 1) := by decide +kernel
theorem dX8_save_2 : decode cX8_save 2 = .ok (.iconst 0, 1) := by decide +kernel
theorem dX8_save_3 : decode cX8_save 3 = .ok (.iconst 1, 1) := by decide +kernel
theorem dX8_save_4 : decode cX8_save 4 = .ok (.invokestatic 33, 3) := by decide +kernel
theorem dX8_save_7 : decode cX8_save 7 = .ok (.ifCond .eq 7, 3) := by decide +kernel
theorem dX8_save_10 : decode cX8_save 10 = .ok (.iconst 0, 1) := by decide +kernel
theorem dX8_save_11 : decode cX8_save 11 = .ok (.goto 4, 3) := by decide +kernel
theorem dX8_save_14 : decode cX8_save 14 = .ok (.iconst 1, 1) := by decide +kernel
theorem dX8_save_15 : decode cX8_save 15 = .ok (.putfield 30, 3) := by decide +kernel
theorem dX8_save_18 : decode cX8_save 18 = .ok (.aload_n 0, 1) := by decide +kernel
theorem dX8_save_19 : decode cX8_save 19 = .ok (.getfield 30, 3) := by decide +kernel
theorem dX8_save_22 : decode cX8_save 22 = .ok (.ifCond .ne 27, 3) := by decide +kernel
theorem dX8_save_25 : decode cX8_save 25 = .ok (.aload_n 0, 1) := by decide +kernel
theorem dX8_save_26 : decode cX8_save 26 = .ok (.getfield 7, 3) := by decide +kernel
theorem dX8_save_29 : decode cX8_save 29 = .ok (.iconst 0, 1) := by decide +kernel
theorem dX8_save_30 : decode cX8_save 30 = .ok (.aload_n 0, 1) := by decide +kernel
theorem dX8_save_31 : decode cX8_save 31 = .ok (.getfield 16, 3) := by decide +kernel
theorem dX8_save_34 : decode cX8_save 34 = .ok (.sipush 7692, 3) := by decide +kernel
theorem dX8_save_37 : decode cX8_save 37 = .ok (.iload_n 1, 1) := by decide +kernel
theorem dX8_save_38 : decode cX8_save 38 = .ok (.imul, 1) := by decide +kernel
theorem dX8_save_39 : decode cX8_save 39 = .ok (.invokestatic 224, 3) := by decide +kernel
theorem dX8_save_42 : decode cX8_save 42 = .ok (.aload_n 0, 1) := by decide +kernel
theorem dX8_save_43 : decode cX8_save 43 = .ok (.getfield 19, 3) := by decide +kernel
theorem dX8_save_46 : decode cX8_save 46 = .ok (.iload_n 1, 1) := by decide +kernel
theorem dX8_save_47 : decode cX8_save 47 = .ok (.iconst 1, 1) := by decide +kernel
theorem dX8_save_48 : decode cX8_save 48 = .ok (.bastore, 1) := by decide +kernel
theorem dX8_save_49 : decode cX8_save 49 = .ok (.return_, 1) := by decide +kernel
theorem dX8_restore_0 : decode cX8_restore 0 = .ok (.aload_n 0, 1) := by decide +kernel
theorem dX8_restore_1 : decode cX8_restore 1 = .ok (.iload_n 1, 1) := by decide +kernel
theorem dX8_restore_2 : decode cX8_restore 2 = .ok (.iconst 0, 1) := by decide +kernel
theorem dX8_restore_3 : decode cX8_restore 3 = .ok (.iconst 1, 1) := by decide +kernel
theorem dX8_restore_4 : decode cX8_restore 4 = .ok (.invokestatic 33, 3) := by decide +kernel
theorem dX8_restore_7 : decode cX8_restore 7 = .ok (.ifCond .ne 7, 3) := by decide +kernel
theorem dX8_restore_10 : decode cX8_restore 10 = .ok (.iconst 1, 1) := by decide +kernel
theorem dX8_restore_11 : decode cX8_restore 11 = .ok (.goto 17, 3) := by decide +kernel
theorem dX8_restore_14 : decode cX8_restore 14 = .ok (.aload_n 0, 1) := by decide +kernel
theorem dX8_restore_15 : decode cX8_restore 15 = .ok (.getfield 19, 3) := by decide +kernel
theorem dX8_restore_18 : decode cX8_restore 18 = .ok (.iload_n 1, 1) := by decide +kernel
theorem dX8_restore_19 : decode cX8_restore 19 = .ok (.baload, 1) := by decide +kernel
theorem dX8_restore_20 : decode cX8_restore 20 = .ok (.ifCond .ne 7, 3) := by decide +kernel
theorem dX8_restore_23 : decode cX8_restore 23 = .ok (.iconst 2, 1) := by decide +kernel
theorem dX8_restore_24 : decode cX8_restore 24 = .ok (.goto 4, 3) := by decide +kernel
theorem dX8_restore_27 : decode cX8_restore 27 = .ok (.iconst 0, 1) := by decide +kernel
theorem dX8_restore_28 : decode cX8_restore 28 = .ok (.putfield 30, 3) := by decide +kernel
theorem dX8_restore_31 : decode cX8_restore 31 = .ok (.aload_n 0, 1) := by decide +kernel
theorem dX8_restore_32 : decode cX8_restore 32 = .ok (.getfield 30, 3) := by decide +kernel
theorem dX8_restore_35 : decode cX8_restore 35 = .ok (.ifCond .ne 20, 3) := by decide +kernel
theorem dX8_restore_38 : decode cX8_restore 38 = .ok (.aload_n 0, 1) := by decide +kernel
theorem dX8_restore_39 : decode cX8_restore 39 = .ok (.getfield 16, 3) := by decide +kernel
theorem dX8_restore_42 : decode cX8_restore 42 = .ok (.sipush 7692, 3) := by decide +kernel
theorem dX8_restore_45 : decode cX8_restore 45 = .ok (.iload_n 1, 1) := by decide +kernel
theorem dX8_restore_46 : decode cX8_restore 46 = .ok (.imul, 1) := by decide +kernel
theorem dX8_restore_47 : decode cX8_restore 47 = .ok (.aload_n 0, 1) := by decide +kernel
theorem dX8_restore_48 : decode cX8_restore 48 = .ok (.getfield 7, 3) := by decide +kernel
theorem dX8_restore_51 : decode cX8_restore 51 = .ok (.iconst 0, 1) := by decide +kernel
theorem dX8_restore_52 : decode cX8_restore 52 = .ok (.invokestatic 224, 3) := by decide +kernel
theorem dX8_restore_55 : decode cX8_restore 55 = .ok (.return_, 1) := by decide +kernel
theorem dJ9_min_7cf53_0 : decode cJ9_min_7cf53 0 = .ok (.iload_n 0, 1) := by decide +kernel
theorem dJ9_min_7cf53_1 : decode cJ9_min_7cf53 1 = .ok (.iload_n 1, 1) := by decide +kernel
theorem dJ9_min_7cf53_2 : decode cJ9_min_7cf53 2 = .ok (.if_icmp .gt 7, 3) := by decide +kernel
theorem dJ9_min_7cf53_5 : decode cJ9_min_7cf53 5 = .ok (.iload_n 0, 1) := by decide +kernel
theorem dJ9_min_7cf53_6 : decode cJ9_min_7cf53 6 = .ok (.goto 4, 3) := by decide +kernel
theorem dJ9_min_7cf53_9 : decode cJ9_min_7cf53 9 = .ok (.iload_n 1, 1) := by decide +kernel
theorem dJ9_min_7cf53_10 : decode cJ9_min_7cf53 10 = .ok (.ireturn, 1) := by decide +kernel
theorem dJ0_length_8abf5_0 : decode cJ0_length_8abf5 0 = .ok (.aload_n 0, 1) := by decide +kernel
theorem dJ0_length_8abf5_1 : decode cJ0_length_8abf5 1 = .ok (.getfield 9, 3) := by decide +kernel
theorem dJ0_length_8abf5_4 : decode cJ0_length_8abf5 4 = .ok (.arraylength, 1) := by decide +kernel
theorem dJ0_length_8abf5_5 : decode cJ0_length_8abf5 5 = .ok (.aload_n 0, 1) := by decide +kernel
theorem dJ0_length_8abf5_6 : decode cJ0_length_8abf5 6 = .ok (.invokevirtual 335, 3) := by decide +kernel
theorem dJ0_length_8abf5_9 : decode cJ0_length_8abf5 9 = .ok (.ishr, 1) := by decide +kernel
theorem dJ0_length_8abf5_10 : decode cJ0_length_8abf5 10 = .ok (.ireturn, 1) := by decide +kernel
theorem dJ0_charAt_5068e_0 : decode cJ0_charAt_5068e 0 = .ok (.aload_n 0, 1) := by decide +kernel
theorem dJ0_charAt_5068e_1 : decode cJ0_charAt_5068e 1 = .ok (.invokevirtual 492, 3) := by decide +kernel
theorem dJ0_charAt_5068e_4 : decode cJ0_charAt_5068e 4 = .ok (.ifCond .eq 12, 3) := by decide +kernel
theorem dJ0_charAt_5068e_7 : decode cJ0_charAt_5068e 7 = .ok (.aload_n 0, 1) := by decide +kernel
theorem dJ0_charAt_5068e_8 : decode cJ0_charAt_5068e 8 = .ok (.getfield 9, 3) := by decide +kernel
theorem dJ0_charAt_5068e_11 : decode cJ0_charAt_5068e 11 = .ok (.iload_n 1, 1) := by decide +kernel
theorem dJ0_charAt_5068e_12 : decode cJ0_charAt_5068e 12 = .ok (.invokestatic 495, 3) := by decide +kernel
theorem dJ0_charAt_5068e_15 : decode cJ0_charAt_5068e 15 = .ok (.ireturn, 1) := by decide +kernel
theorem dJ0_charAt_5068e_16 : decode cJ0_charAt_5068e 16 = .ok (.aload_n 0, 1) := by decide +kernel
theorem dJ0_charAt_5068e_17 : decode cJ0_charAt_5068e 17 = .ok (.getfield 9, 3) := by decide +kernel
theorem dJ0_charAt_5068e_20 : decode cJ0_charAt_5068e 20 = .ok (.iload_n 1, 1) := by decide +kernel
theorem dJ0_charAt_5068e_21 : decode cJ0_charAt_5068e 21 = .ok (.invokestatic 498, 3) := by decide +kernel
theorem dJ0_charAt_5068e_24 : decode cJ0_charAt_5068e 24 = .ok (.ireturn, 1) := by decide +kernel
theorem dJ0_coder_7d493_0 : decode cJ0_coder_7d493 0 = .ok (.getstatic 38, 3) := by decide +kernel
theorem dJ0_coder_7d493_3 : decode cJ0_coder_7d493 3 = .ok (.ifCond .eq 10, 3) := by decide +kernel
theorem dJ0_coder_7d493_6 : decode cJ0_coder_7d493 6 = .ok (.aload_n 0, 1) := by decide +kernel
theorem dJ0_coder_7d493_7 : decode cJ0_coder_7d493 7 = .ok (.getfield 15, 3) := by decide +kernel
theorem dJ0_coder_7d493_10 : decode cJ0_coder_7d493 10 = .ok (.goto 4, 3) := by decide +kernel
theorem dJ0_coder_7d493_13 : decode cJ0_coder_7d493 13 = .ok (.iconst 1, 1) := by decide +kernel
theorem dJ0_coder_7d493_14 : decode cJ0_coder_7d493 14 = .ok (.ireturn, 1) := by decide +kernel
theorem dJ0_isLatin1_aae02_0 : decode cJ0_isLatin1_aae02 0 = .ok (.getstatic 38, 3) := by decide +kernel
theorem dJ0_isLatin1_aae02_3 : decode cJ0_isLatin1_aae02 3 = .ok (.ifCond .eq 14, 3) := by decide +kernel
theorem dJ0_isLatin1_aae02_6 : decode cJ0_isLatin1_aae02 6 = .ok (.aload_n 0, 1) := by decide +kernel
theorem dJ0_isLatin1_aae02_7 : decode cJ0_isLatin1_aae02 7 = .ok (.getfield 15, 3) := by decide +kernel
theorem dJ0_isLatin1_aae02_10 : decode cJ0_isLatin1_aae02 10 = .ok (.ifCond .ne 7, 3) := by decide +kernel
theorem dJ0_isLatin1_aae02_13 : decode cJ0_isLatin1_aae02 13 = .ok (.iconst 1, 1) := by decide +kernel
theorem dJ0_isLatin1_aae02_14 : decode cJ0_isLatin1_aae02 14 = .ok (.goto 4, 3) := by decide +kernel
theorem dJ0_isLatin1_aae02_17 : decode cJ0_isLatin1_aae02 17 = .ok (.iconst 0, 1) := by decide +kernel
theorem dJ0_isLatin1_aae02_18 : decode cJ0_isLatin1_aae02 18 = .ok (.ireturn, 1) := by decide +kernel
theorem dJ0_checkIndex_df160_0 : decode cJ0_checkIndex_df160 0 = .ok (.iload_n 0, 1) := by decide +kernel
theorem dJ0_checkIndex_df160_1 : decode cJ0_checkIndex_df160 1 = .ok (.iload_n 1, 1) := by decide +kernel
theorem dJ0_checkIndex_df160_2 : decode cJ0_checkIndex_df160 2 = .ok (.getstatic 1053, 3) := by decide +kernel
theorem dJ0_checkIndex_df160_5 : decode cJ0_checkIndex_df160 5 = .ok (.invokestatic 1059, 3) := by decide +kernel
theorem dJ0_checkIndex_df160_8 : decode cJ0_checkIndex_df160 8 = .ok (.pop, 1) := by decide +kernel
theorem dJ0_checkIndex_df160_9 : decode cJ0_checkIndex_df160 9 = .ok (.return_, 1) := by decide +kernel
theorem dJ1_charAt_3b067_0 : decode cJ1_charAt_3b067 0 = .ok (.iload_n 1, 1) := by decide +kernel
theorem dJ1_charAt_3b067_1 : decode cJ1_charAt_3b067 1 = .ok (.aload_n 0, 1) := by decide +kernel
theorem dJ1_charAt_3b067_2 : decode cJ1_charAt_3b067 2 = .ok (.arraylength, 1) := by decide +kernel
theorem dJ1_charAt_3b067_3 : decode cJ1_charAt_3b067 3 = .ok (.invokestatic 9, 3) := by decide +kernel
theorem dJ1_charAt_3b067_6 : decode cJ1_charAt_3b067 6 = .ok (.aload_n 0, 1) := by decide +kernel
theorem dJ1_charAt_3b067_7 : decode cJ1_charAt_3b067 7 = .ok (.iload_n 1, 1) := by decide +kernel
theorem dJ1_charAt_3b067_8 : decode cJ1_charAt_3b067 8 = .ok (.baload, 1) := by decide +kernel
theorem dJ1_charAt_3b067_9 : decode cJ1_charAt_3b067 9 = .ok (.sipush 255, 3) := by decide +kernel
theorem dJ1_charAt_3b067_12 : decode cJ1_charAt_3b067 12 = .ok (.iand, 1) := by decide +kernel
theorem dJ1_charAt_3b067_13 : decode cJ1_charAt_3b067 13 = .ok (.i2c, 1) := by decide +kernel
theorem dJ1_charAt_3b067_14 : decode cJ1_charAt_3b067 14 = .ok (.ireturn, 1) := by decide +kernel
theorem dJ2_getChar_3b067_0 : decode cJ2_getChar_3b067 0 = .ok (.getstatic 44, 3) := by decide +kernel
theorem dJ2_getChar_3b067_3 : decode cJ2_getChar_3b067 3 = .ok (.ifCond .ne 25, 3) := by decide +kernel
theorem dJ2_getChar_3b067_6 : decode cJ2_getChar_3b067 6 = .ok (.iload_n 1, 1) := by decide +kernel
theorem dJ2_getChar_3b067_7 : decode cJ2_getChar_3b067 7 = .ok (.ifCond .lt 11, 3) := by decide +kernel
theorem dJ2_getChar_3b067_10 : decode cJ2_getChar_3b067 10 = .ok (.iload_n 1, 1) := by decide +kernel
theorem dJ2_getChar_3b067_11 : decode cJ2_getChar_3b067 11 = .ok (.aload_n 0, 1) := by decide +kernel
theorem dJ2_getChar_3b067_12 : decode cJ2_getChar_3b067 12 = .ok (.invokestatic 48, 3) := by decide +kernel
theorem dJ2_getChar_3b067_15 : decode cJ2_getChar_3b067 15 = .ok (.if_icmp .lt 13, 3) := by decide +kernel
theorem dJ2_getChar_3b067_18 : decode cJ2_getChar_3b067 18 = .ok (.new 52, 3) := by decide +kernel
theorem dJ2_getChar_3b067_21 : decode cJ2_getChar_3b067 21 = .ok (.dup, 1) := by decide +kernel
theorem dJ2_getChar_3b067_22 : decode cJ2_getChar_3b067 22 = .ok (.ldc 54, 2) := by decide +kernel
theorem dJ2_getChar_3b067_24 : decode cJ2_getChar_3b067 24 = .ok (.invokespecial 56, 3) := by decide +kernel
theorem dJ2_getChar_3b067_27 : decode cJ2_getChar_3b067 27 = .ok (.athrow, 1) := by decide +kernel
theorem dJ2_getChar_3b067_28 : decode cJ2_getChar_3b067 28 = .ok (.iload_n 1, 1) := by decide +kernel
theorem dJ2_getChar_3b067_29 : decode cJ2_getChar_3b067 29 = .ok (.iconst 1, 1) := by decide +kernel
theorem dJ2_getChar_3b067_30 : decode cJ2_getChar_3b067 30 = .ok (.ishl, 1) := by decide +kernel
theorem dJ2_getChar_3b067_31 : decode cJ2_getChar_3b067 31 = .ok (.istore_n 1, 1) := by decide +kernel
theorem dJ2_getChar_3b067_32 : decode cJ2_getChar_3b067 32 = .ok (.aload_n 0, 1) := by decide +kernel
theorem dJ2_getChar_3b067_33 : decode cJ2_getChar_3b067 33 = .ok (.iload_n 1, 1) := by decide +kernel
theorem dJ2_getChar_3b067_34 : decode cJ2_getChar_3b067 34 = .ok (.iinc 1 1, 3) := by decide +kernel
theorem dJ2_getChar_3b067_37 : decode cJ2_getChar_3b067 37 = .ok (.baload, 1) := by decide +kernel
theorem dJ2_getChar_3b067_38 : decode cJ2_getChar_3b067 38 = .ok (.sipush 255, 3) := by decide +kernel
theorem dJ2_getChar_3b067_41 : decode cJ2_getChar_3b067 41 = .ok (.iand, 1) := by decide +kernel
theorem dJ2_getChar_3b067_42 : decode cJ2_getChar_3b067 42 = .ok (.getstatic 59, 3) := by decide +kernel
theorem dJ2_getChar_3b067_45 : decode cJ2_getChar_3b067 45 = .ok (.ishl, 1) := by decide +kernel
theorem dJ2_getChar_3b067_46 : decode cJ2_getChar_3b067 46 = .ok (.aload_n 0, 1) := by decide +kernel
theorem dJ2_getChar_3b067_47 : decode cJ2_getChar_3b067 47 = .ok (.iload_n 1, 1) := by decide +kernel
theorem dJ2_getChar_3b067_48 : decode cJ2_getChar_3b067 48 = .ok (.baload, 1) := by decide +kernel
theorem dJ2_getChar_3b067_49 : decode cJ2_getChar_3b067 49 = .ok (.sipush 255, 3) := by decide +kernel
theorem dJ2_getChar_3b067_52 : decode cJ2_getChar_3b067 52 = .ok (.iand, 1) := by decide +kernel
theorem dJ2_getChar_3b067_53 : decode cJ2_getChar_3b067 53 = .ok (.getstatic 63, 3) := by decide +kernel
theorem dJ2_getChar_3b067_56 : decode cJ2_getChar_3b067 56 = .ok (.ishl, 1) := by decide +kernel
theorem dJ2_getChar_3b067_57 : decode cJ2_getChar_3b067 57 = .ok (.ior, 1) := by decide +kernel
theorem dJ2_getChar_3b067_58 : decode cJ2_getChar_3b067 58 = .ok (.i2c, 1) := by decide +kernel
theorem dJ2_getChar_3b067_59 : decode cJ2_getChar_3b067 59 = .ok (.ireturn, 1) := by decide +kernel
theorem dJ2_length_9d52b_0 : decode cJ2_length_9d52b 0 = .ok (.aload_n 0, 1) := by decide +kernel
theorem dJ2_length_9d52b_1 : decode cJ2_length_9d52b 1 = .ok (.arraylength, 1) := by decide +kernel
theorem dJ2_length_9d52b_2 : decode cJ2_length_9d52b 2 = .ok (.iconst 1, 1) := by decide +kernel
theorem dJ2_length_9d52b_3 : decode cJ2_length_9d52b 3 = .ok (.ishr, 1) := by decide +kernel
theorem dJ2_length_9d52b_4 : decode cJ2_length_9d52b 4 = .ok (.ireturn, 1) := by decide +kernel
theorem dJ2_charAt_3b067_0 : decode cJ2_charAt_3b067 0 = .ok (.iload_n 1, 1) := by decide +kernel
theorem dJ2_charAt_3b067_1 : decode cJ2_charAt_3b067 1 = .ok (.aload_n 0, 1) := by decide +kernel
theorem dJ2_charAt_3b067_2 : decode cJ2_charAt_3b067 2 = .ok (.invokestatic 67, 3) := by decide +kernel
theorem dJ2_charAt_3b067_5 : decode cJ2_charAt_3b067 5 = .ok (.aload_n 0, 1) := by decide +kernel
theorem dJ2_charAt_3b067_6 : decode cJ2_charAt_3b067 6 = .ok (.iload_n 1, 1) := by decide +kernel
theorem dJ2_charAt_3b067_7 : decode cJ2_charAt_3b067 7 = .ok (.invokestatic 71, 3) := by decide +kernel
theorem dJ2_charAt_3b067_10 : decode cJ2_charAt_3b067 10 = .ok (.ireturn, 1) := by decide +kernel
theorem dJ2_checkIndex_2214a_0 : decode cJ2_checkIndex_2214a 0 = .ok (.iload_n 0, 1) := by decide +kernel
theorem dJ2_checkIndex_2214a_1 : decode cJ2_checkIndex_2214a 1 = .ok (.aload_n 1, 1) := by decide +kernel
theorem dJ2_checkIndex_2214a_2 : decode cJ2_checkIndex_2214a 2 = .ok (.invokestatic 48, 3) := by decide +kernel
theorem dJ2_checkIndex_2214a_5 : decode cJ2_checkIndex_2214a 5 = .ok (.invokestatic 414, 3) := by decide +kernel
theorem dJ2_checkIndex_2214a_8 : decode cJ2_checkIndex_2214a 8 = .ok (.return_, 1) := by decide +kernel
theorem dJ7_fill_53178_0 : decode cJ7_fill_53178 0 = .ok (.iconst 0, 1) := by decide +kernel
theorem dJ7_fill_53178_1 : decode cJ7_fill_53178 1 = .ok (.istore_n 2, 1) := by decide +kernel
theorem dJ7_fill_53178_2 : decode cJ7_fill_53178 2 = .ok (.aload_n 0, 1) := by decide +kernel
theorem dJ7_fill_53178_3 : decode cJ7_fill_53178 3 = .ok (.arraylength, 1) := by decide +kernel
theorem dJ7_fill_53178_4 : decode cJ7_fill_53178 4 = .ok (.istore_n 3, 1) := by decide +kernel
theorem dJ7_fill_53178_5 : decode cJ7_fill_53178 5 = .ok (.iload_n 2, 1) := by decide +kernel
theorem dJ7_fill_53178_6 : decode cJ7_fill_53178 6 = .ok (.iload_n 3, 1) := by decide +kernel
theorem dJ7_fill_53178_7 : decode cJ7_fill_53178 7 = .ok (.if_icmp .ge 13, 3) := by decide +kernel
theorem dJ7_fill_53178_10 : decode cJ7_fill_53178 10 = .ok (.aload_n 0, 1) := by decide +kernel
theorem dJ7_fill_53178_11 : decode cJ7_fill_53178 11 = .ok (.iload_n 2, 1) := by decide +kernel
theorem dJ7_fill_53178_12 : decode cJ7_fill_53178 12 = .ok (.iload_n 1, 1) := by decide +kernel
theorem dJ7_fill_53178_13 : decode cJ7_fill_53178 13 = .ok (.iastore, 1) := by decide +kernel
theorem dJ7_fill_53178_14 : decode cJ7_fill_53178 14 = .ok (.iinc 2 1, 3) := by decide +kernel
theorem dJ7_fill_53178_17 : decode cJ7_fill_53178 17 = .ok (.goto (-12), 3) := by decide +kernel
theorem dJ7_fill_53178_20 : decode cJ7_fill_53178 20 = .ok (.return_, 1) := by decide +kernel
theorem dJ3_checkIndex_8e157_0 : decode cJ3_checkIndex_8e157 0 = .ok (.iload_n 0, 1) := by decide +kernel
theorem dJ3_checkIndex_8e157_1 : decode cJ3_checkIndex_8e157 1 = .ok (.ifCond .lt 8, 3) := by decide +kernel
theorem dJ3_checkIndex_8e157_4 : decode cJ3_checkIndex_8e157 4 = .ok (.iload_n 0, 1) := by decide +kernel
theorem dJ3_checkIndex_8e157_5 : decode cJ3_checkIndex_8e157 5 = .ok (.iload_n 1, 1) := by decide +kernel
theorem dJ3_checkIndex_8e157_6 : decode cJ3_checkIndex_8e157 6 = .ok (.if_icmp .lt 10, 3) := by decide +kernel
theorem dJ3_checkIndex_8e157_9 : decode cJ3_checkIndex_8e157 9 = .ok (.aload_n 2, 1) := by decide +kernel
theorem dJ3_checkIndex_8e157_10 : decode cJ3_checkIndex_8e157 10 = .ok (.iload_n 0, 1) := by decide +kernel
theorem dJ3_checkIndex_8e157_11 : decode cJ3_checkIndex_8e157 11 = .ok (.iload_n 1, 1) := by decide +kernel
theorem dJ3_checkIndex_8e157_12 : decode cJ3_checkIndex_8e157 12 = .ok (.invokestatic 95, 3) := by decide +kernel
theorem dJ3_checkIndex_8e157_15 : decode cJ3_checkIndex_8e157 15 = .ok (.athrow, 1) := by decide +kernel
theorem dJ3_checkIndex_8e157_16 : decode cJ3_checkIndex_8e157 16 = .ok (.iload_n 0, 1) := by decide +kernel
theorem dJ3_checkIndex_8e157_17 : decode cJ3_checkIndex_8e157 17 = .ok (.ireturn, 1) := by decide +kernel
theorem dL_addItem_0 : decode cL_addItem 0 = .ok (.aload 4, 2) := by decide +kernel
theorem dL_addItem_2 : decode cL_addItem 2 = .ok (.iconst 0, 1) := by decide +kernel
theorem dL_addItem_3 : decode cL_addItem 3 = .ok (.aload_n 0, 1) := by decide +kernel
theorem dL_addItem_4 : decode cL_addItem 4 = .ok (.iload_n 1, 1) := by decide +kernel
theorem dL_addItem_5 : decode cL_addItem 5 = .ok (.iload_n 2, 1) := by decide +kernel
theorem dL_addItem_6 : decode cL_addItem 6 = .ok (.iload_n 3, 1) := by decide +kernel
theorem dL_addItem_7 : decode cL_addItem 7 = .ok (.invokevirtual 7, 3) := by decide +kernel
theorem dL_addItem_10 : decode cL_addItem 10 = .ok (.i2l, 1) := by decide +kernel
theorem dL_addItem_11 : decode cL_addItem 11 = .ok (.lastore, 1) := by decide +kernel
theorem dL_addItem_12 : decode cL_addItem 12 = .ok (.goto 11, 3) := by decide +kernel
theorem dL_addItem_15 : decode cL_addItem 15 = .ok (.astore 5, 2) := by decide +kernel
theorem dL_addItem_17 : decode cL_addItem 17 = .ok (.iconst 1, 1) := by decide +kernel
theorem dL_addItem_18 : decode cL_addItem 18 = .ok (.ireturn, 1) := by decide +kernel
theorem dL_addItem_19 : decode cL_addItem 19 = .ok (.astore 5, 2) := by decide +kernel
theorem dL_addItem_21 : decode cL_addItem 21 = .ok (.iconst 2, 1) := by decide +kernel
theorem dL_addItem_22 : decode cL_addItem 22 = .ok (.ireturn, 1) := by decide +kernel
theorem dL_addItem_23 : decode cL_addItem 23 = .ok (.iconst 0, 1) := by decide +kernel
theorem dL_addItem_24 : decode cL_addItem 24 = .ok (.ireturn, 1) := by decide +kernel
theorem dL_addBase_0 : decode cL_addBase 0 = .ok (.aload_n 2, 1) := by decide +kernel
theorem dL_addBase_1 : decode cL_addBase 1 = .ok (.iconst 0, 1) := by decide +kernel
theorem dL_addBase_2 : decode cL_addBase 2 = .ok (.aload_n 0, 1) := by decide +kernel
theorem dL_addBase_3 : decode cL_addBase 3 = .ok (.iload_n 1, 1) := by decide +kernel
theorem dL_addBase_4 : decode cL_addBase 4 = .ok (.invokevirtual 17, 3) := by decide +kernel
theorem dL_addBase_7 : decode cL_addBase 7 = .ok (.i2l, 1) := by decide +kernel
theorem dL_addBase_8 : decode cL_addBase 8 = .ok (.lastore, 1) := by decide +kernel
theorem dL_addBase_9 : decode cL_addBase 9 = .ok (.goto 9, 3) := by decide +kernel
theorem dL_addBase_12 : decode cL_addBase 12 = .ok (.astore_n 3, 1) := by decide +kernel
theorem dL_addBase_13 : decode cL_addBase 13 = .ok (.iconst 1, 1) := by decide +kernel
theorem dL_addBase_14 : decode cL_addBase 14 = .ok (.ireturn, 1) := by decide +kernel
theorem dL_addBase_15 : decode cL_addBase 15 = .ok (.astore_n 3, 1) := by decide +kernel
theorem dL_addBase_16 : decode cL_addBase 16 = .ok (.iconst 2, 1) := by decide +kernel
theorem dL_addBase_17 : decode cL_addBase 17 = .ok (.ireturn, 1) := by decide +kernel
theorem dL_addBase_18 : decode cL_addBase 18 = .ok (.iconst 0, 1) := by decide +kernel
theorem dL_addBase_19 : decode cL_addBase 19 = .ok (.ireturn, 1) := by decide +kernel
theorem dL_setLink_0 : decode cL_setLink 0 = .ok (.aload 4, 2) := by decide +kernel
theorem dL_setLink_2 : decode cL_setLink 2 = .ok (.iconst 0, 1) := by decide +kernel
theorem dL_setLink_3 : decode cL_setLink 3 = .ok (.aload_n 0, 1) := by decide +kernel
theorem dL_setLink_4 : decode cL_setLink 4 = .ok (.iload_n 1, 1) := by decide +kernel
theorem dL_setLink_5 : decode cL_setLink 5 = .ok (.iload_n 2, 1) := by decide +kernel
theorem dL_setLink_6 : decode cL_setLink 6 = .ok (.iload_n 3, 1) := by decide +kernel
theorem dL_setLink_7 : decode cL_setLink 7 = .ok (.invokevirtual 21, 3) := by decide +kernel
theorem dL_setLink_10 : decode cL_setLink 10 = .ok (.i2l, 1) := by decide +kernel
theorem dL_setLink_11 : decode cL_setLink 11 = .ok (.lastore, 1) := by decide +kernel
theorem dL_setLink_12 : decode cL_setLink 12 = .ok (.goto 11, 3) := by decide +kernel
theorem dL_setLink_15 : decode cL_setLink 15 = .ok (.astore 5, 2) := by decide +kernel
theorem dL_setLink_17 : decode cL_setLink 17 = .ok (.iconst 1, 1) := by decide +kernel
theorem dL_setLink_18 : decode cL_setLink 18 = .ok (.ireturn, 1) := by decide +kernel
theorem dL_setLink_19 : decode cL_setLink 19 = .ok (.astore 5, 2) := by decide +kernel
theorem dL_setLink_21 : decode cL_setLink 21 = .ok (.iconst 2, 1) := by decide +kernel
theorem dL_setLink_22 : decode cL_setLink 22 = .ok (.ireturn, 1) := by decide +kernel
theorem dL_setLink_23 : decode cL_setLink 23 = .ok (.iconst 0, 1) := by decide +kernel
theorem dL_setLink_24 : decode cL_setLink 24 = .ok (.ireturn, 1) := by decide +kernel
theorem dL_setLevel_0 : decode cL_setLevel 0 = .ok (.aload 4, 2) := by decide +kernel
theorem dL_setLevel_2 : decode cL_setLevel 2 = .ok (.iconst 0, 1) := by decide +kernel
theorem dL_setLevel_3 : decode cL_setLevel 3 = .ok (.aload_n 0, 1) := by decide +kernel
theorem dL_setLevel_4 : decode cL_setLevel 4 = .ok (.iload_n 1, 1) := by decide +kernel
theorem dL_setLevel_5 : decode cL_setLevel 5 = .ok (.iload_n 2, 1) := by decide +kernel
theorem dL_setLevel_6 : decode cL_setLevel 6 = .ok (.iload_n 3, 1) := by decide +kernel
theorem dL_setLevel_7 : decode cL_setLevel 7 = .ok (.invokevirtual 26, 3) := by decide +kernel
theorem dL_setLevel_10 : decode cL_setLevel 10 = .ok (.i2l, 1) := by decide +kernel
theorem dL_setLevel_11 : decode cL_setLevel 11 = .ok (.lastore, 1) := by decide +kernel
theorem dL_setLevel_12 : decode cL_setLevel 12 = .ok (.goto 15, 3) := by decide +kernel
theorem dL_setLevel_15 : decode cL_setLevel 15 = .ok (.astore 5, 2) := by decide +kernel
theorem dL_setLevel_17 : decode cL_setLevel 17 = .ok (.iconst 1, 1) := by decide +kernel
theorem dL_setLevel_18 : decode cL_setLevel 18 = .ok (.ireturn, 1) := by decide +kernel
theorem dL_setLevel_19 : decode cL_setLevel 19 = .ok (.astore 5, 2) := by decide +kernel
theorem dL_setLevel_21 : decode cL_setLevel 21 = .ok (.iconst 2, 1) := by decide +kernel
theorem dL_setLevel_22 : decode cL_setLevel 22 = .ok (.ireturn, 1) := by decide +kernel
theorem dL_setLevel_23 : decode cL_setLevel 23 = .ok (.astore 5, 2) := by decide +kernel
theorem dL_setLevel_25 : decode cL_setLevel 25 = .ok (.iconst 3, 1) := by decide +kernel
theorem dL_setLevel_26 : decode cL_setLevel 26 = .ok (.ireturn, 1) := by decide +kernel
theorem dL_setLevel_27 : decode cL_setLevel 27 = .ok (.iconst 0, 1) := by decide +kernel
theorem dL_setLevel_28 : decode cL_setLevel 28 = .ok (.ireturn, 1) := by decide +kernel
theorem dL_setShare_0 : decode cL_setShare 0 = .ok (.aload 4, 2) := by decide +kernel
theorem dL_setShare_2 : decode cL_setShare 2 = .ok (.iconst 0, 1) := by decide +kernel
theorem dL_setShare_3 : decode cL_setShare 3 = .ok (.aload_n 0, 1) := by decide +kernel
theorem dL_setShare_4 : decode cL_setShare 4 = .ok (.iload_n 1, 1) := by decide +kernel
theorem dL_setShare_5 : decode cL_setShare 5 = .ok (.iload_n 2, 1) := by decide +kernel
theorem dL_setShare_6 : decode cL_setShare 6 = .ok (.iload_n 3, 1) := by decide +kernel
theorem dL_setShare_7 : decode cL_setShare 7 = .ok (.invokevirtual 29, 3) := by decide +kernel
theorem dL_setShare_10 : decode cL_setShare 10 = .ok (.i2l, 1) := by decide +kernel
theorem dL_setShare_11 : decode cL_setShare 11 = .ok (.lastore, 1) := by decide +kernel
theorem dL_setShare_12 : decode cL_setShare 12 = .ok (.goto 11, 3) := by decide +kernel
theorem dL_setShare_15 : decode cL_setShare 15 = .ok (.astore 5, 2) := by decide +kernel
theorem dL_setShare_17 : decode cL_setShare 17 = .ok (.iconst 1, 1) := by decide +kernel
theorem dL_setShare_18 : decode cL_setShare 18 = .ok (.ireturn, 1) := by decide +kernel
theorem dL_setShare_19 : decode cL_setShare 19 = .ok (.astore 5, 2) := by decide +kernel
theorem dL_setShare_21 : decode cL_setShare 21 = .ok (.iconst 2, 1) := by decide +kernel
theorem dL_setShare_22 : decode cL_setShare 22 = .ok (.ireturn, 1) := by decide +kernel
theorem dL_setShare_23 : decode cL_setShare 23 = .ok (.iconst 0, 1) := by decide +kernel
theorem dL_setShare_24 : decode cL_setShare 24 = .ok (.ireturn, 1) := by decide +kernel
theorem dL_setReserve_0 : decode cL_setReserve 0 = .ok (.aload 4, 2) := by decide +kernel
theorem dL_setReserve_2 : decode cL_setReserve 2 = .ok (.iconst 0, 1) := by decide +kernel
theorem dL_setReserve_3 : decode cL_setReserve 3 = .ok (.aload_n 0, 1) := by decide +kernel
theorem dL_setReserve_4 : decode cL_setReserve 4 = .ok (.iload_n 1, 1) := by decide +kernel
theorem dL_setReserve_5 : decode cL_setReserve 5 = .ok (.iload_n 2, 1) := by decide +kernel
theorem dL_setReserve_6 : decode cL_setReserve 6 = .ok (.iload_n 3, 1) := by decide +kernel
theorem dL_setReserve_7 : decode cL_setReserve 7 = .ok (.invokevirtual 32, 3) := by decide +kernel
theorem dL_setReserve_10 : decode cL_setReserve 10 = .ok (.i2l, 1) := by decide +kernel
theorem dL_setReserve_11 : decode cL_setReserve 11 = .ok (.lastore, 1) := by decide +kernel
theorem dL_setReserve_12 : decode cL_setReserve 12 = .ok (.goto 11, 3) := by decide +kernel
theorem dL_setReserve_15 : decode cL_setReserve 15 = .ok (.astore 5, 2) := by decide +kernel
theorem dL_setReserve_17 : decode cL_setReserve 17 = .ok (.iconst 1, 1) := by decide +kernel
theorem dL_setReserve_18 : decode cL_setReserve 18 = .ok (.ireturn, 1) := by decide +kernel
theorem dL_setReserve_19 : decode cL_setReserve 19 = .ok (.astore 5, 2) := by decide +kernel
theorem dL_setReserve_21 : decode cL_setReserve 21 = .ok (.iconst 2, 1) := by decide +kernel
theorem dL_setReserve_22 : decode cL_setReserve 22 = .ok (.ireturn, 1) := by decide +kernel
theorem dL_setReserve_23 : decode cL_setReserve 23 = .ok (.iconst 0, 1) := by decide +kernel
theorem dL_setReserve_24 : decode cL_setReserve 24 = .ok (.ireturn, 1) := by decide +kernel
theorem dL_setRate_0 : decode cL_setRate 0 = .ok (.aload 4, 2) := by decide +kernel
theorem dL_setRate_2 : decode cL_setRate 2 = .ok (.iconst 0, 1) := by decide +kernel
theorem dL_setRate_3 : decode cL_setRate 3 = .ok (.aload_n 0, 1) := by decide +kernel
theorem dL_setRate_4 : decode cL_setRate 4 = .ok (.iload_n 1, 1) := by decide +kernel
theorem dL_setRate_5 : decode cL_setRate 5 = .ok (.iload_n 2, 1) := by decide +kernel
theorem dL_setRate_6 : decode cL_setRate 6 = .ok (.iload_n 3, 1) := by decide +kernel
theorem dL_setRate_7 : decode cL_setRate 7 = .ok (.invokevirtual 35, 3) := by decide +kernel
theorem dL_setRate_10 : decode cL_setRate 10 = .ok (.i2l, 1) := by decide +kernel
theorem dL_setRate_11 : decode cL_setRate 11 = .ok (.lastore, 1) := by decide +kernel
theorem dL_setRate_12 : decode cL_setRate 12 = .ok (.goto 11, 3) := by decide +kernel
theorem dL_setRate_15 : decode cL_setRate 15 = .ok (.astore 5, 2) := by decide +kernel
theorem dL_setRate_17 : decode cL_setRate 17 = .ok (.iconst 1, 1) := by decide +kernel
theorem dL_setRate_18 : decode cL_setRate 18 = .ok (.ireturn, 1) := by decide +kernel
theorem dL_setRate_19 : decode cL_setRate 19 = .ok (.astore 5, 2) := by decide +kernel
theorem dL_setRate_21 : decode cL_setRate 21 = .ok (.iconst 2, 1) := by decide +kernel
theorem dL_setRate_22 : decode cL_setRate 22 = .ok (.ireturn, 1) := by decide +kernel
theorem dL_setRate_23 : decode cL_setRate 23 = .ok (.iconst 0, 1) := by decide +kernel
theorem dL_setRate_24 : decode cL_setRate 24 = .ok (.ireturn, 1) := by decide +kernel
theorem dL_setLateralLimit_0 : decode cL_setLateralLimit 0 = .ok (.aload_n 2, 1) := by decide +kernel
theorem dL_setLateralLimit_1 : decode cL_setLateralLimit 1 = .ok (.iconst 0, 1) := by decide +kernel
theorem dL_setLateralLimit_2 : decode cL_setLateralLimit 2 = .ok (.aload_n 0, 1) := by decide +kernel
theorem dL_setLateralLimit_3 : decode cL_setLateralLimit 3 = .ok (.iload_n 1, 1) := by decide +kernel
theorem dL_setLateralLimit_4 : decode cL_setLateralLimit 4 = .ok (.invokevirtual 38, 3) := by decide +kernel
theorem dL_setLateralLimit_7 : decode cL_setLateralLimit 7 = .ok (.i2l, 1) := by decide +kernel
theorem dL_setLateralLimit_8 : decode cL_setLateralLimit 8 = .ok (.lastore, 1) := by decide +kernel
theorem dL_setLateralLimit_9 : decode cL_setLateralLimit 9 = .ok (.goto 6, 3) := by decide +kernel
theorem dL_setLateralLimit_12 : decode cL_setLateralLimit 12 = .ok (.astore_n 3, 1) := by decide +kernel
theorem dL_setLateralLimit_13 : decode cL_setLateralLimit 13 = .ok (.iconst 1, 1) := by decide +kernel
theorem dL_setLateralLimit_14 : decode cL_setLateralLimit 14 = .ok (.ireturn, 1) := by decide +kernel
theorem dL_setLateralLimit_15 : decode cL_setLateralLimit 15 = .ok (.iconst 0, 1) := by decide +kernel
theorem dL_setLateralLimit_16 : decode cL_setLateralLimit 16 = .ok (.ireturn, 1) := by decide +kernel
theorem dL_demand_0 : decode cL_demand 0 = .ok (.aload 4, 2) := by decide +kernel
theorem dL_demand_2 : decode cL_demand 2 = .ok (.iconst 0, 1) := by decide +kernel
theorem dL_demand_3 : decode cL_demand 3 = .ok (.aload_n 0, 1) := by decide +kernel
theorem dL_demand_4 : decode cL_demand 4 = .ok (.iload_n 1, 1) := by decide +kernel
theorem dL_demand_5 : decode cL_demand 5 = .ok (.iload_n 2, 1) := by decide +kernel
theorem dL_demand_6 : decode cL_demand 6 = .ok (.iload_n 3, 1) := by decide +kernel
theorem dL_demand_7 : decode cL_demand 7 = .ok (.invokevirtual 41, 3) := by decide +kernel
theorem dL_demand_10 : decode cL_demand 10 = .ok (.ifCond .eq 7, 3) := by decide +kernel
theorem dL_demand_13 : decode cL_demand 13 = .ok (.lconst 1, 1) := by decide +kernel
theorem dL_demand_14 : decode cL_demand 14 = .ok (.goto 4, 3) := by decide +kernel
theorem dL_demand_17 : decode cL_demand 17 = .ok (.lconst 0, 1) := by decide +kernel
theorem dL_demand_18 : decode cL_demand 18 = .ok (.lastore, 1) := by decide +kernel
theorem dL_demand_19 : decode cL_demand 19 = .ok (.goto 15, 3) := by decide +kernel
theorem dL_demand_22 : decode cL_demand 22 = .ok (.astore 5, 2) := by decide +kernel
theorem dL_demand_24 : decode cL_demand 24 = .ok (.iconst 1, 1) := by decide +kernel
theorem dL_demand_25 : decode cL_demand 25 = .ok (.ireturn, 1) := by decide +kernel
theorem dL_demand_26 : decode cL_demand 26 = .ok (.astore 5, 2) := by decide +kernel
theorem dL_demand_28 : decode cL_demand 28 = .ok (.iconst 2, 1) := by decide +kernel
theorem dL_demand_29 : decode cL_demand 29 = .ok (.ireturn, 1) := by decide +kernel
theorem dL_demand_30 : decode cL_demand 30 = .ok (.astore 5, 2) := by decide +kernel
theorem dL_demand_32 : decode cL_demand 32 = .ok (.iconst 3, 1) := by decide +kernel
theorem dL_demand_33 : decode cL_demand 33 = .ok (.ireturn, 1) := by decide +kernel
theorem dL_demand_34 : decode cL_demand 34 = .ok (.iconst 0, 1) := by decide +kernel
theorem dL_demand_35 : decode cL_demand 35 = .ok (.ireturn, 1) := by decide +kernel
theorem dL_advance_0 : decode cL_advance 0 = .ok (.aload_n 2, 1) := by decide +kernel
theorem dL_advance_1 : decode cL_advance 1 = .ok (.iconst 0, 1) := by decide +kernel
theorem dL_advance_2 : decode cL_advance 2 = .ok (.aload_n 0, 1) := by decide +kernel
theorem dL_advance_3 : decode cL_advance 3 = .ok (.iload_n 1, 1) := by decide +kernel
theorem dL_advance_4 : decode cL_advance 4 = .ok (.invokevirtual 45, 3) := by decide +kernel
theorem dL_advance_7 : decode cL_advance 7 = .ok (.i2l, 1) := by decide +kernel
theorem dL_advance_8 : decode cL_advance 8 = .ok (.lastore, 1) := by decide +kernel
theorem dL_advance_9 : decode cL_advance 9 = .ok (.goto 9, 3) := by decide +kernel
theorem dL_advance_12 : decode cL_advance 12 = .ok (.astore_n 3, 1) := by decide +kernel
theorem dL_advance_13 : decode cL_advance 13 = .ok (.iconst 1, 1) := by decide +kernel
theorem dL_advance_14 : decode cL_advance 14 = .ok (.ireturn, 1) := by decide +kernel
theorem dL_advance_15 : decode cL_advance 15 = .ok (.astore_n 3, 1) := by decide +kernel
theorem dL_advance_16 : decode cL_advance 16 = .ok (.iconst 2, 1) := by decide +kernel
theorem dL_advance_17 : decode cL_advance 17 = .ok (.ireturn, 1) := by decide +kernel
theorem dL_advance_18 : decode cL_advance 18 = .ok (.iconst 0, 1) := by decide +kernel
theorem dL_advance_19 : decode cL_advance 19 = .ok (.ireturn, 1) := by decide +kernel
theorem dL_run_0 : decode cL_run 0 = .ok (.aload_n 3, 1) := by decide +kernel
theorem dL_run_1 : decode cL_run 1 = .ok (.iconst 0, 1) := by decide +kernel
theorem dL_run_2 : decode cL_run 2 = .ok (.aload_n 0, 1) := by decide +kernel
theorem dL_run_3 : decode cL_run 3 = .ok (.iload_n 1, 1) := by decide +kernel
theorem dL_run_4 : decode cL_run 4 = .ok (.iload_n 2, 1) := by decide +kernel
theorem dL_run_5 : decode cL_run 5 = .ok (.invokevirtual 48, 3) := by decide +kernel
theorem dL_run_8 : decode cL_run 8 = .ok (.i2l, 1) := by decide +kernel
theorem dL_run_9 : decode cL_run 9 = .ok (.lastore, 1) := by decide +kernel
theorem dL_run_10 : decode cL_run 10 = .ok (.goto 11, 3) := by decide +kernel
theorem dL_run_13 : decode cL_run 13 = .ok (.astore 4, 2) := by decide +kernel
theorem dL_run_15 : decode cL_run 15 = .ok (.iconst 1, 1) := by decide +kernel
theorem dL_run_16 : decode cL_run 16 = .ok (.ireturn, 1) := by decide +kernel
theorem dL_run_17 : decode cL_run 17 = .ok (.astore 4, 2) := by decide +kernel
theorem dL_run_19 : decode cL_run 19 = .ok (.iconst 2, 1) := by decide +kernel
theorem dL_run_20 : decode cL_run 20 = .ok (.ireturn, 1) := by decide +kernel
theorem dL_run_21 : decode cL_run 21 = .ok (.iconst 0, 1) := by decide +kernel
theorem dL_run_22 : decode cL_run 22 = .ok (.ireturn, 1) := by decide +kernel
theorem dL_level_0 : decode cL_level 0 = .ok (.aload_n 3, 1) := by decide +kernel
theorem dL_level_1 : decode cL_level 1 = .ok (.iconst 0, 1) := by decide +kernel
theorem dL_level_2 : decode cL_level 2 = .ok (.aload_n 0, 1) := by decide +kernel
theorem dL_level_3 : decode cL_level 3 = .ok (.iload_n 1, 1) := by decide +kernel
theorem dL_level_4 : decode cL_level 4 = .ok (.iload_n 2, 1) := by decide +kernel
theorem dL_level_5 : decode cL_level 5 = .ok (.invokevirtual 52, 3) := by decide +kernel
theorem dL_level_8 : decode cL_level 8 = .ok (.i2l, 1) := by decide +kernel
theorem dL_level_9 : decode cL_level 9 = .ok (.lastore, 1) := by decide +kernel
theorem dL_level_10 : decode cL_level 10 = .ok (.goto 7, 3) := by decide +kernel
theorem dL_level_13 : decode cL_level 13 = .ok (.astore 4, 2) := by decide +kernel
theorem dL_level_15 : decode cL_level 15 = .ok (.iconst 1, 1) := by decide +kernel
theorem dL_level_16 : decode cL_level 16 = .ok (.ireturn, 1) := by decide +kernel
theorem dL_level_17 : decode cL_level 17 = .ok (.iconst 0, 1) := by decide +kernel
theorem dL_level_18 : decode cL_level 18 = .ok (.ireturn, 1) := by decide +kernel
theorem dL_onHand_0 : decode cL_onHand 0 = .ok (.aload_n 3, 1) := by decide +kernel
theorem dL_onHand_1 : decode cL_onHand 1 = .ok (.iconst 0, 1) := by decide +kernel
theorem dL_onHand_2 : decode cL_onHand 2 = .ok (.aload_n 0, 1) := by decide +kernel
theorem dL_onHand_3 : decode cL_onHand 3 = .ok (.iload_n 1, 1) := by decide +kernel
theorem dL_onHand_4 : decode cL_onHand 4 = .ok (.iload_n 2, 1) := by decide +kernel
theorem dL_onHand_5 : decode cL_onHand 5 = .ok (.invokevirtual 55, 3) := by decide +kernel
theorem dL_onHand_8 : decode cL_onHand 8 = .ok (.i2l, 1) := by decide +kernel
theorem dL_onHand_9 : decode cL_onHand 9 = .ok (.lastore, 1) := by decide +kernel
theorem dL_onHand_10 : decode cL_onHand 10 = .ok (.goto 7, 3) := by decide +kernel
theorem dL_onHand_13 : decode cL_onHand 13 = .ok (.astore 4, 2) := by decide +kernel
theorem dL_onHand_15 : decode cL_onHand 15 = .ok (.iconst 1, 1) := by decide +kernel
theorem dL_onHand_16 : decode cL_onHand 16 = .ok (.ireturn, 1) := by decide +kernel
theorem dL_onHand_17 : decode cL_onHand 17 = .ok (.iconst 0, 1) := by decide +kernel
theorem dL_onHand_18 : decode cL_onHand 18 = .ok (.ireturn, 1) := by decide +kernel
theorem dL_waiting_0 : decode cL_waiting 0 = .ok (.aload_n 3, 1) := by decide +kernel
theorem dL_waiting_1 : decode cL_waiting 1 = .ok (.iconst 0, 1) := by decide +kernel
theorem dL_waiting_2 : decode cL_waiting 2 = .ok (.aload_n 0, 1) := by decide +kernel
theorem dL_waiting_3 : decode cL_waiting 3 = .ok (.iload_n 1, 1) := by decide +kernel
theorem dL_waiting_4 : decode cL_waiting 4 = .ok (.iload_n 2, 1) := by decide +kernel
theorem dL_waiting_5 : decode cL_waiting 5 = .ok (.invokevirtual 58, 3) := by decide +kernel
theorem dL_waiting_8 : decode cL_waiting 8 = .ok (.i2l, 1) := by decide +kernel
theorem dL_waiting_9 : decode cL_waiting 9 = .ok (.lastore, 1) := by decide +kernel
theorem dL_waiting_10 : decode cL_waiting 10 = .ok (.goto 7, 3) := by decide +kernel
theorem dL_waiting_13 : decode cL_waiting 13 = .ok (.astore 4, 2) := by decide +kernel
theorem dL_waiting_15 : decode cL_waiting 15 = .ok (.iconst 1, 1) := by decide +kernel
theorem dL_waiting_16 : decode cL_waiting 16 = .ok (.ireturn, 1) := by decide +kernel
theorem dL_waiting_17 : decode cL_waiting 17 = .ok (.iconst 0, 1) := by decide +kernel
theorem dL_waiting_18 : decode cL_waiting 18 = .ok (.ireturn, 1) := by decide +kernel
theorem dL_topPriority_0 : decode cL_topPriority 0 = .ok (.aload_n 3, 1) := by decide +kernel
theorem dL_topPriority_1 : decode cL_topPriority 1 = .ok (.iconst 0, 1) := by decide +kernel
theorem dL_topPriority_2 : decode cL_topPriority 2 = .ok (.aload_n 0, 1) := by decide +kernel
theorem dL_topPriority_3 : decode cL_topPriority 3 = .ok (.iload_n 1, 1) := by decide +kernel
theorem dL_topPriority_4 : decode cL_topPriority 4 = .ok (.iload_n 2, 1) := by decide +kernel
theorem dL_topPriority_5 : decode cL_topPriority 5 = .ok (.invokevirtual 61, 3) := by decide +kernel
theorem dL_topPriority_8 : decode cL_topPriority 8 = .ok (.i2l, 1) := by decide +kernel
theorem dL_topPriority_9 : decode cL_topPriority 9 = .ok (.lastore, 1) := by decide +kernel
theorem dL_topPriority_10 : decode cL_topPriority 10 = .ok (.goto 7, 3) := by decide +kernel
theorem dL_topPriority_13 : decode cL_topPriority 13 = .ok (.astore 4, 2) := by decide +kernel
theorem dL_topPriority_15 : decode cL_topPriority 15 = .ok (.iconst 1, 1) := by decide +kernel
theorem dL_topPriority_16 : decode cL_topPriority 16 = .ok (.ireturn, 1) := by decide +kernel
theorem dL_topPriority_17 : decode cL_topPriority 17 = .ok (.iconst 0, 1) := by decide +kernel
theorem dL_topPriority_18 : decode cL_topPriority 18 = .ok (.ireturn, 1) := by decide +kernel
theorem dL_keptOrders_0 : decode cL_keptOrders 0 = .ok (.aload_n 2, 1) := by decide +kernel
theorem dL_keptOrders_1 : decode cL_keptOrders 1 = .ok (.iconst 0, 1) := by decide +kernel
theorem dL_keptOrders_2 : decode cL_keptOrders 2 = .ok (.aload_n 0, 1) := by decide +kernel
theorem dL_keptOrders_3 : decode cL_keptOrders 3 = .ok (.iload_n 1, 1) := by decide +kernel
theorem dL_keptOrders_4 : decode cL_keptOrders 4 = .ok (.invokevirtual 64, 3) := by decide +kernel
theorem dL_keptOrders_7 : decode cL_keptOrders 7 = .ok (.i2l, 1) := by decide +kernel
theorem dL_keptOrders_8 : decode cL_keptOrders 8 = .ok (.lastore, 1) := by decide +kernel
theorem dL_keptOrders_9 : decode cL_keptOrders 9 = .ok (.goto 6, 3) := by decide +kernel
theorem dL_keptOrders_12 : decode cL_keptOrders 12 = .ok (.astore_n 3, 1) := by decide +kernel
theorem dL_keptOrders_13 : decode cL_keptOrders 13 = .ok (.iconst 1, 1) := by decide +kernel
theorem dL_keptOrders_14 : decode cL_keptOrders 14 = .ok (.ireturn, 1) := by decide +kernel
theorem dL_keptOrders_15 : decode cL_keptOrders 15 = .ok (.iconst 0, 1) := by decide +kernel
theorem dL_keptOrders_16 : decode cL_keptOrders 16 = .ok (.ireturn, 1) := by decide +kernel
theorem dL_dueIn_0 : decode cL_dueIn 0 = .ok (.aload_n 3, 1) := by decide +kernel
theorem dL_dueIn_1 : decode cL_dueIn 1 = .ok (.iconst 0, 1) := by decide +kernel
theorem dL_dueIn_2 : decode cL_dueIn 2 = .ok (.aload_n 0, 1) := by decide +kernel
theorem dL_dueIn_3 : decode cL_dueIn 3 = .ok (.iload_n 1, 1) := by decide +kernel
theorem dL_dueIn_4 : decode cL_dueIn 4 = .ok (.iload_n 2, 1) := by decide +kernel
theorem dL_dueIn_5 : decode cL_dueIn 5 = .ok (.invokevirtual 67, 3) := by decide +kernel
theorem dL_dueIn_8 : decode cL_dueIn 8 = .ok (.i2l, 1) := by decide +kernel
theorem dL_dueIn_9 : decode cL_dueIn 9 = .ok (.lastore, 1) := by decide +kernel
theorem dL_dueIn_10 : decode cL_dueIn 10 = .ok (.goto 7, 3) := by decide +kernel
theorem dL_dueIn_13 : decode cL_dueIn 13 = .ok (.astore 4, 2) := by decide +kernel
theorem dL_dueIn_15 : decode cL_dueIn 15 = .ok (.iconst 1, 1) := by decide +kernel
theorem dL_dueIn_16 : decode cL_dueIn 16 = .ok (.ireturn, 1) := by decide +kernel
theorem dL_dueIn_17 : decode cL_dueIn 17 = .ok (.iconst 0, 1) := by decide +kernel
theorem dL_dueIn_18 : decode cL_dueIn 18 = .ok (.ireturn, 1) := by decide +kernel
theorem dL_position_0 : decode cL_position 0 = .ok (.aload_n 3, 1) := by decide +kernel
theorem dL_position_1 : decode cL_position 1 = .ok (.iconst 0, 1) := by decide +kernel
theorem dL_position_2 : decode cL_position 2 = .ok (.aload_n 0, 1) := by decide +kernel
theorem dL_position_3 : decode cL_position 3 = .ok (.iload_n 1, 1) := by decide +kernel
theorem dL_position_4 : decode cL_position 4 = .ok (.iload_n 2, 1) := by decide +kernel
theorem dL_position_5 : decode cL_position 5 = .ok (.invokevirtual 70, 3) := by decide +kernel
theorem dL_position_8 : decode cL_position 8 = .ok (.i2l, 1) := by decide +kernel
theorem dL_position_9 : decode cL_position 9 = .ok (.lastore, 1) := by decide +kernel
theorem dL_position_10 : decode cL_position 10 = .ok (.goto 7, 3) := by decide +kernel
theorem dL_position_13 : decode cL_position 13 = .ok (.astore 4, 2) := by decide +kernel
theorem dL_position_15 : decode cL_position 15 = .ok (.iconst 1, 1) := by decide +kernel
theorem dL_position_16 : decode cL_position 16 = .ok (.ireturn, 1) := by decide +kernel
theorem dL_position_17 : decode cL_position 17 = .ok (.iconst 0, 1) := by decide +kernel
theorem dL_position_18 : decode cL_position 18 = .ok (.ireturn, 1) := by decide +kernel
theorem dL_underWay_0 : decode cL_underWay 0 = .ok (.aload_n 3, 1) := by decide +kernel
theorem dL_underWay_1 : decode cL_underWay 1 = .ok (.iconst 0, 1) := by decide +kernel
theorem dL_underWay_2 : decode cL_underWay 2 = .ok (.aload_n 0, 1) := by decide +kernel
theorem dL_underWay_3 : decode cL_underWay 3 = .ok (.iload_n 1, 1) := by decide +kernel
theorem dL_underWay_4 : decode cL_underWay 4 = .ok (.iload_n 2, 1) := by decide +kernel
theorem dL_underWay_5 : decode cL_underWay 5 = .ok (.invokevirtual 73, 3) := by decide +kernel
theorem dL_underWay_8 : decode cL_underWay 8 = .ok (.i2l, 1) := by decide +kernel
theorem dL_underWay_9 : decode cL_underWay 9 = .ok (.lastore, 1) := by decide +kernel
theorem dL_underWay_10 : decode cL_underWay 10 = .ok (.goto 11, 3) := by decide +kernel
theorem dL_underWay_13 : decode cL_underWay 13 = .ok (.astore 4, 2) := by decide +kernel
theorem dL_underWay_15 : decode cL_underWay 15 = .ok (.iconst 1, 1) := by decide +kernel
theorem dL_underWay_16 : decode cL_underWay 16 = .ok (.ireturn, 1) := by decide +kernel
theorem dL_underWay_17 : decode cL_underWay 17 = .ok (.astore 4, 2) := by decide +kernel
theorem dL_underWay_19 : decode cL_underWay 19 = .ok (.iconst 2, 1) := by decide +kernel
theorem dL_underWay_20 : decode cL_underWay 20 = .ok (.ireturn, 1) := by decide +kernel
theorem dL_underWay_21 : decode cL_underWay 21 = .ok (.iconst 0, 1) := by decide +kernel
theorem dL_underWay_22 : decode cL_underWay 22 = .ok (.ireturn, 1) := by decide +kernel
theorem dL_fleet_0 : decode cL_fleet 0 = .ok (.aload_n 2, 1) := by decide +kernel
theorem dL_fleet_1 : decode cL_fleet 1 = .ok (.iconst 0, 1) := by decide +kernel
theorem dL_fleet_2 : decode cL_fleet 2 = .ok (.aload_n 0, 1) := by decide +kernel
theorem dL_fleet_3 : decode cL_fleet 3 = .ok (.iload_n 1, 1) := by decide +kernel
theorem dL_fleet_4 : decode cL_fleet 4 = .ok (.invokevirtual 76, 3) := by decide +kernel
theorem dL_fleet_7 : decode cL_fleet 7 = .ok (.i2l, 1) := by decide +kernel
theorem dL_fleet_8 : decode cL_fleet 8 = .ok (.lastore, 1) := by decide +kernel
theorem dL_fleet_9 : decode cL_fleet 9 = .ok (.goto 6, 3) := by decide +kernel
theorem dL_fleet_12 : decode cL_fleet 12 = .ok (.astore_n 3, 1) := by decide +kernel
theorem dL_fleet_13 : decode cL_fleet 13 = .ok (.iconst 1, 1) := by decide +kernel
theorem dL_fleet_14 : decode cL_fleet 14 = .ok (.ireturn, 1) := by decide +kernel
theorem dL_fleet_15 : decode cL_fleet 15 = .ok (.iconst 0, 1) := by decide +kernel
theorem dL_fleet_16 : decode cL_fleet 16 = .ok (.ireturn, 1) := by decide +kernel
theorem dL_nextArrival_0 : decode cL_nextArrival 0 = .ok (.aload_n 3, 1) := by decide +kernel
theorem dL_nextArrival_1 : decode cL_nextArrival 1 = .ok (.iconst 0, 1) := by decide +kernel
theorem dL_nextArrival_2 : decode cL_nextArrival 2 = .ok (.aload_n 0, 1) := by decide +kernel
theorem dL_nextArrival_3 : decode cL_nextArrival 3 = .ok (.iload_n 1, 1) := by decide +kernel
theorem dL_nextArrival_4 : decode cL_nextArrival 4 = .ok (.iload_n 2, 1) := by decide +kernel
theorem dL_nextArrival_5 : decode cL_nextArrival 5 = .ok (.invokevirtual 79, 3) := by decide +kernel
theorem dL_nextArrival_8 : decode cL_nextArrival 8 = .ok (.i2l, 1) := by decide +kernel
theorem dL_nextArrival_9 : decode cL_nextArrival 9 = .ok (.lastore, 1) := by decide +kernel
theorem dL_nextArrival_10 : decode cL_nextArrival 10 = .ok (.goto 7, 3) := by decide +kernel
theorem dL_nextArrival_13 : decode cL_nextArrival 13 = .ok (.astore 4, 2) := by decide +kernel
theorem dL_nextArrival_15 : decode cL_nextArrival 15 = .ok (.iconst 1, 1) := by decide +kernel
theorem dL_nextArrival_16 : decode cL_nextArrival 16 = .ok (.ireturn, 1) := by decide +kernel
theorem dL_nextArrival_17 : decode cL_nextArrival 17 = .ok (.iconst 0, 1) := by decide +kernel
theorem dL_nextArrival_18 : decode cL_nextArrival 18 = .ok (.ireturn, 1) := by decide +kernel
theorem dL_dueDay_0 : decode cL_dueDay 0 = .ok (.aload_n 2, 1) := by decide +kernel
theorem dL_dueDay_1 : decode cL_dueDay 1 = .ok (.iconst 0, 1) := by decide +kernel
theorem dL_dueDay_2 : decode cL_dueDay 2 = .ok (.aload_n 0, 1) := by decide +kernel
theorem dL_dueDay_3 : decode cL_dueDay 3 = .ok (.iload_n 1, 1) := by decide +kernel
theorem dL_dueDay_4 : decode cL_dueDay 4 = .ok (.invokevirtual 82, 3) := by decide +kernel
theorem dL_dueDay_7 : decode cL_dueDay 7 = .ok (.i2l, 1) := by decide +kernel
theorem dL_dueDay_8 : decode cL_dueDay 8 = .ok (.lastore, 1) := by decide +kernel
theorem dL_dueDay_9 : decode cL_dueDay 9 = .ok (.goto 6, 3) := by decide +kernel
theorem dL_dueDay_12 : decode cL_dueDay 12 = .ok (.astore_n 3, 1) := by decide +kernel
theorem dL_dueDay_13 : decode cL_dueDay 13 = .ok (.iconst 1, 1) := by decide +kernel
theorem dL_dueDay_14 : decode cL_dueDay 14 = .ok (.ireturn, 1) := by decide +kernel
theorem dL_dueDay_15 : decode cL_dueDay 15 = .ok (.iconst 0, 1) := by decide +kernel
theorem dL_dueDay_16 : decode cL_dueDay 16 = .ok (.ireturn, 1) := by decide +kernel
theorem dL_dueKind_0 : decode cL_dueKind 0 = .ok (.aload_n 2, 1) := by decide +kernel
theorem dL_dueKind_1 : decode cL_dueKind 1 = .ok (.iconst 0, 1) := by decide +kernel
theorem dL_dueKind_2 : decode cL_dueKind 2 = .ok (.aload_n 0, 1) := by decide +kernel
theorem dL_dueKind_3 : decode cL_dueKind 3 = .ok (.iload_n 1, 1) := by decide +kernel
theorem dL_dueKind_4 : decode cL_dueKind 4 = .ok (.invokevirtual 85, 3) := by decide +kernel
theorem dL_dueKind_7 : decode cL_dueKind 7 = .ok (.i2l, 1) := by decide +kernel
theorem dL_dueKind_8 : decode cL_dueKind 8 = .ok (.lastore, 1) := by decide +kernel
theorem dL_dueKind_9 : decode cL_dueKind 9 = .ok (.goto 6, 3) := by decide +kernel
theorem dL_dueKind_12 : decode cL_dueKind 12 = .ok (.astore_n 3, 1) := by decide +kernel
theorem dL_dueKind_13 : decode cL_dueKind 13 = .ok (.iconst 1, 1) := by decide +kernel
theorem dL_dueKind_14 : decode cL_dueKind 14 = .ok (.ireturn, 1) := by decide +kernel
theorem dL_dueKind_15 : decode cL_dueKind 15 = .ok (.iconst 0, 1) := by decide +kernel
theorem dL_dueKind_16 : decode cL_dueKind 16 = .ok (.ireturn, 1) := by decide +kernel
theorem dL_dueItem_0 : decode cL_dueItem 0 = .ok (.aload_n 2, 1) := by decide +kernel
theorem dL_dueItem_1 : decode cL_dueItem 1 = .ok (.iconst 0, 1) := by decide +kernel
theorem dL_dueItem_2 : decode cL_dueItem 2 = .ok (.aload_n 0, 1) := by decide +kernel
theorem dL_dueItem_3 : decode cL_dueItem 3 = .ok (.iload_n 1, 1) := by decide +kernel
theorem dL_dueItem_4 : decode cL_dueItem 4 = .ok (.invokevirtual 88, 3) := by decide +kernel
theorem dL_dueItem_7 : decode cL_dueItem 7 = .ok (.i2l, 1) := by decide +kernel
theorem dL_dueItem_8 : decode cL_dueItem 8 = .ok (.lastore, 1) := by decide +kernel
theorem dL_dueItem_9 : decode cL_dueItem 9 = .ok (.goto 6, 3) := by decide +kernel
theorem dL_dueItem_12 : decode cL_dueItem 12 = .ok (.astore_n 3, 1) := by decide +kernel
theorem dL_dueItem_13 : decode cL_dueItem 13 = .ok (.iconst 1, 1) := by decide +kernel
theorem dL_dueItem_14 : decode cL_dueItem 14 = .ok (.ireturn, 1) := by decide +kernel
theorem dL_dueItem_15 : decode cL_dueItem 15 = .ok (.iconst 0, 1) := by decide +kernel
theorem dL_dueItem_16 : decode cL_dueItem 16 = .ok (.ireturn, 1) := by decide +kernel
theorem dL_dueSite_0 : decode cL_dueSite 0 = .ok (.aload_n 2, 1) := by decide +kernel
theorem dL_dueSite_1 : decode cL_dueSite 1 = .ok (.iconst 0, 1) := by decide +kernel
theorem dL_dueSite_2 : decode cL_dueSite 2 = .ok (.aload_n 0, 1) := by decide +kernel
theorem dL_dueSite_3 : decode cL_dueSite 3 = .ok (.iload_n 1, 1) := by decide +kernel
theorem dL_dueSite_4 : decode cL_dueSite 4 = .ok (.invokevirtual 91, 3) := by decide +kernel
theorem dL_dueSite_7 : decode cL_dueSite 7 = .ok (.i2l, 1) := by decide +kernel
theorem dL_dueSite_8 : decode cL_dueSite 8 = .ok (.lastore, 1) := by decide +kernel
theorem dL_dueSite_9 : decode cL_dueSite 9 = .ok (.goto 6, 3) := by decide +kernel
theorem dL_dueSite_12 : decode cL_dueSite 12 = .ok (.astore_n 3, 1) := by decide +kernel
theorem dL_dueSite_13 : decode cL_dueSite 13 = .ok (.iconst 1, 1) := by decide +kernel
theorem dL_dueSite_14 : decode cL_dueSite 14 = .ok (.ireturn, 1) := by decide +kernel
theorem dL_dueSite_15 : decode cL_dueSite 15 = .ok (.iconst 0, 1) := by decide +kernel
theorem dL_dueSite_16 : decode cL_dueSite 16 = .ok (.ireturn, 1) := by decide +kernel
theorem dL_dueOwner_0 : decode cL_dueOwner 0 = .ok (.aload_n 2, 1) := by decide +kernel
