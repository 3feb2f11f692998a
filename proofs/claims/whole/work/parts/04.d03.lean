theorem dX8_placeOrder_54 : decode cX8_placeOrder 54 = .ok (.iload 4, 2) := by decide +kernel
theorem dX8_placeOrder_56 : decode cX8_placeOrder 56 = .ok (.iconst 0, 1) := by decide +kernel
theorem dX8_placeOrder_57 : decode cX8_placeOrder 57 = .ok (.iadd, 1) := by decide +kernel
theorem dX8_placeOrder_58 : decode cX8_placeOrder 58 = .ok (.iload_n 2, 1) := by decide +kernel
theorem dX8_placeOrder_59 : decode cX8_placeOrder 59 = .ok (.iastore, 1) := by decide +kernel
theorem dX8_placeOrder_60 : decode cX8_placeOrder 60 = .ok (.aload_n 0, 1) := by decide +kernel
theorem dX8_placeOrder_61 : decode cX8_placeOrder 61 = .ok (.getfield 7, 3) := by decide +kernel
theorem dX8_placeOrder_64 : decode cX8_placeOrder 64 = .ok (.iload 4, 2) := by decide +kernel
theorem dX8_placeOrder_66 : decode cX8_placeOrder 66 = .ok (.iconst 1, 1) := by decide +kernel
theorem dX8_placeOrder_67 : decode cX8_placeOrder 67 = .ok (.iadd, 1) := by decide +kernel
theorem dX8_placeOrder_68 : decode cX8_placeOrder 68 = .ok (.iload_n 1, 1) := by decide +kernel
theorem dX8_placeOrder_69 : decode cX8_placeOrder 69 = .ok (.iastore, 1) := by decide +kernel
theorem dX8_placeOrder_70 : decode cX8_placeOrder 70 = .ok (.aload_n 0, 1) := by decide +kernel
theorem dX8_placeOrder_71 : decode cX8_placeOrder 71 = .ok (.getfield 7, 3) := by decide +kernel
theorem dX8_placeOrder_74 : decode cX8_placeOrder 74 = .ok (.iload 4, 2) := by decide +kernel
theorem dX8_placeOrder_76 : decode cX8_placeOrder 76 = .ok (.iconst 2, 1) := by decide +kernel
theorem dX8_placeOrder_77 : decode cX8_placeOrder 77 = .ok (.iadd, 1) := by decide +kernel
theorem dX8_placeOrder_78 : decode cX8_placeOrder 78 = .ok (.iload_n 3, 1) := by decide +kernel
theorem dX8_placeOrder_79 : decode cX8_placeOrder 79 = .ok (.iastore, 1) := by decide +kernel
theorem dX8_placeOrder_80 : decode cX8_placeOrder 80 = .ok (.return_, 1) := by decide +kernel
theorem dX8_appendCustomer_0 : decode cX8_appendCustomer 0 = .ok (.aload_n 0, 1) := by decide +kernel
theorem dX8_appendCustomer_1 : decode cX8_appendCustomer 1 = .ok (.iconst 5, 1) := by decide +kernel
theorem dX8_appendCustomer_2 : decode cX8_appendCustomer 2 = .ok (.sipush 4972, 3) := by decide +kernel
theorem dX8_appendCustomer_5 : decode cX8_appendCustomer 5 = .ok (.iconst 4, 1) := by decide +kernel
theorem dX8_appendCustomer_6 : decode cX8_appendCustomer 6 = .ok (.invokevirtual 37, 3) := by decide +kernel
theorem dX8_appendCustomer_9 : decode cX8_appendCustomer 9 = .ok (.istore 4, 2) := by decide +kernel
theorem dX8_appendCustomer_11 : decode cX8_appendCustomer 11 = .ok (.aload_n 0, 1) := by decide +kernel
theorem dX8_appendCustomer_12 : decode cX8_appendCustomer 12 = .ok (.getfield 7, 3) := by decide +kernel
theorem dX8_appendCustomer_15 : decode cX8_appendCustomer 15 = .ok (.iload 4, 2) := by decide +kernel
theorem dX8_appendCustomer_17 : decode cX8_appendCustomer 17 = .ok (.iconst 0, 1) := by decide +kernel
theorem dX8_appendCustomer_18 : decode cX8_appendCustomer 18 = .ok (.iadd, 1) := by decide +kernel
theorem dX8_appendCustomer_19 : decode cX8_appendCustomer 19 = .ok (.iload_n 1, 1) := by decide +kernel
theorem dX8_appendCustomer_20 : decode cX8_appendCustomer 20 = .ok (.iastore, 1) := by decide +kernel
theorem dX8_appendCustomer_21 : decode cX8_appendCustomer 21 = .ok (.aload_n 0, 1) := by decide +kernel
theorem dX8_appendCustomer_22 : decode cX8_appendCustomer 22 = .ok (.getfield 7, 3) := by decide +kernel
theorem dX8_appendCustomer_25 : decode cX8_appendCustomer 25 = .ok (.iload 4, 2) := by decide +kernel
theorem dX8_appendCustomer_27 : decode cX8_appendCustomer 27 = .ok (.iconst 1, 1) := by decide +kernel
theorem dX8_appendCustomer_28 : decode cX8_appendCustomer 28 = .ok (.iadd, 1) := by decide +kernel
theorem dX8_appendCustomer_29 : decode cX8_appendCustomer 29 = .ok (.iload_n 2, 1) := by decide +kernel
theorem dX8_appendCustomer_30 : decode cX8_appendCustomer 30 = .ok (.iastore, 1) := by decide +kernel
theorem dX8_appendCustomer_31 : decode cX8_appendCustomer 31 = .ok (.aload_n 0, 1) := by decide +kernel
theorem dX8_appendCustomer_32 : decode cX8_appendCustomer 32 = .ok (.getfield 7, 3) := by decide +kernel
theorem dX8_appendCustomer_35 : decode cX8_appendCustomer 35 = .ok (.iload 4, 2) := by decide +kernel
theorem dX8_appendCustomer_37 : decode cX8_appendCustomer 37 = .ok (.iconst 2, 1) := by decide +kernel
theorem dX8_appendCustomer_38 : decode cX8_appendCustomer 38 = .ok (.iadd, 1) := by decide +kernel
theorem dX8_appendCustomer_39 : decode cX8_appendCustomer 39 = .ok (.iload_n 3, 1) := by decide +kernel
theorem dX8_appendCustomer_40 : decode cX8_appendCustomer 40 = .ok (.iastore, 1) := by decide +kernel
theorem dX8_appendCustomer_41 : decode cX8_appendCustomer 41 = .ok (.aload_n 0, 1) := by decide +kernel
theorem dX8_appendCustomer_42 : decode cX8_appendCustomer 42 = .ok (.getfield 7, 3) := by decide +kernel
theorem dX8_appendCustomer_45 : decode cX8_appendCustomer 45 = .ok (.iload 4, 2) := by decide +kernel
theorem dX8_appendCustomer_47 : decode cX8_appendCustomer 47 = .ok (.iconst 3, 1) := by decide +kernel
theorem dX8_appendCustomer_48 : decode cX8_appendCustomer 48 = .ok (.iadd, 1) := by decide +kernel
theorem dX8_appendCustomer_49 : decode cX8_appendCustomer 49 = .ok (.aload_n 0, 1) := by decide +kernel
theorem dX8_appendCustomer_50 : decode cX8_appendCustomer 50 = .ok (.getfield 7, 3) := by decide +kernel
theorem dX8_appendCustomer_53 : decode cX8_appendCustomer 53 = .ok (.iconst 0, 1) := by decide +kernel
theorem dX8_appendCustomer_54 : decode cX8_appendCustomer 54 = .ok (.iaload, 1) := by decide +kernel
theorem dX8_appendCustomer_55 : decode cX8_appendCustomer 55 = .ok (.iastore, 1) := by decide +kernel
theorem dX8_appendCustomer_56 : decode cX8_appendCustomer 56 = .ok (.return_, 1) := by decide +kernel
theorem dX8_isRefused_0 : decode cX8_isRefused 0 = .ok (.aload_n 0, 1) := by decide +kernel
theorem dX8_isRefused_1 : decode cX8_isRefused 1 = .ok (.getfield 7, 3) := by decide +kernel
theorem dX8_isRefused_4 : decode cX8_isRefused 4 = .ok (.iconst 4, 1) := by decide +kernel
theorem dX8_isRefused_5 : decode cX8_isRefused 5 = .ok (.iaload, 1) := by decide +kernel
theorem dX8_isRefused_6 : decode cX8_isRefused 6 = .ok (.sipush 200, 3) := by decide +kernel
theorem dX8_isRefused_9 : decode cX8_isRefused 9 = .ok (.if_icmp .ge 14, 3) := by decide +kernel
theorem dX8_isRefused_12 : decode cX8_isRefused 12 = .ok (.aload_n 0, 1) := by decide +kernel
theorem dX8_isRefused_13 : decode cX8_isRefused 13 = .ok (.getfield 7, 3) := by decide +kernel
theorem dX8_isRefused_16 : decode cX8_isRefused 16 = .ok (.iconst 5, 1) := by decide +kernel
theorem dX8_isRefused_17 : decode cX8_isRefused 17 = .ok (.iaload, 1) := by decide +kernel
theorem dX8_isRefused_18 : decode cX8_isRefused 18 = .ok (.bipush 100, 2) := by decide +kernel
theorem dX8_isRefused_20 : decode cX8_isRefused 20 = .ok (.if_icmp .lt 7, 3) := by decide +kernel
theorem dX8_isRefused_23 : decode cX8_isRefused 23 = .ok (.iconst 1, 1) := by decide +kernel
theorem dX8_isRefused_24 : decode cX8_isRefused 24 = .ok (.goto 4, 3) := by decide +kernel
theorem dX8_isRefused_27 : decode cX8_isRefused 27 = .ok (.iconst 0, 1) := by decide +kernel
theorem dX8_isRefused_28 : decode cX8_isRefused 28 = .ok (.ireturn, 1) := by decide +kernel
theorem dX8_findBuyer_0 : decode cX8_findBuyer 0 = .ok (.aload_n 0, 1) := by decide +kernel
theorem dX8_findBuyer_1 : decode cX8_findBuyer 1 = .ok (.iload_n 1, 1) := by decide +kernel
theorem dX8_findBuyer_2 : decode cX8_findBuyer 2 = .ok (.iload_n 2, 1) := by decide +kernel
theorem dX8_findBuyer_3 : decode cX8_findBuyer 3 = .ok (.invokevirtual 115, 3) := by decide +kernel
theorem dX8_findBuyer_6 : decode cX8_findBuyer 6 = .ok (.istore_n 3, 1) := by decide +kernel
theorem dX8_findBuyer_7 : decode cX8_findBuyer 7 = .ok (.iload_n 3, 1) := by decide +kernel
theorem dX8_findBuyer_8 : decode cX8_findBuyer 8 = .ok (.iconst (-1), 1) := by decide +kernel
theorem dX8_findBuyer_9 : decode cX8_findBuyer 9 = .ok (.if_icmp .ne 5, 3) := by decide +kernel
theorem dX8_findBuyer_12 : decode cX8_findBuyer 12 = .ok (.iload_n 1, 1) := by decide +kernel
theorem dX8_findBuyer_13 : decode cX8_findBuyer 13 = .ok (.ireturn, 1) := by decide +kernel
theorem dX8_findBuyer_14 : decode cX8_findBuyer 14 = .ok (.aload_n 0, 1) := by decide +kernel
theorem dX8_findBuyer_15 : decode cX8_findBuyer 15 = .ok (.getfield 7, 3) := by decide +kernel
theorem dX8_findBuyer_18 : decode cX8_findBuyer 18 = .ok (.bipush 124, 2) := by decide +kernel
theorem dX8_findBuyer_20 : decode cX8_findBuyer 20 = .ok (.iload_n 3, 1) := by decide +kernel
theorem dX8_findBuyer_21 : decode cX8_findBuyer 21 = .ok (.iload_n 2, 1) := by decide +kernel
theorem dX8_findBuyer_22 : decode cX8_findBuyer 22 = .ok (.invokestatic 62, 3) := by decide +kernel
theorem dX8_findBuyer_25 : decode cX8_findBuyer 25 = .ok (.dup2, 1) := by decide +kernel
theorem dX8_findBuyer_26 : decode cX8_findBuyer 26 = .ok (.iaload, 1) := by decide +kernel
theorem dX8_findBuyer_27 : decode cX8_findBuyer 27 = .ok (.iconst 1, 1) := by decide +kernel
theorem dX8_findBuyer_28 : decode cX8_findBuyer 28 = .ok (.isub, 1) := by decide +kernel
theorem dX8_findBuyer_29 : decode cX8_findBuyer 29 = .ok (.iastore, 1) := by decide +kernel
theorem dX8_findBuyer_30 : decode cX8_findBuyer 30 = .ok (.aload_n 0, 1) := by decide +kernel
theorem dX8_findBuyer_31 : decode cX8_findBuyer 31 = .ok (.getfield 7, 3) := by decide +kernel
theorem dX8_findBuyer_34 : decode cX8_findBuyer 34 = .ok (.sipush 380, 3) := by decide +kernel
theorem dX8_findBuyer_37 : decode cX8_findBuyer 37 = .ok (.iload_n 3, 1) := by decide +kernel
theorem dX8_findBuyer_38 : decode cX8_findBuyer 38 = .ok (.iload_n 2, 1) := by decide +kernel
theorem dX8_findBuyer_39 : decode cX8_findBuyer 39 = .ok (.invokestatic 62, 3) := by decide +kernel
theorem dX8_findBuyer_42 : decode cX8_findBuyer 42 = .ok (.dup2, 1) := by decide +kernel
theorem dX8_findBuyer_43 : decode cX8_findBuyer 43 = .ok (.iaload, 1) := by decide +kernel
theorem dX8_findBuyer_44 : decode cX8_findBuyer 44 = .ok (.iconst 1, 1) := by decide +kernel
theorem dX8_findBuyer_45 : decode cX8_findBuyer 45 = .ok (.iadd, 1) := by decide +kernel
theorem dX8_findBuyer_46 : decode cX8_findBuyer 46 = .ok (.iastore, 1) := by decide +kernel
theorem dX8_findBuyer_47 : decode cX8_findBuyer 47 = .ok (.aload_n 0, 1) := by decide +kernel
theorem dX8_findBuyer_48 : decode cX8_findBuyer 48 = .ok (.iconst 3, 1) := by decide +kernel
theorem dX8_findBuyer_49 : decode cX8_findBuyer 49 = .ok (.iload_n 2, 1) := by decide +kernel
theorem dX8_findBuyer_50 : decode cX8_findBuyer 50 = .ok (.iload_n 1, 1) := by decide +kernel
theorem dX8_findBuyer_51 : decode cX8_findBuyer 51 = .ok (.iload_n 1, 1) := by decide +kernel
theorem dX8_findBuyer_52 : decode cX8_findBuyer 52 = .ok (.aload_n 0, 1) := by decide +kernel
theorem dX8_findBuyer_53 : decode cX8_findBuyer 53 = .ok (.getfield 7, 3) := by decide +kernel
theorem dX8_findBuyer_56 : decode cX8_findBuyer 56 = .ok (.iconst 0, 1) := by decide +kernel
theorem dX8_findBuyer_57 : decode cX8_findBuyer 57 = .ok (.iaload, 1) := by decide +kernel
theorem dX8_findBuyer_58 : decode cX8_findBuyer 58 = .ok (.aload_n 0, 1) := by decide +kernel
theorem dX8_findBuyer_59 : decode cX8_findBuyer 59 = .ok (.iload_n 1, 1) := by decide +kernel
theorem dX8_findBuyer_60 : decode cX8_findBuyer 60 = .ok (.iload_n 3, 1) := by decide +kernel
theorem dX8_findBuyer_61 : decode cX8_findBuyer 61 = .ok (.invokevirtual 51, 3) := by decide +kernel
theorem dX8_findBuyer_64 : decode cX8_findBuyer 64 = .ok (.iadd, 1) := by decide +kernel
theorem dX8_findBuyer_65 : decode cX8_findBuyer 65 = .ok (.iconst 0, 1) := by decide +kernel
theorem dX8_findBuyer_66 : decode cX8_findBuyer 66 = .ok (.invokevirtual 92, 3) := by decide +kernel
theorem dX8_findBuyer_69 : decode cX8_findBuyer 69 = .ok (.iload_n 3, 1) := by decide +kernel
theorem dX8_findBuyer_70 : decode cX8_findBuyer 70 = .ok (.ireturn, 1) := by decide +kernel
theorem dX8_occur_0 : decode cX8_occur 0 = .ok (.aload_n 0, 1) := by decide +kernel
theorem dX8_occur_1 : decode cX8_occur 1 = .ok (.getfield 7, 3) := by decide +kernel
theorem dX8_occur_4 : decode cX8_occur 4 = .ok (.sipush 252, 3) := by decide +kernel
theorem dX8_occur_7 : decode cX8_occur 7 = .ok (.iload_n 1, 1) := by decide +kernel
theorem dX8_occur_8 : decode cX8_occur 8 = .ok (.iload_n 2, 1) := by decide +kernel
theorem dX8_occur_9 : decode cX8_occur 9 = .ok (.invokestatic 62, 3) := by decide +kernel
theorem dX8_occur_12 : decode cX8_occur 12 = .ok (.dup2, 1) := by decide +kernel
theorem dX8_occur_13 : decode cX8_occur 13 = .ok (.iaload, 1) := by decide +kernel
theorem dX8_occur_14 : decode cX8_occur 14 = .ok (.iconst 1, 1) := by decide +kernel
theorem dX8_occur_15 : decode cX8_occur 15 = .ok (.iadd, 1) := by decide +kernel
theorem dX8_occur_16 : decode cX8_occur 16 = .ok (.iastore, 1) := by decide +kernel
theorem dX8_occur_17 : decode cX8_occur 17 = .ok (.aload_n 0, 1) := by decide +kernel
theorem dX8_occur_18 : decode cX8_occur 18 = .ok (.getfield 7, 3) := by decide +kernel
theorem dX8_occur_21 : decode cX8_occur 21 = .ok (.sipush 252, 3) := by decide +kernel
theorem dX8_occur_24 : decode cX8_occur 24 = .ok (.iload_n 1, 1) := by decide +kernel
theorem dX8_occur_25 : decode cX8_occur 25 = .ok (.iload_n 2, 1) := by decide +kernel
theorem dX8_occur_26 : decode cX8_occur 26 = .ok (.invokestatic 62, 3) := by decide +kernel
theorem dX8_occur_29 : decode cX8_occur 29 = .ok (.iaload, 1) := by decide +kernel
theorem dX8_occur_30 : decode cX8_occur 30 = .ok (.istore 4, 2) := by decide +kernel
theorem dX8_occur_32 : decode cX8_occur 32 = .ok (.aload_n 0, 1) := by decide +kernel
theorem dX8_occur_33 : decode cX8_occur 33 = .ok (.getfield 7, 3) := by decide +kernel
theorem dX8_occur_36 : decode cX8_occur 36 = .ok (.sipush 188, 3) := by decide +kernel
theorem dX8_occur_39 : decode cX8_occur 39 = .ok (.iload_n 1, 1) := by decide +kernel
theorem dX8_occur_40 : decode cX8_occur 40 = .ok (.iload_n 2, 1) := by decide +kernel
theorem dX8_occur_41 : decode cX8_occur 41 = .ok (.invokestatic 62, 3) := by decide +kernel
theorem dX8_occur_44 : decode cX8_occur 44 = .ok (.iaload, 1) := by decide +kernel
theorem dX8_occur_45 : decode cX8_occur 45 = .ok (.istore 5, 2) := by decide +kernel
theorem dX8_occur_47 : decode cX8_occur 47 = .ok (.iload 4, 2) := by decide +kernel
theorem dX8_occur_49 : decode cX8_occur 49 = .ok (.iload 5, 2) := by decide +kernel
theorem dX8_occur_51 : decode cX8_occur 51 = .ok (.imul, 1) := by decide +kernel
theorem dX8_occur_52 : decode cX8_occur 52 = .ok (.bipush 10, 2) := by decide +kernel
theorem dX8_occur_54 : decode cX8_occur 54 = .ok (.idiv, 1) := by decide +kernel
theorem dX8_occur_55 : decode cX8_occur 55 = .ok (.iload 4, 2) := by decide +kernel
theorem dX8_occur_57 : decode cX8_occur 57 = .ok (.iconst 1, 1) := by decide +kernel
theorem dX8_occur_58 : decode cX8_occur 58 = .ok (.isub, 1) := by decide +kernel
theorem dX8_occur_59 : decode cX8_occur 59 = .ok (.iload 5, 2) := by decide +kernel
theorem dX8_occur_61 : decode cX8_occur 61 = .ok (.imul, 1) := by decide +kernel
theorem dX8_occur_62 : decode cX8_occur 62 = .ok (.bipush 10, 2) := by decide +kernel
theorem dX8_occur_64 : decode cX8_occur 64 = .ok (.idiv, 1) := by decide +kernel
theorem dX8_occur_65 : decode cX8_occur 65 = .ok (.if_icmp .le 7, 3) := by decide +kernel
theorem dX8_occur_68 : decode cX8_occur 68 = .ok (.iconst 1, 1) := by decide +kernel
theorem dX8_occur_69 : decode cX8_occur 69 = .ok (.goto 4, 3) := by decide +kernel
theorem dX8_occur_72 : decode cX8_occur 72 = .ok (.iconst 0, 1) := by decide +kernel
theorem dX8_occur_73 : decode cX8_occur 73 = .ok (.istore 6, 2) := by decide +kernel
theorem dX8_occur_75 : decode cX8_occur 75 = .ok (.aload_n 0, 1) := by decide +kernel
theorem dX8_occur_76 : decode cX8_occur 76 = .ok (.getfield 7, 3) := by decide +kernel
theorem dX8_occur_79 : decode cX8_occur 79 = .ok (.bipush 124, 2) := by decide +kernel
theorem dX8_occur_81 : decode cX8_occur 81 = .ok (.iload_n 1, 1) := by decide +kernel
theorem dX8_occur_82 : decode cX8_occur 82 = .ok (.iload_n 2, 1) := by decide +kernel
theorem dX8_occur_83 : decode cX8_occur 83 = .ok (.invokestatic 62, 3) := by decide +kernel
theorem dX8_occur_86 : decode cX8_occur 86 = .ok (.iaload, 1) := by decide +kernel
theorem dX8_occur_87 : decode cX8_occur 87 = .ok (.ifCond .le 7, 3) := by decide +kernel
theorem dX8_occur_90 : decode cX8_occur 90 = .ok (.iconst 1, 1) := by decide +kernel
theorem dX8_occur_91 : decode cX8_occur 91 = .ok (.goto 4, 3) := by decide +kernel
theorem dX8_occur_94 : decode cX8_occur 94 = .ok (.iconst 0, 1) := by decide +kernel
theorem dX8_occur_95 : decode cX8_occur 95 = .ok (.istore 7, 2) := by decide +kernel
theorem dX8_occur_97 : decode cX8_occur 97 = .ok (.iload_n 1, 1) := by decide +kernel
theorem dX8_occur_98 : decode cX8_occur 98 = .ok (.istore 8, 2) := by decide +kernel
theorem dX8_occur_100 : decode cX8_occur 100 = .ok (.iload 7, 2) := by decide +kernel
theorem dX8_occur_102 : decode cX8_occur 102 = .ok (.ifCond .eq 39, 3) := by decide +kernel
theorem dX8_occur_105 : decode cX8_occur 105 = .ok (.aload_n 0, 1) := by decide +kernel
theorem dX8_occur_106 : decode cX8_occur 106 = .ok (.getfield 7, 3) := by decide +kernel
theorem dX8_occur_109 : decode cX8_occur 109 = .ok (.bipush 124, 2) := by decide +kernel
theorem dX8_occur_111 : decode cX8_occur 111 = .ok (.iload_n 1, 1) := by decide +kernel
theorem dX8_occur_112 : decode cX8_occur 112 = .ok (.iload_n 2, 1) := by decide +kernel
theorem dX8_occur_113 : decode cX8_occur 113 = .ok (.invokestatic 62, 3) := by decide +kernel
theorem dX8_occur_116 : decode cX8_occur 116 = .ok (.dup2, 1) := by decide +kernel
theorem dX8_occur_117 : decode cX8_occur 117 = .ok (.iaload, 1) := by decide +kernel
theorem dX8_occur_118 : decode cX8_occur 118 = .ok (.iconst 1, 1) := by decide +kernel
theorem dX8_occur_119 : decode cX8_occur 119 = .ok (.isub, 1) := by decide +kernel
theorem dX8_occur_120 : decode cX8_occur 120 = .ok (.iastore, 1) := by decide +kernel
theorem dX8_occur_121 : decode cX8_occur 121 = .ok (.aload_n 0, 1) := by decide +kernel
theorem dX8_occur_122 : decode cX8_occur 122 = .ok (.getfield 7, 3) := by decide +kernel
theorem dX8_occur_125 : decode cX8_occur 125 = .ok (.sipush 284, 3) := by decide +kernel
theorem dX8_occur_128 : decode cX8_occur 128 = .ok (.iload_n 1, 1) := by decide +kernel
theorem dX8_occur_129 : decode cX8_occur 129 = .ok (.iload_n 2, 1) := by decide +kernel
theorem dX8_occur_130 : decode cX8_occur 130 = .ok (.invokestatic 62, 3) := by decide +kernel
theorem dX8_occur_133 : decode cX8_occur 133 = .ok (.dup2, 1) := by decide +kernel
theorem dX8_occur_134 : decode cX8_occur 134 = .ok (.iaload, 1) := by decide +kernel
theorem dX8_occur_135 : decode cX8_occur 135 = .ok (.iconst 1, 1) := by decide +kernel
theorem dX8_occur_136 : decode cX8_occur 136 = .ok (.iadd, 1) := by decide +kernel
theorem dX8_occur_137 : decode cX8_occur 137 = .ok (.iastore, 1) := by decide +kernel
theorem dX8_occur_138 : decode cX8_occur 138 = .ok (.goto 18, 3) := by decide +kernel
theorem dX8_occur_141 : decode cX8_occur 141 = .ok (.aload_n 0, 1) := by decide +kernel
theorem dX8_occur_142 : decode cX8_occur 142 = .ok (.iload_n 1, 1) := by decide +kernel
theorem dX8_occur_143 : decode cX8_occur 143 = .ok (.iload_n 2, 1) := by decide +kernel
theorem dX8_occur_144 : decode cX8_occur 144 = .ok (.iload_n 3, 1) := by decide +kernel
theorem dX8_occur_145 : decode cX8_occur 145 = .ok (.invokevirtual 118, 3) := by decide +kernel
theorem dX8_occur_148 : decode cX8_occur 148 = .ok (.aload_n 0, 1) := by decide +kernel
theorem dX8_occur_149 : decode cX8_occur 149 = .ok (.iload_n 1, 1) := by decide +kernel
theorem dX8_occur_150 : decode cX8_occur 150 = .ok (.iload_n 2, 1) := by decide +kernel
theorem dX8_occur_151 : decode cX8_occur 151 = .ok (.invokevirtual 121, 3) := by decide +kernel
theorem dX8_occur_154 : decode cX8_occur 154 = .ok (.istore 8, 2) := by decide +kernel
theorem dX8_occur_156 : decode cX8_occur 156 = .ok (.iload 6, 2) := by decide +kernel
theorem dX8_occur_158 : decode cX8_occur 158 = .ok (.ifCond .eq 35, 3) := by decide +kernel
theorem dX8_occur_161 : decode cX8_occur 161 = .ok (.aload_n 0, 1) := by decide +kernel
theorem dX8_occur_162 : decode cX8_occur 162 = .ok (.iconst 1, 1) := by decide +kernel
theorem dX8_occur_163 : decode cX8_occur 163 = .ok (.iload_n 2, 1) := by decide +kernel
theorem dX8_occur_164 : decode cX8_occur 164 = .ok (.iload_n 1, 1) := by decide +kernel
theorem dX8_occur_165 : decode cX8_occur 165 = .ok (.iload 8, 2) := by decide +kernel
theorem dX8_occur_167 : decode cX8_occur 167 = .ok (.aload_n 0, 1) := by decide +kernel
theorem dX8_occur_168 : decode cX8_occur 168 = .ok (.getfield 7, 3) := by decide +kernel
theorem dX8_occur_171 : decode cX8_occur 171 = .ok (.iconst 0, 1) := by decide +kernel
theorem dX8_occur_172 : decode cX8_occur 172 = .ok (.iaload, 1) := by decide +kernel
theorem dX8_occur_173 : decode cX8_occur 173 = .ok (.aload_n 0, 1) := by decide +kernel
theorem dX8_occur_174 : decode cX8_occur 174 = .ok (.iload_n 2, 1) := by decide +kernel
theorem dX8_occur_175 : decode cX8_occur 175 = .ok (.iconst 2, 1) := by decide +kernel
theorem dX8_occur_176 : decode cX8_occur 176 = .ok (.invokevirtual 124, 3) := by decide +kernel
theorem dX8_occur_179 : decode cX8_occur 179 = .ok (.iadd, 1) := by decide +kernel
theorem dX8_occur_180 : decode cX8_occur 180 = .ok (.aload_n 0, 1) := by decide +kernel
theorem dX8_occur_181 : decode cX8_occur 181 = .ok (.iload_n 1, 1) := by decide +kernel
theorem dX8_occur_182 : decode cX8_occur 182 = .ok (.iload 8, 2) := by decide +kernel
theorem dX8_occur_184 : decode cX8_occur 184 = .ok (.invokevirtual 51, 3) := by decide +kernel
theorem dX8_occur_187 : decode cX8_occur 187 = .ok (.invokevirtual 92, 3) := by decide +kernel
theorem dX8_occur_190 : decode cX8_occur 190 = .ok (.goto 36, 3) := by decide +kernel
theorem dX8_occur_193 : decode cX8_occur 193 = .ok (.aload_n 0, 1) := by decide +kernel
theorem dX8_occur_194 : decode cX8_occur 194 = .ok (.iconst 0, 1) := by decide +kernel
theorem dX8_occur_195 : decode cX8_occur 195 = .ok (.iload_n 2, 1) := by decide +kernel
theorem dX8_occur_196 : decode cX8_occur 196 = .ok (.iconst 0, 1) := by decide +kernel
theorem dX8_occur_197 : decode cX8_occur 197 = .ok (.iconst 0, 1) := by decide +kernel
theorem dX8_occur_198 : decode cX8_occur 198 = .ok (.aload_n 0, 1) := by decide +kernel
theorem dX8_occur_199 : decode cX8_occur 199 = .ok (.getfield 7, 3) := by decide +kernel
theorem dX8_occur_202 : decode cX8_occur 202 = .ok (.iconst 0, 1) := by decide +kernel
theorem dX8_occur_203 : decode cX8_occur 203 = .ok (.iaload, 1) := by decide +kernel
theorem dX8_occur_204 : decode cX8_occur 204 = .ok (.aload_n 0, 1) := by decide +kernel
theorem dX8_occur_205 : decode cX8_occur 205 = .ok (.getfield 7, 3) := by decide +kernel
theorem dX8_occur_208 : decode cX8_occur 208 = .ok (.bipush 20, 2) := by decide +kernel
theorem dX8_occur_210 : decode cX8_occur 210 = .ok (.iload_n 1, 1) := by decide +kernel
theorem dX8_occur_211 : decode cX8_occur 211 = .ok (.iadd, 1) := by decide +kernel
theorem dX8_occur_212 : decode cX8_occur 212 = .ok (.iaload, 1) := by decide +kernel
theorem dX8_occur_213 : decode cX8_occur 213 = .ok (.iadd, 1) := by decide +kernel
theorem dX8_occur_214 : decode cX8_occur 214 = .ok (.iconst 0, 1) := by decide +kernel
theorem dX8_occur_215 : decode cX8_occur 215 = .ok (.invokevirtual 92, 3) := by decide +kernel
theorem dX8_occur_218 : decode cX8_occur 218 = .ok (.aload_n 0, 1) := by decide +kernel
theorem dX8_occur_219 : decode cX8_occur 219 = .ok (.iload 8, 2) := by decide +kernel
theorem dX8_occur_221 : decode cX8_occur 221 = .ok (.iload_n 2, 1) := by decide +kernel
theorem dX8_occur_222 : decode cX8_occur 222 = .ok (.iload_n 3, 1) := by decide +kernel
theorem dX8_occur_223 : decode cX8_occur 223 = .ok (.invokevirtual 127, 3) := by decide +kernel
theorem dX8_occur_226 : decode cX8_occur 226 = .ok (.iload 7, 2) := by decide +kernel
theorem dX8_occur_228 : decode cX8_occur 228 = .ok (.ireturn, 1) := by decide +kernel
theorem dX8_demand_0 : decode cX8_demand 0 = .ok (.aload_n 0, 1) := by decide +kernel
theorem dX8_demand_1 : decode cX8_demand 1 = .ok (.aload_n 0, 1) := by decide +kernel
theorem dX8_demand_2 : decode cX8_demand 2 = .ok (.iload_n 1, 1) := by decide +kernel
theorem dX8_demand_3 : decode cX8_demand 3 = .ok (.invokevirtual 55, 3) := by decide +kernel
theorem dX8_demand_6 : decode cX8_demand 6 = .ok (.ifCond .eq 11, 3) := by decide +kernel
theorem dX8_demand_9 : decode cX8_demand 9 = .ok (.aload_n 0, 1) := by decide +kernel
theorem dX8_demand_10 : decode cX8_demand 10 = .ok (.iload_n 2, 1) := by decide +kernel
theorem dX8_demand_11 : decode cX8_demand 11 = .ok (.invokevirtual 81, 3) := by decide +kernel
theorem dX8_demand_14 : decode cX8_demand 14 = .ok (.ifCond .ne 7, 3) := by decide +kernel
theorem dX8_demand_17 : decode cX8_demand 17 = .ok (.iconst 1, 1) := by decide +kernel
theorem dX8_demand_18 : decode cX8_demand 18 = .ok (.goto 29, 3) := by decide +kernel
theorem dX8_demand_21 : decode cX8_demand 21 = .ok (.iload_n 3, 1) := by decide +kernel
theorem dX8_demand_22 : decode cX8_demand 22 = .ok (.iconst 0, 1) := by decide +kernel
theorem dX8_demand_23 : decode cX8_demand 23 = .ok (.bipush 9, 2) := by decide +kernel
theorem dX8_demand_25 : decode cX8_demand 25 = .ok (.invokestatic 33, 3) := by decide +kernel
theorem dX8_demand_28 : decode cX8_demand 28 = .ok (.ifCond .ne 7, 3) := by decide +kernel
theorem dX8_demand_31 : decode cX8_demand 31 = .ok (.iconst 2, 1) := by decide +kernel
theorem dX8_demand_32 : decode cX8_demand 32 = .ok (.goto 15, 3) := by decide +kernel
theorem dX8_demand_35 : decode cX8_demand 35 = .ok (.aload_n 0, 1) := by decide +kernel
theorem dX8_demand_36 : decode cX8_demand 36 = .ok (.invokevirtual 130, 3) := by decide +kernel
theorem dX8_demand_39 : decode cX8_demand 39 = .ok (.ifCond .eq 7, 3) := by decide +kernel
theorem dX8_demand_42 : decode cX8_demand 42 = .ok (.iconst 3, 1) := by decide +kernel
theorem dX8_demand_43 : decode cX8_demand 43 = .ok (.goto 4, 3) := by decide +kernel
theorem dX8_demand_46 : decode cX8_demand 46 = .ok (.iconst 0, 1) := by decide +kernel
theorem dX8_demand_47 : decode cX8_demand 47 = .ok (.putfield 30, 3) := by decide +kernel
theorem dX8_demand_50 : decode cX8_demand 50 = .ok (.aload_n 0, 1) := by decide +kernel
theorem dX8_demand_51 : decode cX8_demand 51 = .ok (.getfield 30, 3) := by decide +kernel
theorem dX8_demand_54 : decode cX8_demand 54 = .ok (.ifCond .ne 17, 3) := by decide +kernel
theorem dX8_demand_57 : decode cX8_demand 57 = .ok (.aload_n 0, 1) := by decide +kernel
theorem dX8_demand_58 : decode cX8_demand 58 = .ok (.iload_n 1, 1) := by decide +kernel
theorem dX8_demand_59 : decode cX8_demand 59 = .ok (.iload_n 2, 1) := by decide +kernel
theorem dX8_demand_60 : decode cX8_demand 60 = .ok (.iload_n 3, 1) := by decide +kernel
theorem dX8_demand_61 : decode cX8_demand 61 = .ok (.invokevirtual 134, 3) := by decide +kernel
theorem dX8_demand_64 : decode cX8_demand 64 = .ok (.ifCond .eq 7, 3) := by decide +kernel
theorem dX8_demand_67 : decode cX8_demand 67 = .ok (.iconst 1, 1) := by decide +kernel
theorem dX8_demand_68 : decode cX8_demand 68 = .ok (.goto 4, 3) := by decide +kernel
theorem dX8_demand_71 : decode cX8_demand 71 = .ok (.iconst 0, 1) := by decide +kernel
theorem dX8_demand_72 : decode cX8_demand 72 = .ok (.ireturn, 1) := by decide +kernel
theorem dX8_unitsAt_0 : decode cX8_unitsAt 0 = .ok (.iconst 0, 1) := by decide +kernel
theorem dX8_unitsAt_1 : decode cX8_unitsAt 1 = .ok (.istore 4, 2) := by decide +kernel
theorem dX8_unitsAt_3 : decode cX8_unitsAt 3 = .ok (.iconst 0, 1) := by decide +kernel
theorem dX8_unitsAt_4 : decode cX8_unitsAt 4 = .ok (.istore 5, 2) := by decide +kernel
theorem dX8_unitsAt_6 : decode cX8_unitsAt 6 = .ok (.iload 5, 2) := by decide +kernel
theorem dX8_unitsAt_8 : decode cX8_unitsAt 8 = .ok (.aload_n 0, 1) := by decide +kernel
theorem dX8_unitsAt_9 : decode cX8_unitsAt 9 = .ok (.getfield 7, 3) := by decide +kernel
theorem dX8_unitsAt_12 : decode cX8_unitsAt 12 = .ok (.iconst 4, 1) := by decide +kernel
theorem dX8_unitsAt_13 : decode cX8_unitsAt 13 = .ok (.iaload, 1) := by decide +kernel
theorem dX8_unitsAt_14 : decode cX8_unitsAt 14 = .ok (.if_icmp .ge 52, 3) := by decide +kernel
theorem dX8_unitsAt_17 : decode cX8_unitsAt 17 = .ok (.iload 4, 2) := by decide +kernel
theorem dX8_unitsAt_19 : decode cX8_unitsAt 19 = .ok (.aload_n 0, 1) := by decide +kernel
theorem dX8_unitsAt_20 : decode cX8_unitsAt 20 = .ok (.iload 5, 2) := by decide +kernel
theorem dX8_unitsAt_22 : decode cX8_unitsAt 22 = .ok (.iconst 0, 1) := by decide +kernel
theorem dX8_unitsAt_23 : decode cX8_unitsAt 23 = .ok (.invokevirtual 137, 3) := by decide +kernel
theorem dX8_unitsAt_26 : decode cX8_unitsAt 26 = .ok (.iload_n 1, 1) := by decide +kernel
theorem dX8_unitsAt_27 : decode cX8_unitsAt 27 = .ok (.if_icmp .ne 29, 3) := by decide +kernel
theorem dX8_unitsAt_30 : decode cX8_unitsAt 30 = .ok (.aload_n 0, 1) := by decide +kernel
theorem dX8_unitsAt_31 : decode cX8_unitsAt 31 = .ok (.iload 5, 2) := by decide +kernel
theorem dX8_unitsAt_33 : decode cX8_unitsAt 33 = .ok (.iconst 1, 1) := by decide +kernel
theorem dX8_unitsAt_34 : decode cX8_unitsAt 34 = .ok (.invokevirtual 137, 3) := by decide +kernel
theorem dX8_unitsAt_37 : decode cX8_unitsAt 37 = .ok (.iload_n 2, 1) := by decide +kernel
theorem dX8_unitsAt_38 : decode cX8_unitsAt 38 = .ok (.if_icmp .ne 18, 3) := by decide +kernel
theorem dX8_unitsAt_41 : decode cX8_unitsAt 41 = .ok (.aload_n 0, 1) := by decide +kernel
theorem dX8_unitsAt_42 : decode cX8_unitsAt 42 = .ok (.iload 5, 2) := by decide +kernel
theorem dX8_unitsAt_44 : decode cX8_unitsAt 44 = .ok (.iconst 2, 1) := by decide +kernel
theorem dX8_unitsAt_45 : decode cX8_unitsAt 45 = .ok (.invokevirtual 137, 3) := by decide +kernel
theorem dX8_unitsAt_48 : decode cX8_unitsAt 48 = .ok (.iload_n 3, 1) := by decide +kernel
theorem dX8_unitsAt_49 : decode cX8_unitsAt 49 = .ok (.if_icmp .ne 7, 3) := by decide +kernel
theorem dX8_unitsAt_52 : decode cX8_unitsAt 52 = .ok (.iconst 1, 1) := by decide +kernel
theorem dX8_unitsAt_53 : decode cX8_unitsAt 53 = .ok (.goto 4, 3) := by decide +kernel
theorem dX8_unitsAt_56 : decode cX8_unitsAt 56 = .ok (.iconst 0, 1) := by decide +kernel
theorem dX8_unitsAt_57 : decode cX8_unitsAt 57 = .ok (.iadd, 1) := by decide +kernel
theorem dX8_unitsAt_58 : decode cX8_unitsAt 58 = .ok (.istore 4, 2) := by decide +kernel
theorem dX8_unitsAt_60 : decode cX8_unitsAt 60 = .ok (.iinc 5 1, 3) := by decide +kernel
theorem dX8_unitsAt_63 : decode cX8_unitsAt 63 = .ok (.goto (-57), 3) := by decide +kernel
theorem dX8_unitsAt_66 : decode cX8_unitsAt 66 = .ok (.iload 4, 2) := by decide +kernel
theorem dX8_unitsAt_68 : decode cX8_unitsAt 68 = .ok (.ireturn, 1) := by decide +kernel
theorem dX8_repairAtDepot_0 : decode cX8_repairAtDepot 0 = .ok (.aload_n 0, 1) := by decide +kernel
theorem dX8_repairAtDepot_1 : decode cX8_repairAtDepot 1 = .ok (.iconst 1, 1) := by decide +kernel
theorem dX8_repairAtDepot_2 : decode cX8_repairAtDepot 2 = .ok (.iload_n 1, 1) := by decide +kernel
theorem dX8_repairAtDepot_3 : decode cX8_repairAtDepot 3 = .ok (.iconst 0, 1) := by decide +kernel
theorem dX8_repairAtDepot_4 : decode cX8_repairAtDepot 4 = .ok (.iconst 0, 1) := by decide +kernel
theorem dX8_repairAtDepot_5 : decode cX8_repairAtDepot 5 = .ok (.aload_n 0, 1) := by decide +kernel
theorem dX8_repairAtDepot_6 : decode cX8_repairAtDepot 6 = .ok (.getfield 7, 3) := by decide +kernel
theorem dX8_repairAtDepot_9 : decode cX8_repairAtDepot 9 = .ok (.iconst 0, 1) := by decide +kernel
theorem dX8_repairAtDepot_10 : decode cX8_repairAtDepot 10 = .ok (.iaload, 1) := by decide +kernel
theorem dX8_repairAtDepot_11 : decode cX8_repairAtDepot 11 = .ok (.aload_n 0, 1) := by decide +kernel
theorem dX8_repairAtDepot_12 : decode cX8_repairAtDepot 12 = .ok (.iload_n 1, 1) := by decide +kernel
theorem dX8_repairAtDepot_13 : decode cX8_repairAtDepot 13 = .ok (.iconst 0, 1) := by decide +kernel
theorem dX8_repairAtDepot_14 : decode cX8_repairAtDepot 14 = .ok (.invokevirtual 124, 3) := by decide +kernel
theorem dX8_repairAtDepot_17 : decode cX8_repairAtDepot 17 = .ok (.iadd, 1) := by decide +kernel
theorem dX8_repairAtDepot_18 : decode cX8_repairAtDepot 18 = .ok (.iconst 0, 1) := by decide +kernel
theorem dX8_repairAtDepot_19 : decode cX8_repairAtDepot 19 = .ok (.invokevirtual 92, 3) := by decide +kernel
theorem dX8_repairAtDepot_22 : decode cX8_repairAtDepot 22 = .ok (.return_, 1) := by decide +kernel
theorem dX8_endReturn_0 : decode cX8_endReturn 0 = .ok (.aload_n 0, 1) := by decide +kernel
theorem dX8_endReturn_1 : decode cX8_endReturn 1 = .ok (.iconst 1, 1) := by decide +kernel
theorem dX8_endReturn_2 : decode cX8_endReturn 2 = .ok (.iload_n 1, 1) := by decide +kernel
theorem dX8_endReturn_3 : decode cX8_endReturn 3 = .ok (.iconst 0, 1) := by decide +kernel
theorem dX8_endReturn_4 : decode cX8_endReturn 4 = .ok (.invokevirtual 140, 3) := by decide +kernel
theorem dX8_endReturn_7 : decode cX8_endReturn 7 = .ok (.aload_n 0, 1) := by decide +kernel
theorem dX8_endReturn_8 : decode cX8_endReturn 8 = .ok (.iload_n 1, 1) := by decide +kernel
theorem dX8_endReturn_9 : decode cX8_endReturn 9 = .ok (.iconst 1, 1) := by decide +kernel
theorem dX8_endReturn_10 : decode cX8_endReturn 10 = .ok (.invokevirtual 124, 3) := by decide +kernel
theorem dX8_endReturn_13 : decode cX8_endReturn 13 = .ok (.if_icmp .ge 11, 3) := by decide +kernel
theorem dX8_endReturn_16 : decode cX8_endReturn 16 = .ok (.aload_n 0, 1) := by decide +kernel
theorem dX8_endReturn_17 : decode cX8_endReturn 17 = .ok (.iload_n 1, 1) := by decide +kernel
theorem dX8_endReturn_18 : decode cX8_endReturn 18 = .ok (.invokevirtual 143, 3) := by decide +kernel
theorem dX8_endReturn_21 : decode cX8_endReturn 21 = .ok (.goto 13, 3) := by decide +kernel
theorem dX8_endReturn_24 : decode cX8_endReturn 24 = .ok (.aload_n 0, 1) := by decide +kernel
theorem dX8_endReturn_25 : decode cX8_endReturn 25 = .ok (.iconst 4, 1) := by decide +kernel
theorem dX8_endReturn_26 : decode cX8_endReturn 26 = .ok (.iload_n 1, 1) := by decide +kernel
theorem dX8_endReturn_27 : decode cX8_endReturn 27 = .ok (.iconst 0, 1) := by decide +kernel
theorem dX8_endReturn_28 : decode cX8_endReturn 28 = .ok (.iconst 0, 1) := by decide +kernel
theorem dX8_endReturn_29 : decode cX8_endReturn 29 = .ok (.iconst 0, 1) := by decide +kernel
theorem dX8_endReturn_30 : decode cX8_endReturn 30 = .ok (.iconst 0, 1) := by decide +kernel
theorem dX8_endReturn_31 : decode cX8_endReturn 31 = .ok (.invokevirtual 92, 3) := by decide +kernel
theorem dX8_endReturn_34 : decode cX8_endReturn 34 = .ok (.return_, 1) := by decide +kernel
theorem dX8_endDepotRepair_0 : decode cX8_endDepotRepair 0 = .ok (.iconst (-1), 1) := by decide +kernel
theorem dX8_endDepotRepair_1 : decode cX8_endDepotRepair 1 = .ok (.istore_n 2, 1) := by decide +kernel
theorem dX8_endDepotRepair_2 : decode cX8_endDepotRepair 2 = .ok (.iconst 0, 1) := by decide +kernel
theorem dX8_endDepotRepair_3 : decode cX8_endDepotRepair 3 = .ok (.istore_n 3, 1) := by decide +kernel
theorem dX8_endDepotRepair_4 : decode cX8_endDepotRepair 4 = .ok (.iload_n 3, 1) := by decide +kernel
theorem dX8_endDepotRepair_5 : decode cX8_endDepotRepair 5 = .ok (.aload_n 0, 1) := by decide +kernel
theorem dX8_endDepotRepair_6 : decode cX8_endDepotRepair 6 = .ok (.getfield 7, 3) := by decide +kernel
theorem dX8_endDepotRepair_9 : decode cX8_endDepotRepair 9 = .ok (.iconst 4, 1) := by decide +kernel
theorem dX8_endDepotRepair_10 : decode cX8_endDepotRepair 10 = .ok (.iaload, 1) := by decide +kernel
theorem dX8_endDepotRepair_11 : decode cX8_endDepotRepair 11 = .ok (.if_icmp .ge 52, 3) := by decide +kernel
theorem dX8_endDepotRepair_14 : decode cX8_endDepotRepair 14 = .ok (.iload_n 2, 1) := by decide +kernel
theorem dX8_endDepotRepair_15 : decode cX8_endDepotRepair 15 = .ok (.iconst (-1), 1) := by decide +kernel
theorem dX8_endDepotRepair_16 : decode cX8_endDepotRepair 16 = .ok (.if_icmp .ne 27, 3) := by decide +kernel
theorem dX8_endDepotRepair_19 : decode cX8_endDepotRepair 19 = .ok (.aload_n 0, 1) := by decide +kernel
theorem dX8_endDepotRepair_20 : decode cX8_endDepotRepair 20 = .ok (.iload_n 3, 1) := by decide +kernel
theorem dX8_endDepotRepair_21 : decode cX8_endDepotRepair 21 = .ok (.iconst 0, 1) := by decide +kernel
theorem dX8_endDepotRepair_22 : decode cX8_endDepotRepair 22 = .ok (.invokevirtual 137, 3) := by decide +kernel
theorem dX8_endDepotRepair_25 : decode cX8_endDepotRepair 25 = .ok (.iconst 4, 1) := by decide +kernel
theorem dX8_endDepotRepair_26 : decode cX8_endDepotRepair 26 = .ok (.if_icmp .ne 17, 3) := by decide +kernel
theorem dX8_endDepotRepair_29 : decode cX8_endDepotRepair 29 = .ok (.aload_n 0, 1) := by decide +kernel
theorem dX8_endDepotRepair_30 : decode cX8_endDepotRepair 30 = .ok (.iload_n 3, 1) := by decide +kernel
theorem dX8_endDepotRepair_31 : decode cX8_endDepotRepair 31 = .ok (.iconst 1, 1) := by decide +kernel
theorem dX8_endDepotRepair_32 : decode cX8_endDepotRepair 32 = .ok (.invokevirtual 137, 3) := by decide +kernel
theorem dX8_endDepotRepair_35 : decode cX8_endDepotRepair 35 = .ok (.iload_n 1, 1) := by decide +kernel
theorem dX8_endDepotRepair_36 : decode cX8_endDepotRepair 36 = .ok (.if_icmp .ne 7, 3) := by decide +kernel
theorem dX8_endDepotRepair_39 : decode cX8_endDepotRepair 39 = .ok (.iconst 1, 1) := by decide +kernel
theorem dX8_endDepotRepair_40 : decode cX8_endDepotRepair 40 = .ok (.goto 4, 3) := by decide +kernel
theorem dX8_endDepotRepair_43 : decode cX8_endDepotRepair 43 = .ok (.iconst 0, 1) := by decide +kernel
theorem dX8_endDepotRepair_44 : decode cX8_endDepotRepair 44 = .ok (.istore 4, 2) := by decide +kernel
theorem dX8_endDepotRepair_46 : decode cX8_endDepotRepair 46 = .ok (.iload 4, 2) := by decide +kernel
theorem dX8_endDepotRepair_48 : decode cX8_endDepotRepair 48 = .ok (.ifCond .eq 7, 3) := by decide +kernel
theorem dX8_endDepotRepair_51 : decode cX8_endDepotRepair 51 = .ok (.iload_n 3, 1) := by decide +kernel
theorem dX8_endDepotRepair_52 : decode cX8_endDepotRepair 52 = .ok (.goto 4, 3) := by decide +kernel
theorem dX8_endDepotRepair_55 : decode cX8_endDepotRepair 55 = .ok (.iload_n 2, 1) := by decide +kernel
theorem dX8_endDepotRepair_56 : decode cX8_endDepotRepair 56 = .ok (.istore_n 2, 1) := by decide +kernel
theorem dX8_endDepotRepair_57 : decode cX8_endDepotRepair 57 = .ok (.iinc 3 1, 3) := by decide +kernel
theorem dX8_endDepotRepair_60 : decode cX8_endDepotRepair 60 = .ok (.goto (-56), 3) := by decide +kernel
theorem dX8_endDepotRepair_63 : decode cX8_endDepotRepair 63 = .ok (.iload_n 2, 1) := by decide +kernel
theorem dX8_endDepotRepair_64 : decode cX8_endDepotRepair 64 = .ok (.iconst (-1), 1) := by decide +kernel
theorem dX8_endDepotRepair_65 : decode cX8_endDepotRepair 65 = .ok (.if_icmp .eq 19, 3) := by decide +kernel
theorem dX8_endDepotRepair_68 : decode cX8_endDepotRepair 68 = .ok (.aload_n 0, 1) := by decide +kernel
theorem dX8_endDepotRepair_69 : decode cX8_endDepotRepair 69 = .ok (.iconst 4, 1) := by decide +kernel
theorem dX8_endDepotRepair_70 : decode cX8_endDepotRepair 70 = .ok (.sipush 412, 3) := by decide +kernel
theorem dX8_endDepotRepair_73 : decode cX8_endDepotRepair 73 = .ok (.bipush 6, 2) := by decide +kernel
theorem dX8_endDepotRepair_75 : decode cX8_endDepotRepair 75 = .ok (.iload_n 2, 1) := by decide +kernel
theorem dX8_endDepotRepair_76 : decode cX8_endDepotRepair 76 = .ok (.invokevirtual 99, 3) := by decide +kernel
theorem dX8_endDepotRepair_79 : decode cX8_endDepotRepair 79 = .ok (.aload_n 0, 1) := by decide +kernel
theorem dX8_endDepotRepair_80 : decode cX8_endDepotRepair 80 = .ok (.iload_n 1, 1) := by decide +kernel
theorem dX8_endDepotRepair_81 : decode cX8_endDepotRepair 81 = .ok (.invokevirtual 143, 3) := by decide +kernel
theorem dX8_endDepotRepair_84 : decode cX8_endDepotRepair 84 = .ok (.aload_n 0, 1) := by decide +kernel
theorem dX8_endDepotRepair_85 : decode cX8_endDepotRepair 85 = .ok (.iload_n 1, 1) := by decide +kernel
theorem dX8_endDepotRepair_86 : decode cX8_endDepotRepair 86 = .ok (.invokevirtual 65, 3) := by decide +kernel
theorem dX8_endDepotRepair_89 : decode cX8_endDepotRepair 89 = .ok (.return_, 1) := by decide +kernel
theorem dX8_endLocalRepair_0 : decode cX8_endLocalRepair 0 = .ok (.iload_n 3, 1) := by decide +kernel
theorem dX8_endLocalRepair_1 : decode cX8_endLocalRepair 1 = .ok (.iload_n 2, 1) := by decide +kernel
theorem dX8_endLocalRepair_2 : decode cX8_endLocalRepair 2 = .ok (.if_icmp .ne 10, 3) := by decide +kernel
theorem dX8_endLocalRepair_5 : decode cX8_endLocalRepair 5 = .ok (.aload_n 0, 1) := by decide +kernel
theorem dX8_endLocalRepair_6 : decode cX8_endLocalRepair 6 = .ok (.iload_n 2, 1) := by decide +kernel
theorem dX8_endLocalRepair_7 : decode cX8_endLocalRepair 7 = .ok (.iload_n 1, 1) := by decide +kernel
theorem dX8_endLocalRepair_8 : decode cX8_endLocalRepair 8 = .ok (.invokevirtual 69, 3) := by decide +kernel
theorem dX8_endLocalRepair_11 : decode cX8_endLocalRepair 11 = .ok (.return_, 1) := by decide +kernel
theorem dX8_endLocalRepair_12 : decode cX8_endLocalRepair 12 = .ok (.aload_n 0, 1) := by decide +kernel
theorem dX8_endLocalRepair_13 : decode cX8_endLocalRepair 13 = .ok (.iload_n 2, 1) := by decide +kernel
theorem dX8_endLocalRepair_14 : decode cX8_endLocalRepair 14 = .ok (.iload_n 3, 1) := by decide +kernel
theorem dX8_endLocalRepair_15 : decode cX8_endLocalRepair 15 = .ok (.invokevirtual 51, 3) := by decide +kernel
theorem dX8_endLocalRepair_18 : decode cX8_endLocalRepair 18 = .ok (.ifCond .le 12, 3) := by decide +kernel
theorem dX8_endLocalRepair_21 : decode cX8_endLocalRepair 21 = .ok (.aload_n 0, 1) := by decide +kernel
theorem dX8_endLocalRepair_22 : decode cX8_endLocalRepair 22 = .ok (.iload_n 2, 1) := by decide +kernel
theorem dX8_endLocalRepair_23 : decode cX8_endLocalRepair 23 = .ok (.iload_n 3, 1) := by decide +kernel
theorem dX8_endLocalRepair_24 : decode cX8_endLocalRepair 24 = .ok (.invokevirtual 51, 3) := by decide +kernel
theorem dX8_endLocalRepair_27 : decode cX8_endLocalRepair 27 = .ok (.goto 5, 3) := by decide +kernel
theorem dX8_endLocalRepair_30 : decode cX8_endLocalRepair 30 = .ok (.iload 4, 2) := by decide +kernel
theorem dX8_endLocalRepair_32 : decode cX8_endLocalRepair 32 = .ok (.istore 5, 2) := by decide +kernel
theorem dX8_endLocalRepair_34 : decode cX8_endLocalRepair 34 = .ok (.aload_n 0, 1) := by decide +kernel
theorem dX8_endLocalRepair_35 : decode cX8_endLocalRepair 35 = .ok (.iconst 3, 1) := by decide +kernel
theorem dX8_endLocalRepair_36 : decode cX8_endLocalRepair 36 = .ok (.iload_n 1, 1) := by decide +kernel
theorem dX8_endLocalRepair_37 : decode cX8_endLocalRepair 37 = .ok (.iload_n 3, 1) := by decide +kernel
theorem dX8_endLocalRepair_38 : decode cX8_endLocalRepair 38 = .ok (.iload_n 3, 1) := by decide +kernel
theorem dX8_endLocalRepair_39 : decode cX8_endLocalRepair 39 = .ok (.aload_n 0, 1) := by decide +kernel
theorem dX8_endLocalRepair_40 : decode cX8_endLocalRepair 40 = .ok (.getfield 7, 3) := by decide +kernel
theorem dX8_endLocalRepair_43 : decode cX8_endLocalRepair 43 = .ok (.iconst 0, 1) := by decide +kernel
theorem dX8_endLocalRepair_44 : decode cX8_endLocalRepair 44 = .ok (.iaload, 1) := by decide +kernel
theorem dX8_endLocalRepair_45 : decode cX8_endLocalRepair 45 = .ok (.iload 5, 2) := by decide +kernel
theorem dX8_endLocalRepair_47 : decode cX8_endLocalRepair 47 = .ok (.iadd, 1) := by decide +kernel
theorem dX8_endLocalRepair_48 : decode cX8_endLocalRepair 48 = .ok (.iconst 0, 1) := by decide +kernel
theorem dX8_endLocalRepair_49 : decode cX8_endLocalRepair 49 = .ok (.invokevirtual 92, 3) := by decide +kernel
theorem dX8_endLocalRepair_52 : decode cX8_endLocalRepair 52 = .ok (.return_, 1) := by decide +kernel
theorem dX8_firstDue_0 : decode cX8_firstDue 0 = .ok (.iconst 0, 1) := by decide +kernel
theorem dX8_firstDue_1 : decode cX8_firstDue 1 = .ok (.istore_n 2, 1) := by decide +kernel
theorem dX8_firstDue_2 : decode cX8_firstDue 2 = .ok (.iload_n 2, 1) := by decide +kernel
theorem dX8_firstDue_3 : decode cX8_firstDue 3 = .ok (.aload_n 0, 1) := by decide +kernel
theorem dX8_firstDue_4 : decode cX8_firstDue 4 = .ok (.getfield 7, 3) := by decide +kernel
theorem dX8_firstDue_7 : decode cX8_firstDue 7 = .ok (.iconst 4, 1) := by decide +kernel
theorem dX8_firstDue_8 : decode cX8_firstDue 8 = .ok (.iaload, 1) := by decide +kernel
theorem dX8_firstDue_9 : decode cX8_firstDue 9 = .ok (.if_icmp .ge 36, 3) := by decide +kernel
theorem dX8_firstDue_12 : decode cX8_firstDue 12 = .ok (.aload_n 0, 1) := by decide +kernel
theorem dX8_firstDue_13 : decode cX8_firstDue 13 = .ok (.iload_n 2, 1) := by decide +kernel
theorem dX8_firstDue_14 : decode cX8_firstDue 14 = .ok (.iconst 0, 1) := by decide +kernel
theorem dX8_firstDue_15 : decode cX8_firstDue 15 = .ok (.invokevirtual 137, 3) := by decide +kernel
theorem dX8_firstDue_18 : decode cX8_firstDue 18 = .ok (.iload_n 1, 1) := by decide +kernel
theorem dX8_firstDue_19 : decode cX8_firstDue 19 = .ok (.if_icmp .ne 20, 3) := by decide +kernel
theorem dX8_firstDue_22 : decode cX8_firstDue 22 = .ok (.aload_n 0, 1) := by decide +kernel
theorem dX8_firstDue_23 : decode cX8_firstDue 23 = .ok (.iload_n 2, 1) := by decide +kernel
theorem dX8_firstDue_24 : decode cX8_firstDue 24 = .ok (.iconst 4, 1) := by decide +kernel
theorem dX8_firstDue_25 : decode cX8_firstDue 25 = .ok (.invokevirtual 137, 3) := by decide +kernel
theorem dX8_firstDue_28 : decode cX8_firstDue 28 = .ok (.aload_n 0, 1) := by decide +kernel
theorem dX8_firstDue_29 : decode cX8_firstDue 29 = .ok (.getfield 7, 3) := by decide +kernel
theorem dX8_firstDue_32 : decode cX8_firstDue 32 = .ok (.iconst 0, 1) := by decide +kernel
theorem dX8_firstDue_33 : decode cX8_firstDue 33 = .ok (.iaload, 1) := by decide +kernel
theorem dX8_firstDue_34 : decode cX8_firstDue 34 = .ok (.if_icmp .ne 5, 3) := by decide +kernel
theorem dX8_firstDue_37 : decode cX8_firstDue 37 = .ok (.iload_n 2, 1) := by decide +kernel
theorem dX8_firstDue_38 : decode cX8_firstDue 38 = .ok (.ireturn, 1) := by decide +kernel
theorem dX8_firstDue_39 : decode cX8_firstDue 39 = .ok (.iinc 2 1, 3) := by decide +kernel
theorem dX8_firstDue_42 : decode cX8_firstDue 42 = .ok (.goto (-40), 3) := by decide +kernel
theorem dX8_firstDue_45 : decode cX8_firstDue 45 = .ok (.iconst (-1), 1) := by decide +kernel
theorem dX8_firstDue_46 : decode cX8_firstDue 46 = .ok (.ireturn, 1) := by decide +kernel
theorem dX8_end_0 : decode cX8_end 0 = .ok (.aload_n 0, 1) := by decide +kernel
theorem dX8_end_1 : decode cX8_end 1 = .ok (.iload_n 1, 1) := by decide +kernel
theorem dX8_end_2 : decode cX8_end 2 = .ok (.iconst 0, 1) := by decide +kernel
theorem dX8_end_3 : decode cX8_end 3 = .ok (.invokevirtual 137, 3) := by decide +kernel
theorem dX8_end_6 : decode cX8_end 6 = .ok (.istore_n 2, 1) := by decide +kernel
theorem dX8_end_7 : decode cX8_end 7 = .ok (.aload_n 0, 1) := by decide +kernel
theorem dX8_end_8 : decode cX8_end 8 = .ok (.iload_n 1, 1) := by decide +kernel
theorem dX8_end_9 : decode cX8_end 9 = .ok (.iconst 1, 1) := by decide +kernel
theorem dX8_end_10 : decode cX8_end 10 = .ok (.invokevirtual 137, 3) := by decide +kernel
theorem dX8_end_13 : decode cX8_end 13 = .ok (.istore_n 3, 1) := by decide +kernel
theorem dX8_end_14 : decode cX8_end 14 = .ok (.aload_n 0, 1) := by decide +kernel
theorem dX8_end_15 : decode cX8_end 15 = .ok (.iload_n 1, 1) := by decide +kernel
theorem dX8_end_16 : decode cX8_end 16 = .ok (.iconst 2, 1) := by decide +kernel
theorem dX8_end_17 : decode cX8_end 17 = .ok (.invokevirtual 137, 3) := by decide +kernel
theorem dX8_end_20 : decode cX8_end 20 = .ok (.istore 4, 2) := by decide +kernel
theorem dX8_end_22 : decode cX8_end 22 = .ok (.aload_n 0, 1) := by decide +kernel
theorem dX8_end_23 : decode cX8_end 23 = .ok (.iload_n 1, 1) := by decide +kernel
theorem dX8_end_24 : decode cX8_end 24 = .ok (.iconst 3, 1) := by decide +kernel
theorem dX8_end_25 : decode cX8_end 25 = .ok (.invokevirtual 137, 3) := by decide +kernel
theorem dX8_end_28 : decode cX8_end 28 = .ok (.istore 5, 2) := by decide +kernel
theorem dX8_end_30 : decode cX8_end 30 = .ok (.aload_n 0, 1) := by decide +kernel
theorem dX8_end_31 : decode cX8_end 31 = .ok (.iload_n 1, 1) := by decide +kernel
theorem dX8_end_32 : decode cX8_end 32 = .ok (.iconst 5, 1) := by decide +kernel
theorem dX8_end_33 : decode cX8_end 33 = .ok (.invokevirtual 137, 3) := by decide +kernel
theorem dX8_end_36 : decode cX8_end 36 = .ok (.istore 6, 2) := by decide +kernel
theorem dX8_end_38 : decode cX8_end 38 = .ok (.aload_n 0, 1) := by decide +kernel
theorem dX8_end_39 : decode cX8_end 39 = .ok (.iconst 4, 1) := by decide +kernel
theorem dX8_end_40 : decode cX8_end 40 = .ok (.sipush 412, 3) := by decide +kernel
theorem dX8_end_43 : decode cX8_end 43 = .ok (.bipush 6, 2) := by decide +kernel
theorem dX8_end_45 : decode cX8_end 45 = .ok (.iload_n 1, 1) := by decide +kernel
theorem dX8_end_46 : decode cX8_end 46 = .ok (.invokevirtual 99, 3) := by decide +kernel
theorem dX8_end_49 : decode cX8_end 49 = .ok (.iload_n 2, 1) := by decide +kernel
theorem dX8_end_50 : decode cX8_end 50 = .ok (.ifCond .ne 11, 3) := by decide +kernel
theorem dX8_end_53 : decode cX8_end 53 = .ok (.aload_n 0, 1) := by decide +kernel
theorem dX8_end_54 : decode cX8_end 54 = .ok (.iload_n 3, 1) := by decide +kernel
theorem dX8_end_55 : decode cX8_end 55 = .ok (.invokevirtual 146, 3) := by decide +kernel
theorem dX8_end_58 : decode cX8_end 58 = .ok (.goto 47, 3) := by decide +kernel
theorem dX8_end_61 : decode cX8_end 61 = .ok (.iload_n 2, 1) := by decide +kernel
theorem dX8_end_62 : decode cX8_end 62 = .ok (.iconst 1, 1) := by decide +kernel
theorem dX8_end_63 : decode cX8_end 63 = .ok (.if_icmp .ne 16, 3) := by decide +kernel
theorem dX8_end_66 : decode cX8_end 66 = .ok (.iload 4, 2) := by decide +kernel
theorem dX8_end_68 : decode cX8_end 68 = .ok (.ifCond .ne 11, 3) := by decide +kernel
theorem dX8_end_71 : decode cX8_end 71 = .ok (.aload_n 0, 1) := by decide +kernel
theorem dX8_end_72 : decode cX8_end 72 = .ok (.iload_n 3, 1) := by decide +kernel
theorem dX8_end_73 : decode cX8_end 73 = .ok (.invokevirtual 149, 3) := by decide +kernel
theorem dX8_end_76 : decode cX8_end 76 = .ok (.goto 29, 3) := by decide +kernel
theorem dX8_end_79 : decode cX8_end 79 = .ok (.iload_n 2, 1) := by decide +kernel
theorem dX8_end_80 : decode cX8_end 80 = .ok (.iconst 1, 1) := by decide +kernel
theorem dX8_end_81 : decode cX8_end 81 = .ok (.if_icmp .ne 17, 3) := by decide +kernel
theorem dX8_end_84 : decode cX8_end 84 = .ok (.aload_n 0, 1) := by decide +kernel
theorem dX8_end_85 : decode cX8_end 85 = .ok (.iload_n 3, 1) := by decide +kernel
theorem dX8_end_86 : decode cX8_end 86 = .ok (.iload 4, 2) := by decide +kernel
theorem dX8_end_88 : decode cX8_end 88 = .ok (.iload 5, 2) := by decide +kernel
theorem dX8_end_90 : decode cX8_end 90 = .ok (.iload 6, 2) := by decide +kernel
theorem dX8_end_92 : decode cX8_end 92 = .ok (.invokevirtual 152, 3) := by decide +kernel
theorem dX8_end_95 : decode cX8_end 95 = .ok (.goto 10, 3) := by decide +kernel
theorem dX8_end_98 : decode cX8_end 98 = .ok (.aload_n 0, 1) := by decide +kernel
theorem dX8_end_99 : decode cX8_end 99 = .ok (.iload 5, 2) := by decide +kernel
theorem dX8_end_101 : decode cX8_end 101 = .ok (.iload_n 3, 1) := by decide +kernel
theorem dX8_end_102 : decode cX8_end 102 = .ok (.invokevirtual 69, 3) := by decide +kernel
theorem dX8_end_105 : decode cX8_end 105 = .ok (.return_, 1) := by decide +kernel
theorem dX8_beginDay_0 : decode cX8_beginDay 0 = .ok (.aload_n 0, 1) := by decide +kernel
theorem dX8_beginDay_1 : decode cX8_beginDay 1 = .ok (.getfield 7, 3) := by decide +kernel
theorem dX8_beginDay_4 : decode cX8_beginDay 4 = .ok (.iconst 0, 1) := by decide +kernel
theorem dX8_beginDay_5 : decode cX8_beginDay 5 = .ok (.dup2, 1) := by decide +kernel
theorem dX8_beginDay_6 : decode cX8_beginDay 6 = .ok (.iaload, 1) := by decide +kernel
theorem dX8_beginDay_7 : decode cX8_beginDay 7 = .ok (.iconst 1, 1) := by decide +kernel
theorem dX8_beginDay_8 : decode cX8_beginDay 8 = .ok (.iadd, 1) := by decide +kernel
theorem dX8_beginDay_9 : decode cX8_beginDay 9 = .ok (.iastore, 1) := by decide +kernel
theorem dX8_beginDay_10 : decode cX8_beginDay 10 = .ok (.iconst 0, 1) := by decide +kernel
theorem dX8_beginDay_11 : decode cX8_beginDay 11 = .ok (.istore_n 1, 1) := by decide +kernel
theorem dX8_beginDay_12 : decode cX8_beginDay 12 = .ok (.iload_n 1, 1) := by decide +kernel
theorem dX8_beginDay_13 : decode cX8_beginDay 13 = .ok (.iconst 3, 1) := by decide +kernel
theorem dX8_beginDay_14 : decode cX8_beginDay 14 = .ok (.if_icmp .gt 34, 3) := by decide +kernel
theorem dX8_beginDay_17 : decode cX8_beginDay 17 = .ok (.aload_n 0, 1) := by decide +kernel
theorem dX8_beginDay_18 : decode cX8_beginDay 18 = .ok (.iload_n 1, 1) := by decide +kernel
theorem dX8_beginDay_19 : decode cX8_beginDay 19 = .ok (.invokevirtual 155, 3) := by decide +kernel
theorem dX8_beginDay_22 : decode cX8_beginDay 22 = .ok (.istore_n 2, 1) := by decide +kernel
theorem dX8_beginDay_23 : decode cX8_beginDay 23 = .ok (.iload_n 2, 1) := by decide +kernel
theorem dX8_beginDay_24 : decode cX8_beginDay 24 = .ok (.iconst (-1), 1) := by decide +kernel
theorem dX8_beginDay_25 : decode cX8_beginDay 25 = .ok (.if_icmp .eq 17, 3) := by decide +kernel
theorem dX8_beginDay_28 : decode cX8_beginDay 28 = .ok (.aload_n 0, 1) := by decide +kernel
theorem dX8_beginDay_29 : decode cX8_beginDay 29 = .ok (.iload_n 2, 1) := by decide +kernel
theorem dX8_beginDay_30 : decode cX8_beginDay 30 = .ok (.invokevirtual 158, 3) := by decide +kernel
theorem dX8_beginDay_33 : decode cX8_beginDay 33 = .ok (.aload_n 0, 1) := by decide +kernel
theorem dX8_beginDay_34 : decode cX8_beginDay 34 = .ok (.iload_n 1, 1) := by decide +kernel
theorem dX8_beginDay_35 : decode cX8_beginDay 35 = .ok (.invokevirtual 155, 3) := by decide +kernel
theorem dX8_beginDay_38 : decode cX8_beginDay 38 = .ok (.istore_n 2, 1) := by decide +kernel
theorem dX8_beginDay_39 : decode cX8_beginDay 39 = .ok (.goto (-16), 3) := by decide +kernel
theorem dX8_beginDay_42 : decode cX8_beginDay 42 = .ok (.iinc 1 1, 3) := by decide +kernel
theorem dX8_beginDay_45 : decode cX8_beginDay 45 = .ok (.goto (-33), 3) := by decide +kernel
theorem dX8_beginDay_48 : decode cX8_beginDay 48 = .ok (.iconst 0, 1) := by decide +kernel
theorem dX8_beginDay_49 : decode cX8_beginDay 49 = .ok (.istore_n 1, 1) := by decide +kernel
theorem dX8_beginDay_50 : decode cX8_beginDay 50 = .ok (.iload_n 1, 1) := by decide +kernel
theorem dX8_beginDay_51 : decode cX8_beginDay 51 = .ok (.aload_n 0, 1) := by decide +kernel
theorem dX8_beginDay_52 : decode cX8_beginDay 52 = .ok (.getfield 7, 3) := by decide +kernel
theorem dX8_beginDay_55 : decode cX8_beginDay 55 = .ok (.iconst 5, 1) := by decide +kernel
theorem dX8_beginDay_56 : decode cX8_beginDay 56 = .ok (.iaload, 1) := by decide +kernel
theorem dX8_beginDay_57 : decode cX8_beginDay 57 = .ok (.if_icmp .ge 36, 3) := by decide +kernel
theorem dX8_beginDay_60 : decode cX8_beginDay 60 = .ok (.aload_n 0, 1) := by decide +kernel
theorem dX8_beginDay_61 : decode cX8_beginDay 61 = .ok (.getfield 7, 3) := by decide +kernel
theorem dX8_beginDay_64 : decode cX8_beginDay 64 = .ok (.sipush 348, 3) := by decide +kernel
theorem dX8_beginDay_67 : decode cX8_beginDay 67 = .ok (.aload_n 0, 1) := by decide +kernel
theorem dX8_beginDay_68 : decode cX8_beginDay 68 = .ok (.iload_n 1, 1) := by decide +kernel
theorem dX8_beginDay_69 : decode cX8_beginDay 69 = .ok (.iconst 0, 1) := by decide +kernel
theorem dX8_beginDay_70 : decode cX8_beginDay 70 = .ok (.invokevirtual 106, 3) := by decide +kernel
theorem dX8_beginDay_73 : decode cX8_beginDay 73 = .ok (.aload_n 0, 1) := by decide +kernel
theorem dX8_beginDay_74 : decode cX8_beginDay 74 = .ok (.iload_n 1, 1) := by decide +kernel
theorem dX8_beginDay_75 : decode cX8_beginDay 75 = .ok (.iconst 1, 1) := by decide +kernel
theorem dX8_beginDay_76 : decode cX8_beginDay 76 = .ok (.invokevirtual 106, 3) := by decide +kernel
theorem dX8_beginDay_79 : decode cX8_beginDay 79 = .ok (.invokestatic 62, 3) := by decide +kernel
theorem dX8_beginDay_82 : decode cX8_beginDay 82 = .ok (.dup2, 1) := by decide +kernel
theorem dX8_beginDay_83 : decode cX8_beginDay 83 = .ok (.iaload, 1) := by decide +kernel
theorem dX8_beginDay_84 : decode cX8_beginDay 84 = .ok (.iconst 1, 1) := by decide +kernel
theorem dX8_beginDay_85 : decode cX8_beginDay 85 = .ok (.iadd, 1) := by decide +kernel
theorem dX8_beginDay_86 : decode cX8_beginDay 86 = .ok (.iastore, 1) := by decide +kernel
theorem dX8_beginDay_87 : decode cX8_beginDay 87 = .ok (.iinc 1 1, 3) := by decide +kernel
theorem dX8_beginDay_90 : decode cX8_beginDay 90 = .ok (.goto (-40), 3) := by decide +kernel
theorem dX8_beginDay_93 : decode cX8_beginDay 93 = .ok (.return_, 1) := by decide +kernel
theorem dX8_advance_0 : decode cX8_advance 0 = .ok (.aload_n 0, 1) := by decide +kernel
theorem dX8_advance_1 : decode cX8_advance 1 = .ok (.iconst 0, 1) := by decide +kernel
theorem dX8_advance_2 : decode cX8_advance 2 = .ok (.putfield 30, 3) := by decide +kernel
theorem dX8_advance_5 : decode cX8_advance 5 = .ok (.iload_n 1, 1) := by decide +kernel
theorem dX8_advance_6 : decode cX8_advance 6 = .ok (.iconst 1, 1) := by decide +kernel
theorem dX8_advance_7 : decode cX8_advance 7 = .ok (.bipush 60, 2) := by decide +kernel
theorem dX8_advance_9 : decode cX8_advance 9 = .ok (.invokestatic 33, 3) := by decide +kernel
theorem dX8_advance_12 : decode cX8_advance 12 = .ok (.ifCond .ne 9, 3) := by decide +kernel
theorem dX8_advance_15 : decode cX8_advance 15 = .ok (.aload_n 0, 1) := by decide +kernel
theorem dX8_advance_16 : decode cX8_advance 16 = .ok (.iconst 1, 1) := by decide +kernel
theorem dX8_advance_17 : decode cX8_advance 17 = .ok (.invokevirtual 41, 3) := by decide +kernel
theorem dX8_advance_20 : decode cX8_advance 20 = .ok (.ireturn, 1) := by decide +kernel
theorem dX8_advance_21 : decode cX8_advance 21 = .ok (.aload_n 0, 1) := by decide +kernel
theorem dX8_advance_22 : decode cX8_advance 22 = .ok (.getfield 7, 3) := by decide +kernel
theorem dX8_advance_25 : decode cX8_advance 25 = .ok (.iconst 0, 1) := by decide +kernel
theorem dX8_advance_26 : decode cX8_advance 26 = .ok (.iaload, 1) := by decide +kernel
theorem dX8_advance_27 : decode cX8_advance 27 = .ok (.iload_n 1, 1) := by decide +kernel
theorem dX8_advance_28 : decode cX8_advance 28 = .ok (.iadd, 1) := by decide +kernel
theorem dX8_advance_29 : decode cX8_advance 29 = .ok (.sipush 9999, 3) := by decide +kernel
theorem dX8_advance_32 : decode cX8_advance 32 = .ok (.if_icmp .le 9, 3) := by decide +kernel
theorem dX8_advance_35 : decode cX8_advance 35 = .ok (.aload_n 0, 1) := by decide +kernel
theorem dX8_advance_36 : decode cX8_advance 36 = .ok (.iconst 2, 1) := by decide +kernel
theorem dX8_advance_37 : decode cX8_advance 37 = .ok (.invokevirtual 41, 3) := by decide +kernel
theorem dX8_advance_40 : decode cX8_advance 40 = .ok (.ireturn, 1) := by decide +kernel
theorem dX8_advance_41 : decode cX8_advance 41 = .ok (.iconst 0, 1) := by decide +kernel
theorem dX8_advance_42 : decode cX8_advance 42 = .ok (.istore_n 2, 1) := by decide +kernel
theorem dX8_advance_43 : decode cX8_advance 43 = .ok (.iload_n 2, 1) := by decide +kernel
theorem dX8_advance_44 : decode cX8_advance 44 = .ok (.iload_n 1, 1) := by decide +kernel
theorem dX8_advance_45 : decode cX8_advance 45 = .ok (.if_icmp .ge 13, 3) := by decide +kernel
theorem dX8_advance_48 : decode cX8_advance 48 = .ok (.aload_n 0, 1) := by decide +kernel
theorem dX8_advance_49 : decode cX8_advance 49 = .ok (.invokevirtual 161, 3) := by decide +kernel
theorem dX8_advance_52 : decode cX8_advance 52 = .ok (.iinc 2 1, 3) := by decide +kernel
theorem dX8_advance_55 : decode cX8_advance 55 = .ok (.goto (-12), 3) := by decide +kernel
theorem dX8_advance_58 : decode cX8_advance 58 = .ok (.aload_n 0, 1) := by decide +kernel
theorem dX8_advance_59 : decode cX8_advance 59 = .ok (.getfield 7, 3) := by decide +kernel
theorem dX8_advance_62 : decode cX8_advance 62 = .ok (.iconst 0, 1) := by decide +kernel
theorem dX8_advance_63 : decode cX8_advance 63 = .ok (.iaload, 1) := by decide +kernel
theorem dX8_advance_64 : decode cX8_advance 64 = .ok (.ireturn, 1) := by decide +kernel
theorem dX8_draw_0 : decode cX8_draw 0 = .ok (.aload_n 0, 1) := by decide +kernel
theorem dX8_draw_1 : decode cX8_draw 1 = .ok (.aload_n 0, 1) := by decide +kernel
theorem dX8_draw_2 : decode cX8_draw 2 = .ok (.getfield 164, 3) := by decide +kernel
theorem dX8_draw_5 : decode cX8_draw 5 = .ok (.ldc2_w 168, 3) := by decide +kernel
theorem dX8_draw_8 : decode cX8_draw 8 = .ok (.lmul, 1) := by decide +kernel
theorem dX8_draw_9 : decode cX8_draw 9 = .ok (.ldc2_w 170, 3) := by decide +kernel
theorem dX8_draw_12 : decode cX8_draw 12 = .ok (.ladd, 1) := by decide +kernel
theorem dX8_draw_13 : decode cX8_draw 13 = .ok (.ldc2_w 172, 3) := by decide +kernel
theorem dX8_draw_16 : decode cX8_draw 16 = .ok (.lrem, 1) := by decide +kernel
theorem dX8_draw_17 : decode cX8_draw 17 = .ok (.putfield 164, 3) := by decide +kernel
theorem dX8_draw_20 : decode cX8_draw 20 = .ok (.aload_n 0, 1) := by decide +kernel
theorem dX8_draw_21 : decode cX8_draw 21 = .ok (.getfield 164, 3) := by decide +kernel
theorem dX8_draw_24 : decode cX8_draw 24 = .ok (.ldc2_w 174, 3) := by decide +kernel
theorem dX8_draw_27 : decode cX8_draw 27 = .ok (.ldiv, 1) := by decide +kernel
theorem dX8_draw_28 : decode cX8_draw 28 = .ok (.iload_n 1, 1) := by decide +kernel
theorem dX8_draw_29 : decode cX8_draw 29 = .ok (.i2l, 1) := by decide +kernel
theorem dX8_draw_30 : decode cX8_draw 30 = .ok (.lrem, 1) := by decide +kernel
theorem dX8_draw_31 : decode cX8_draw 31 = .ok (.l2i, 1) := by decide +kernel
theorem dX8_draw_32 : decode cX8_draw 32 = .ok (.ireturn, 1) := by decide +kernel
theorem dX8_drawDemand_0 : decode cX8_drawDemand 0 = .ok (.aload_n 0, 1) := by decide +kernel
theorem dX8_drawDemand_1 : decode cX8_drawDemand 1 = .ok (.bipush 100, 2) := by decide +kernel
theorem dX8_drawDemand_3 : decode cX8_drawDemand 3 = .ok (.invokevirtual 176, 3) := by decide +kernel
theorem dX8_drawDemand_6 : decode cX8_drawDemand 6 = .ok (.aload_n 0, 1) := by decide +kernel
theorem dX8_drawDemand_7 : decode cX8_drawDemand 7 = .ok (.getfield 7, 3) := by decide +kernel
theorem dX8_drawDemand_10 : decode cX8_drawDemand 10 = .ok (.sipush 220, 3) := by decide +kernel
theorem dX8_drawDemand_13 : decode cX8_drawDemand 13 = .ok (.iload_n 1, 1) := by decide +kernel
theorem dX8_drawDemand_14 : decode cX8_drawDemand 14 = .ok (.iload_n 2, 1) := by decide +kernel
theorem dX8_drawDemand_15 : decode cX8_drawDemand 15 = .ok (.invokestatic 62, 3) := by decide +kernel
theorem dX8_drawDemand_18 : decode cX8_drawDemand 18 = .ok (.iaload, 1) := by decide +kernel
theorem dX8_drawDemand_19 : decode cX8_drawDemand 19 = .ok (.if_icmp .lt 5, 3) := by decide +kernel
theorem dX8_drawDemand_22 : decode cX8_drawDemand 22 = .ok (.iconst 0, 1) := by decide +kernel
theorem dX8_drawDemand_23 : decode cX8_drawDemand 23 = .ok (.ireturn, 1) := by decide +kernel
theorem dX8_drawDemand_24 : decode cX8_drawDemand 24 = .ok (.aload_n 0, 1) := by decide +kernel
theorem dX8_drawDemand_25 : decode cX8_drawDemand 25 = .ok (.bipush 10, 2) := by decide +kernel
theorem dX8_drawDemand_27 : decode cX8_drawDemand 27 = .ok (.invokevirtual 176, 3) := by decide +kernel
theorem dX8_drawDemand_30 : decode cX8_drawDemand 30 = .ok (.istore_n 3, 1) := by decide +kernel
theorem dX8_drawDemand_31 : decode cX8_drawDemand 31 = .ok (.aload_n 0, 1) := by decide +kernel
theorem dX8_drawDemand_32 : decode cX8_drawDemand 32 = .ok (.invokevirtual 130, 3) := by decide +kernel
theorem dX8_drawDemand_35 : decode cX8_drawDemand 35 = .ok (.ifCond .eq 16, 3) := by decide +kernel
theorem dX8_drawDemand_38 : decode cX8_drawDemand 38 = .ok (.aload_n 0, 1) := by decide +kernel
theorem dX8_drawDemand_39 : decode cX8_drawDemand 39 = .ok (.getfield 7, 3) := by decide +kernel
theorem dX8_drawDemand_42 : decode cX8_drawDemand 42 = .ok (.bipush 7, 2) := by decide +kernel
theorem dX8_drawDemand_44 : decode cX8_drawDemand 44 = .ok (.dup2, 1) := by decide +kernel
theorem dX8_drawDemand_45 : decode cX8_drawDemand 45 = .ok (.iaload, 1) := by decide +kernel
theorem dX8_drawDemand_46 : decode cX8_drawDemand 46 = .ok (.iconst 1, 1) := by decide +kernel
theorem dX8_drawDemand_47 : decode cX8_drawDemand 47 = .ok (.iadd, 1) := by decide +kernel
theorem dX8_drawDemand_48 : decode cX8_drawDemand 48 = .ok (.iastore, 1) := by decide +kernel
theorem dX8_drawDemand_49 : decode cX8_drawDemand 49 = .ok (.iconst 0, 1) := by decide +kernel
theorem dX8_drawDemand_50 : decode cX8_drawDemand 50 = .ok (.ireturn, 1) := by decide +kernel
theorem dX8_drawDemand_51 : decode cX8_drawDemand 51 = .ok (.aload_n 0, 1) := by decide +kernel
theorem dX8_drawDemand_52 : decode cX8_drawDemand 52 = .ok (.iload_n 1, 1) := by decide +kernel
theorem dX8_drawDemand_53 : decode cX8_drawDemand 53 = .ok (.iload_n 2, 1) := by decide +kernel
theorem dX8_drawDemand_54 : decode cX8_drawDemand 54 = .ok (.iload_n 3, 1) := by decide +kernel
theorem dX8_drawDemand_55 : decode cX8_drawDemand 55 = .ok (.invokevirtual 134, 3) := by decide +kernel
theorem dX8_drawDemand_58 : decode cX8_drawDemand 58 = .ok (.istore 4, 2) := by decide +kernel
theorem dX8_drawDemand_60 : decode cX8_drawDemand 60 = .ok (.iconst 1, 1) := by decide +kernel
theorem dX8_drawDemand_61 : decode cX8_drawDemand 61 = .ok (.ireturn, 1) := by decide +kernel
theorem dX8_runDays_0 : decode cX8_runDays 0 = .ok (.aload_n 0, 1) := by decide +kernel
theorem dX8_runDays_1 : decode cX8_runDays 1 = .ok (.iload_n 1, 1) := by decide +kernel
theorem dX8_runDays_2 : decode cX8_runDays 2 = .ok (.i2l, 1) := by decide +kernel
theorem dX8_runDays_3 : decode cX8_runDays 3 = .ok (.putfield 164, 3) := by decide +kernel
theorem dX8_runDays_6 : decode cX8_runDays 6 = .ok (.iconst 0, 1) := by decide +kernel
theorem dX8_runDays_7 : decode cX8_runDays 7 = .ok (.istore_n 3, 1) := by decide +kernel
theorem dX8_runDays_8 : decode cX8_runDays 8 = .ok (.iconst 0, 1) := by decide +kernel
theorem dX8_runDays_9 : decode cX8_runDays 9 = .ok (.istore 4, 2) := by decide +kernel
theorem dX8_runDays_11 : decode cX8_runDays 11 = .ok (.iload 4, 2) := by decide +kernel
theorem dX8_runDays_13 : decode cX8_runDays 13 = .ok (.iload_n 2, 1) := by decide +kernel
theorem dX8_runDays_14 : decode cX8_runDays 14 = .ok (.if_icmp .ge 72, 3) := by decide +kernel
theorem dX8_runDays_17 : decode cX8_runDays 17 = .ok (.aload_n 0, 1) := by decide +kernel
theorem dX8_runDays_18 : decode cX8_runDays 18 = .ok (.invokevirtual 161, 3) := by decide +kernel
theorem dX8_runDays_21 : decode cX8_runDays 21 = .ok (.iconst 1, 1) := by decide +kernel
theorem dX8_runDays_22 : decode cX8_runDays 22 = .ok (.istore 5, 2) := by decide +kernel
theorem dX8_runDays_24 : decode cX8_runDays 24 = .ok (.iload 5, 2) := by decide +kernel
theorem dX8_runDays_26 : decode cX8_runDays 26 = .ok (.aload_n 0, 1) := by decide +kernel
theorem dX8_runDays_27 : decode cX8_runDays 27 = .ok (.getfield 7, 3) := by decide +kernel
theorem dX8_runDays_30 : decode cX8_runDays 30 = .ok (.iconst 3, 1) := by decide +kernel
theorem dX8_runDays_31 : decode cX8_runDays 31 = .ok (.iaload, 1) := by decide +kernel
theorem dX8_runDays_32 : decode cX8_runDays 32 = .ok (.if_icmp .ge 48, 3) := by decide +kernel
theorem dX8_runDays_35 : decode cX8_runDays 35 = .ok (.iconst 0, 1) := by decide +kernel
theorem dX8_runDays_36 : decode cX8_runDays 36 = .ok (.istore 6, 2) := by decide +kernel
theorem dX8_runDays_38 : decode cX8_runDays 38 = .ok (.iload 6, 2) := by decide +kernel
theorem dX8_runDays_40 : decode cX8_runDays 40 = .ok (.aload_n 0, 1) := by decide +kernel
theorem dX8_runDays_41 : decode cX8_runDays 41 = .ok (.getfield 7, 3) := by decide +kernel
theorem dX8_runDays_44 : decode cX8_runDays 44 = .ok (.iconst 2, 1) := by decide +kernel
theorem dX8_runDays_45 : decode cX8_runDays 45 = .ok (.iaload, 1) := by decide +kernel
theorem dX8_runDays_46 : decode cX8_runDays 46 = .ok (.if_icmp .ge 28, 3) := by decide +kernel
theorem dX8_runDays_49 : decode cX8_runDays 49 = .ok (.iload_n 3, 1) := by decide +kernel
theorem dX8_runDays_50 : decode cX8_runDays 50 = .ok (.aload_n 0, 1) := by decide +kernel
theorem dX8_runDays_51 : decode cX8_runDays 51 = .ok (.iload 5, 2) := by decide +kernel
theorem dX8_runDays_53 : decode cX8_runDays 53 = .ok (.iload 6, 2) := by decide +kernel
theorem dX8_runDays_55 : decode cX8_runDays 55 = .ok (.invokevirtual 179, 3) := by decide +kernel
theorem dX8_runDays_58 : decode cX8_runDays 58 = .ok (.ifCond .eq 7, 3) := by decide +kernel
theorem dX8_runDays_61 : decode cX8_runDays 61 = .ok (.iconst 1, 1) := by decide +kernel
theorem dX8_runDays_62 : decode cX8_runDays 62 = .ok (.goto 4, 3) := by decide +kernel
theorem dX8_runDays_65 : decode cX8_runDays 65 = .ok (.iconst 0, 1) := by decide +kernel
theorem dX8_runDays_66 : decode cX8_runDays 66 = .ok (.iadd, 1) := by decide +kernel
theorem dX8_runDays_67 : decode cX8_runDays 67 = .ok (.istore_n 3, 1) := by decide +kernel
theorem dX8_runDays_68 : decode cX8_runDays 68 = .ok (.iinc 6 1, 3) := by decide +kernel
theorem dX8_runDays_71 : decode cX8_runDays 71 = .ok (.goto (-33), 3) := by decide +kernel
theorem dX8_runDays_74 : decode cX8_runDays 74 = .ok (.iinc 5 1, 3) := by decide +kernel
theorem dX8_runDays_77 : decode cX8_runDays 77 = .ok (.goto (-53), 3) := by decide +kernel
theorem dX8_runDays_80 : decode cX8_runDays 80 = .ok (.iinc 4 1, 3) := by decide +kernel
theorem dX8_runDays_83 : decode cX8_runDays 83 = .ok (.goto (-72), 3) := by decide +kernel
theorem dX8_runDays_86 : decode cX8_runDays 86 = .ok (.iload_n 3, 1) := by decide +kernel
theorem dX8_runDays_87 : decode cX8_runDays 87 = .ok (.ireturn, 1) := by decide +kernel
theorem dX8_run_0 : decode cX8_run 0 = .ok (.aload_n 0, 1) := by decide +kernel
theorem dX8_run_1 : decode cX8_run 1 = .ok (.iconst 0, 1) := by decide +kernel
theorem dX8_run_2 : decode cX8_run 2 = .ok (.putfield 30, 3) := by decide +kernel
theorem dX8_run_5 : decode cX8_run 5 = .ok (.iload_n 1, 1) := by decide +kernel
theorem dX8_run_6 : decode cX8_run 6 = .ok (.ifCond .lt 13, 3) := by decide +kernel
theorem dX8_run_9 : decode cX8_run 9 = .ok (.iload_n 2, 1) := by decide +kernel
theorem dX8_run_10 : decode cX8_run 10 = .ok (.iconst 1, 1) := by decide +kernel
theorem dX8_run_11 : decode cX8_run 11 = .ok (.bipush 30, 2) := by decide +kernel
theorem dX8_run_13 : decode cX8_run 13 = .ok (.invokestatic 33, 3) := by decide +kernel
theorem dX8_run_16 : decode cX8_run 16 = .ok (.ifCond .ne 9, 3) := by decide +kernel
theorem dX8_run_19 : decode cX8_run 19 = .ok (.aload_n 0, 1) := by decide +kernel
theorem dX8_run_20 : decode cX8_run 20 = .ok (.iconst 1, 1) := by decide +kernel
theorem dX8_run_21 : decode cX8_run 21 = .ok (.invokevirtual 41, 3) := by decide +kernel
theorem dX8_run_24 : decode cX8_run 24 = .ok (.ireturn, 1) := by decide +kernel
theorem dX8_run_25 : decode cX8_run 25 = .ok (.aload_n 0, 1) := by decide +kernel
theorem dX8_run_26 : decode cX8_run 26 = .ok (.getfield 7, 3) := by decide +kernel
theorem dX8_run_29 : decode cX8_run 29 = .ok (.iconst 0, 1) := by decide +kernel
theorem dX8_run_30 : decode cX8_run 30 = .ok (.iaload, 1) := by decide +kernel
theorem dX8_run_31 : decode cX8_run 31 = .ok (.iload_n 2, 1) := by decide +kernel
theorem dX8_run_32 : decode cX8_run 32 = .ok (.iadd, 1) := by decide +kernel
theorem dX8_run_33 : decode cX8_run 33 = .ok (.sipush 9999, 3) := by decide +kernel
theorem dX8_run_36 : decode cX8_run 36 = .ok (.if_icmp .le 11, 3) := by decide +kernel
theorem dX8_run_39 : decode cX8_run 39 = .ok (.aload_n 0, 1) := by decide +kernel
theorem dX8_run_40 : decode cX8_run 40 = .ok (.iconst 2, 1) := by decide +kernel
theorem dX8_run_41 : decode cX8_run 41 = .ok (.invokevirtual 41, 3) := by decide +kernel
theorem dX8_run_44 : decode cX8_run 44 = .ok (.goto 9, 3) := by decide +kernel
theorem dX8_run_47 : decode cX8_run 47 = .ok (.aload_n 0, 1) := by decide +kernel
theorem dX8_run_48 : decode cX8_run 48 = .ok (.iload_n 1, 1) := by decide +kernel
theorem dX8_run_49 : decode cX8_run 49 = .ok (.iload_n 2, 1) := by decide +kernel
theorem dX8_run_50 : decode cX8_run 50 = .ok (.invokevirtual 183, 3) := by decide +kernel
theorem dX8_run_53 : decode cX8_run 53 = .ok (.ireturn, 1) := by decide +kernel
theorem dX8_day_0 : decode cX8_day 0 = .ok (.aload_n 0, 1) := by decide +kernel
theorem dX8_day_1 : decode cX8_day 1 = .ok (.iconst 0, 1) := by decide +kernel
theorem dX8_day_2 : decode cX8_day 2 = .ok (.putfield 30, 3) := by decide +kernel
theorem dX8_day_5 : decode cX8_day 5 = .ok (.aload_n 0, 1) := by decide +kernel
theorem dX8_day_6 : decode cX8_day 6 = .ok (.getfield 7, 3) := by decide +kernel
theorem dX8_day_9 : decode cX8_day 9 = .ok (.iconst 0, 1) := by decide +kernel
theorem dX8_day_10 : decode cX8_day 10 = .ok (.iaload, 1) := by decide +kernel
theorem dX8_day_11 : decode cX8_day 11 = .ok (.ireturn, 1) := by decide +kernel
theorem dX8_refusedDemands_0 : decode cX8_refusedDemands 0 = .ok (.aload_n 0, 1) := by decide +kernel
theorem dX8_refusedDemands_1 : decode cX8_refusedDemands 1 = .ok (.iconst 0, 1) := by decide +kernel
theorem dX8_refusedDemands_2 : decode cX8_refusedDemands 2 = .ok (.putfield 30, 3) := by decide +kernel
theorem dX8_refusedDemands_5 : decode cX8_refusedDemands 5 = .ok (.aload_n 0, 1) := by decide +kernel
theorem dX8_refusedDemands_6 : decode cX8_refusedDemands 6 = .ok (.getfield 7, 3) := by decide +kernel
theorem dX8_refusedDemands_9 : decode cX8_refusedDemands 9 = .ok (.bipush 7, 2) := by decide +kernel
theorem dX8_refusedDemands_11 : decode cX8_refusedDemands 11 = .ok (.iaload, 1) := by decide +kernel
theorem dX8_refusedDemands_12 : decode cX8_refusedDemands 12 = .ok (.ireturn, 1) := by decide +kernel
theorem dX8_level_0 : decode cX8_level 0 = .ok (.aload_n 0, 1) := by decide +kernel
theorem dX8_level_1 : decode cX8_level 1 = .ok (.iconst 0, 1) := by decide +kernel
theorem dX8_level_2 : decode cX8_level 2 = .ok (.putfield 30, 3) := by decide +kernel
theorem dX8_level_5 : decode cX8_level 5 = .ok (.aload_n 0, 1) := by decide +kernel
theorem dX8_level_6 : decode cX8_level 6 = .ok (.iload_n 1, 1) := by decide +kernel
theorem dX8_level_7 : decode cX8_level 7 = .ok (.invokevirtual 78, 3) := by decide +kernel
theorem dX8_level_10 : decode cX8_level 10 = .ok (.ifCond .eq 26, 3) := by decide +kernel
theorem dX8_level_13 : decode cX8_level 13 = .ok (.aload_n 0, 1) := by decide +kernel
theorem dX8_level_14 : decode cX8_level 14 = .ok (.iload_n 2, 1) := by decide +kernel
theorem dX8_level_15 : decode cX8_level 15 = .ok (.invokevirtual 81, 3) := by decide +kernel
theorem dX8_level_18 : decode cX8_level 18 = .ok (.ifCond .eq 18, 3) := by decide +kernel
theorem dX8_level_21 : decode cX8_level 21 = .ok (.aload_n 0, 1) := by decide +kernel
theorem dX8_level_22 : decode cX8_level 22 = .ok (.getfield 7, 3) := by decide +kernel
theorem dX8_level_25 : decode cX8_level 25 = .ok (.bipush 92, 2) := by decide +kernel
theorem dX8_level_27 : decode cX8_level 27 = .ok (.iload_n 1, 1) := by decide +kernel
theorem dX8_level_28 : decode cX8_level 28 = .ok (.iload_n 2, 1) := by decide +kernel
theorem dX8_level_29 : decode cX8_level 29 = .ok (.invokestatic 62, 3) := by decide +kernel
theorem dX8_level_32 : decode cX8_level 32 = .ok (.iaload, 1) := by decide +kernel
theorem dX8_level_33 : decode cX8_level 33 = .ok (.goto 8, 3) := by decide +kernel
theorem dX8_level_36 : decode cX8_level 36 = .ok (.aload_n 0, 1) := by decide +kernel
theorem dX8_level_37 : decode cX8_level 37 = .ok (.iconst 1, 1) := by decide +kernel
theorem dX8_level_38 : decode cX8_level 38 = .ok (.invokevirtual 41, 3) := by decide +kernel
theorem dX8_level_41 : decode cX8_level 41 = .ok (.ireturn, 1) := by decide +kernel
theorem dX8_onHand_0 : decode cX8_onHand 0 = .ok (.aload_n 0, 1) := by decide +kernel
theorem dX8_onHand_1 : decode cX8_onHand 1 = .ok (.iconst 0, 1) := by decide +kernel
theorem dX8_onHand_2 : decode cX8_onHand 2 = .ok (.putfield 30, 3) := by decide +kernel
theorem dX8_onHand_5 : decode cX8_onHand 5 = .ok (.aload_n 0, 1) := by decide +kernel
theorem dX8_onHand_6 : decode cX8_onHand 6 = .ok (.iload_n 1, 1) := by decide +kernel
theorem dX8_onHand_7 : decode cX8_onHand 7 = .ok (.invokevirtual 78, 3) := by decide +kernel
theorem dX8_onHand_10 : decode cX8_onHand 10 = .ok (.ifCond .eq 26, 3) := by decide +kernel
theorem dX8_onHand_13 : decode cX8_onHand 13 = .ok (.aload_n 0, 1) := by decide +kernel
theorem dX8_onHand_14 : decode cX8_onHand 14 = .ok (.iload_n 2, 1) := by decide +kernel
theorem dX8_onHand_15 : decode cX8_onHand 15 = .ok (.invokevirtual 81, 3) := by decide +kernel
theorem dX8_onHand_18 : decode cX8_onHand 18 = .ok (.ifCond .eq 18, 3) := by decide +kernel
theorem dX8_onHand_21 : decode cX8_onHand 21 = .ok (.aload_n 0, 1) := by decide +kernel
theorem dX8_onHand_22 : decode cX8_onHand 22 = .ok (.getfield 7, 3) := by decide +kernel
theorem dX8_onHand_25 : decode cX8_onHand 25 = .ok (.bipush 124, 2) := by decide +kernel
theorem dX8_onHand_27 : decode cX8_onHand 27 = .ok (.iload_n 1, 1) := by decide +kernel
theorem dX8_onHand_28 : decode cX8_onHand 28 = .ok (.iload_n 2, 1) := by decide +kernel
theorem dX8_onHand_29 : decode cX8_onHand 29 = .ok (.invokestatic 62, 3) := by decide +kernel
theorem dX8_onHand_32 : decode cX8_onHand 32 = .ok (.iaload, 1) := by decide +kernel
theorem dX8_onHand_33 : decode cX8_onHand 33 = .ok (.goto 8, 3) := by decide +kernel
theorem dX8_onHand_36 : decode cX8_onHand 36 = .ok (.aload_n 0, 1) := by decide +kernel
theorem dX8_onHand_37 : decode cX8_onHand 37 = .ok (.iconst 1, 1) := by decide +kernel
theorem dX8_onHand_38 : decode cX8_onHand 38 = .ok (.invokevirtual 41, 3) := by decide +kernel
theorem dX8_onHand_41 : decode cX8_onHand 41 = .ok (.ireturn, 1) := by decide +kernel
theorem dX8_waitingOf_0 : decode cX8_waitingOf 0 = .ok (.iconst 0, 1) := by decide +kernel
theorem dX8_waitingOf_1 : decode cX8_waitingOf 1 = .ok (.istore_n 3, 1) := by decide +kernel
theorem dX8_waitingOf_2 : decode cX8_waitingOf 2 = .ok (.iconst 0, 1) := by decide +kernel
theorem dX8_waitingOf_3 : decode cX8_waitingOf 3 = .ok (.istore 4, 2) := by decide +kernel
theorem dX8_waitingOf_5 : decode cX8_waitingOf 5 = .ok (.iload 4, 2) := by decide +kernel
theorem dX8_waitingOf_7 : decode cX8_waitingOf 7 = .ok (.aload_n 0, 1) := by decide +kernel
theorem dX8_waitingOf_8 : decode cX8_waitingOf 8 = .ok (.getfield 7, 3) := by decide +kernel
theorem dX8_waitingOf_11 : decode cX8_waitingOf 11 = .ok (.iconst 5, 1) := by decide +kernel
theorem dX8_waitingOf_12 : decode cX8_waitingOf 12 = .ok (.iaload, 1) := by decide +kernel
theorem dX8_waitingOf_13 : decode cX8_waitingOf 13 = .ok (.if_icmp .ge 28, 3) := by decide +kernel
theorem dX8_waitingOf_16 : decode cX8_waitingOf 16 = .ok (.iload_n 3, 1) := by decide +kernel
theorem dX8_waitingOf_17 : decode cX8_waitingOf 17 = .ok (.aload_n 0, 1) := by decide +kernel
theorem dX8_waitingOf_18 : decode cX8_waitingOf 18 = .ok (.iload 4, 2) := by decide +kernel
theorem dX8_waitingOf_20 : decode cX8_waitingOf 20 = .ok (.iload_n 1, 1) := by decide +kernel
theorem dX8_waitingOf_21 : decode cX8_waitingOf 21 = .ok (.iload_n 2, 1) := by decide +kernel
theorem dX8_waitingOf_22 : decode cX8_waitingOf 22 = .ok (.invokevirtual 109, 3) := by decide +kernel
theorem dX8_waitingOf_25 : decode cX8_waitingOf 25 = .ok (.ifCond .eq 7, 3) := by decide +kernel
theorem dX8_waitingOf_28 : decode cX8_waitingOf 28 = .ok (.iconst 1, 1) := by decide +kernel
theorem dX8_waitingOf_29 : decode cX8_waitingOf 29 = .ok (.goto 4, 3) := by decide +kernel
theorem dX8_waitingOf_32 : decode cX8_waitingOf 32 = .ok (.iconst 0, 1) := by decide +kernel
theorem dX8_waitingOf_33 : decode cX8_waitingOf 33 = .ok (.iadd, 1) := by decide +kernel
theorem dX8_waitingOf_34 : decode cX8_waitingOf 34 = .ok (.istore_n 3, 1) := by decide +kernel
theorem dX8_waitingOf_35 : decode cX8_waitingOf 35 = .ok (.iinc 4 1, 3) := by decide +kernel
theorem dX8_waitingOf_38 : decode cX8_waitingOf 38 = .ok (.goto (-33), 3) := by decide +kernel
theorem dX8_waitingOf_41 : decode cX8_waitingOf 41 = .ok (.iload_n 3, 1) := by decide +kernel
theorem dX8_waitingOf_42 : decode cX8_waitingOf 42 = .ok (.ireturn, 1) := by decide +kernel
theorem dX8_waiting_0 : decode cX8_waiting 0 = .ok (.aload_n 0, 1) := by decide +kernel
theorem dX8_waiting_1 : decode cX8_waiting 1 = .ok (.iconst 0, 1) := by decide +kernel
theorem dX8_waiting_2 : decode cX8_waiting 2 = .ok (.putfield 30, 3) := by decide +kernel
theorem dX8_waiting_5 : decode cX8_waiting 5 = .ok (.aload_n 0, 1) := by decide +kernel
theorem dX8_waiting_6 : decode cX8_waiting 6 = .ok (.iload_n 1, 1) := by decide +kernel
theorem dX8_waiting_7 : decode cX8_waiting 7 = .ok (.invokevirtual 55, 3) := by decide +kernel
theorem dX8_waiting_10 : decode cX8_waiting 10 = .ok (.ifCond .eq 20, 3) := by decide +kernel
theorem dX8_waiting_13 : decode cX8_waiting 13 = .ok (.aload_n 0, 1) := by decide +kernel
theorem dX8_waiting_14 : decode cX8_waiting 14 = .ok (.iload_n 2, 1) := by decide +kernel
theorem dX8_waiting_15 : decode cX8_waiting 15 = .ok (.invokevirtual 81, 3) := by decide +kernel
theorem dX8_waiting_18 : decode cX8_waiting 18 = .ok (.ifCond .eq 12, 3) := by decide +kernel
theorem dX8_waiting_21 : decode cX8_waiting 21 = .ok (.aload_n 0, 1) := by decide +kernel
theorem dX8_waiting_22 : decode cX8_waiting 22 = .ok (.iload_n 1, 1) := by decide +kernel
theorem dX8_waiting_23 : decode cX8_waiting 23 = .ok (.iload_n 2, 1) := by decide +kernel
theorem dX8_waiting_24 : decode cX8_waiting 24 = .ok (.invokevirtual 186, 3) := by decide +kernel
theorem dX8_waiting_27 : decode cX8_waiting 27 = .ok (.goto 8, 3) := by decide +kernel
theorem dX8_waiting_30 : decode cX8_waiting 30 = .ok (.aload_n 0, 1) := by decide +kernel
theorem dX8_waiting_31 : decode cX8_waiting 31 = .ok (.iconst 1, 1) := by decide +kernel
theorem dX8_waiting_32 : decode cX8_waiting 32 = .ok (.invokevirtual 41, 3) := by decide +kernel
theorem dX8_waiting_35 : decode cX8_waiting 35 = .ok (.ireturn, 1) := by decide +kernel
theorem dX8_topPriority_0 : decode cX8_topPriority 0 = .ok (.aload_n 0, 1) := by decide +kernel
theorem dX8_topPriority_1 : decode cX8_topPriority 1 = .ok (.iconst 0, 1) := by decide +kernel
theorem dX8_topPriority_2 : decode cX8_topPriority 2 = .ok (.putfield 30, 3) := by decide +kernel
theorem dX8_topPriority_5 : decode cX8_topPriority 5 = .ok (.aload_n 0, 1) := by decide +kernel
theorem dX8_topPriority_6 : decode cX8_topPriority 6 = .ok (.iload_n 1, 1) := by decide +kernel
theorem dX8_topPriority_7 : decode cX8_topPriority 7 = .ok (.invokevirtual 55, 3) := by decide +kernel
theorem dX8_topPriority_10 : decode cX8_topPriority 10 = .ok (.ifCond .eq 11, 3) := by decide +kernel
theorem dX8_topPriority_13 : decode cX8_topPriority 13 = .ok (.aload_n 0, 1) := by decide +kernel
theorem dX8_topPriority_14 : decode cX8_topPriority 14 = .ok (.iload_n 2, 1) := by decide +kernel
theorem dX8_topPriority_15 : decode cX8_topPriority 15 = .ok (.invokevirtual 81, 3) := by decide +kernel
theorem dX8_topPriority_18 : decode cX8_topPriority 18 = .ok (.ifCond .ne 9, 3) := by decide +kernel
theorem dX8_topPriority_21 : decode cX8_topPriority 21 = .ok (.aload_n 0, 1) := by decide +kernel
theorem dX8_topPriority_22 : decode cX8_topPriority 22 = .ok (.iconst 1, 1) := by decide +kernel
theorem dX8_topPriority_23 : decode cX8_topPriority 23 = .ok (.invokevirtual 41, 3) := by decide +kernel
theorem dX8_topPriority_26 : decode cX8_topPriority 26 = .ok (.ireturn, 1) := by decide +kernel
theorem dX8_topPriority_27 : decode cX8_topPriority 27 = .ok (.aload_n 0, 1) := by decide +kernel
theorem dX8_topPriority_28 : decode cX8_topPriority 28 = .ok (.iload_n 1, 1) := by decide +kernel
theorem dX8_topPriority_29 : decode cX8_topPriority 29 = .ok (.iload_n 2, 1) := by decide +kernel
theorem dX8_topPriority_30 : decode cX8_topPriority 30 = .ok (.invokevirtual 112, 3) := by decide +kernel
theorem dX8_topPriority_33 : decode cX8_topPriority 33 = .ok (.istore_n 3, 1) := by decide +kernel
theorem dX8_topPriority_34 : decode cX8_topPriority 34 = .ok (.iload_n 3, 1) := by decide +kernel
theorem dX8_topPriority_35 : decode cX8_topPriority 35 = .ok (.iconst (-1), 1) := by decide +kernel
theorem dX8_topPriority_36 : decode cX8_topPriority 36 = .ok (.if_icmp .ne 7, 3) := by decide +kernel
theorem dX8_topPriority_39 : decode cX8_topPriority 39 = .ok (.iconst (-1), 1) := by decide +kernel
theorem dX8_topPriority_40 : decode cX8_topPriority 40 = .ok (.goto 9, 3) := by decide +kernel
theorem dX8_topPriority_43 : decode cX8_topPriority 43 = .ok (.aload_n 0, 1) := by decide +kernel
theorem dX8_topPriority_44 : decode cX8_topPriority 44 = .ok (.iload_n 3, 1) := by decide +kernel
theorem dX8_topPriority_45 : decode cX8_topPriority 45 = .ok (.iconst 2, 1) := by decide +kernel
theorem dX8_topPriority_46 : decode cX8_topPriority 46 = .ok (.invokevirtual 106, 3) := by decide +kernel
theorem dX8_topPriority_49 : decode cX8_topPriority 49 = .ok (.ireturn, 1) := by decide +kernel
theorem dX8_keptOrders_0 : decode cX8_keptOrders 0 = .ok (.aload_n 0, 1) := by decide +kernel
theorem dX8_keptOrders_1 : decode cX8_keptOrders 1 = .ok (.iconst 0, 1) := by decide +kernel
theorem dX8_keptOrders_2 : decode cX8_keptOrders 2 = .ok (.putfield 30, 3) := by decide +kernel
theorem dX8_keptOrders_5 : decode cX8_keptOrders 5 = .ok (.aload_n 0, 1) := by decide +kernel
theorem dX8_keptOrders_6 : decode cX8_keptOrders 6 = .ok (.iload_n 1, 1) := by decide +kernel
theorem dX8_keptOrders_7 : decode cX8_keptOrders 7 = .ok (.invokevirtual 81, 3) := by decide +kernel
theorem dX8_keptOrders_10 : decode cX8_keptOrders 10 = .ok (.ifCond .ne 9, 3) := by decide +kernel
theorem dX8_keptOrders_13 : decode cX8_keptOrders 13 = .ok (.aload_n 0, 1) := by decide +kernel
theorem dX8_keptOrders_14 : decode cX8_keptOrders 14 = .ok (.iconst 1, 1) := by decide +kernel
theorem dX8_keptOrders_15 : decode cX8_keptOrders 15 = .ok (.invokevirtual 41, 3) := by decide +kernel
theorem dX8_keptOrders_18 : decode cX8_keptOrders 18 = .ok (.ireturn, 1) := by decide +kernel
theorem dX8_keptOrders_19 : decode cX8_keptOrders 19 = .ok (.iconst 0, 1) := by decide +kernel
theorem dX8_keptOrders_20 : decode cX8_keptOrders 20 = .ok (.istore_n 2, 1) := by decide +kernel
theorem dX8_keptOrders_21 : decode cX8_keptOrders 21 = .ok (.iconst 0, 1) := by decide +kernel
theorem dX8_keptOrders_22 : decode cX8_keptOrders 22 = .ok (.istore_n 3, 1) := by decide +kernel
theorem dX8_keptOrders_23 : decode cX8_keptOrders 23 = .ok (.iload_n 3, 1) := by decide +kernel
theorem dX8_keptOrders_24 : decode cX8_keptOrders 24 = .ok (.aload_n 0, 1) := by decide +kernel
theorem dX8_keptOrders_25 : decode cX8_keptOrders 25 = .ok (.getfield 7, 3) := by decide +kernel
theorem dX8_keptOrders_28 : decode cX8_keptOrders 28 = .ok (.bipush 6, 2) := by decide +kernel
theorem dX8_keptOrders_30 : decode cX8_keptOrders 30 = .ok (.iaload, 1) := by decide +kernel
theorem dX8_keptOrders_31 : decode cX8_keptOrders 31 = .ok (.if_icmp .ge 27, 3) := by decide +kernel
theorem dX8_keptOrders_34 : decode cX8_keptOrders 34 = .ok (.iload_n 2, 1) := by decide +kernel
theorem dX8_keptOrders_35 : decode cX8_keptOrders 35 = .ok (.aload_n 0, 1) := by decide +kernel
theorem dX8_keptOrders_36 : decode cX8_keptOrders 36 = .ok (.iload_n 3, 1) := by decide +kernel
theorem dX8_keptOrders_37 : decode cX8_keptOrders 37 = .ok (.iconst 0, 1) := by decide +kernel
theorem dX8_keptOrders_38 : decode cX8_keptOrders 38 = .ok (.invokevirtual 96, 3) := by decide +kernel
theorem dX8_keptOrders_41 : decode cX8_keptOrders 41 = .ok (.iload_n 1, 1) := by decide +kernel
theorem dX8_keptOrders_42 : decode cX8_keptOrders 42 = .ok (.if_icmp .ne 7, 3) := by decide +kernel
theorem dX8_keptOrders_45 : decode cX8_keptOrders 45 = .ok (.iconst 1, 1) := by decide +kernel
theorem dX8_keptOrders_46 : decode cX8_keptOrders 46 = .ok (.goto 4, 3) := by decide +kernel
theorem dX8_keptOrders_49 : decode cX8_keptOrders 49 = .ok (.iconst 0, 1) := by decide +kernel
theorem dX8_keptOrders_50 : decode cX8_keptOrders 50 = .ok (.iadd, 1) := by decide +kernel
theorem dX8_keptOrders_51 : decode cX8_keptOrders 51 = .ok (.istore_n 2, 1) := by decide +kernel
theorem dX8_keptOrders_52 : decode cX8_keptOrders 52 = .ok (.iinc 3 1, 3) := by decide +kernel
theorem dX8_keptOrders_55 : decode cX8_keptOrders 55 = .ok (.goto (-32), 3) := by decide +kernel
theorem dX8_keptOrders_58 : decode cX8_keptOrders 58 = .ok (.iload_n 2, 1) := by decide +kernel
theorem dX8_keptOrders_59 : decode cX8_keptOrders 59 = .ok (.ireturn, 1) := by decide +kernel
theorem dX8_dueInOf_0 : decode cX8_dueInOf 0 = .ok (.iconst 0, 1) := by decide +kernel
theorem dX8_dueInOf_1 : decode cX8_dueInOf 1 = .ok (.istore_n 3, 1) := by decide +kernel
theorem dX8_dueInOf_2 : decode cX8_dueInOf 2 = .ok (.iconst 0, 1) := by decide +kernel
theorem dX8_dueInOf_3 : decode cX8_dueInOf 3 = .ok (.istore 4, 2) := by decide +kernel
theorem dX8_dueInOf_5 : decode cX8_dueInOf 5 = .ok (.iload 4, 2) := by decide +kernel
theorem dX8_dueInOf_7 : decode cX8_dueInOf 7 = .ok (.aload_n 0, 1) := by decide +kernel
theorem dX8_dueInOf_8 : decode cX8_dueInOf 8 = .ok (.getfield 7, 3) := by decide +kernel
theorem dX8_dueInOf_11 : decode cX8_dueInOf 11 = .ok (.iconst 4, 1) := by decide +kernel
theorem dX8_dueInOf_12 : decode cX8_dueInOf 12 = .ok (.iaload, 1) := by decide +kernel
theorem dX8_dueInOf_13 : decode cX8_dueInOf 13 = .ok (.if_icmp .ge 39, 3) := by decide +kernel
theorem dX8_dueInOf_16 : decode cX8_dueInOf 16 = .ok (.iload_n 3, 1) := by decide +kernel
theorem dX8_dueInOf_17 : decode cX8_dueInOf 17 = .ok (.aload_n 0, 1) := by decide +kernel
theorem dX8_dueInOf_18 : decode cX8_dueInOf 18 = .ok (.iload 4, 2) := by decide +kernel
theorem dX8_dueInOf_20 : decode cX8_dueInOf 20 = .ok (.iconst 1, 1) := by decide +kernel
theorem dX8_dueInOf_21 : decode cX8_dueInOf 21 = .ok (.invokevirtual 137, 3) := by decide +kernel
theorem dX8_dueInOf_24 : decode cX8_dueInOf 24 = .ok (.iload_n 2, 1) := by decide +kernel
theorem dX8_dueInOf_25 : decode cX8_dueInOf 25 = .ok (.if_icmp .ne 18, 3) := by decide +kernel
theorem dX8_dueInOf_28 : decode cX8_dueInOf 28 = .ok (.aload_n 0, 1) := by decide +kernel
theorem dX8_dueInOf_29 : decode cX8_dueInOf 29 = .ok (.iload 4, 2) := by decide +kernel
theorem dX8_dueInOf_31 : decode cX8_dueInOf 31 = .ok (.iconst 3, 1) := by decide +kernel
theorem dX8_dueInOf_32 : decode cX8_dueInOf 32 = .ok (.invokevirtual 137, 3) := by decide +kernel
theorem dX8_dueInOf_35 : decode cX8_dueInOf 35 = .ok (.iload_n 1, 1) := by decide +kernel
theorem dX8_dueInOf_36 : decode cX8_dueInOf 36 = .ok (.if_icmp .ne 7, 3) := by decide +kernel
theorem dX8_dueInOf_39 : decode cX8_dueInOf 39 = .ok (.iconst 1, 1) := by decide +kernel
theorem dX8_dueInOf_40 : decode cX8_dueInOf 40 = .ok (.goto 4, 3) := by decide +kernel
theorem dX8_dueInOf_43 : decode cX8_dueInOf 43 = .ok (.iconst 0, 1) := by decide +kernel
theorem dX8_dueInOf_44 : decode cX8_dueInOf 44 = .ok (.iadd, 1) := by decide +kernel
theorem dX8_dueInOf_45 : decode cX8_dueInOf 45 = .ok (.istore_n 3, 1) := by decide +kernel
theorem dX8_dueInOf_46 : decode cX8_dueInOf 46 = .ok (.iinc 4 1, 3) := by decide +kernel
theorem dX8_dueInOf_49 : decode cX8_dueInOf 49 = .ok (.goto (-44), 3) := by decide +kernel
theorem dX8_dueInOf_52 : decode cX8_dueInOf 52 = .ok (.iconst 0, 1) := by decide +kernel
theorem dX8_dueInOf_53 : decode cX8_dueInOf 53 = .ok (.istore 4, 2) := by decide +kernel
theorem dX8_dueInOf_55 : decode cX8_dueInOf 55 = .ok (.iload 4, 2) := by decide +kernel
theorem dX8_dueInOf_57 : decode cX8_dueInOf 57 = .ok (.aload_n 0, 1) := by decide +kernel
theorem dX8_dueInOf_58 : decode cX8_dueInOf 58 = .ok (.getfield 7, 3) := by decide +kernel
theorem dX8_dueInOf_61 : decode cX8_dueInOf 61 = .ok (.bipush 6, 2) := by decide +kernel
theorem dX8_dueInOf_63 : decode cX8_dueInOf 63 = .ok (.iaload, 1) := by decide +kernel
theorem dX8_dueInOf_64 : decode cX8_dueInOf 64 = .ok (.if_icmp .ge 39, 3) := by decide +kernel
theorem dX8_dueInOf_67 : decode cX8_dueInOf 67 = .ok (.iload_n 3, 1) := by decide +kernel
theorem dX8_dueInOf_68 : decode cX8_dueInOf 68 = .ok (.aload_n 0, 1) := by decide +kernel
theorem dX8_dueInOf_69 : decode cX8_dueInOf 69 = .ok (.iload 4, 2) := by decide +kernel
theorem dX8_dueInOf_71 : decode cX8_dueInOf 71 = .ok (.iconst 0, 1) := by decide +kernel
theorem dX8_dueInOf_72 : decode cX8_dueInOf 72 = .ok (.invokevirtual 96, 3) := by decide +kernel
theorem dX8_dueInOf_75 : decode cX8_dueInOf 75 = .ok (.iload_n 2, 1) := by decide +kernel
theorem dX8_dueInOf_76 : decode cX8_dueInOf 76 = .ok (.if_icmp .ne 18, 3) := by decide +kernel
theorem dX8_dueInOf_79 : decode cX8_dueInOf 79 = .ok (.aload_n 0, 1) := by decide +kernel
theorem dX8_dueInOf_80 : decode cX8_dueInOf 80 = .ok (.iload 4, 2) := by decide +kernel
theorem dX8_dueInOf_82 : decode cX8_dueInOf 82 = .ok (.iconst 1, 1) := by decide +kernel
theorem dX8_dueInOf_83 : decode cX8_dueInOf 83 = .ok (.invokevirtual 96, 3) := by decide +kernel
theorem dX8_dueInOf_86 : decode cX8_dueInOf 86 = .ok (.iload_n 1, 1) := by decide +kernel
theorem dX8_dueInOf_87 : decode cX8_dueInOf 87 = .ok (.if_icmp .ne 7, 3) := by decide +kernel
theorem dX8_dueInOf_90 : decode cX8_dueInOf 90 = .ok (.iconst 1, 1) := by decide +kernel
theorem dX8_dueInOf_91 : decode cX8_dueInOf 91 = .ok (.goto 4, 3) := by decide +kernel
theorem dX8_dueInOf_94 : decode cX8_dueInOf 94 = .ok (.iconst 0, 1) := by decide +kernel
theorem dX8_dueInOf_95 : decode cX8_dueInOf 95 = .ok (.iadd, 1) := by decide +kernel
theorem dX8_dueInOf_96 : decode cX8_dueInOf 96 = .ok (.istore_n 3, 1) := by decide +kernel
theorem dX8_dueInOf_97 : decode cX8_dueInOf 97 = .ok (.iinc 4 1, 3) := by decide +kernel
theorem dX8_dueInOf_100 : decode cX8_dueInOf 100 = .ok (.goto (-45), 3) := by decide +kernel
theorem dX8_dueInOf_103 : decode cX8_dueInOf 103 = .ok (.iload_n 3, 1) := by decide +kernel
theorem dX8_dueInOf_104 : decode cX8_dueInOf 104 = .ok (.ireturn, 1) := by decide +kernel
theorem dX8_dueIn_0 : decode cX8_dueIn 0 = .ok (.aload_n 0, 1) := by decide +kernel
theorem dX8_dueIn_1 : decode cX8_dueIn 1 = .ok (.iconst 0, 1) := by decide +kernel
theorem dX8_dueIn_2 : decode cX8_dueIn 2 = .ok (.putfield 30, 3) := by decide +kernel
theorem dX8_dueIn_5 : decode cX8_dueIn 5 = .ok (.aload_n 0, 1) := by decide +kernel
theorem dX8_dueIn_6 : decode cX8_dueIn 6 = .ok (.iload_n 1, 1) := by decide +kernel
theorem dX8_dueIn_7 : decode cX8_dueIn 7 = .ok (.invokevirtual 55, 3) := by decide +kernel
theorem dX8_dueIn_10 : decode cX8_dueIn 10 = .ok (.ifCond .eq 20, 3) := by decide +kernel
theorem dX8_dueIn_13 : decode cX8_dueIn 13 = .ok (.aload_n 0, 1) := by decide +kernel
theorem dX8_dueIn_14 : decode cX8_dueIn 14 = .ok (.iload_n 2, 1) := by decide +kernel
theorem dX8_dueIn_15 : decode cX8_dueIn 15 = .ok (.invokevirtual 81, 3) := by decide +kernel
theorem dX8_dueIn_18 : decode cX8_dueIn 18 = .ok (.ifCond .eq 12, 3) := by decide +kernel
theorem dX8_dueIn_21 : decode cX8_dueIn 21 = .ok (.aload_n 0, 1) := by decide +kernel
theorem dX8_dueIn_22 : decode cX8_dueIn 22 = .ok (.iload_n 1, 1) := by decide +kernel
theorem dX8_dueIn_23 : decode cX8_dueIn 23 = .ok (.iload_n 2, 1) := by decide +kernel
theorem dX8_dueIn_24 : decode cX8_dueIn 24 = .ok (.invokevirtual 189, 3) := by decide +kernel
theorem dX8_dueIn_27 : decode cX8_dueIn 27 = .ok (.goto 8, 3) := by decide +kernel
theorem dX8_dueIn_30 : decode cX8_dueIn 30 = .ok (.aload_n 0, 1) := by decide +kernel
theorem dX8_dueIn_31 : decode cX8_dueIn 31 = .ok (.iconst 1, 1) := by decide +kernel
theorem dX8_dueIn_32 : decode cX8_dueIn 32 = .ok (.invokevirtual 41, 3) := by decide +kernel
theorem dX8_dueIn_35 : decode cX8_dueIn 35 = .ok (.ireturn, 1) := by decide +kernel
theorem dX8_position_0 : decode cX8_position 0 = .ok (.aload_n 0, 1) := by decide +kernel
theorem dX8_position_1 : decode cX8_position 1 = .ok (.iconst 0, 1) := by decide +kernel
theorem dX8_position_2 : decode cX8_position 2 = .ok (.putfield 30, 3) := by decide +kernel
theorem dX8_position_5 : decode cX8_position 5 = .ok (.aload_n 0, 1) := by decide +kernel
theorem dX8_position_6 : decode cX8_position 6 = .ok (.iload_n 1, 1) := by decide +kernel
theorem dX8_position_7 : decode cX8_position 7 = .ok (.invokevirtual 55, 3) := by decide +kernel
theorem dX8_position_10 : decode cX8_position 10 = .ok (.ifCond .eq 40, 3) := by decide +kernel
theorem dX8_position_13 : decode cX8_position 13 = .ok (.aload_n 0, 1) := by decide +kernel
theorem dX8_position_14 : decode cX8_position 14 = .ok (.iload_n 2, 1) := by decide +kernel
theorem dX8_position_15 : decode cX8_position 15 = .ok (.invokevirtual 81, 3) := by decide +kernel
theorem dX8_position_18 : decode cX8_position 18 = .ok (.ifCond .eq 32, 3) := by decide +kernel
theorem dX8_position_21 : decode cX8_position 21 = .ok (.aload_n 0, 1) := by decide +kernel
theorem dX8_position_22 : decode cX8_position 22 = .ok (.getfield 7, 3) := by decide +kernel
theorem dX8_position_25 : decode cX8_position 25 = .ok (.bipush 124, 2) := by decide +kernel
theorem dX8_position_27 : decode cX8_position 27 = .ok (.iload_n 1, 1) := by decide +kernel
theorem dX8_position_28 : decode cX8_position 28 = .ok (.iload_n 2, 1) := by decide +kernel
theorem dX8_position_29 : decode cX8_position 29 = .ok (.invokestatic 62, 3) := by decide +kernel
theorem dX8_position_32 : decode cX8_position 32 = .ok (.iaload, 1) := by decide +kernel
theorem dX8_position_33 : decode cX8_position 33 = .ok (.aload_n 0, 1) := by decide +kernel
theorem dX8_position_34 : decode cX8_position 34 = .ok (.iload_n 1, 1) := by decide +kernel
theorem dX8_position_35 : decode cX8_position 35 = .ok (.iload_n 2, 1) := by decide +kernel
theorem dX8_position_36 : decode cX8_position 36 = .ok (.invokevirtual 189, 3) := by decide +kernel
theorem dX8_position_39 : decode cX8_position 39 = .ok (.iadd, 1) := by decide +kernel
theorem dX8_position_40 : decode cX8_position 40 = .ok (.aload_n 0, 1) := by decide +kernel
theorem dX8_position_41 : decode cX8_position 41 = .ok (.iload_n 1, 1) := by decide +kernel
theorem dX8_position_42 : decode cX8_position 42 = .ok (.iload_n 2, 1) := by decide +kernel
theorem dX8_position_43 : decode cX8_position 43 = .ok (.invokevirtual 186, 3) := by decide +kernel
theorem dX8_position_46 : decode cX8_position 46 = .ok (.isub, 1) := by decide +kernel
theorem dX8_position_47 : decode cX8_position 47 = .ok (.goto 8, 3) := by decide +kernel
theorem dX8_position_50 : decode cX8_position 50 = .ok (.aload_n 0, 1) := by decide +kernel
theorem dX8_position_51 : decode cX8_position 51 = .ok (.iconst 1, 1) := by decide +kernel
theorem dX8_position_52 : decode cX8_position 52 = .ok (.invokevirtual 41, 3) := by decide +kernel
theorem dX8_position_55 : decode cX8_position 55 = .ok (.ireturn, 1) := by decide +kernel
theorem dX8_underWay_0 : decode cX8_underWay 0 = .ok (.aload_n 0, 1) := by decide +kernel
theorem dX8_underWay_1 : decode cX8_underWay 1 = .ok (.iconst 0, 1) := by decide +kernel
theorem dX8_underWay_2 : decode cX8_underWay 2 = .ok (.putfield 30, 3) := by decide +kernel
theorem dX8_underWay_5 : decode cX8_underWay 5 = .ok (.aload_n 0, 1) := by decide +kernel
theorem dX8_underWay_6 : decode cX8_underWay 6 = .ok (.iload_n 1, 1) := by decide +kernel
theorem dX8_underWay_7 : decode cX8_underWay 7 = .ok (.invokevirtual 81, 3) := by decide +kernel
theorem dX8_underWay_10 : decode cX8_underWay 10 = .ok (.ifCond .ne 9, 3) := by decide +kernel
theorem dX8_underWay_13 : decode cX8_underWay 13 = .ok (.aload_n 0, 1) := by decide +kernel
theorem dX8_underWay_14 : decode cX8_underWay 14 = .ok (.iconst 1, 1) := by decide +kernel
theorem dX8_underWay_15 : decode cX8_underWay 15 = .ok (.invokevirtual 41, 3) := by decide +kernel
theorem dX8_underWay_18 : decode cX8_underWay 18 = .ok (.ireturn, 1) := by decide +kernel
theorem dX8_underWay_19 : decode cX8_underWay 19 = .ok (.iload_n 2, 1) := by decide +kernel
theorem dX8_underWay_20 : decode cX8_underWay 20 = .ok (.iconst 0, 1) := by decide +kernel
theorem dX8_underWay_21 : decode cX8_underWay 21 = .ok (.iconst 4, 1) := by decide +kernel
theorem dX8_underWay_22 : decode cX8_underWay 22 = .ok (.invokestatic 33, 3) := by decide +kernel
theorem dX8_underWay_25 : decode cX8_underWay 25 = .ok (.ifCond .ne 9, 3) := by decide +kernel
theorem dX8_underWay_28 : decode cX8_underWay 28 = .ok (.aload_n 0, 1) := by decide +kernel
theorem dX8_underWay_29 : decode cX8_underWay 29 = .ok (.iconst 2, 1) := by decide +kernel
theorem dX8_underWay_30 : decode cX8_underWay 30 = .ok (.invokevirtual 41, 3) := by decide +kernel
theorem dX8_underWay_33 : decode cX8_underWay 33 = .ok (.ireturn, 1) := by decide +kernel
theorem dX8_underWay_34 : decode cX8_underWay 34 = .ok (.iconst 0, 1) := by decide +kernel
theorem dX8_underWay_35 : decode cX8_underWay 35 = .ok (.istore_n 3, 1) := by decide +kernel
theorem dX8_underWay_36 : decode cX8_underWay 36 = .ok (.iconst 0, 1) := by decide +kernel
theorem dX8_underWay_37 : decode cX8_underWay 37 = .ok (.istore 4, 2) := by decide +kernel
theorem dX8_underWay_39 : decode cX8_underWay 39 = .ok (.iload 4, 2) := by decide +kernel
theorem dX8_underWay_41 : decode cX8_underWay 41 = .ok (.aload_n 0, 1) := by decide +kernel
theorem dX8_underWay_42 : decode cX8_underWay 42 = .ok (.getfield 7, 3) := by decide +kernel
theorem dX8_underWay_45 : decode cX8_underWay 45 = .ok (.iconst 4, 1) := by decide +kernel
theorem dX8_underWay_46 : decode cX8_underWay 46 = .ok (.iaload, 1) := by decide +kernel
theorem dX8_underWay_47 : decode cX8_underWay 47 = .ok (.if_icmp .ge 39, 3) := by decide +kernel
theorem dX8_underWay_50 : decode cX8_underWay 50 = .ok (.iload_n 3, 1) := by decide +kernel
theorem dX8_underWay_51 : decode cX8_underWay 51 = .ok (.aload_n 0, 1) := by decide +kernel
theorem dX8_underWay_52 : decode cX8_underWay 52 = .ok (.iload 4, 2) := by decide +kernel
theorem dX8_underWay_54 : decode cX8_underWay 54 = .ok (.iconst 1, 1) := by decide +kernel
theorem dX8_underWay_55 : decode cX8_underWay 55 = .ok (.invokevirtual 137, 3) := by decide +kernel
theorem dX8_underWay_58 : decode cX8_underWay 58 = .ok (.iload_n 1, 1) := by decide +kernel
theorem dX8_underWay_59 : decode cX8_underWay 59 = .ok (.if_icmp .ne 18, 3) := by decide +kernel
theorem dX8_underWay_62 : decode cX8_underWay 62 = .ok (.aload_n 0, 1) := by decide +kernel
theorem dX8_underWay_63 : decode cX8_underWay 63 = .ok (.iload 4, 2) := by decide +kernel
theorem dX8_underWay_65 : decode cX8_underWay 65 = .ok (.iconst 0, 1) := by decide +kernel
theorem dX8_underWay_66 : decode cX8_underWay 66 = .ok (.invokevirtual 137, 3) := by decide +kernel
theorem dX8_underWay_69 : decode cX8_underWay 69 = .ok (.iload_n 2, 1) := by decide +kernel
theorem dX8_underWay_70 : decode cX8_underWay 70 = .ok (.if_icmp .ne 7, 3) := by decide +kernel
theorem dX8_underWay_73 : decode cX8_underWay 73 = .ok (.iconst 1, 1) := by decide +kernel
theorem dX8_underWay_74 : decode cX8_underWay 74 = .ok (.goto 4, 3) := by decide +kernel
theorem dX8_underWay_77 : decode cX8_underWay 77 = .ok (.iconst 0, 1) := by decide +kernel
theorem dX8_underWay_78 : decode cX8_underWay 78 = .ok (.iadd, 1) := by decide +kernel
theorem dX8_underWay_79 : decode cX8_underWay 79 = .ok (.istore_n 3, 1) := by decide +kernel
theorem dX8_underWay_80 : decode cX8_underWay 80 = .ok (.iinc 4 1, 3) := by decide +kernel
theorem dX8_underWay_83 : decode cX8_underWay 83 = .ok (.goto (-44), 3) := by decide +kernel
theorem dX8_underWay_86 : decode cX8_underWay 86 = .ok (.iload_n 3, 1) := by decide +kernel
theorem dX8_underWay_87 : decode cX8_underWay 87 = .ok (.ireturn, 1) := by decide +kernel
theorem dX8_fleet_0 : decode cX8_fleet 0 = .ok (.aload_n 0, 1) := by decide +kernel
theorem dX8_fleet_1 : decode cX8_fleet 1 = .ok (.iconst 0, 1) := by decide +kernel
theorem dX8_fleet_2 : decode cX8_fleet 2 = .ok (.putfield 30, 3) := by decide +kernel
theorem dX8_fleet_5 : decode cX8_fleet 5 = .ok (.aload_n 0, 1) := by decide +kernel
theorem dX8_fleet_6 : decode cX8_fleet 6 = .ok (.iload_n 1, 1) := by decide +kernel
theorem dX8_fleet_7 : decode cX8_fleet 7 = .ok (.invokevirtual 81, 3) := by decide +kernel
theorem dX8_fleet_10 : decode cX8_fleet 10 = .ok (.ifCond .ne 9, 3) := by decide +kernel
theorem dX8_fleet_13 : decode cX8_fleet 13 = .ok (.aload_n 0, 1) := by decide +kernel
theorem dX8_fleet_14 : decode cX8_fleet 14 = .ok (.iconst 1, 1) := by decide +kernel
theorem dX8_fleet_15 : decode cX8_fleet 15 = .ok (.invokevirtual 41, 3) := by decide +kernel
theorem dX8_fleet_18 : decode cX8_fleet 18 = .ok (.ireturn, 1) := by decide +kernel
theorem dX8_fleet_19 : decode cX8_fleet 19 = .ok (.iconst 0, 1) := by decide +kernel
theorem dX8_fleet_20 : decode cX8_fleet 20 = .ok (.istore_n 2, 1) := by decide +kernel
theorem dX8_fleet_21 : decode cX8_fleet 21 = .ok (.iconst 0, 1) := by decide +kernel
theorem dX8_fleet_22 : decode cX8_fleet 22 = .ok (.istore_n 3, 1) := by decide +kernel
theorem dX8_fleet_23 : decode cX8_fleet 23 = .ok (.iload_n 3, 1) := by decide +kernel
theorem dX8_fleet_24 : decode cX8_fleet 24 = .ok (.aload_n 0, 1) := by decide +kernel
theorem dX8_fleet_25 : decode cX8_fleet 25 = .ok (.getfield 7, 3) := by decide +kernel
theorem dX8_fleet_28 : decode cX8_fleet 28 = .ok (.iconst 4, 1) := by decide +kernel
theorem dX8_fleet_29 : decode cX8_fleet 29 = .ok (.iaload, 1) := by decide +kernel
theorem dX8_fleet_30 : decode cX8_fleet 30 = .ok (.if_icmp .ge 27, 3) := by decide +kernel
theorem dX8_fleet_33 : decode cX8_fleet 33 = .ok (.iload_n 2, 1) := by decide +kernel
theorem dX8_fleet_34 : decode cX8_fleet 34 = .ok (.aload_n 0, 1) := by decide +kernel
theorem dX8_fleet_35 : decode cX8_fleet 35 = .ok (.iload_n 3, 1) := by decide +kernel
theorem dX8_fleet_36 : decode cX8_fleet 36 = .ok (.iconst 1, 1) := by decide +kernel
theorem dX8_fleet_37 : decode cX8_fleet 37 = .ok (.invokevirtual 137, 3) := by decide +kernel
theorem dX8_fleet_40 : decode cX8_fleet 40 = .ok (.iload_n 1, 1) := by decide +kernel
theorem dX8_fleet_41 : decode cX8_fleet 41 = .ok (.if_icmp .ne 7, 3) := by decide +kernel
theorem dX8_fleet_44 : decode cX8_fleet 44 = .ok (.iconst 1, 1) := by decide +kernel
theorem dX8_fleet_45 : decode cX8_fleet 45 = .ok (.goto 4, 3) := by decide +kernel
theorem dX8_fleet_48 : decode cX8_fleet 48 = .ok (.iconst 0, 1) := by decide +kernel
theorem dX8_fleet_49 : decode cX8_fleet 49 = .ok (.iadd, 1) := by decide +kernel
theorem dX8_fleet_50 : decode cX8_fleet 50 = .ok (.istore_n 2, 1) := by decide +kernel
theorem dX8_fleet_51 : decode cX8_fleet 51 = .ok (.iinc 3 1, 3) := by decide +kernel
theorem dX8_fleet_54 : decode cX8_fleet 54 = .ok (.goto (-31), 3) := by decide +kernel
theorem dX8_fleet_57 : decode cX8_fleet 57 = .ok (.iconst 0, 1) := by decide +kernel
theorem dX8_fleet_58 : decode cX8_fleet 58 = .ok (.istore_n 3, 1) := by decide +kernel
theorem dX8_fleet_59 : decode cX8_fleet 59 = .ok (.iload_n 3, 1) := by decide +kernel
theorem dX8_fleet_60 : decode cX8_fleet 60 = .ok (.aload_n 0, 1) := by decide +kernel
theorem dX8_fleet_61 : decode cX8_fleet 61 = .ok (.getfield 7, 3) := by decide +kernel
theorem dX8_fleet_64 : decode cX8_fleet 64 = .ok (.iconst 3, 1) := by decide +kernel
theorem dX8_fleet_65 : decode cX8_fleet 65 = .ok (.iaload, 1) := by decide +kernel
theorem dX8_fleet_66 : decode cX8_fleet 66 = .ok (.if_icmp .ge 31, 3) := by decide +kernel
theorem dX8_fleet_69 : decode cX8_fleet 69 = .ok (.iload_n 2, 1) := by decide +kernel
theorem dX8_fleet_70 : decode cX8_fleet 70 = .ok (.aload_n 0, 1) := by decide +kernel
theorem dX8_fleet_71 : decode cX8_fleet 71 = .ok (.getfield 7, 3) := by decide +kernel
theorem dX8_fleet_74 : decode cX8_fleet 74 = .ok (.bipush 124, 2) := by decide +kernel
theorem dX8_fleet_76 : decode cX8_fleet 76 = .ok (.iload_n 3, 1) := by decide +kernel
theorem dX8_fleet_77 : decode cX8_fleet 77 = .ok (.iload_n 1, 1) := by decide +kernel
theorem dX8_fleet_78 : decode cX8_fleet 78 = .ok (.invokestatic 62, 3) := by decide +kernel
theorem dX8_fleet_81 : decode cX8_fleet 81 = .ok (.iaload, 1) := by decide +kernel
theorem dX8_fleet_82 : decode cX8_fleet 82 = .ok (.aload_n 0, 1) := by decide +kernel
theorem dX8_fleet_83 : decode cX8_fleet 83 = .ok (.iload_n 3, 1) := by decide +kernel
theorem dX8_fleet_84 : decode cX8_fleet 84 = .ok (.iload_n 1, 1) := by decide +kernel
theorem dX8_fleet_85 : decode cX8_fleet 85 = .ok (.invokevirtual 186, 3) := by decide +kernel
theorem dX8_fleet_88 : decode cX8_fleet 88 = .ok (.isub, 1) := by decide +kernel
theorem dX8_fleet_89 : decode cX8_fleet 89 = .ok (.iadd, 1) := by decide +kernel
theorem dX8_fleet_90 : decode cX8_fleet 90 = .ok (.istore_n 2, 1) := by decide +kernel
theorem dX8_fleet_91 : decode cX8_fleet 91 = .ok (.iinc 3 1, 3) := by decide +kernel
theorem dX8_fleet_94 : decode cX8_fleet 94 = .ok (.goto (-35), 3) := by decide +kernel
theorem dX8_fleet_97 : decode cX8_fleet 97 = .ok (.iload_n 2, 1) := by decide +kernel
theorem dX8_fleet_98 : decode cX8_fleet 98 = .ok (.ireturn, 1) := by decide +kernel
theorem dX8_nextArrival_0 : decode cX8_nextArrival 0 = .ok (.aload_n 0, 1) := by decide +kernel
theorem dX8_nextArrival_1 : decode cX8_nextArrival 1 = .ok (.iconst 0, 1) := by decide +kernel
theorem dX8_nextArrival_2 : decode cX8_nextArrival 2 = .ok (.putfield 30, 3) := by decide +kernel
theorem dX8_nextArrival_5 : decode cX8_nextArrival 5 = .ok (.aload_n 0, 1) := by decide +kernel
theorem dX8_nextArrival_6 : decode cX8_nextArrival 6 = .ok (.iload_n 1, 1) := by decide +kernel
theorem dX8_nextArrival_7 : decode cX8_nextArrival 7 = .ok (.invokevirtual 55, 3) := by decide +kernel
theorem dX8_nextArrival_10 : decode cX8_nextArrival 10 = .ok (.ifCond .eq 11, 3) := by decide +kernel
theorem dX8_nextArrival_13 : decode cX8_nextArrival 13 = .ok (.aload_n 0, 1) := by decide +kernel
theorem dX8_nextArrival_14 : decode cX8_nextArrival 14 = .ok (.iload_n 2, 1) := by decide +kernel
theorem dX8_nextArrival_15 : decode cX8_nextArrival 15 = .ok (.invokevirtual 81, 3) := by decide +kernel
theorem dX8_nextArrival_18 : decode cX8_nextArrival 18 = .ok (.ifCond .ne 9, 3) := by decide +kernel
theorem dX8_nextArrival_21 : decode cX8_nextArrival 21 = .ok (.aload_n 0, 1) := by decide +kernel
theorem dX8_nextArrival_22 : decode cX8_nextArrival 22 = .ok (.iconst 1, 1) := by decide +kernel
theorem dX8_nextArrival_23 : decode cX8_nextArrival 23 = .ok (.invokevirtual 41, 3) := by decide +kernel
theorem dX8_nextArrival_26 : decode cX8_nextArrival 26 = .ok (.ireturn, 1) := by decide +kernel
theorem dX8_nextArrival_27 : decode cX8_nextArrival 27 = .ok (.iconst (-1), 1) := by decide +kernel
theorem dX8_nextArrival_28 : decode cX8_nextArrival 28 = .ok (.istore_n 3, 1) := by decide +kernel
theorem dX8_nextArrival_29 : decode cX8_nextArrival 29 = .ok (.iconst 0, 1) := by decide +kernel
theorem dX8_nextArrival_30 : decode cX8_nextArrival 30 = .ok (.istore 4, 2) := by decide +kernel
theorem dX8_nextArrival_32 : decode cX8_nextArrival 32 = .ok (.iload 4, 2) := by decide +kernel
theorem dX8_nextArrival_34 : decode cX8_nextArrival 34 = .ok (.aload_n 0, 1) := by decide +kernel
theorem dX8_nextArrival_35 : decode cX8_nextArrival 35 = .ok (.getfield 7, 3) := by decide +kernel
theorem dX8_nextArrival_38 : decode cX8_nextArrival 38 = .ok (.iconst 4, 1) := by decide +kernel
theorem dX8_nextArrival_39 : decode cX8_nextArrival 39 = .ok (.iaload, 1) := by decide +kernel
theorem dX8_nextArrival_40 : decode cX8_nextArrival 40 = .ok (.if_icmp .ge 92, 3) := by decide +kernel
theorem dX8_nextArrival_43 : decode cX8_nextArrival 43 = .ok (.aload_n 0, 1) := by decide +kernel
theorem dX8_nextArrival_44 : decode cX8_nextArrival 44 = .ok (.iload 4, 2) := by decide +kernel
theorem dX8_nextArrival_46 : decode cX8_nextArrival 46 = .ok (.iconst 1, 1) := by decide +kernel
theorem dX8_nextArrival_47 : decode cX8_nextArrival 47 = .ok (.invokevirtual 137, 3) := by decide +kernel
theorem dX8_nextArrival_50 : decode cX8_nextArrival 50 = .ok (.iload_n 2, 1) := by decide +kernel
theorem dX8_nextArrival_51 : decode cX8_nextArrival 51 = .ok (.if_icmp .ne 29, 3) := by decide +kernel
theorem dX8_nextArrival_54 : decode cX8_nextArrival 54 = .ok (.aload_n 0, 1) := by decide +kernel
theorem dX8_nextArrival_55 : decode cX8_nextArrival 55 = .ok (.iload 4, 2) := by decide +kernel
theorem dX8_nextArrival_57 : decode cX8_nextArrival 57 = .ok (.iconst 3, 1) := by decide +kernel
theorem dX8_nextArrival_58 : decode cX8_nextArrival 58 = .ok (.invokevirtual 137, 3) := by decide +kernel
theorem dX8_nextArrival_61 : decode cX8_nextArrival 61 = .ok (.iload_n 1, 1) := by decide +kernel
theorem dX8_nextArrival_62 : decode cX8_nextArrival 62 = .ok (.if_icmp .ne 18, 3) := by decide +kernel
theorem dX8_nextArrival_65 : decode cX8_nextArrival 65 = .ok (.aload_n 0, 1) := by decide +kernel
theorem dX8_nextArrival_66 : decode cX8_nextArrival 66 = .ok (.iload 4, 2) := by decide +kernel
theorem dX8_nextArrival_68 : decode cX8_nextArrival 68 = .ok (.iconst 2, 1) := by decide +kernel
theorem dX8_nextArrival_69 : decode cX8_nextArrival 69 = .ok (.invokevirtual 137, 3) := by decide +kernel
theorem dX8_nextArrival_72 : decode cX8_nextArrival 72 = .ok (.iload_n 1, 1) := by decide +kernel
theorem dX8_nextArrival_73 : decode cX8_nextArrival 73 = .ok (.if_icmp .ne 7, 3) := by decide +kernel
theorem dX8_nextArrival_76 : decode cX8_nextArrival 76 = .ok (.iconst 1, 1) := by decide +kernel
theorem dX8_nextArrival_77 : decode cX8_nextArrival 77 = .ok (.goto 4, 3) := by decide +kernel
theorem dX8_nextArrival_80 : decode cX8_nextArrival 80 = .ok (.iconst 0, 1) := by decide +kernel
theorem dX8_nextArrival_81 : decode cX8_nextArrival 81 = .ok (.istore 5, 2) := by decide +kernel
theorem dX8_nextArrival_83 : decode cX8_nextArrival 83 = .ok (.iload 5, 2) := by decide +kernel
theorem dX8_nextArrival_85 : decode cX8_nextArrival 85 = .ok (.ifCond .eq 41, 3) := by decide +kernel
theorem dX8_nextArrival_88 : decode cX8_nextArrival 88 = .ok (.iload_n 3, 1) := by decide +kernel
theorem dX8_nextArrival_89 : decode cX8_nextArrival 89 = .ok (.iconst (-1), 1) := by decide +kernel
theorem dX8_nextArrival_90 : decode cX8_nextArrival 90 = .ok (.if_icmp .eq 21, 3) := by decide +kernel
theorem dX8_nextArrival_93 : decode cX8_nextArrival 93 = .ok (.aload_n 0, 1) := by decide +kernel
theorem dX8_nextArrival_94 : decode cX8_nextArrival 94 = .ok (.iload 4, 2) := by decide +kernel
theorem dX8_nextArrival_96 : decode cX8_nextArrival 96 = .ok (.iconst 4, 1) := by decide +kernel
theorem dX8_nextArrival_97 : decode cX8_nextArrival 97 = .ok (.invokevirtual 137, 3) := by decide +kernel
theorem dX8_nextArrival_100 : decode cX8_nextArrival 100 = .ok (.aload_n 0, 1) := by decide +kernel
theorem dX8_nextArrival_101 : decode cX8_nextArrival 101 = .ok (.getfield 7, 3) := by decide +kernel
theorem dX8_nextArrival_104 : decode cX8_nextArrival 104 = .ok (.iconst 0, 1) := by decide +kernel
theorem dX8_nextArrival_105 : decode cX8_nextArrival 105 = .ok (.iaload, 1) := by decide +kernel
theorem dX8_nextArrival_106 : decode cX8_nextArrival 106 = .ok (.isub, 1) := by decide +kernel
theorem dX8_nextArrival_107 : decode cX8_nextArrival 107 = .ok (.iload_n 3, 1) := by decide +kernel
theorem dX8_nextArrival_108 : decode cX8_nextArrival 108 = .ok (.if_icmp .ge 18, 3) := by decide +kernel
theorem dX8_nextArrival_111 : decode cX8_nextArrival 111 = .ok (.aload_n 0, 1) := by decide +kernel
theorem dX8_nextArrival_112 : decode cX8_nextArrival 112 = .ok (.iload 4, 2) := by decide +kernel
theorem dX8_nextArrival_114 : decode cX8_nextArrival 114 = .ok (.iconst 4, 1) := by decide +kernel
theorem dX8_nextArrival_115 : decode cX8_nextArrival 115 = .ok (.invokevirtual 137, 3) := by decide +kernel
theorem dX8_nextArrival_118 : decode cX8_nextArrival 118 = .ok (.aload_n 0, 1) := by decide +kernel
theorem dX8_nextArrival_119 : decode cX8_nextArrival 119 = .ok (.getfield 7, 3) := by decide +kernel
theorem dX8_nextArrival_122 : decode cX8_nextArrival 122 = .ok (.iconst 0, 1) := by decide +kernel
theorem dX8_nextArrival_123 : decode cX8_nextArrival 123 = .ok (.iaload, 1) := by decide +kernel
theorem dX8_nextArrival_124 : decode cX8_nextArrival 124 = .ok (.isub, 1) := by decide +kernel
theorem dX8_nextArrival_125 : decode cX8_nextArrival 125 = .ok (.istore_n 3, 1) := by decide +kernel
theorem dX8_nextArrival_126 : decode cX8_nextArrival 126 = .ok (.iinc 4 1, 3) := by decide +kernel
theorem dX8_nextArrival_129 : decode cX8_nextArrival 129 = .ok (.goto (-97), 3) := by decide +kernel
theorem dX8_nextArrival_132 : decode cX8_nextArrival 132 = .ok (.iload_n 3, 1) := by decide +kernel
theorem dX8_nextArrival_133 : decode cX8_nextArrival 133 = .ok (.ireturn, 1) := by decide +kernel
theorem dX8_countDue_0 : decode cX8_countDue 0 = .ok (.iconst 0, 1) := by decide +kernel
theorem dX8_countDue_1 : decode cX8_countDue 1 = .ok (.istore_n 1, 1) := by decide +kernel
theorem dX8_countDue_2 : decode cX8_countDue 2 = .ok (.iconst 0, 1) := by decide +kernel
theorem dX8_countDue_3 : decode cX8_countDue 3 = .ok (.istore_n 2, 1) := by decide +kernel
theorem dX8_countDue_4 : decode cX8_countDue 4 = .ok (.iload_n 2, 1) := by decide +kernel
theorem dX8_countDue_5 : decode cX8_countDue 5 = .ok (.aload_n 0, 1) := by decide +kernel
theorem dX8_countDue_6 : decode cX8_countDue 6 = .ok (.getfield 7, 3) := by decide +kernel
theorem dX8_countDue_9 : decode cX8_countDue 9 = .ok (.iconst 4, 1) := by decide +kernel
theorem dX8_countDue_10 : decode cX8_countDue 10 = .ok (.iaload, 1) := by decide +kernel
theorem dX8_countDue_11 : decode cX8_countDue 11 = .ok (.if_icmp .ge 27, 3) := by decide +kernel
theorem dX8_countDue_14 : decode cX8_countDue 14 = .ok (.iload_n 1, 1) := by decide +kernel
theorem dX8_countDue_15 : decode cX8_countDue 15 = .ok (.aload_n 0, 1) := by decide +kernel
theorem dX8_countDue_16 : decode cX8_countDue 16 = .ok (.iload_n 2, 1) := by decide +kernel
theorem dX8_countDue_17 : decode cX8_countDue 17 = .ok (.iconst 0, 1) := by decide +kernel
theorem dX8_countDue_18 : decode cX8_countDue 18 = .ok (.invokevirtual 137, 3) := by decide +kernel
theorem dX8_countDue_21 : decode cX8_countDue 21 = .ok (.iconst 4, 1) := by decide +kernel
theorem dX8_countDue_22 : decode cX8_countDue 22 = .ok (.if_icmp .ne 7, 3) := by decide +kernel
theorem dX8_countDue_25 : decode cX8_countDue 25 = .ok (.iconst 0, 1) := by decide +kernel
theorem dX8_countDue_26 : decode cX8_countDue 26 = .ok (.goto 4, 3) := by decide +kernel
theorem dX8_countDue_29 : decode cX8_countDue 29 = .ok (.iconst 1, 1) := by decide +kernel
theorem dX8_countDue_30 : decode cX8_countDue 30 = .ok (.iadd, 1) := by decide +kernel
theorem dX8_countDue_31 : decode cX8_countDue 31 = .ok (.istore_n 1, 1) := by decide +kernel
theorem dX8_countDue_32 : decode cX8_countDue 32 = .ok (.iinc 2 1, 3) := by decide +kernel
theorem dX8_countDue_35 : decode cX8_countDue 35 = .ok (.goto (-31), 3) := by decide +kernel
theorem dX8_countDue_38 : decode cX8_countDue 38 = .ok (.iload_n 1, 1) := by decide +kernel
theorem dX8_countDue_39 : decode cX8_countDue 39 = .ok (.ireturn, 1) := by decide +kernel
theorem dX8_dueCount_0 : decode cX8_dueCount 0 = .ok (.aload_n 0, 1) := by decide +kernel
theorem dX8_dueCount_1 : decode cX8_dueCount 1 = .ok (.iconst 0, 1) := by decide +kernel
theorem dX8_dueCount_2 : decode cX8_dueCount 2 = .ok (.putfield 30, 3) := by decide +kernel
theorem dX8_dueCount_5 : decode cX8_dueCount 5 = .ok (.aload_n 0, 1) := by decide +kernel
theorem dX8_dueCount_6 : decode cX8_dueCount 6 = .ok (.invokevirtual 192, 3) := by decide +kernel
theorem dX8_dueCount_9 : decode cX8_dueCount 9 = .ok (.ireturn, 1) := by decide +kernel
theorem dX8_isAhead_0 : decode cX8_isAhead 0 = .ok (.aload_n 0, 1) := by decide +kernel
theorem dX8_isAhead_1 : decode cX8_isAhead 1 = .ok (.iload_n 1, 1) := by decide +kernel
theorem dX8_isAhead_2 : decode cX8_isAhead 2 = .ok (.iconst 4, 1) := by decide +kernel
theorem dX8_isAhead_3 : decode cX8_isAhead 3 = .ok (.invokevirtual 137, 3) := by decide +kernel
theorem dX8_isAhead_6 : decode cX8_isAhead 6 = .ok (.aload_n 0, 1) := by decide +kernel
theorem dX8_isAhead_7 : decode cX8_isAhead 7 = .ok (.iload_n 2, 1) := by decide +kernel
theorem dX8_isAhead_8 : decode cX8_isAhead 8 = .ok (.iconst 4, 1) := by decide +kernel
theorem dX8_isAhead_9 : decode cX8_isAhead 9 = .ok (.invokevirtual 137, 3) := by decide +kernel
theorem dX8_isAhead_12 : decode cX8_isAhead 12 = .ok (.if_icmp .eq 24, 3) := by decide +kernel
theorem dX8_isAhead_15 : decode cX8_isAhead 15 = .ok (.aload_n 0, 1) := by decide +kernel
theorem dX8_isAhead_16 : decode cX8_isAhead 16 = .ok (.iload_n 1, 1) := by decide +kernel
theorem dX8_isAhead_17 : decode cX8_isAhead 17 = .ok (.iconst 4, 1) := by decide +kernel
theorem dX8_isAhead_18 : decode cX8_isAhead 18 = .ok (.invokevirtual 137, 3) := by decide +kernel
theorem dX8_isAhead_21 : decode cX8_isAhead 21 = .ok (.aload_n 0, 1) := by decide +kernel
theorem dX8_isAhead_22 : decode cX8_isAhead 22 = .ok (.iload_n 2, 1) := by decide +kernel
theorem dX8_isAhead_23 : decode cX8_isAhead 23 = .ok (.iconst 4, 1) := by decide +kernel
theorem dX8_isAhead_24 : decode cX8_isAhead 24 = .ok (.invokevirtual 137, 3) := by decide +kernel
theorem dX8_isAhead_27 : decode cX8_isAhead 27 = .ok (.if_icmp .ge 7, 3) := by decide +kernel
theorem dX8_isAhead_30 : decode cX8_isAhead 30 = .ok (.iconst 1, 1) := by decide +kernel
theorem dX8_isAhead_31 : decode cX8_isAhead 31 = .ok (.goto 4, 3) := by decide +kernel
theorem dX8_isAhead_34 : decode cX8_isAhead 34 = .ok (.iconst 0, 1) := by decide +kernel
theorem dX8_isAhead_35 : decode cX8_isAhead 35 = .ok (.ireturn, 1) := by decide +kernel
theorem dX8_isAhead_36 : decode cX8_isAhead 36 = .ok (.aload_n 0, 1) := by decide +kernel
theorem dX8_isAhead_37 : decode cX8_isAhead 37 = .ok (.iload_n 1, 1) := by decide +kernel
theorem dX8_isAhead_38 : decode cX8_isAhead 38 = .ok (.iconst 0, 1) := by decide +kernel
theorem dX8_isAhead_39 : decode cX8_isAhead 39 = .ok (.invokevirtual 137, 3) := by decide +kernel
theorem dX8_isAhead_42 : decode cX8_isAhead 42 = .ok (.aload_n 0, 1) := by decide +kernel
theorem dX8_isAhead_43 : decode cX8_isAhead 43 = .ok (.iload_n 2, 1) := by decide +kernel
theorem dX8_isAhead_44 : decode cX8_isAhead 44 = .ok (.iconst 0, 1) := by decide +kernel
theorem dX8_isAhead_45 : decode cX8_isAhead 45 = .ok (.invokevirtual 137, 3) := by decide +kernel
theorem dX8_isAhead_48 : decode cX8_isAhead 48 = .ok (.if_icmp .eq 26, 3) := by decide +kernel
theorem dX8_isAhead_51 : decode cX8_isAhead 51 = .ok (.aload_n 0, 1) := by decide +kernel
theorem dX8_isAhead_52 : decode cX8_isAhead 52 = .ok (.iload_n 1, 1) := by decide +kernel
theorem dX8_isAhead_53 : decode cX8_isAhead 53 = .ok (.iconst 0, 1) := by decide +kernel
theorem dX8_isAhead_54 : decode cX8_isAhead 54 = .ok (.invokevirtual 137, 3) := by decide +kernel
theorem dX8_isAhead_57 : decode cX8_isAhead 57 = .ok (.aload_n 0, 1) := by decide +kernel
theorem dX8_isAhead_58 : decode cX8_isAhead 58 = .ok (.iload_n 2, 1) := by decide +kernel
theorem dX8_isAhead_59 : decode cX8_isAhead 59 = .ok (.iconst 0, 1) := by decide +kernel
theorem dX8_isAhead_60 : decode cX8_isAhead 60 = .ok (.invokevirtual 137, 3) := by decide +kernel
theorem dX8_isAhead_63 : decode cX8_isAhead 63 = .ok (.if_icmp .ge 7, 3) := by decide +kernel
theorem dX8_isAhead_66 : decode cX8_isAhead 66 = .ok (.iconst 1, 1) := by decide +kernel
theorem dX8_isAhead_67 : decode cX8_isAhead 67 = .ok (.goto 17, 3) := by decide +kernel
theorem dX8_isAhead_70 : decode cX8_isAhead 70 = .ok (.iconst 0, 1) := by decide +kernel
theorem dX8_isAhead_71 : decode cX8_isAhead 71 = .ok (.goto 13, 3) := by decide +kernel
theorem dX8_isAhead_74 : decode cX8_isAhead 74 = .ok (.iload_n 1, 1) := by decide +kernel
theorem dX8_isAhead_75 : decode cX8_isAhead 75 = .ok (.iload_n 2, 1) := by decide +kernel
theorem dX8_isAhead_76 : decode cX8_isAhead 76 = .ok (.if_icmp .ge 7, 3) := by decide +kernel
theorem dX8_isAhead_79 : decode cX8_isAhead 79 = .ok (.iconst 1, 1) := by decide +kernel
theorem dX8_isAhead_80 : decode cX8_isAhead 80 = .ok (.goto 4, 3) := by decide +kernel
theorem dX8_isAhead_83 : decode cX8_isAhead 83 = .ok (.iconst 0, 1) := by decide +kernel
theorem dX8_isAhead_84 : decode cX8_isAhead 84 = .ok (.ireturn, 1) := by decide +kernel
theorem dX8_unitAt_0 : decode cX8_unitAt 0 = .ok (.iconst 0, 1) := by decide +kernel
theorem dX8_unitAt_1 : decode cX8_unitAt 1 = .ok (.istore_n 2, 1) := by decide +kernel
theorem dX8_unitAt_2 : decode cX8_unitAt 2 = .ok (.iload_n 2, 1) := by decide +kernel
theorem dX8_unitAt_3 : decode cX8_unitAt 3 = .ok (.aload_n 0, 1) := by decide +kernel
theorem dX8_unitAt_4 : decode cX8_unitAt 4 = .ok (.getfield 7, 3) := by decide +kernel
theorem dX8_unitAt_7 : decode cX8_unitAt 7 = .ok (.iconst 4, 1) := by decide +kernel
theorem dX8_unitAt_8 : decode cX8_unitAt 8 = .ok (.iaload, 1) := by decide +kernel
theorem dX8_unitAt_9 : decode cX8_unitAt 9 = .ok (.if_icmp .ge 30, 3) := by decide +kernel
theorem dX8_unitAt_12 : decode cX8_unitAt 12 = .ok (.aload_n 0, 1) := by decide +kernel
theorem dX8_unitAt_13 : decode cX8_unitAt 13 = .ok (.iload_n 2, 1) := by decide +kernel
theorem dX8_unitAt_14 : decode cX8_unitAt 14 = .ok (.iconst 0, 1) := by decide +kernel
theorem dX8_unitAt_15 : decode cX8_unitAt 15 = .ok (.invokevirtual 137, 3) := by decide +kernel
theorem dX8_unitAt_18 : decode cX8_unitAt 18 = .ok (.iconst 4, 1) := by decide +kernel
theorem dX8_unitAt_19 : decode cX8_unitAt 19 = .ok (.if_icmp .eq 14, 3) := by decide +kernel
theorem dX8_unitAt_22 : decode cX8_unitAt 22 = .ok (.aload_n 0, 1) := by decide +kernel
theorem dX8_unitAt_23 : decode cX8_unitAt 23 = .ok (.iload_n 2, 1) := by decide +kernel
theorem dX8_unitAt_24 : decode cX8_unitAt 24 = .ok (.invokevirtual 196, 3) := by decide +kernel
theorem dX8_unitAt_27 : decode cX8_unitAt 27 = .ok (.iload_n 1, 1) := by decide +kernel
theorem dX8_unitAt_28 : decode cX8_unitAt 28 = .ok (.if_icmp .ne 5, 3) := by decide +kernel
theorem dX8_unitAt_31 : decode cX8_unitAt 31 = .ok (.iload_n 2, 1) := by decide +kernel
theorem dX8_unitAt_32 : decode cX8_unitAt 32 = .ok (.ireturn, 1) := by decide +kernel
theorem dX8_unitAt_33 : decode cX8_unitAt 33 = .ok (.iinc 2 1, 3) := by decide +kernel
theorem dX8_unitAt_36 : decode cX8_unitAt 36 = .ok (.goto (-34), 3) := by decide +kernel
theorem dX8_unitAt_39 : decode cX8_unitAt 39 = .ok (.iconst (-1), 1) := by decide +kernel
theorem dX8_unitAt_40 : decode cX8_unitAt 40 = .ok (.ireturn, 1) := by decide +kernel
theorem dX8_countAhead_0 : decode cX8_countAhead 0 = .ok (.iconst 0, 1) := by decide +kernel
theorem dX8_countAhead_1 : decode cX8_countAhead 1 = .ok (.istore_n 2, 1) := by decide +kernel
theorem dX8_countAhead_2 : decode cX8_countAhead 2 = .ok (.iconst 0, 1) := by decide +kernel
theorem dX8_countAhead_3 : decode cX8_countAhead 3 = .ok (.istore_n 3, 1) := by decide +kernel
theorem dX8_countAhead_4 : decode cX8_countAhead 4 = .ok (.iload_n 3, 1) := by decide +kernel
theorem dX8_countAhead_5 : decode cX8_countAhead 5 = .ok (.aload_n 0, 1) := by decide +kernel
theorem dX8_countAhead_6 : decode cX8_countAhead 6 = .ok (.getfield 7, 3) := by decide +kernel
theorem dX8_countAhead_9 : decode cX8_countAhead 9 = .ok (.iconst 4, 1) := by decide +kernel
theorem dX8_countAhead_10 : decode cX8_countAhead 10 = .ok (.iaload, 1) := by decide +kernel
theorem dX8_countAhead_11 : decode cX8_countAhead 11 = .ok (.if_icmp .ge 36, 3) := by decide +kernel
theorem dX8_countAhead_14 : decode cX8_countAhead 14 = .ok (.iload_n 2, 1) := by decide +kernel
theorem dX8_countAhead_15 : decode cX8_countAhead 15 = .ok (.aload_n 0, 1) := by decide +kernel
theorem dX8_countAhead_16 : decode cX8_countAhead 16 = .ok (.iload_n 3, 1) := by decide +kernel
theorem dX8_countAhead_17 : decode cX8_countAhead 17 = .ok (.iconst 0, 1) := by decide +kernel
theorem dX8_countAhead_18 : decode cX8_countAhead 18 = .ok (.invokevirtual 137, 3) := by decide +kernel
theorem dX8_countAhead_21 : decode cX8_countAhead 21 = .ok (.iconst 4, 1) := by decide +kernel
theorem dX8_countAhead_22 : decode cX8_countAhead 22 = .ok (.if_icmp .eq 16, 3) := by decide +kernel
theorem dX8_countAhead_25 : decode cX8_countAhead 25 = .ok (.aload_n 0, 1) := by decide +kernel
theorem dX8_countAhead_26 : decode cX8_countAhead 26 = .ok (.iload_n 3, 1) := by decide +kernel
theorem dX8_countAhead_27 : decode cX8_countAhead 27 = .ok (.iload_n 1, 1) := by decide +kernel
theorem dX8_countAhead_28 : decode cX8_countAhead 28 = .ok (.invokevirtual 199, 3) := by decide +kernel
theorem dX8_countAhead_31 : decode cX8_countAhead 31 = .ok (.ifCond .eq 7, 3) := by decide +kernel
theorem dX8_countAhead_34 : decode cX8_countAhead 34 = .ok (.iconst 1, 1) := by decide +kernel
theorem dX8_countAhead_35 : decode cX8_countAhead 35 = .ok (.goto 4, 3) := by decide +kernel
theorem dX8_countAhead_38 : decode cX8_countAhead 38 = .ok (.iconst 0, 1) := by decide +kernel
theorem dX8_countAhead_39 : decode cX8_countAhead 39 = .ok (.iadd, 1) := by decide +kernel
theorem dX8_countAhead_40 : decode cX8_countAhead 40 = .ok (.istore_n 2, 1) := by decide +kernel
theorem dX8_countAhead_41 : decode cX8_countAhead 41 = .ok (.iinc 3 1, 3) := by decide +kernel
theorem dX8_countAhead_44 : decode cX8_countAhead 44 = .ok (.goto (-40), 3) := by decide +kernel
theorem dX8_countAhead_47 : decode cX8_countAhead 47 = .ok (.iload_n 2, 1) := by decide +kernel
theorem dX8_countAhead_48 : decode cX8_countAhead 48 = .ok (.ireturn, 1) := by decide +kernel
theorem dX8_dueField_0 : decode cX8_dueField 0 = .ok (.aload_n 0, 1) := by decide +kernel
theorem dX8_dueField_1 : decode cX8_dueField 1 = .ok (.iload_n 1, 1) := by decide +kernel
theorem dX8_dueField_2 : decode cX8_dueField 2 = .ok (.iconst 0, 1) := by decide +kernel
theorem dX8_dueField_3 : decode cX8_dueField 3 = .ok (.aload_n 0, 1) := by decide +kernel
theorem dX8_dueField_4 : decode cX8_dueField 4 = .ok (.invokevirtual 192, 3) := by decide +kernel
theorem dX8_dueField_7 : decode cX8_dueField 7 = .ok (.iconst 1, 1) := by decide +kernel
theorem dX8_dueField_8 : decode cX8_dueField 8 = .ok (.isub, 1) := by decide +kernel
theorem dX8_dueField_9 : decode cX8_dueField 9 = .ok (.invokestatic 33, 3) := by decide +kernel
theorem dX8_dueField_12 : decode cX8_dueField 12 = .ok (.ifCond .eq 7, 3) := by decide +kernel
theorem dX8_dueField_15 : decode cX8_dueField 15 = .ok (.iconst 0, 1) := by decide +kernel
theorem dX8_dueField_16 : decode cX8_dueField 16 = .ok (.goto 4, 3) := by decide +kernel
theorem dX8_dueField_19 : decode cX8_dueField 19 = .ok (.iconst 1, 1) := by decide +kernel
theorem dX8_dueField_20 : decode cX8_dueField 20 = .ok (.putfield 30, 3) := by decide +kernel
theorem dX8_dueField_23 : decode cX8_dueField 23 = .ok (.aload_n 0, 1) := by decide +kernel
theorem dX8_dueField_24 : decode cX8_dueField 24 = .ok (.getfield 30, 3) := by decide +kernel
theorem dX8_dueField_27 : decode cX8_dueField 27 = .ok (.ifCond .ne 16, 3) := by decide +kernel
theorem dX8_dueField_30 : decode cX8_dueField 30 = .ok (.aload_n 0, 1) := by decide +kernel
theorem dX8_dueField_31 : decode cX8_dueField 31 = .ok (.aload_n 0, 1) := by decide +kernel
theorem dX8_dueField_32 : decode cX8_dueField 32 = .ok (.iload_n 1, 1) := by decide +kernel
theorem dX8_dueField_33 : decode cX8_dueField 33 = .ok (.invokevirtual 202, 3) := by decide +kernel
theorem dX8_dueField_36 : decode cX8_dueField 36 = .ok (.iload_n 2, 1) := by decide +kernel
theorem dX8_dueField_37 : decode cX8_dueField 37 = .ok (.invokevirtual 137, 3) := by decide +kernel
theorem dX8_dueField_40 : decode cX8_dueField 40 = .ok (.goto 4, 3) := by decide +kernel
theorem dX8_dueField_43 : decode cX8_dueField 43 = .ok (.iconst 0, 1) := by decide +kernel
theorem dX8_dueField_44 : decode cX8_dueField 44 = .ok (.ireturn, 1) := by decide +kernel
theorem dX8_dueDay_0 : decode cX8_dueDay 0 = .ok (.aload_n 0, 1) := by decide +kernel
theorem dX8_dueDay_1 : decode cX8_dueDay 1 = .ok (.iload_n 1, 1) := by decide +kernel
theorem dX8_dueDay_2 : decode cX8_dueDay 2 = .ok (.iconst 4, 1) := by decide +kernel
theorem dX8_dueDay_3 : decode cX8_dueDay 3 = .ok (.invokevirtual 205, 3) := by decide +kernel
theorem dX8_dueDay_6 : decode cX8_dueDay 6 = .ok (.ireturn, 1) := by decide +kernel
theorem dX8_dueKind_0 : decode cX8_dueKind 0 = .ok (.aload_n 0, 1) := by decide +kernel
theorem dX8_dueKind_1 : decode cX8_dueKind 1 = .ok (.iload_n 1, 1) := by decide +kernel
theorem dX8_dueKind_2 : decode cX8_dueKind 2 = .ok (.iconst 0, 1) := by decide +kernel
theorem dX8_dueKind_3 : decode cX8_dueKind 3 = .ok (.invokevirtual 205, 3) := by decide +kernel
theorem dX8_dueKind_6 : decode cX8_dueKind 6 = .ok (.ireturn, 1) := by decide +kernel
theorem dX8_dueItem_0 : decode cX8_dueItem 0 = .ok (.aload_n 0, 1) := by decide +kernel
theorem dX8_dueItem_1 : decode cX8_dueItem 1 = .ok (.iload_n 1, 1) := by decide +kernel
theorem dX8_dueItem_2 : decode cX8_dueItem 2 = .ok (.iconst 1, 1) := by decide +kernel
theorem dX8_dueItem_3 : decode cX8_dueItem 3 = .ok (.invokevirtual 205, 3) := by decide +kernel
theorem dX8_dueItem_6 : decode cX8_dueItem 6 = .ok (.ireturn, 1) := by decide +kernel
theorem dX8_dueSite_0 : decode cX8_dueSite 0 = .ok (.aload_n 0, 1) := by decide +kernel
theorem dX8_dueSite_1 : decode cX8_dueSite 1 = .ok (.iload_n 1, 1) := by decide +kernel
theorem dX8_dueSite_2 : decode cX8_dueSite 2 = .ok (.iconst 2, 1) := by decide +kernel
theorem dX8_dueSite_3 : decode cX8_dueSite 3 = .ok (.invokevirtual 205, 3) := by decide +kernel
theorem dX8_dueSite_6 : decode cX8_dueSite 6 = .ok (.ireturn, 1) := by decide +kernel
theorem dX8_dueOwner_0 : decode cX8_dueOwner 0 = .ok (.aload_n 0, 1) := by decide +kernel
theorem dX8_dueOwner_1 : decode cX8_dueOwner 1 = .ok (.iload_n 1, 1) := by decide +kernel
theorem dX8_dueOwner_2 : decode cX8_dueOwner 2 = .ok (.iconst 3, 1) := by decide +kernel
theorem dX8_dueOwner_3 : decode cX8_dueOwner 3 = .ok (.invokevirtual 205, 3) := by decide +kernel
theorem dX8_dueOwner_6 : decode cX8_dueOwner 6 = .ok (.ireturn, 1) := by decide +kernel
theorem dX8_sum_0 : decode cX8_sum 0 = .ok (.iconst 0, 1) := by decide +kernel
theorem dX8_sum_1 : decode cX8_sum 1 = .ok (.istore 4, 2) := by decide +kernel
theorem dX8_sum_3 : decode cX8_sum 3 = .ok (.iconst 1, 1) := by decide +kernel
theorem dX8_sum_4 : decode cX8_sum 4 = .ok (.istore 5, 2) := by decide +kernel
theorem dX8_sum_6 : decode cX8_sum 6 = .ok (.iload 5, 2) := by decide +kernel
theorem dX8_sum_8 : decode cX8_sum 8 = .ok (.aload_n 0, 1) := by decide +kernel
theorem dX8_sum_9 : decode cX8_sum 9 = .ok (.getfield 7, 3) := by decide +kernel
theorem dX8_sum_12 : decode cX8_sum 12 = .ok (.iconst 3, 1) := by decide +kernel
theorem dX8_sum_13 : decode cX8_sum 13 = .ok (.iaload, 1) := by decide +kernel
theorem dX8_sum_14 : decode cX8_sum 14 = .ok (.if_icmp .ge 85, 3) := by decide +kernel
theorem dX8_sum_17 : decode cX8_sum 17 = .ok (.iconst 0, 1) := by decide +kernel
theorem dX8_sum_18 : decode cX8_sum 18 = .ok (.istore 6, 2) := by decide +kernel
theorem dX8_sum_20 : decode cX8_sum 20 = .ok (.iload 6, 2) := by decide +kernel
theorem dX8_sum_22 : decode cX8_sum 22 = .ok (.aload_n 0, 1) := by decide +kernel
theorem dX8_sum_23 : decode cX8_sum 23 = .ok (.getfield 7, 3) := by decide +kernel
theorem dX8_sum_26 : decode cX8_sum 26 = .ok (.iconst 2, 1) := by decide +kernel
theorem dX8_sum_27 : decode cX8_sum 27 = .ok (.iaload, 1) := by decide +kernel
theorem dX8_sum_28 : decode cX8_sum 28 = .ok (.if_icmp .ge 65, 3) := by decide +kernel
theorem dX8_sum_31 : decode cX8_sum 31 = .ok (.iload_n 2, 1) := by decide +kernel
theorem dX8_sum_32 : decode cX8_sum 32 = .ok (.iconst (-1), 1) := by decide +kernel
theorem dX8_sum_33 : decode cX8_sum 33 = .ok (.if_icmp .eq 9, 3) := by decide +kernel
theorem dX8_sum_36 : decode cX8_sum 36 = .ok (.iload_n 2, 1) := by decide +kernel
theorem dX8_sum_37 : decode cX8_sum 37 = .ok (.iload 5, 2) := by decide +kernel
theorem dX8_sum_39 : decode cX8_sum 39 = .ok (.if_icmp .ne 18, 3) := by decide +kernel
theorem dX8_sum_42 : decode cX8_sum 42 = .ok (.iload_n 3, 1) := by decide +kernel
theorem dX8_sum_43 : decode cX8_sum 43 = .ok (.iconst (-1), 1) := by decide +kernel
theorem dX8_sum_44 : decode cX8_sum 44 = .ok (.if_icmp .eq 9, 3) := by decide +kernel
theorem dX8_sum_47 : decode cX8_sum 47 = .ok (.iload_n 3, 1) := by decide +kernel
theorem dX8_sum_48 : decode cX8_sum 48 = .ok (.iload 6, 2) := by decide +kernel
theorem dX8_sum_50 : decode cX8_sum 50 = .ok (.if_icmp .ne 7, 3) := by decide +kernel
theorem dX8_sum_53 : decode cX8_sum 53 = .ok (.iconst 1, 1) := by decide +kernel
theorem dX8_sum_54 : decode cX8_sum 54 = .ok (.goto 4, 3) := by decide +kernel
theorem dX8_sum_57 : decode cX8_sum 57 = .ok (.iconst 0, 1) := by decide +kernel
theorem dX8_sum_58 : decode cX8_sum 58 = .ok (.istore 7, 2) := by decide +kernel
theorem dX8_sum_60 : decode cX8_sum 60 = .ok (.iload 4, 2) := by decide +kernel
theorem dX8_sum_62 : decode cX8_sum 62 = .ok (.iload 7, 2) := by decide +kernel
theorem dX8_sum_64 : decode cX8_sum 64 = .ok (.ifCond .eq 19, 3) := by decide +kernel
theorem dX8_sum_67 : decode cX8_sum 67 = .ok (.aload_n 0, 1) := by decide +kernel
theorem dX8_sum_68 : decode cX8_sum 68 = .ok (.getfield 7, 3) := by decide +kernel
theorem dX8_sum_71 : decode cX8_sum 71 = .ok (.iload_n 1, 1) := by decide +kernel
theorem dX8_sum_72 : decode cX8_sum 72 = .ok (.iload 5, 2) := by decide +kernel
theorem dX8_sum_74 : decode cX8_sum 74 = .ok (.iload 6, 2) := by decide +kernel
theorem dX8_sum_76 : decode cX8_sum 76 = .ok (.invokestatic 62, 3) := by decide +kernel
