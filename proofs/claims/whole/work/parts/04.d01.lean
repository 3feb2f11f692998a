theorem dX4_newItem_56 : decode cX4_newItem 56 = .ok (.ireturn, 1) := by decide +kernel
theorem dX4_newBase_0 : decode cX4_newBase 0 = .ok (.aload_n 0, 1) := by decide +kernel
theorem dX4_newBase_1 : decode cX4_newBase 1 = .ok (.getfield 9, 3) := by decide +kernel
theorem dX4_newBase_4 : decode cX4_newBase 4 = .ok (.bipush 8, 2) := by decide +kernel
theorem dX4_newBase_6 : decode cX4_newBase 6 = .ok (.if_icmp .lt 5, 3) := by decide +kernel
theorem dX4_newBase_9 : decode cX4_newBase 9 = .ok (.iconst (-1), 1) := by decide +kernel
theorem dX4_newBase_10 : decode cX4_newBase 10 = .ok (.ireturn, 1) := by decide +kernel
theorem dX4_newBase_11 : decode cX4_newBase 11 = .ok (.aload_n 0, 1) := by decide +kernel
theorem dX4_newBase_12 : decode cX4_newBase 12 = .ok (.getfield 25, 3) := by decide +kernel
theorem dX4_newBase_15 : decode cX4_newBase 15 = .ok (.aload_n 0, 1) := by decide +kernel
theorem dX4_newBase_16 : decode cX4_newBase 16 = .ok (.getfield 9, 3) := by decide +kernel
theorem dX4_newBase_19 : decode cX4_newBase 19 = .ok (.iload_n 1, 1) := by decide +kernel
theorem dX4_newBase_20 : decode cX4_newBase 20 = .ok (.iastore, 1) := by decide +kernel
theorem dX4_newBase_21 : decode cX4_newBase 21 = .ok (.aload_n 0, 1) := by decide +kernel
theorem dX4_newBase_22 : decode cX4_newBase 22 = .ok (.dup, 1) := by decide +kernel
theorem dX4_newBase_23 : decode cX4_newBase 23 = .ok (.getfield 9, 3) := by decide +kernel
theorem dX4_newBase_26 : decode cX4_newBase 26 = .ok (.iconst 1, 1) := by decide +kernel
theorem dX4_newBase_27 : decode cX4_newBase 27 = .ok (.iadd, 1) := by decide +kernel
theorem dX4_newBase_28 : decode cX4_newBase 28 = .ok (.putfield 9, 3) := by decide +kernel
theorem dX4_newBase_31 : decode cX4_newBase 31 = .ok (.aload_n 0, 1) := by decide +kernel
theorem dX4_newBase_32 : decode cX4_newBase 32 = .ok (.getfield 9, 3) := by decide +kernel
theorem dX4_newBase_35 : decode cX4_newBase 35 = .ok (.iconst 1, 1) := by decide +kernel
theorem dX4_newBase_36 : decode cX4_newBase 36 = .ok (.isub, 1) := by decide +kernel
theorem dX4_newBase_37 : decode cX4_newBase 37 = .ok (.ireturn, 1) := by decide +kernel
theorem dX4_linkTime_0 : decode cX4_linkTime 0 = .ok (.aload_n 0, 1) := by decide +kernel
theorem dX4_linkTime_1 : decode cX4_linkTime 1 = .ok (.getfield 28, 3) := by decide +kernel
theorem dX4_linkTime_4 : decode cX4_linkTime 4 = .ok (.iload_n 1, 1) := by decide +kernel
theorem dX4_linkTime_5 : decode cX4_linkTime 5 = .ok (.bipush 8, 2) := by decide +kernel
theorem dX4_linkTime_7 : decode cX4_linkTime 7 = .ok (.imul, 1) := by decide +kernel
theorem dX4_linkTime_8 : decode cX4_linkTime 8 = .ok (.iload_n 2, 1) := by decide +kernel
theorem dX4_linkTime_9 : decode cX4_linkTime 9 = .ok (.iadd, 1) := by decide +kernel
theorem dX4_linkTime_10 : decode cX4_linkTime 10 = .ok (.iaload, 1) := by decide +kernel
theorem dX4_linkTime_11 : decode cX4_linkTime 11 = .ok (.ireturn, 1) := by decide +kernel
theorem dX4_join_0 : decode cX4_join 0 = .ok (.aload_n 0, 1) := by decide +kernel
theorem dX4_join_1 : decode cX4_join 1 = .ok (.getfield 28, 3) := by decide +kernel
theorem dX4_join_4 : decode cX4_join 4 = .ok (.iload_n 1, 1) := by decide +kernel
theorem dX4_join_5 : decode cX4_join 5 = .ok (.bipush 8, 2) := by decide +kernel
theorem dX4_join_7 : decode cX4_join 7 = .ok (.imul, 1) := by decide +kernel
theorem dX4_join_8 : decode cX4_join 8 = .ok (.iload_n 2, 1) := by decide +kernel
theorem dX4_join_9 : decode cX4_join 9 = .ok (.iadd, 1) := by decide +kernel
theorem dX4_join_10 : decode cX4_join 10 = .ok (.iload_n 3, 1) := by decide +kernel
theorem dX4_join_11 : decode cX4_join 11 = .ok (.iastore, 1) := by decide +kernel
theorem dX4_join_12 : decode cX4_join 12 = .ok (.aload_n 0, 1) := by decide +kernel
theorem dX4_join_13 : decode cX4_join 13 = .ok (.getfield 28, 3) := by decide +kernel
theorem dX4_join_16 : decode cX4_join 16 = .ok (.iload_n 2, 1) := by decide +kernel
theorem dX4_join_17 : decode cX4_join 17 = .ok (.bipush 8, 2) := by decide +kernel
theorem dX4_join_19 : decode cX4_join 19 = .ok (.imul, 1) := by decide +kernel
theorem dX4_join_20 : decode cX4_join 20 = .ok (.iload_n 1, 1) := by decide +kernel
theorem dX4_join_21 : decode cX4_join 21 = .ok (.iadd, 1) := by decide +kernel
theorem dX4_join_22 : decode cX4_join 22 = .ok (.iload_n 3, 1) := by decide +kernel
theorem dX4_join_23 : decode cX4_join 23 = .ok (.iastore, 1) := by decide +kernel
theorem dX4_join_24 : decode cX4_join 24 = .ok (.return_, 1) := by decide +kernel
theorem dX5_init_0 : decode cX5_init 0 = .ok (.aload_n 0, 1) := by decide +kernel
theorem dX5_init_1 : decode cX5_init 1 = .ok (.invokespecial 3, 3) := by decide +kernel
theorem dX5_init_4 : decode cX5_init 4 = .ok (.aload_n 0, 1) := by decide +kernel
theorem dX5_init_5 : decode cX5_init 5 = .ok (.sipush 500, 3) := by decide +kernel
theorem dX5_init_8 : decode cX5_init 8 = .ok (.newarray .byte, 2) := by decide +kernel
theorem dX5_init_10 : decode cX5_init 10 = .ok (.putfield 11, 3) := by decide +kernel
theorem dX5_init_13 : decode cX5_init 13 = .ok (.aload_n 0, 1) := by decide +kernel
theorem dX5_init_14 : decode cX5_init 14 = .ok (.iconst 3, 1) := by decide +kernel
theorem dX5_init_15 : decode cX5_init 15 = .ok (.newarray .int, 2) := by decide +kernel
theorem dX5_init_17 : decode cX5_init 17 = .ok (.putfield 15, 3) := by decide +kernel
theorem dX5_init_20 : decode cX5_init 20 = .ok (.aload_n 0, 1) := by decide +kernel
theorem dX5_init_21 : decode cX5_init 21 = .ok (.iconst (-1), 1) := by decide +kernel
theorem dX5_init_22 : decode cX5_init 22 = .ok (.putfield 19, 3) := by decide +kernel
theorem dX5_init_25 : decode cX5_init 25 = .ok (.return_, 1) := by decide +kernel
theorem dX5_isFull_0 : decode cX5_isFull 0 = .ok (.aload_n 0, 1) := by decide +kernel
theorem dX5_isFull_1 : decode cX5_isFull 1 = .ok (.getfield 23, 3) := by decide +kernel
theorem dX5_isFull_4 : decode cX5_isFull 4 = .ok (.iconst 4, 1) := by decide +kernel
theorem dX5_isFull_5 : decode cX5_isFull 5 = .ok (.iadd, 1) := by decide +kernel
theorem dX5_isFull_6 : decode cX5_isFull 6 = .ok (.sipush 500, 3) := by decide +kernel
theorem dX5_isFull_9 : decode cX5_isFull 9 = .ok (.if_icmp .le 7, 3) := by decide +kernel
theorem dX5_isFull_12 : decode cX5_isFull 12 = .ok (.iconst 1, 1) := by decide +kernel
theorem dX5_isFull_13 : decode cX5_isFull 13 = .ok (.goto 4, 3) := by decide +kernel
theorem dX5_isFull_16 : decode cX5_isFull 16 = .ok (.iconst 0, 1) := by decide +kernel
theorem dX5_isFull_17 : decode cX5_isFull 17 = .ok (.ireturn, 1) := by decide +kernel
theorem dX5_append_0 : decode cX5_append 0 = .ok (.aload_n 0, 1) := by decide +kernel
theorem dX5_append_1 : decode cX5_append 1 = .ok (.invokevirtual 26, 3) := by decide +kernel
theorem dX5_append_4 : decode cX5_append 4 = .ok (.ifCond .eq 4, 3) := by decide +kernel
theorem dX5_append_7 : decode cX5_append 7 = .ok (.return_, 1) := by decide +kernel
theorem dX5_append_8 : decode cX5_append 8 = .ok (.bipush 24, 2) := by decide +kernel
theorem dX5_append_10 : decode cX5_append 10 = .ok (.istore_n 2, 1) := by decide +kernel
theorem dX5_append_11 : decode cX5_append 11 = .ok (.iload_n 2, 1) := by decide +kernel
theorem dX5_append_12 : decode cX5_append 12 = .ok (.ifCond .lt 32, 3) := by decide +kernel
theorem dX5_append_15 : decode cX5_append 15 = .ok (.aload_n 0, 1) := by decide +kernel
theorem dX5_append_16 : decode cX5_append 16 = .ok (.getfield 11, 3) := by decide +kernel
theorem dX5_append_19 : decode cX5_append 19 = .ok (.aload_n 0, 1) := by decide +kernel
theorem dX5_append_20 : decode cX5_append 20 = .ok (.getfield 23, 3) := by decide +kernel
theorem dX5_append_23 : decode cX5_append 23 = .ok (.iload_n 1, 1) := by decide +kernel
theorem dX5_append_24 : decode cX5_append 24 = .ok (.iload_n 2, 1) := by decide +kernel
theorem dX5_append_25 : decode cX5_append 25 = .ok (.iushr, 1) := by decide +kernel
theorem dX5_append_26 : decode cX5_append 26 = .ok (.i2b, 1) := by decide +kernel
theorem dX5_append_27 : decode cX5_append 27 = .ok (.bastore, 1) := by decide +kernel
theorem dX5_append_28 : decode cX5_append 28 = .ok (.aload_n 0, 1) := by decide +kernel
theorem dX5_append_29 : decode cX5_append 29 = .ok (.dup, 1) := by decide +kernel
theorem dX5_append_30 : decode cX5_append 30 = .ok (.getfield 23, 3) := by decide +kernel
theorem dX5_append_33 : decode cX5_append 33 = .ok (.iconst 1, 1) := by decide +kernel
theorem dX5_append_34 : decode cX5_append 34 = .ok (.iadd, 1) := by decide +kernel
theorem dX5_append_35 : decode cX5_append 35 = .ok (.putfield 23, 3) := by decide +kernel
theorem dX5_append_38 : decode cX5_append 38 = .ok (.iinc 2 (-8), 3) := by decide +kernel
theorem dX5_append_41 : decode cX5_append 41 = .ok (.goto (-30), 3) := by decide +kernel
theorem dX5_append_44 : decode cX5_append 44 = .ok (.return_, 1) := by decide +kernel
theorem dX5_read_0 : decode cX5_read 0 = .ok (.aload_n 0, 1) := by decide +kernel
theorem dX5_read_1 : decode cX5_read 1 = .ok (.iconst 0, 1) := by decide +kernel
theorem dX5_read_2 : decode cX5_read 2 = .ok (.putfield 30, 3) := by decide +kernel
theorem dX5_read_5 : decode cX5_read 5 = .ok (.aload_n 0, 1) := by decide +kernel
theorem dX5_read_6 : decode cX5_read 6 = .ok (.iconst (-1), 1) := by decide +kernel
theorem dX5_read_7 : decode cX5_read 7 = .ok (.putfield 19, 3) := by decide +kernel
theorem dX5_read_10 : decode cX5_read 10 = .ok (.aload_n 0, 1) := by decide +kernel
theorem dX5_read_11 : decode cX5_read 11 = .ok (.iconst 0, 1) := by decide +kernel
theorem dX5_read_12 : decode cX5_read 12 = .ok (.putfield 33, 3) := by decide +kernel
theorem dX5_read_15 : decode cX5_read 15 = .ok (.aload_n 0, 1) := by decide +kernel
theorem dX5_read_16 : decode cX5_read 16 = .ok (.invokevirtual 36, 3) := by decide +kernel
theorem dX5_read_19 : decode cX5_read 19 = .ok (.iconst 0, 1) := by decide +kernel
theorem dX5_read_20 : decode cX5_read 20 = .ok (.istore_n 2, 1) := by decide +kernel
theorem dX5_read_21 : decode cX5_read 21 = .ok (.iload_n 2, 1) := by decide +kernel
theorem dX5_read_22 : decode cX5_read 22 = .ok (.aload_n 0, 1) := by decide +kernel
theorem dX5_read_23 : decode cX5_read 23 = .ok (.getfield 23, 3) := by decide +kernel
theorem dX5_read_26 : decode cX5_read 26 = .ok (.if_icmp .gt 40, 3) := by decide +kernel
theorem dX5_read_29 : decode cX5_read 29 = .ok (.aload_n 0, 1) := by decide +kernel
theorem dX5_read_30 : decode cX5_read 30 = .ok (.getfield 39, 3) := by decide +kernel
theorem dX5_read_33 : decode cX5_read 33 = .ok (.ifCond .ne 5, 3) := by decide +kernel
theorem dX5_read_36 : decode cX5_read 36 = .ok (.iload_n 2, 1) := by decide +kernel
theorem dX5_read_37 : decode cX5_read 37 = .ok (.ireturn, 1) := by decide +kernel
theorem dX5_read_38 : decode cX5_read 38 = .ok (.aload_n 0, 1) := by decide +kernel
theorem dX5_read_39 : decode cX5_read 39 = .ok (.aload_n 1, 1) := by decide +kernel
theorem dX5_read_40 : decode cX5_read 40 = .ok (.getfield 42, 3) := by decide +kernel
theorem dX5_read_43 : decode cX5_read 43 = .ok (.invokevirtual 48, 3) := by decide +kernel
theorem dX5_read_46 : decode cX5_read 46 = .ok (.istore_n 3, 1) := by decide +kernel
theorem dX5_read_47 : decode cX5_read 47 = .ok (.iload_n 3, 1) := by decide +kernel
theorem dX5_read_48 : decode cX5_read 48 = .ok (.iconst (-1), 1) := by decide +kernel
theorem dX5_read_49 : decode cX5_read 49 = .ok (.if_icmp .ne 5, 3) := by decide +kernel
theorem dX5_read_52 : decode cX5_read 52 = .ok (.iconst (-1), 1) := by decide +kernel
theorem dX5_read_53 : decode cX5_read 53 = .ok (.ireturn, 1) := by decide +kernel
theorem dX5_read_54 : decode cX5_read 54 = .ok (.aload_n 0, 1) := by decide +kernel
theorem dX5_read_55 : decode cX5_read 55 = .ok (.iload_n 3, 1) := by decide +kernel
theorem dX5_read_56 : decode cX5_read 56 = .ok (.aload_n 1, 1) := by decide +kernel
theorem dX5_read_57 : decode cX5_read 57 = .ok (.invokevirtual 52, 3) := by decide +kernel
theorem dX5_read_60 : decode cX5_read 60 = .ok (.iinc 2 1, 3) := by decide +kernel
theorem dX5_read_63 : decode cX5_read 63 = .ok (.goto (-42), 3) := by decide +kernel
theorem dX5_read_66 : decode cX5_read 66 = .ok (.iconst (-1), 1) := by decide +kernel
theorem dX5_read_67 : decode cX5_read 67 = .ok (.ireturn, 1) := by decide +kernel
theorem dX5_readStatement_0 : decode cX5_readStatement 0 = .ok (.aload_n 0, 1) := by decide +kernel
theorem dX5_readStatement_1 : decode cX5_readStatement 1 = .ok (.invokevirtual 56, 3) := by decide +kernel
theorem dX5_readStatement_4 : decode cX5_readStatement 4 = .ok (.istore_n 2, 1) := by decide +kernel
theorem dX5_readStatement_5 : decode cX5_readStatement 5 = .ok (.iload_n 2, 1) := by decide +kernel
theorem dX5_readStatement_6 : decode cX5_readStatement 6 = .ok (.iconst (-1), 1) := by decide +kernel
theorem dX5_readStatement_7 : decode cX5_readStatement 7 = .ok (.if_icmp .ne 9, 3) := by decide +kernel
theorem dX5_readStatement_10 : decode cX5_readStatement 10 = .ok (.aload_n 0, 1) := by decide +kernel
theorem dX5_readStatement_11 : decode cX5_readStatement 11 = .ok (.iconst 1, 1) := by decide +kernel
theorem dX5_readStatement_12 : decode cX5_readStatement 12 = .ok (.invokevirtual 60, 3) := by decide +kernel
theorem dX5_readStatement_15 : decode cX5_readStatement 15 = .ok (.ireturn, 1) := by decide +kernel
theorem dX5_readStatement_16 : decode cX5_readStatement 16 = .ok (.iload_n 2, 1) := by decide +kernel
theorem dX5_readStatement_17 : decode cX5_readStatement 17 = .ok (.ifCond .ne 11, 3) := by decide +kernel
theorem dX5_readStatement_20 : decode cX5_readStatement 20 = .ok (.aload_n 1, 1) := by decide +kernel
theorem dX5_readStatement_21 : decode cX5_readStatement 21 = .ok (.getfield 64, 3) := by decide +kernel
theorem dX5_readStatement_24 : decode cX5_readStatement 24 = .ok (.iconst 4, 1) := by decide +kernel
theorem dX5_readStatement_25 : decode cX5_readStatement 25 = .ok (.if_icmp .ge 17, 3) := by decide +kernel
theorem dX5_readStatement_28 : decode cX5_readStatement 28 = .ok (.iload_n 2, 1) := by decide +kernel
theorem dX5_readStatement_29 : decode cX5_readStatement 29 = .ok (.iconst 1, 1) := by decide +kernel
theorem dX5_readStatement_30 : decode cX5_readStatement 30 = .ok (.if_icmp .ne 18, 3) := by decide +kernel
theorem dX5_readStatement_33 : decode cX5_readStatement 33 = .ok (.aload_n 1, 1) := by decide +kernel
theorem dX5_readStatement_34 : decode cX5_readStatement 34 = .ok (.getfield 69, 3) := by decide +kernel
theorem dX5_readStatement_37 : decode cX5_readStatement 37 = .ok (.bipush 8, 2) := by decide +kernel
theorem dX5_readStatement_39 : decode cX5_readStatement 39 = .ok (.if_icmp .lt 9, 3) := by decide +kernel
theorem dX5_readStatement_42 : decode cX5_readStatement 42 = .ok (.aload_n 0, 1) := by decide +kernel
theorem dX5_readStatement_43 : decode cX5_readStatement 43 = .ok (.iconst 3, 1) := by decide +kernel
theorem dX5_readStatement_44 : decode cX5_readStatement 44 = .ok (.invokevirtual 60, 3) := by decide +kernel
theorem dX5_readStatement_47 : decode cX5_readStatement 47 = .ok (.ireturn, 1) := by decide +kernel
theorem dX5_readStatement_48 : decode cX5_readStatement 48 = .ok (.aload_n 0, 1) := by decide +kernel
theorem dX5_readStatement_49 : decode cX5_readStatement 49 = .ok (.invokevirtual 36, 3) := by decide +kernel
theorem dX5_readStatement_52 : decode cX5_readStatement 52 = .ok (.iload_n 2, 1) := by decide +kernel
theorem dX5_readStatement_53 : decode cX5_readStatement 53 = .ok (.iconst 1, 1) := by decide +kernel
theorem dX5_readStatement_54 : decode cX5_readStatement 54 = .ok (.if_icmp .eq 9, 3) := by decide +kernel
theorem dX5_readStatement_57 : decode cX5_readStatement 57 = .ok (.iload_n 2, 1) := by decide +kernel
theorem dX5_readStatement_58 : decode cX5_readStatement 58 = .ok (.bipush 7, 2) := by decide +kernel
theorem dX5_readStatement_60 : decode cX5_readStatement 60 = .ok (.if_icmp .ne 7, 3) := by decide +kernel
theorem dX5_readStatement_63 : decode cX5_readStatement 63 = .ok (.iconst 1, 1) := by decide +kernel
theorem dX5_readStatement_64 : decode cX5_readStatement 64 = .ok (.goto 4, 3) := by decide +kernel
theorem dX5_readStatement_67 : decode cX5_readStatement 67 = .ok (.iconst 3, 1) := by decide +kernel
theorem dX5_readStatement_68 : decode cX5_readStatement 68 = .ok (.istore_n 3, 1) := by decide +kernel
theorem dX5_readStatement_69 : decode cX5_readStatement 69 = .ok (.iconst 0, 1) := by decide +kernel
theorem dX5_readStatement_70 : decode cX5_readStatement 70 = .ok (.istore 4, 2) := by decide +kernel
theorem dX5_readStatement_72 : decode cX5_readStatement 72 = .ok (.iload 4, 2) := by decide +kernel
theorem dX5_readStatement_74 : decode cX5_readStatement 74 = .ok (.iload_n 3, 1) := by decide +kernel
theorem dX5_readStatement_75 : decode cX5_readStatement 75 = .ok (.if_icmp .ge 55, 3) := by decide +kernel
theorem dX5_readStatement_78 : decode cX5_readStatement 78 = .ok (.aload_n 0, 1) := by decide +kernel
theorem dX5_readStatement_79 : decode cX5_readStatement 79 = .ok (.getfield 39, 3) := by decide +kernel
theorem dX5_readStatement_82 : decode cX5_readStatement 82 = .ok (.iconst 2, 1) := by decide +kernel
theorem dX5_readStatement_83 : decode cX5_readStatement 83 = .ok (.if_icmp .eq 9, 3) := by decide +kernel
theorem dX5_readStatement_86 : decode cX5_readStatement 86 = .ok (.aload_n 0, 1) := by decide +kernel
theorem dX5_readStatement_87 : decode cX5_readStatement 87 = .ok (.iconst 1, 1) := by decide +kernel
theorem dX5_readStatement_88 : decode cX5_readStatement 88 = .ok (.invokevirtual 60, 3) := by decide +kernel
theorem dX5_readStatement_91 : decode cX5_readStatement 91 = .ok (.ireturn, 1) := by decide +kernel
theorem dX5_readStatement_92 : decode cX5_readStatement 92 = .ok (.aload_n 0, 1) := by decide +kernel
theorem dX5_readStatement_93 : decode cX5_readStatement 93 = .ok (.iload_n 2, 1) := by decide +kernel
theorem dX5_readStatement_94 : decode cX5_readStatement 94 = .ok (.iload 4, 2) := by decide +kernel
theorem dX5_readStatement_96 : decode cX5_readStatement 96 = .ok (.aload_n 1, 1) := by decide +kernel
theorem dX5_readStatement_97 : decode cX5_readStatement 97 = .ok (.invokevirtual 72, 3) := by decide +kernel
theorem dX5_readStatement_100 : decode cX5_readStatement 100 = .ok (.ifCond .ne 9, 3) := by decide +kernel
theorem dX5_readStatement_103 : decode cX5_readStatement 103 = .ok (.aload_n 0, 1) := by decide +kernel
theorem dX5_readStatement_104 : decode cX5_readStatement 104 = .ok (.iconst 2, 1) := by decide +kernel
theorem dX5_readStatement_105 : decode cX5_readStatement 105 = .ok (.invokevirtual 60, 3) := by decide +kernel
theorem dX5_readStatement_108 : decode cX5_readStatement 108 = .ok (.ireturn, 1) := by decide +kernel
theorem dX5_readStatement_109 : decode cX5_readStatement 109 = .ok (.aload_n 0, 1) := by decide +kernel
theorem dX5_readStatement_110 : decode cX5_readStatement 110 = .ok (.getfield 15, 3) := by decide +kernel
theorem dX5_readStatement_113 : decode cX5_readStatement 113 = .ok (.iload 4, 2) := by decide +kernel
theorem dX5_readStatement_115 : decode cX5_readStatement 115 = .ok (.aload_n 0, 1) := by decide +kernel
theorem dX5_readStatement_116 : decode cX5_readStatement 116 = .ok (.getfield 76, 3) := by decide +kernel
theorem dX5_readStatement_119 : decode cX5_readStatement 119 = .ok (.iastore, 1) := by decide +kernel
theorem dX5_readStatement_120 : decode cX5_readStatement 120 = .ok (.aload_n 0, 1) := by decide +kernel
theorem dX5_readStatement_121 : decode cX5_readStatement 121 = .ok (.invokevirtual 36, 3) := by decide +kernel
theorem dX5_readStatement_124 : decode cX5_readStatement 124 = .ok (.iinc 4 1, 3) := by decide +kernel
theorem dX5_readStatement_127 : decode cX5_readStatement 127 = .ok (.goto (-55), 3) := by decide +kernel
theorem dX5_readStatement_130 : decode cX5_readStatement 130 = .ok (.aload_n 0, 1) := by decide +kernel
theorem dX5_readStatement_131 : decode cX5_readStatement 131 = .ok (.getfield 39, 3) := by decide +kernel
theorem dX5_readStatement_134 : decode cX5_readStatement 134 = .ok (.iconst 3, 1) := by decide +kernel
theorem dX5_readStatement_135 : decode cX5_readStatement 135 = .ok (.if_icmp .eq 9, 3) := by decide +kernel
theorem dX5_readStatement_138 : decode cX5_readStatement 138 = .ok (.aload_n 0, 1) := by decide +kernel
theorem dX5_readStatement_139 : decode cX5_readStatement 139 = .ok (.iconst 1, 1) := by decide +kernel
theorem dX5_readStatement_140 : decode cX5_readStatement 140 = .ok (.invokevirtual 60, 3) := by decide +kernel
theorem dX5_readStatement_143 : decode cX5_readStatement 143 = .ok (.ireturn, 1) := by decide +kernel
theorem dX5_readStatement_144 : decode cX5_readStatement 144 = .ok (.aload_n 0, 1) := by decide +kernel
theorem dX5_readStatement_145 : decode cX5_readStatement 145 = .ok (.invokevirtual 36, 3) := by decide +kernel
theorem dX5_readStatement_148 : decode cX5_readStatement 148 = .ok (.iload_n 2, 1) := by decide +kernel
theorem dX5_readStatement_149 : decode cX5_readStatement 149 = .ok (.ireturn, 1) := by decide +kernel
theorem dX5_fail_0 : decode cX5_fail 0 = .ok (.aload_n 0, 1) := by decide +kernel
theorem dX5_fail_1 : decode cX5_fail 1 = .ok (.iload_n 1, 1) := by decide +kernel
theorem dX5_fail_2 : decode cX5_fail 2 = .ok (.putfield 30, 3) := by decide +kernel
theorem dX5_fail_5 : decode cX5_fail 5 = .ok (.aload_n 0, 1) := by decide +kernel
theorem dX5_fail_6 : decode cX5_fail 6 = .ok (.aload_n 0, 1) := by decide +kernel
theorem dX5_fail_7 : decode cX5_fail 7 = .ok (.getfield 79, 3) := by decide +kernel
theorem dX5_fail_10 : decode cX5_fail 10 = .ok (.putfield 19, 3) := by decide +kernel
theorem dX5_fail_13 : decode cX5_fail 13 = .ok (.iconst (-1), 1) := by decide +kernel
theorem dX5_fail_14 : decode cX5_fail 14 = .ok (.ireturn, 1) := by decide +kernel
theorem dX5_findStatement_0 : decode cX5_findStatement 0 = .ok (.aload_n 0, 1) := by decide +kernel
theorem dX5_findStatement_1 : decode cX5_findStatement 1 = .ok (.getfield 39, 3) := by decide +kernel
theorem dX5_findStatement_4 : decode cX5_findStatement 4 = .ok (.iconst 1, 1) := by decide +kernel
theorem dX5_findStatement_5 : decode cX5_findStatement 5 = .ok (.if_icmp .eq 5, 3) := by decide +kernel
theorem dX5_findStatement_8 : decode cX5_findStatement 8 = .ok (.iconst (-1), 1) := by decide +kernel
theorem dX5_findStatement_9 : decode cX5_findStatement 9 = .ok (.ireturn, 1) := by decide +kernel
theorem dX5_findStatement_10 : decode cX5_findStatement 10 = .ok (.aload_n 0, 1) := by decide +kernel
theorem dX5_findStatement_11 : decode cX5_findStatement 11 = .ok (.ldc 82, 2) := by decide +kernel
theorem dX5_findStatement_13 : decode cX5_findStatement 13 = .ok (.invokevirtual 84, 3) := by decide +kernel
theorem dX5_findStatement_16 : decode cX5_findStatement 16 = .ok (.ifCond .eq 5, 3) := by decide +kernel
theorem dX5_findStatement_19 : decode cX5_findStatement 19 = .ok (.iconst 0, 1) := by decide +kernel
theorem dX5_findStatement_20 : decode cX5_findStatement 20 = .ok (.ireturn, 1) := by decide +kernel
theorem dX5_findStatement_21 : decode cX5_findStatement 21 = .ok (.aload_n 0, 1) := by decide +kernel
theorem dX5_findStatement_22 : decode cX5_findStatement 22 = .ok (.ldc 88, 2) := by decide +kernel
theorem dX5_findStatement_24 : decode cX5_findStatement 24 = .ok (.invokevirtual 84, 3) := by decide +kernel
theorem dX5_findStatement_27 : decode cX5_findStatement 27 = .ok (.ifCond .eq 5, 3) := by decide +kernel
theorem dX5_findStatement_30 : decode cX5_findStatement 30 = .ok (.iconst 1, 1) := by decide +kernel
theorem dX5_findStatement_31 : decode cX5_findStatement 31 = .ok (.ireturn, 1) := by decide +kernel
theorem dX5_findStatement_32 : decode cX5_findStatement 32 = .ok (.aload_n 0, 1) := by decide +kernel
theorem dX5_findStatement_33 : decode cX5_findStatement 33 = .ok (.ldc 90, 2) := by decide +kernel
theorem dX5_findStatement_35 : decode cX5_findStatement 35 = .ok (.invokevirtual 84, 3) := by decide +kernel
theorem dX5_findStatement_38 : decode cX5_findStatement 38 = .ok (.ifCond .eq 5, 3) := by decide +kernel
theorem dX5_findStatement_41 : decode cX5_findStatement 41 = .ok (.iconst 2, 1) := by decide +kernel
theorem dX5_findStatement_42 : decode cX5_findStatement 42 = .ok (.ireturn, 1) := by decide +kernel
theorem dX5_findStatement_43 : decode cX5_findStatement 43 = .ok (.aload_n 0, 1) := by decide +kernel
theorem dX5_findStatement_44 : decode cX5_findStatement 44 = .ok (.ldc 92, 2) := by decide +kernel
theorem dX5_findStatement_46 : decode cX5_findStatement 46 = .ok (.invokevirtual 84, 3) := by decide +kernel
theorem dX5_findStatement_49 : decode cX5_findStatement 49 = .ok (.ifCond .eq 5, 3) := by decide +kernel
theorem dX5_findStatement_52 : decode cX5_findStatement 52 = .ok (.iconst 3, 1) := by decide +kernel
theorem dX5_findStatement_53 : decode cX5_findStatement 53 = .ok (.ireturn, 1) := by decide +kernel
theorem dX5_findStatement_54 : decode cX5_findStatement 54 = .ok (.aload_n 0, 1) := by decide +kernel
theorem dX5_findStatement_55 : decode cX5_findStatement 55 = .ok (.ldc 94, 2) := by decide +kernel
theorem dX5_findStatement_57 : decode cX5_findStatement 57 = .ok (.invokevirtual 84, 3) := by decide +kernel
theorem dX5_findStatement_60 : decode cX5_findStatement 60 = .ok (.ifCond .eq 5, 3) := by decide +kernel
theorem dX5_findStatement_63 : decode cX5_findStatement 63 = .ok (.iconst 4, 1) := by decide +kernel
theorem dX5_findStatement_64 : decode cX5_findStatement 64 = .ok (.ireturn, 1) := by decide +kernel
theorem dX5_findStatement_65 : decode cX5_findStatement 65 = .ok (.aload_n 0, 1) := by decide +kernel
theorem dX5_findStatement_66 : decode cX5_findStatement 66 = .ok (.ldc 96, 2) := by decide +kernel
theorem dX5_findStatement_68 : decode cX5_findStatement 68 = .ok (.invokevirtual 84, 3) := by decide +kernel
theorem dX5_findStatement_71 : decode cX5_findStatement 71 = .ok (.ifCond .eq 5, 3) := by decide +kernel
theorem dX5_findStatement_74 : decode cX5_findStatement 74 = .ok (.iconst 5, 1) := by decide +kernel
theorem dX5_findStatement_75 : decode cX5_findStatement 75 = .ok (.ireturn, 1) := by decide +kernel
theorem dX5_findStatement_76 : decode cX5_findStatement 76 = .ok (.aload_n 0, 1) := by decide +kernel
theorem dX5_findStatement_77 : decode cX5_findStatement 77 = .ok (.ldc 98, 2) := by decide +kernel
theorem dX5_findStatement_79 : decode cX5_findStatement 79 = .ok (.invokevirtual 84, 3) := by decide +kernel
theorem dX5_findStatement_82 : decode cX5_findStatement 82 = .ok (.ifCond .eq 6, 3) := by decide +kernel
theorem dX5_findStatement_85 : decode cX5_findStatement 85 = .ok (.bipush 6, 2) := by decide +kernel
theorem dX5_findStatement_87 : decode cX5_findStatement 87 = .ok (.ireturn, 1) := by decide +kernel
theorem dX5_findStatement_88 : decode cX5_findStatement 88 = .ok (.aload_n 0, 1) := by decide +kernel
theorem dX5_findStatement_89 : decode cX5_findStatement 89 = .ok (.ldc 100, 2) := by decide +kernel
theorem dX5_findStatement_91 : decode cX5_findStatement 91 = .ok (.invokevirtual 84, 3) := by decide +kernel
theorem dX5_findStatement_94 : decode cX5_findStatement 94 = .ok (.ifCond .eq 6, 3) := by decide +kernel
theorem dX5_findStatement_97 : decode cX5_findStatement 97 = .ok (.bipush 7, 2) := by decide +kernel
theorem dX5_findStatement_99 : decode cX5_findStatement 99 = .ok (.ireturn, 1) := by decide +kernel
theorem dX5_findStatement_100 : decode cX5_findStatement 100 = .ok (.iconst (-1), 1) := by decide +kernel
theorem dX5_findStatement_101 : decode cX5_findStatement 101 = .ok (.ireturn, 1) := by decide +kernel
theorem dX5_wordIs_0 : decode cX5_wordIs 0 = .ok (.aload_n 0, 1) := by decide +kernel
theorem dX5_wordIs_1 : decode cX5_wordIs 1 = .ok (.getfield 33, 3) := by decide +kernel
theorem dX5_wordIs_4 : decode cX5_wordIs 4 = .ok (.aload_n 0, 1) := by decide +kernel
theorem dX5_wordIs_5 : decode cX5_wordIs 5 = .ok (.getfield 79, 3) := by decide +kernel
theorem dX5_wordIs_8 : decode cX5_wordIs 8 = .ok (.isub, 1) := by decide +kernel
theorem dX5_wordIs_9 : decode cX5_wordIs 9 = .ok (.aload_n 1, 1) := by decide +kernel
theorem dX5_wordIs_10 : decode cX5_wordIs 10 = .ok (.invokevirtual 102, 3) := by decide +kernel
theorem dX5_wordIs_13 : decode cX5_wordIs 13 = .ok (.if_icmp .eq 5, 3) := by decide +kernel
theorem dX5_wordIs_16 : decode cX5_wordIs 16 = .ok (.iconst 0, 1) := by decide +kernel
theorem dX5_wordIs_17 : decode cX5_wordIs 17 = .ok (.ireturn, 1) := by decide +kernel
theorem dX5_wordIs_18 : decode cX5_wordIs 18 = .ok (.iconst 0, 1) := by decide +kernel
theorem dX5_wordIs_19 : decode cX5_wordIs 19 = .ok (.istore_n 2, 1) := by decide +kernel
theorem dX5_wordIs_20 : decode cX5_wordIs 20 = .ok (.iload_n 2, 1) := by decide +kernel
theorem dX5_wordIs_21 : decode cX5_wordIs 21 = .ok (.aload_n 1, 1) := by decide +kernel
theorem dX5_wordIs_22 : decode cX5_wordIs 22 = .ok (.invokevirtual 102, 3) := by decide +kernel
theorem dX5_wordIs_25 : decode cX5_wordIs 25 = .ok (.if_icmp .ge 30, 3) := by decide +kernel
theorem dX5_wordIs_28 : decode cX5_wordIs 28 = .ok (.aload_n 0, 1) := by decide +kernel
theorem dX5_wordIs_29 : decode cX5_wordIs 29 = .ok (.getfield 11, 3) := by decide +kernel
theorem dX5_wordIs_32 : decode cX5_wordIs 32 = .ok (.aload_n 0, 1) := by decide +kernel
theorem dX5_wordIs_33 : decode cX5_wordIs 33 = .ok (.getfield 79, 3) := by decide +kernel
theorem dX5_wordIs_36 : decode cX5_wordIs 36 = .ok (.iload_n 2, 1) := by decide +kernel
theorem dX5_wordIs_37 : decode cX5_wordIs 37 = .ok (.iadd, 1) := by decide +kernel
theorem dX5_wordIs_38 : decode cX5_wordIs 38 = .ok (.baload, 1) := by decide +kernel
theorem dX5_wordIs_39 : decode cX5_wordIs 39 = .ok (.aload_n 1, 1) := by decide +kernel
theorem dX5_wordIs_40 : decode cX5_wordIs 40 = .ok (.iload_n 2, 1) := by decide +kernel
theorem dX5_wordIs_41 : decode cX5_wordIs 41 = .ok (.invokevirtual 106, 3) := by decide +kernel
theorem dX5_wordIs_44 : decode cX5_wordIs 44 = .ok (.if_icmp .eq 5, 3) := by decide +kernel
theorem dX5_wordIs_47 : decode cX5_wordIs 47 = .ok (.iconst 0, 1) := by decide +kernel
theorem dX5_wordIs_48 : decode cX5_wordIs 48 = .ok (.ireturn, 1) := by decide +kernel
theorem dX5_wordIs_49 : decode cX5_wordIs 49 = .ok (.iinc 2 1, 3) := by decide +kernel
theorem dX5_wordIs_52 : decode cX5_wordIs 52 = .ok (.goto (-32), 3) := by decide +kernel
theorem dX5_wordIs_55 : decode cX5_wordIs 55 = .ok (.iconst 1, 1) := by decide +kernel
theorem dX5_wordIs_56 : decode cX5_wordIs 56 = .ok (.ireturn, 1) := by decide +kernel
theorem dX5_isInRange_0 : decode cX5_isInRange 0 = .ok (.iload_n 1, 1) := by decide +kernel
theorem dX5_isInRange_1 : decode cX5_isInRange 1 = .ok (.tableswitch 96 0 7 #[47, 67, 96, 78, 96, 96, 96, 85], 47) := by decide +kernel
theorem dX5_isInRange_48 : decode cX5_isInRange 48 = .ok (.aload_n 0, 1) := by decide +kernel
theorem dX5_isInRange_49 : decode cX5_isInRange 49 = .ok (.getfield 76, 3) := by decide +kernel
theorem dX5_isInRange_52 : decode cX5_isInRange 52 = .ok (.iconst 1, 1) := by decide +kernel
theorem dX5_isInRange_53 : decode cX5_isInRange 53 = .ok (.iload_n 2, 1) := by decide +kernel
theorem dX5_isInRange_54 : decode cX5_isInRange 54 = .ok (.iconst 1, 1) := by decide +kernel
theorem dX5_isInRange_55 : decode cX5_isInRange 55 = .ok (.if_icmp .ne 7, 3) := by decide +kernel
theorem dX5_isInRange_58 : decode cX5_isInRange 58 = .ok (.iconst 5, 1) := by decide +kernel
theorem dX5_isInRange_59 : decode cX5_isInRange 59 = .ok (.goto 5, 3) := by decide +kernel
theorem dX5_isInRange_62 : decode cX5_isInRange 62 = .ok (.bipush 30, 2) := by decide +kernel
theorem dX5_isInRange_64 : decode cX5_isInRange 64 = .ok (.invokestatic 110, 3) := by decide +kernel
theorem dX5_isInRange_67 : decode cX5_isInRange 67 = .ok (.ireturn, 1) := by decide +kernel
theorem dX5_isInRange_68 : decode cX5_isInRange 68 = .ok (.aload_n 0, 1) := by decide +kernel
theorem dX5_isInRange_69 : decode cX5_isInRange 69 = .ok (.getfield 76, 3) := by decide +kernel
theorem dX5_isInRange_72 : decode cX5_isInRange 72 = .ok (.iconst 1, 1) := by decide +kernel
theorem dX5_isInRange_73 : decode cX5_isInRange 73 = .ok (.bipush 20, 2) := by decide +kernel
theorem dX5_isInRange_75 : decode cX5_isInRange 75 = .ok (.invokestatic 110, 3) := by decide +kernel
theorem dX5_isInRange_78 : decode cX5_isInRange 78 = .ok (.ireturn, 1) := by decide +kernel
theorem dX5_isInRange_79 : decode cX5_isInRange 79 = .ok (.aload_n 0, 1) := by decide +kernel
theorem dX5_isInRange_80 : decode cX5_isInRange 80 = .ok (.iload_n 2, 1) := by decide +kernel
theorem dX5_isInRange_81 : decode cX5_isInRange 81 = .ok (.aload_n 3, 1) := by decide +kernel
theorem dX5_isInRange_82 : decode cX5_isInRange 82 = .ok (.invokevirtual 114, 3) := by decide +kernel
theorem dX5_isInRange_85 : decode cX5_isInRange 85 = .ok (.ireturn, 1) := by decide +kernel
theorem dX5_isInRange_86 : decode cX5_isInRange 86 = .ok (.aload_n 0, 1) := by decide +kernel
theorem dX5_isInRange_87 : decode cX5_isInRange 87 = .ok (.getfield 76, 3) := by decide +kernel
theorem dX5_isInRange_90 : decode cX5_isInRange 90 = .ok (.iconst 0, 1) := by decide +kernel
theorem dX5_isInRange_91 : decode cX5_isInRange 91 = .ok (.bipush 20, 2) := by decide +kernel
theorem dX5_isInRange_93 : decode cX5_isInRange 93 = .ok (.invokestatic 110, 3) := by decide +kernel
theorem dX5_isInRange_96 : decode cX5_isInRange 96 = .ok (.ireturn, 1) := by decide +kernel
theorem dX5_isInRange_97 : decode cX5_isInRange 97 = .ok (.aload_n 0, 1) := by decide +kernel
theorem dX5_isInRange_98 : decode cX5_isInRange 98 = .ok (.iload_n 1, 1) := by decide +kernel
theorem dX5_isInRange_99 : decode cX5_isInRange 99 = .ok (.iload_n 2, 1) := by decide +kernel
theorem dX5_isInRange_100 : decode cX5_isInRange 100 = .ok (.aload_n 3, 1) := by decide +kernel
theorem dX5_isInRange_101 : decode cX5_isInRange 101 = .ok (.invokevirtual 118, 3) := by decide +kernel
theorem dX5_isInRange_104 : decode cX5_isInRange 104 = .ok (.ireturn, 1) := by decide +kernel
theorem dX5_isLinkArgument_0 : decode cX5_isLinkArgument 0 = .ok (.iload_n 1, 1) := by decide +kernel
theorem dX5_isLinkArgument_1 : decode cX5_isLinkArgument 1 = .ok (.iconst 2, 1) := by decide +kernel
theorem dX5_isLinkArgument_2 : decode cX5_isLinkArgument 2 = .ok (.if_icmp .ne 14, 3) := by decide +kernel
theorem dX5_isLinkArgument_5 : decode cX5_isLinkArgument 5 = .ok (.aload_n 0, 1) := by decide +kernel
theorem dX5_isLinkArgument_6 : decode cX5_isLinkArgument 6 = .ok (.getfield 76, 3) := by decide +kernel
theorem dX5_isLinkArgument_9 : decode cX5_isLinkArgument 9 = .ok (.iconst 1, 1) := by decide +kernel
theorem dX5_isLinkArgument_10 : decode cX5_isLinkArgument 10 = .ok (.bipush 20, 2) := by decide +kernel
theorem dX5_isLinkArgument_12 : decode cX5_isLinkArgument 12 = .ok (.invokestatic 110, 3) := by decide +kernel
theorem dX5_isLinkArgument_15 : decode cX5_isLinkArgument 15 = .ok (.ireturn, 1) := by decide +kernel
theorem dX5_isLinkArgument_16 : decode cX5_isLinkArgument 16 = .ok (.aload_n 2, 1) := by decide +kernel
theorem dX5_isLinkArgument_17 : decode cX5_isLinkArgument 17 = .ok (.aload_n 0, 1) := by decide +kernel
theorem dX5_isLinkArgument_18 : decode cX5_isLinkArgument 18 = .ok (.getfield 76, 3) := by decide +kernel
theorem dX5_isLinkArgument_21 : decode cX5_isLinkArgument 21 = .ok (.invokevirtual 121, 3) := by decide +kernel
theorem dX5_isLinkArgument_24 : decode cX5_isLinkArgument 24 = .ok (.ifCond .eq 24, 3) := by decide +kernel
theorem dX5_isLinkArgument_27 : decode cX5_isLinkArgument 27 = .ok (.iload_n 1, 1) := by decide +kernel
theorem dX5_isLinkArgument_28 : decode cX5_isLinkArgument 28 = .ok (.ifCond .eq 16, 3) := by decide +kernel
theorem dX5_isLinkArgument_31 : decode cX5_isLinkArgument 31 = .ok (.aload_n 0, 1) := by decide +kernel
theorem dX5_isLinkArgument_32 : decode cX5_isLinkArgument 32 = .ok (.getfield 76, 3) := by decide +kernel
theorem dX5_isLinkArgument_35 : decode cX5_isLinkArgument 35 = .ok (.aload_n 0, 1) := by decide +kernel
theorem dX5_isLinkArgument_36 : decode cX5_isLinkArgument 36 = .ok (.getfield 15, 3) := by decide +kernel
theorem dX5_isLinkArgument_39 : decode cX5_isLinkArgument 39 = .ok (.iconst 0, 1) := by decide +kernel
theorem dX5_isLinkArgument_40 : decode cX5_isLinkArgument 40 = .ok (.iaload, 1) := by decide +kernel
theorem dX5_isLinkArgument_41 : decode cX5_isLinkArgument 41 = .ok (.if_icmp .eq 7, 3) := by decide +kernel
theorem dX5_isLinkArgument_44 : decode cX5_isLinkArgument 44 = .ok (.iconst 1, 1) := by decide +kernel
theorem dX5_isLinkArgument_45 : decode cX5_isLinkArgument 45 = .ok (.goto 4, 3) := by decide +kernel
theorem dX5_isLinkArgument_48 : decode cX5_isLinkArgument 48 = .ok (.iconst 0, 1) := by decide +kernel
theorem dX5_isLinkArgument_49 : decode cX5_isLinkArgument 49 = .ok (.ireturn, 1) := by decide +kernel
theorem dX5_isCellArgument_0 : decode cX5_isCellArgument 0 = .ok (.iload_n 2, 1) := by decide +kernel
theorem dX5_isCellArgument_1 : decode cX5_isCellArgument 1 = .ok (.ifCond .ne 28, 3) := by decide +kernel
theorem dX5_isCellArgument_4 : decode cX5_isCellArgument 4 = .ok (.iload_n 1, 1) := by decide +kernel
theorem dX5_isCellArgument_5 : decode cX5_isCellArgument 5 = .ok (.iconst 2, 1) := by decide +kernel
theorem dX5_isCellArgument_6 : decode cX5_isCellArgument 6 = .ok (.if_icmp .ne 14, 3) := by decide +kernel
theorem dX5_isCellArgument_9 : decode cX5_isCellArgument 9 = .ok (.aload_n 3, 1) := by decide +kernel
theorem dX5_isCellArgument_10 : decode cX5_isCellArgument 10 = .ok (.aload_n 0, 1) := by decide +kernel
theorem dX5_isCellArgument_11 : decode cX5_isCellArgument 11 = .ok (.getfield 76, 3) := by decide +kernel
theorem dX5_isCellArgument_14 : decode cX5_isCellArgument 14 = .ok (.invokevirtual 125, 3) := by decide +kernel
theorem dX5_isCellArgument_17 : decode cX5_isCellArgument 17 = .ok (.goto 11, 3) := by decide +kernel
theorem dX5_isCellArgument_20 : decode cX5_isCellArgument 20 = .ok (.aload_n 3, 1) := by decide +kernel
theorem dX5_isCellArgument_21 : decode cX5_isCellArgument 21 = .ok (.aload_n 0, 1) := by decide +kernel
theorem dX5_isCellArgument_22 : decode cX5_isCellArgument 22 = .ok (.getfield 76, 3) := by decide +kernel
theorem dX5_isCellArgument_25 : decode cX5_isCellArgument 25 = .ok (.invokevirtual 121, 3) := by decide +kernel
theorem dX5_isCellArgument_28 : decode cX5_isCellArgument 28 = .ok (.ireturn, 1) := by decide +kernel
theorem dX5_isCellArgument_29 : decode cX5_isCellArgument 29 = .ok (.iload_n 2, 1) := by decide +kernel
theorem dX5_isCellArgument_30 : decode cX5_isCellArgument 30 = .ok (.iconst 1, 1) := by decide +kernel
theorem dX5_isCellArgument_31 : decode cX5_isCellArgument 31 = .ok (.if_icmp .ne 14, 3) := by decide +kernel
theorem dX5_isCellArgument_34 : decode cX5_isCellArgument 34 = .ok (.aload_n 3, 1) := by decide +kernel
theorem dX5_isCellArgument_35 : decode cX5_isCellArgument 35 = .ok (.aload_n 0, 1) := by decide +kernel
theorem dX5_isCellArgument_36 : decode cX5_isCellArgument 36 = .ok (.getfield 76, 3) := by decide +kernel
theorem dX5_isCellArgument_39 : decode cX5_isCellArgument 39 = .ok (.invokevirtual 128, 3) := by decide +kernel
theorem dX5_isCellArgument_42 : decode cX5_isCellArgument 42 = .ok (.goto 15, 3) := by decide +kernel
theorem dX5_isCellArgument_45 : decode cX5_isCellArgument 45 = .ok (.aload_n 0, 1) := by decide +kernel
theorem dX5_isCellArgument_46 : decode cX5_isCellArgument 46 = .ok (.getfield 76, 3) := by decide +kernel
theorem dX5_isCellArgument_49 : decode cX5_isCellArgument 49 = .ok (.iconst 0, 1) := by decide +kernel
theorem dX5_isCellArgument_50 : decode cX5_isCellArgument 50 = .ok (.iload_n 1, 1) := by decide +kernel
theorem dX5_isCellArgument_51 : decode cX5_isCellArgument 51 = .ok (.invokestatic 131, 3) := by decide +kernel
theorem dX5_isCellArgument_54 : decode cX5_isCellArgument 54 = .ok (.invokestatic 110, 3) := by decide +kernel
theorem dX5_isCellArgument_57 : decode cX5_isCellArgument 57 = .ok (.ireturn, 1) := by decide +kernel
theorem dX5_mostOf_0 : decode cX5_mostOf 0 = .ok (.iload_n 0, 1) := by decide +kernel
theorem dX5_mostOf_1 : decode cX5_mostOf 1 = .ok (.tableswitch 40 2 5 #[31, 40, 34, 37], 31) := by decide +kernel
theorem dX5_mostOf_32 : decode cX5_mostOf 32 = .ok (.bipush 20, 2) := by decide +kernel
theorem dX5_mostOf_34 : decode cX5_mostOf 34 = .ok (.ireturn, 1) := by decide +kernel
theorem dX5_mostOf_35 : decode cX5_mostOf 35 = .ok (.bipush 10, 2) := by decide +kernel
theorem dX5_mostOf_37 : decode cX5_mostOf 37 = .ok (.ireturn, 1) := by decide +kernel
theorem dX5_mostOf_38 : decode cX5_mostOf 38 = .ok (.bipush 20, 2) := by decide +kernel
theorem dX5_mostOf_40 : decode cX5_mostOf 40 = .ok (.ireturn, 1) := by decide +kernel
theorem dX5_mostOf_41 : decode cX5_mostOf 41 = .ok (.bipush 100, 2) := by decide +kernel
theorem dX5_mostOf_43 : decode cX5_mostOf 43 = .ok (.ireturn, 1) := by decide +kernel
theorem dX5_apply_0 : decode cX5_apply 0 = .ok (.aload_n 0, 1) := by decide +kernel
theorem dX5_apply_1 : decode cX5_apply 1 = .ok (.getfield 15, 3) := by decide +kernel
theorem dX5_apply_4 : decode cX5_apply 4 = .ok (.iconst 0, 1) := by decide +kernel
theorem dX5_apply_5 : decode cX5_apply 5 = .ok (.iaload, 1) := by decide +kernel
theorem dX5_apply_6 : decode cX5_apply 6 = .ok (.istore_n 3, 1) := by decide +kernel
theorem dX5_apply_7 : decode cX5_apply 7 = .ok (.aload_n 0, 1) := by decide +kernel
theorem dX5_apply_8 : decode cX5_apply 8 = .ok (.getfield 15, 3) := by decide +kernel
theorem dX5_apply_11 : decode cX5_apply 11 = .ok (.iconst 1, 1) := by decide +kernel
theorem dX5_apply_12 : decode cX5_apply 12 = .ok (.iaload, 1) := by decide +kernel
theorem dX5_apply_13 : decode cX5_apply 13 = .ok (.istore 4, 2) := by decide +kernel
theorem dX5_apply_15 : decode cX5_apply 15 = .ok (.aload_n 0, 1) := by decide +kernel
theorem dX5_apply_16 : decode cX5_apply 16 = .ok (.getfield 15, 3) := by decide +kernel
theorem dX5_apply_19 : decode cX5_apply 19 = .ok (.iconst 2, 1) := by decide +kernel
theorem dX5_apply_20 : decode cX5_apply 20 = .ok (.iaload, 1) := by decide +kernel
theorem dX5_apply_21 : decode cX5_apply 21 = .ok (.istore 5, 2) := by decide +kernel
theorem dX5_apply_23 : decode cX5_apply 23 = .ok (.aload_n 2, 1) := by decide +kernel
theorem dX5_apply_24 : decode cX5_apply 24 = .ok (.getfield 42, 3) := by decide +kernel
theorem dX5_apply_27 : decode cX5_apply 27 = .ok (.astore 6, 2) := by decide +kernel
theorem dX5_apply_29 : decode cX5_apply 29 = .ok (.iload_n 1, 1) := by decide +kernel
theorem dX5_apply_30 : decode cX5_apply 30 = .ok (.tableswitch 142 0 6 #[42, 56, 66, 78, 91, 108, 125], 42) := by decide +kernel
theorem dX5_apply_72 : decode cX5_apply 72 = .ok (.aload 6, 2) := by decide +kernel
theorem dX5_apply_74 : decode cX5_apply 74 = .ok (.iload_n 3, 1) := by decide +kernel
theorem dX5_apply_75 : decode cX5_apply 75 = .ok (.iload 4, 2) := by decide +kernel
theorem dX5_apply_77 : decode cX5_apply 77 = .ok (.iload 5, 2) := by decide +kernel
theorem dX5_apply_79 : decode cX5_apply 79 = .ok (.invokevirtual 134, 3) := by decide +kernel
theorem dX5_apply_82 : decode cX5_apply 82 = .ok (.pop, 1) := by decide +kernel
theorem dX5_apply_83 : decode cX5_apply 83 = .ok (.goto 95, 3) := by decide +kernel
theorem dX5_apply_86 : decode cX5_apply 86 = .ok (.aload 6, 2) := by decide +kernel
theorem dX5_apply_88 : decode cX5_apply 88 = .ok (.iload_n 3, 1) := by decide +kernel
theorem dX5_apply_89 : decode cX5_apply 89 = .ok (.invokevirtual 138, 3) := by decide +kernel
theorem dX5_apply_92 : decode cX5_apply 92 = .ok (.pop, 1) := by decide +kernel
theorem dX5_apply_93 : decode cX5_apply 93 = .ok (.goto 85, 3) := by decide +kernel
theorem dX5_apply_96 : decode cX5_apply 96 = .ok (.aload_n 2, 1) := by decide +kernel
theorem dX5_apply_97 : decode cX5_apply 97 = .ok (.iload_n 3, 1) := by decide +kernel
theorem dX5_apply_98 : decode cX5_apply 98 = .ok (.iload 4, 2) := by decide +kernel
theorem dX5_apply_100 : decode cX5_apply 100 = .ok (.iload 5, 2) := by decide +kernel
theorem dX5_apply_102 : decode cX5_apply 102 = .ok (.invokevirtual 141, 3) := by decide +kernel
theorem dX5_apply_105 : decode cX5_apply 105 = .ok (.goto 73, 3) := by decide +kernel
theorem dX5_apply_108 : decode cX5_apply 108 = .ok (.aload 6, 2) := by decide +kernel
theorem dX5_apply_110 : decode cX5_apply 110 = .ok (.iload_n 3, 1) := by decide +kernel
theorem dX5_apply_111 : decode cX5_apply 111 = .ok (.iload 4, 2) := by decide +kernel
theorem dX5_apply_113 : decode cX5_apply 113 = .ok (.iload 5, 2) := by decide +kernel
theorem dX5_apply_115 : decode cX5_apply 115 = .ok (.invokevirtual 145, 3) := by decide +kernel
theorem dX5_apply_118 : decode cX5_apply 118 = .ok (.goto 60, 3) := by decide +kernel
theorem dX5_apply_121 : decode cX5_apply 121 = .ok (.aload 6, 2) := by decide +kernel
theorem dX5_apply_123 : decode cX5_apply 123 = .ok (.getfield 148, 3) := by decide +kernel
theorem dX5_apply_126 : decode cX5_apply 126 = .ok (.iload_n 3, 1) := by decide +kernel
theorem dX5_apply_127 : decode cX5_apply 127 = .ok (.iload 4, 2) := by decide +kernel
theorem dX5_apply_129 : decode cX5_apply 129 = .ok (.invokestatic 150, 3) := by decide +kernel
theorem dX5_apply_132 : decode cX5_apply 132 = .ok (.iload 5, 2) := by decide +kernel
theorem dX5_apply_134 : decode cX5_apply 134 = .ok (.iastore, 1) := by decide +kernel
theorem dX5_apply_135 : decode cX5_apply 135 = .ok (.goto 43, 3) := by decide +kernel
theorem dX5_apply_138 : decode cX5_apply 138 = .ok (.aload 6, 2) := by decide +kernel
theorem dX5_apply_140 : decode cX5_apply 140 = .ok (.getfield 154, 3) := by decide +kernel
theorem dX5_apply_143 : decode cX5_apply 143 = .ok (.iload_n 3, 1) := by decide +kernel
theorem dX5_apply_144 : decode cX5_apply 144 = .ok (.iload 4, 2) := by decide +kernel
theorem dX5_apply_146 : decode cX5_apply 146 = .ok (.invokestatic 150, 3) := by decide +kernel
theorem dX5_apply_149 : decode cX5_apply 149 = .ok (.iload 5, 2) := by decide +kernel
theorem dX5_apply_151 : decode cX5_apply 151 = .ok (.iastore, 1) := by decide +kernel
theorem dX5_apply_152 : decode cX5_apply 152 = .ok (.goto 26, 3) := by decide +kernel
theorem dX5_apply_155 : decode cX5_apply 155 = .ok (.aload 6, 2) := by decide +kernel
theorem dX5_apply_157 : decode cX5_apply 157 = .ok (.getfield 156, 3) := by decide +kernel
theorem dX5_apply_160 : decode cX5_apply 160 = .ok (.iload_n 3, 1) := by decide +kernel
theorem dX5_apply_161 : decode cX5_apply 161 = .ok (.iload 4, 2) := by decide +kernel
theorem dX5_apply_163 : decode cX5_apply 163 = .ok (.invokestatic 150, 3) := by decide +kernel
theorem dX5_apply_166 : decode cX5_apply 166 = .ok (.iload 5, 2) := by decide +kernel
theorem dX5_apply_168 : decode cX5_apply 168 = .ok (.iastore, 1) := by decide +kernel
theorem dX5_apply_169 : decode cX5_apply 169 = .ok (.goto 9, 3) := by decide +kernel
theorem dX5_apply_172 : decode cX5_apply 172 = .ok (.aload 6, 2) := by decide +kernel
theorem dX5_apply_174 : decode cX5_apply 174 = .ok (.iload_n 3, 1) := by decide +kernel
theorem dX5_apply_175 : decode cX5_apply 175 = .ok (.putfield 158, 3) := by decide +kernel
theorem dX5_apply_178 : decode cX5_apply 178 = .ok (.return_, 1) := by decide +kernel
theorem dX5_nextToken_0 : decode cX5_nextToken 0 = .ok (.aload_n 0, 1) := by decide +kernel
theorem dX5_nextToken_1 : decode cX5_nextToken 1 = .ok (.getfield 33, 3) := by decide +kernel
theorem dX5_nextToken_4 : decode cX5_nextToken 4 = .ok (.aload_n 0, 1) := by decide +kernel
theorem dX5_nextToken_5 : decode cX5_nextToken 5 = .ok (.getfield 23, 3) := by decide +kernel
theorem dX5_nextToken_8 : decode cX5_nextToken 8 = .ok (.if_icmp .ge 31, 3) := by decide +kernel
theorem dX5_nextToken_11 : decode cX5_nextToken 11 = .ok (.aload_n 0, 1) := by decide +kernel
theorem dX5_nextToken_12 : decode cX5_nextToken 12 = .ok (.getfield 11, 3) := by decide +kernel
theorem dX5_nextToken_15 : decode cX5_nextToken 15 = .ok (.aload_n 0, 1) := by decide +kernel
theorem dX5_nextToken_16 : decode cX5_nextToken 16 = .ok (.getfield 33, 3) := by decide +kernel
theorem dX5_nextToken_19 : decode cX5_nextToken 19 = .ok (.baload, 1) := by decide +kernel
theorem dX5_nextToken_20 : decode cX5_nextToken 20 = .ok (.invokestatic 161, 3) := by decide +kernel
theorem dX5_nextToken_23 : decode cX5_nextToken 23 = .ok (.ifCond .eq 16, 3) := by decide +kernel
theorem dX5_nextToken_26 : decode cX5_nextToken 26 = .ok (.aload_n 0, 1) := by decide +kernel
theorem dX5_nextToken_27 : decode cX5_nextToken 27 = .ok (.dup, 1) := by decide +kernel
theorem dX5_nextToken_28 : decode cX5_nextToken 28 = .ok (.getfield 33, 3) := by decide +kernel
theorem dX5_nextToken_31 : decode cX5_nextToken 31 = .ok (.iconst 1, 1) := by decide +kernel
theorem dX5_nextToken_32 : decode cX5_nextToken 32 = .ok (.iadd, 1) := by decide +kernel
theorem dX5_nextToken_33 : decode cX5_nextToken 33 = .ok (.putfield 33, 3) := by decide +kernel
theorem dX5_nextToken_36 : decode cX5_nextToken 36 = .ok (.goto (-36), 3) := by decide +kernel
theorem dX5_nextToken_39 : decode cX5_nextToken 39 = .ok (.aload_n 0, 1) := by decide +kernel
theorem dX5_nextToken_40 : decode cX5_nextToken 40 = .ok (.aload_n 0, 1) := by decide +kernel
theorem dX5_nextToken_41 : decode cX5_nextToken 41 = .ok (.getfield 33, 3) := by decide +kernel
theorem dX5_nextToken_44 : decode cX5_nextToken 44 = .ok (.putfield 79, 3) := by decide +kernel
theorem dX5_nextToken_47 : decode cX5_nextToken 47 = .ok (.aload_n 0, 1) := by decide +kernel
theorem dX5_nextToken_48 : decode cX5_nextToken 48 = .ok (.getfield 33, 3) := by decide +kernel
theorem dX5_nextToken_51 : decode cX5_nextToken 51 = .ok (.aload_n 0, 1) := by decide +kernel
theorem dX5_nextToken_52 : decode cX5_nextToken 52 = .ok (.getfield 23, 3) := by decide +kernel
theorem dX5_nextToken_55 : decode cX5_nextToken 55 = .ok (.if_icmp .lt 11, 3) := by decide +kernel
theorem dX5_nextToken_58 : decode cX5_nextToken 58 = .ok (.aload_n 0, 1) := by decide +kernel
theorem dX5_nextToken_59 : decode cX5_nextToken 59 = .ok (.iconst 0, 1) := by decide +kernel
theorem dX5_nextToken_60 : decode cX5_nextToken 60 = .ok (.putfield 39, 3) := by decide +kernel
theorem dX5_nextToken_63 : decode cX5_nextToken 63 = .ok (.goto 80, 3) := by decide +kernel
theorem dX5_nextToken_66 : decode cX5_nextToken 66 = .ok (.aload_n 0, 1) := by decide +kernel
theorem dX5_nextToken_67 : decode cX5_nextToken 67 = .ok (.getfield 11, 3) := by decide +kernel
theorem dX5_nextToken_70 : decode cX5_nextToken 70 = .ok (.aload_n 0, 1) := by decide +kernel
theorem dX5_nextToken_71 : decode cX5_nextToken 71 = .ok (.getfield 33, 3) := by decide +kernel
theorem dX5_nextToken_74 : decode cX5_nextToken 74 = .ok (.baload, 1) := by decide +kernel
theorem dX5_nextToken_75 : decode cX5_nextToken 75 = .ok (.invokestatic 164, 3) := by decide +kernel
theorem dX5_nextToken_78 : decode cX5_nextToken 78 = .ok (.ifCond .eq 10, 3) := by decide +kernel
theorem dX5_nextToken_81 : decode cX5_nextToken 81 = .ok (.aload_n 0, 1) := by decide +kernel
theorem dX5_nextToken_82 : decode cX5_nextToken 82 = .ok (.invokevirtual 167, 3) := by decide +kernel
theorem dX5_nextToken_85 : decode cX5_nextToken 85 = .ok (.goto 58, 3) := by decide +kernel
theorem dX5_nextToken_88 : decode cX5_nextToken 88 = .ok (.aload_n 0, 1) := by decide +kernel
theorem dX5_nextToken_89 : decode cX5_nextToken 89 = .ok (.getfield 11, 3) := by decide +kernel
theorem dX5_nextToken_92 : decode cX5_nextToken 92 = .ok (.aload_n 0, 1) := by decide +kernel
theorem dX5_nextToken_93 : decode cX5_nextToken 93 = .ok (.getfield 33, 3) := by decide +kernel
theorem dX5_nextToken_96 : decode cX5_nextToken 96 = .ok (.baload, 1) := by decide +kernel
theorem dX5_nextToken_97 : decode cX5_nextToken 97 = .ok (.invokestatic 170, 3) := by decide +kernel
theorem dX5_nextToken_100 : decode cX5_nextToken 100 = .ok (.ifCond .eq 10, 3) := by decide +kernel
theorem dX5_nextToken_103 : decode cX5_nextToken 103 = .ok (.aload_n 0, 1) := by decide +kernel
theorem dX5_nextToken_104 : decode cX5_nextToken 104 = .ok (.invokevirtual 173, 3) := by decide +kernel
theorem dX5_nextToken_107 : decode cX5_nextToken 107 = .ok (.goto 36, 3) := by decide +kernel
theorem dX5_nextToken_110 : decode cX5_nextToken 110 = .ok (.aload_n 0, 1) := by decide +kernel
theorem dX5_nextToken_111 : decode cX5_nextToken 111 = .ok (.aload_n 0, 1) := by decide +kernel
theorem dX5_nextToken_112 : decode cX5_nextToken 112 = .ok (.getfield 11, 3) := by decide +kernel
theorem dX5_nextToken_115 : decode cX5_nextToken 115 = .ok (.aload_n 0, 1) := by decide +kernel
theorem dX5_nextToken_116 : decode cX5_nextToken 116 = .ok (.getfield 33, 3) := by decide +kernel
theorem dX5_nextToken_119 : decode cX5_nextToken 119 = .ok (.baload, 1) := by decide +kernel
theorem dX5_nextToken_120 : decode cX5_nextToken 120 = .ok (.bipush 59, 2) := by decide +kernel
theorem dX5_nextToken_122 : decode cX5_nextToken 122 = .ok (.if_icmp .ne 7, 3) := by decide +kernel
theorem dX5_nextToken_125 : decode cX5_nextToken 125 = .ok (.iconst 3, 1) := by decide +kernel
theorem dX5_nextToken_126 : decode cX5_nextToken 126 = .ok (.goto 4, 3) := by decide +kernel
theorem dX5_nextToken_129 : decode cX5_nextToken 129 = .ok (.iconst 4, 1) := by decide +kernel
theorem dX5_nextToken_130 : decode cX5_nextToken 130 = .ok (.putfield 39, 3) := by decide +kernel
theorem dX5_nextToken_133 : decode cX5_nextToken 133 = .ok (.aload_n 0, 1) := by decide +kernel
theorem dX5_nextToken_134 : decode cX5_nextToken 134 = .ok (.dup, 1) := by decide +kernel
theorem dX5_nextToken_135 : decode cX5_nextToken 135 = .ok (.getfield 33, 3) := by decide +kernel
theorem dX5_nextToken_138 : decode cX5_nextToken 138 = .ok (.iconst 1, 1) := by decide +kernel
theorem dX5_nextToken_139 : decode cX5_nextToken 139 = .ok (.iadd, 1) := by decide +kernel
theorem dX5_nextToken_140 : decode cX5_nextToken 140 = .ok (.putfield 33, 3) := by decide +kernel
theorem dX5_nextToken_143 : decode cX5_nextToken 143 = .ok (.return_, 1) := by decide +kernel
theorem dX5_readWord_0 : decode cX5_readWord 0 = .ok (.aload_n 0, 1) := by decide +kernel
theorem dX5_readWord_1 : decode cX5_readWord 1 = .ok (.iconst 1, 1) := by decide +kernel
theorem dX5_readWord_2 : decode cX5_readWord 2 = .ok (.putfield 39, 3) := by decide +kernel
theorem dX5_readWord_5 : decode cX5_readWord 5 = .ok (.aload_n 0, 1) := by decide +kernel
theorem dX5_readWord_6 : decode cX5_readWord 6 = .ok (.getfield 33, 3) := by decide +kernel
theorem dX5_readWord_9 : decode cX5_readWord 9 = .ok (.aload_n 0, 1) := by decide +kernel
theorem dX5_readWord_10 : decode cX5_readWord 10 = .ok (.getfield 23, 3) := by decide +kernel
theorem dX5_readWord_13 : decode cX5_readWord 13 = .ok (.if_icmp .ge 31, 3) := by decide +kernel
theorem dX5_readWord_16 : decode cX5_readWord 16 = .ok (.aload_n 0, 1) := by decide +kernel
theorem dX5_readWord_17 : decode cX5_readWord 17 = .ok (.getfield 11, 3) := by decide +kernel
theorem dX5_readWord_20 : decode cX5_readWord 20 = .ok (.aload_n 0, 1) := by decide +kernel
theorem dX5_readWord_21 : decode cX5_readWord 21 = .ok (.getfield 33, 3) := by decide +kernel
theorem dX5_readWord_24 : decode cX5_readWord 24 = .ok (.baload, 1) := by decide +kernel
theorem dX5_readWord_25 : decode cX5_readWord 25 = .ok (.invokestatic 164, 3) := by decide +kernel
theorem dX5_readWord_28 : decode cX5_readWord 28 = .ok (.ifCond .eq 16, 3) := by decide +kernel
theorem dX5_readWord_31 : decode cX5_readWord 31 = .ok (.aload_n 0, 1) := by decide +kernel
theorem dX5_readWord_32 : decode cX5_readWord 32 = .ok (.dup, 1) := by decide +kernel
theorem dX5_readWord_33 : decode cX5_readWord 33 = .ok (.getfield 33, 3) := by decide +kernel
theorem dX5_readWord_36 : decode cX5_readWord 36 = .ok (.iconst 1, 1) := by decide +kernel
theorem dX5_readWord_37 : decode cX5_readWord 37 = .ok (.iadd, 1) := by decide +kernel
theorem dX5_readWord_38 : decode cX5_readWord 38 = .ok (.putfield 33, 3) := by decide +kernel
theorem dX5_readWord_41 : decode cX5_readWord 41 = .ok (.goto (-36), 3) := by decide +kernel
theorem dX5_readWord_44 : decode cX5_readWord 44 = .ok (.return_, 1) := by decide +kernel
theorem dX5_readNumber_0 : decode cX5_readNumber 0 = .ok (.aload_n 0, 1) := by decide +kernel
theorem dX5_readNumber_1 : decode cX5_readNumber 1 = .ok (.iconst 2, 1) := by decide +kernel
theorem dX5_readNumber_2 : decode cX5_readNumber 2 = .ok (.putfield 39, 3) := by decide +kernel
theorem dX5_readNumber_5 : decode cX5_readNumber 5 = .ok (.aload_n 0, 1) := by decide +kernel
theorem dX5_readNumber_6 : decode cX5_readNumber 6 = .ok (.iconst 0, 1) := by decide +kernel
theorem dX5_readNumber_7 : decode cX5_readNumber 7 = .ok (.putfield 76, 3) := by decide +kernel
theorem dX5_readNumber_10 : decode cX5_readNumber 10 = .ok (.aload_n 0, 1) := by decide +kernel
theorem dX5_readNumber_11 : decode cX5_readNumber 11 = .ok (.getfield 33, 3) := by decide +kernel
theorem dX5_readNumber_14 : decode cX5_readNumber 14 = .ok (.aload_n 0, 1) := by decide +kernel
theorem dX5_readNumber_15 : decode cX5_readNumber 15 = .ok (.getfield 23, 3) := by decide +kernel
theorem dX5_readNumber_18 : decode cX5_readNumber 18 = .ok (.if_icmp .ge 61, 3) := by decide +kernel
theorem dX5_readNumber_21 : decode cX5_readNumber 21 = .ok (.aload_n 0, 1) := by decide +kernel
theorem dX5_readNumber_22 : decode cX5_readNumber 22 = .ok (.getfield 11, 3) := by decide +kernel
theorem dX5_readNumber_25 : decode cX5_readNumber 25 = .ok (.aload_n 0, 1) := by decide +kernel
theorem dX5_readNumber_26 : decode cX5_readNumber 26 = .ok (.getfield 33, 3) := by decide +kernel
theorem dX5_readNumber_29 : decode cX5_readNumber 29 = .ok (.baload, 1) := by decide +kernel
theorem dX5_readNumber_30 : decode cX5_readNumber 30 = .ok (.invokestatic 170, 3) := by decide +kernel
theorem dX5_readNumber_33 : decode cX5_readNumber 33 = .ok (.ifCond .eq 46, 3) := by decide +kernel
theorem dX5_readNumber_36 : decode cX5_readNumber 36 = .ok (.aload_n 0, 1) := by decide +kernel
theorem dX5_readNumber_37 : decode cX5_readNumber 37 = .ok (.sipush 1000, 3) := by decide +kernel
theorem dX5_readNumber_40 : decode cX5_readNumber 40 = .ok (.aload_n 0, 1) := by decide +kernel
theorem dX5_readNumber_41 : decode cX5_readNumber 41 = .ok (.getfield 76, 3) := by decide +kernel
theorem dX5_readNumber_44 : decode cX5_readNumber 44 = .ok (.bipush 10, 2) := by decide +kernel
theorem dX5_readNumber_46 : decode cX5_readNumber 46 = .ok (.imul, 1) := by decide +kernel
theorem dX5_readNumber_47 : decode cX5_readNumber 47 = .ok (.aload_n 0, 1) := by decide +kernel
theorem dX5_readNumber_48 : decode cX5_readNumber 48 = .ok (.getfield 11, 3) := by decide +kernel
theorem dX5_readNumber_51 : decode cX5_readNumber 51 = .ok (.aload_n 0, 1) := by decide +kernel
theorem dX5_readNumber_52 : decode cX5_readNumber 52 = .ok (.getfield 33, 3) := by decide +kernel
theorem dX5_readNumber_55 : decode cX5_readNumber 55 = .ok (.baload, 1) := by decide +kernel
theorem dX5_readNumber_56 : decode cX5_readNumber 56 = .ok (.bipush 48, 2) := by decide +kernel
theorem dX5_readNumber_58 : decode cX5_readNumber 58 = .ok (.isub, 1) := by decide +kernel
theorem dX5_readNumber_59 : decode cX5_readNumber 59 = .ok (.iadd, 1) := by decide +kernel
theorem dX5_readNumber_60 : decode cX5_readNumber 60 = .ok (.invokestatic 176, 3) := by decide +kernel
theorem dX5_readNumber_63 : decode cX5_readNumber 63 = .ok (.putfield 76, 3) := by decide +kernel
theorem dX5_readNumber_66 : decode cX5_readNumber 66 = .ok (.aload_n 0, 1) := by decide +kernel
theorem dX5_readNumber_67 : decode cX5_readNumber 67 = .ok (.dup, 1) := by decide +kernel
theorem dX5_readNumber_68 : decode cX5_readNumber 68 = .ok (.getfield 33, 3) := by decide +kernel
theorem dX5_readNumber_71 : decode cX5_readNumber 71 = .ok (.iconst 1, 1) := by decide +kernel
theorem dX5_readNumber_72 : decode cX5_readNumber 72 = .ok (.iadd, 1) := by decide +kernel
theorem dX5_readNumber_73 : decode cX5_readNumber 73 = .ok (.putfield 33, 3) := by decide +kernel
theorem dX5_readNumber_76 : decode cX5_readNumber 76 = .ok (.goto (-66), 3) := by decide +kernel
theorem dX5_readNumber_79 : decode cX5_readNumber 79 = .ok (.return_, 1) := by decide +kernel
theorem dX5_isBlank_0 : decode cX5_isBlank 0 = .ok (.iload_n 0, 1) := by decide +kernel
theorem dX5_isBlank_1 : decode cX5_isBlank 1 = .ok (.bipush 32, 2) := by decide +kernel
theorem dX5_isBlank_3 : decode cX5_isBlank 3 = .ok (.if_icmp .eq 9, 3) := by decide +kernel
theorem dX5_isBlank_6 : decode cX5_isBlank 6 = .ok (.iload_n 0, 1) := by decide +kernel
theorem dX5_isBlank_7 : decode cX5_isBlank 7 = .ok (.bipush 10, 2) := by decide +kernel
theorem dX5_isBlank_9 : decode cX5_isBlank 9 = .ok (.if_icmp .ne 7, 3) := by decide +kernel
theorem dX5_isBlank_12 : decode cX5_isBlank 12 = .ok (.iconst 1, 1) := by decide +kernel
theorem dX5_isBlank_13 : decode cX5_isBlank 13 = .ok (.goto 4, 3) := by decide +kernel
theorem dX5_isBlank_16 : decode cX5_isBlank 16 = .ok (.iconst 0, 1) := by decide +kernel
theorem dX5_isBlank_17 : decode cX5_isBlank 17 = .ok (.ireturn, 1) := by decide +kernel
theorem dX5_isLetter_0 : decode cX5_isLetter 0 = .ok (.iload_n 0, 1) := by decide +kernel
theorem dX5_isLetter_1 : decode cX5_isLetter 1 = .ok (.bipush 97, 2) := by decide +kernel
theorem dX5_isLetter_3 : decode cX5_isLetter 3 = .ok (.if_icmp .lt 13, 3) := by decide +kernel
theorem dX5_isLetter_6 : decode cX5_isLetter 6 = .ok (.iload_n 0, 1) := by decide +kernel
theorem dX5_isLetter_7 : decode cX5_isLetter 7 = .ok (.bipush 122, 2) := by decide +kernel
theorem dX5_isLetter_9 : decode cX5_isLetter 9 = .ok (.if_icmp .gt 7, 3) := by decide +kernel
theorem dX5_isLetter_12 : decode cX5_isLetter 12 = .ok (.iconst 1, 1) := by decide +kernel
theorem dX5_isLetter_13 : decode cX5_isLetter 13 = .ok (.goto 4, 3) := by decide +kernel
theorem dX5_isLetter_16 : decode cX5_isLetter 16 = .ok (.iconst 0, 1) := by decide +kernel
theorem dX5_isLetter_17 : decode cX5_isLetter 17 = .ok (.ireturn, 1) := by decide +kernel
theorem dX5_isDigit_0 : decode cX5_isDigit 0 = .ok (.iload_n 0, 1) := by decide +kernel
theorem dX5_isDigit_1 : decode cX5_isDigit 1 = .ok (.bipush 48, 2) := by decide +kernel
theorem dX5_isDigit_3 : decode cX5_isDigit 3 = .ok (.if_icmp .lt 13, 3) := by decide +kernel
theorem dX5_isDigit_6 : decode cX5_isDigit 6 = .ok (.iload_n 0, 1) := by decide +kernel
theorem dX5_isDigit_7 : decode cX5_isDigit 7 = .ok (.bipush 57, 2) := by decide +kernel
theorem dX5_isDigit_9 : decode cX5_isDigit 9 = .ok (.if_icmp .gt 7, 3) := by decide +kernel
theorem dX5_isDigit_12 : decode cX5_isDigit 12 = .ok (.iconst 1, 1) := by decide +kernel
theorem dX5_isDigit_13 : decode cX5_isDigit 13 = .ok (.goto 4, 3) := by decide +kernel
theorem dX5_isDigit_16 : decode cX5_isDigit 16 = .ok (.iconst 0, 1) := by decide +kernel
theorem dX5_isDigit_17 : decode cX5_isDigit 17 = .ok (.ireturn, 1) := by decide +kernel
theorem dX6_init_0 : decode cX6_init 0 = .ok (.aload_n 0, 1) := by decide +kernel
theorem dX6_init_1 : decode cX6_init 1 = .ok (.invokespecial 3, 3) := by decide +kernel
theorem dX6_init_4 : decode cX6_init 4 = .ok (.aload_n 0, 1) := by decide +kernel
theorem dX6_init_5 : decode cX6_init 5 = .ok (.sipush 300, 3) := by decide +kernel
theorem dX6_init_8 : decode cX6_init 8 = .ok (.newarray .int, 2) := by decide +kernel
theorem dX6_init_10 : decode cX6_init 10 = .ok (.putfield 9, 3) := by decide +kernel
theorem dX6_init_13 : decode cX6_init 13 = .ok (.aload_n 0, 1) := by decide +kernel
theorem dX6_init_14 : decode cX6_init 14 = .ok (.sipush 300, 3) := by decide +kernel
theorem dX6_init_17 : decode cX6_init 17 = .ok (.newarray .int, 2) := by decide +kernel
theorem dX6_init_19 : decode cX6_init 19 = .ok (.putfield 15, 3) := by decide +kernel
theorem dX6_init_22 : decode cX6_init 22 = .ok (.aload_n 0, 1) := by decide +kernel
theorem dX6_init_23 : decode cX6_init 23 = .ok (.sipush 300, 3) := by decide +kernel
theorem dX6_init_26 : decode cX6_init 26 = .ok (.newarray .int, 2) := by decide +kernel
theorem dX6_init_28 : decode cX6_init 28 = .ok (.putfield 18, 3) := by decide +kernel
theorem dX6_init_31 : decode cX6_init 31 = .ok (.aload_n 0, 1) := by decide +kernel
theorem dX6_init_32 : decode cX6_init 32 = .ok (.sipush 300, 3) := by decide +kernel
theorem dX6_init_35 : decode cX6_init 35 = .ok (.newarray .int, 2) := by decide +kernel
theorem dX6_init_37 : decode cX6_init 37 = .ok (.putfield 21, 3) := by decide +kernel
theorem dX6_init_40 : decode cX6_init 40 = .ok (.aload_n 0, 1) := by decide +kernel
theorem dX6_init_41 : decode cX6_init 41 = .ok (.sipush 300, 3) := by decide +kernel
theorem dX6_init_44 : decode cX6_init 44 = .ok (.newarray .int, 2) := by decide +kernel
theorem dX6_init_46 : decode cX6_init 46 = .ok (.putfield 24, 3) := by decide +kernel
theorem dX6_init_49 : decode cX6_init 49 = .ok (.aload_n 0, 1) := by decide +kernel
theorem dX6_init_50 : decode cX6_init 50 = .ok (.sipush 300, 3) := by decide +kernel
theorem dX6_init_53 : decode cX6_init 53 = .ok (.newarray .int, 2) := by decide +kernel
theorem dX6_init_55 : decode cX6_init 55 = .ok (.putfield 27, 3) := by decide +kernel
theorem dX6_init_58 : decode cX6_init 58 = .ok (.return_, 1) := by decide +kernel
theorem dX6_copyFrom_0 : decode cX6_copyFrom 0 = .ok (.aload_n 0, 1) := by decide +kernel
theorem dX6_copyFrom_1 : decode cX6_copyFrom 1 = .ok (.aload_n 1, 1) := by decide +kernel
theorem dX6_copyFrom_2 : decode cX6_copyFrom 2 = .ok (.getfield 30, 3) := by decide +kernel
theorem dX6_copyFrom_5 : decode cX6_copyFrom 5 = .ok (.putfield 30, 3) := by decide +kernel
theorem dX6_copyFrom_8 : decode cX6_copyFrom 8 = .ok (.aload_n 1, 1) := by decide +kernel
theorem dX6_copyFrom_9 : decode cX6_copyFrom 9 = .ok (.getfield 9, 3) := by decide +kernel
theorem dX6_copyFrom_12 : decode cX6_copyFrom 12 = .ok (.aload_n 0, 1) := by decide +kernel
theorem dX6_copyFrom_13 : decode cX6_copyFrom 13 = .ok (.getfield 9, 3) := by decide +kernel
theorem dX6_copyFrom_16 : decode cX6_copyFrom 16 = .ok (.aload_n 0, 1) := by decide +kernel
theorem dX6_copyFrom_17 : decode cX6_copyFrom 17 = .ok (.getfield 30, 3) := by decide +kernel
theorem dX6_copyFrom_20 : decode cX6_copyFrom 20 = .ok (.invokestatic 34, 3) := by decide +kernel
theorem dX6_copyFrom_23 : decode cX6_copyFrom 23 = .ok (.aload_n 1, 1) := by decide +kernel
theorem dX6_copyFrom_24 : decode cX6_copyFrom 24 = .ok (.getfield 15, 3) := by decide +kernel
theorem dX6_copyFrom_27 : decode cX6_copyFrom 27 = .ok (.aload_n 0, 1) := by decide +kernel
theorem dX6_copyFrom_28 : decode cX6_copyFrom 28 = .ok (.getfield 15, 3) := by decide +kernel
theorem dX6_copyFrom_31 : decode cX6_copyFrom 31 = .ok (.aload_n 0, 1) := by decide +kernel
theorem dX6_copyFrom_32 : decode cX6_copyFrom 32 = .ok (.getfield 30, 3) := by decide +kernel
theorem dX6_copyFrom_35 : decode cX6_copyFrom 35 = .ok (.invokestatic 34, 3) := by decide +kernel
theorem dX6_copyFrom_38 : decode cX6_copyFrom 38 = .ok (.aload_n 1, 1) := by decide +kernel
theorem dX6_copyFrom_39 : decode cX6_copyFrom 39 = .ok (.getfield 18, 3) := by decide +kernel
theorem dX6_copyFrom_42 : decode cX6_copyFrom 42 = .ok (.aload_n 0, 1) := by decide +kernel
theorem dX6_copyFrom_43 : decode cX6_copyFrom 43 = .ok (.getfield 18, 3) := by decide +kernel
theorem dX6_copyFrom_46 : decode cX6_copyFrom 46 = .ok (.aload_n 0, 1) := by decide +kernel
theorem dX6_copyFrom_47 : decode cX6_copyFrom 47 = .ok (.getfield 30, 3) := by decide +kernel
theorem dX6_copyFrom_50 : decode cX6_copyFrom 50 = .ok (.invokestatic 34, 3) := by decide +kernel
theorem dX6_copyFrom_53 : decode cX6_copyFrom 53 = .ok (.aload_n 1, 1) := by decide +kernel
theorem dX6_copyFrom_54 : decode cX6_copyFrom 54 = .ok (.getfield 21, 3) := by decide +kernel
theorem dX6_copyFrom_57 : decode cX6_copyFrom 57 = .ok (.aload_n 0, 1) := by decide +kernel
theorem dX6_copyFrom_58 : decode cX6_copyFrom 58 = .ok (.getfield 21, 3) := by decide +kernel
theorem dX6_copyFrom_61 : decode cX6_copyFrom 61 = .ok (.aload_n 0, 1) := by decide +kernel
theorem dX6_copyFrom_62 : decode cX6_copyFrom 62 = .ok (.getfield 30, 3) := by decide +kernel
theorem dX6_copyFrom_65 : decode cX6_copyFrom 65 = .ok (.invokestatic 34, 3) := by decide +kernel
theorem dX6_copyFrom_68 : decode cX6_copyFrom 68 = .ok (.aload_n 1, 1) := by decide +kernel
theorem dX6_copyFrom_69 : decode cX6_copyFrom 69 = .ok (.getfield 24, 3) := by decide +kernel
theorem dX6_copyFrom_72 : decode cX6_copyFrom 72 = .ok (.aload_n 0, 1) := by decide +kernel
theorem dX6_copyFrom_73 : decode cX6_copyFrom 73 = .ok (.getfield 24, 3) := by decide +kernel
theorem dX6_copyFrom_76 : decode cX6_copyFrom 76 = .ok (.aload_n 0, 1) := by decide +kernel
theorem dX6_copyFrom_77 : decode cX6_copyFrom 77 = .ok (.getfield 30, 3) := by decide +kernel
theorem dX6_copyFrom_80 : decode cX6_copyFrom 80 = .ok (.invokestatic 34, 3) := by decide +kernel
theorem dX6_copyFrom_83 : decode cX6_copyFrom 83 = .ok (.aload_n 1, 1) := by decide +kernel
theorem dX6_copyFrom_84 : decode cX6_copyFrom 84 = .ok (.getfield 27, 3) := by decide +kernel
theorem dX6_copyFrom_87 : decode cX6_copyFrom 87 = .ok (.aload_n 0, 1) := by decide +kernel
theorem dX6_copyFrom_88 : decode cX6_copyFrom 88 = .ok (.getfield 27, 3) := by decide +kernel
theorem dX6_copyFrom_91 : decode cX6_copyFrom 91 = .ok (.aload_n 0, 1) := by decide +kernel
theorem dX6_copyFrom_92 : decode cX6_copyFrom 92 = .ok (.getfield 30, 3) := by decide +kernel
theorem dX6_copyFrom_95 : decode cX6_copyFrom 95 = .ok (.invokestatic 34, 3) := by decide +kernel
theorem dX6_copyFrom_98 : decode cX6_copyFrom 98 = .ok (.return_, 1) := by decide +kernel
theorem dX6_add_0 : decode cX6_add 0 = .ok (.aload_n 0, 1) := by decide +kernel
theorem dX6_add_1 : decode cX6_add 1 = .ok (.getfield 30, 3) := by decide +kernel
theorem dX6_add_4 : decode cX6_add 4 = .ok (.sipush 300, 3) := by decide +kernel
theorem dX6_add_7 : decode cX6_add 7 = .ok (.if_icmp .lt 4, 3) := by decide +kernel
theorem dX6_add_10 : decode cX6_add 10 = .ok (.return_, 1) := by decide +kernel
theorem dX6_add_11 : decode cX6_add 11 = .ok (.aload_n 0, 1) := by decide +kernel
theorem dX6_add_12 : decode cX6_add 12 = .ok (.getfield 30, 3) := by decide +kernel
theorem dX6_add_15 : decode cX6_add 15 = .ok (.istore 7, 2) := by decide +kernel
theorem dX6_add_17 : decode cX6_add 17 = .ok (.iload 7, 2) := by decide +kernel
theorem dX6_add_19 : decode cX6_add 19 = .ok (.ifCond .le 58, 3) := by decide +kernel
theorem dX6_add_22 : decode cX6_add 22 = .ok (.aload_n 0, 1) := by decide +kernel
theorem dX6_add_23 : decode cX6_add 23 = .ok (.getfield 9, 3) := by decide +kernel
theorem dX6_add_26 : decode cX6_add 26 = .ok (.iload 7, 2) := by decide +kernel
theorem dX6_add_28 : decode cX6_add 28 = .ok (.iconst 1, 1) := by decide +kernel
theorem dX6_add_29 : decode cX6_add 29 = .ok (.isub, 1) := by decide +kernel
theorem dX6_add_30 : decode cX6_add 30 = .ok (.iaload, 1) := by decide +kernel
theorem dX6_add_31 : decode cX6_add 31 = .ok (.iload_n 1, 1) := by decide +kernel
theorem dX6_add_32 : decode cX6_add 32 = .ok (.if_icmp .gt 29, 3) := by decide +kernel
theorem dX6_add_35 : decode cX6_add 35 = .ok (.aload_n 0, 1) := by decide +kernel
theorem dX6_add_36 : decode cX6_add 36 = .ok (.getfield 9, 3) := by decide +kernel
theorem dX6_add_39 : decode cX6_add 39 = .ok (.iload 7, 2) := by decide +kernel
theorem dX6_add_41 : decode cX6_add 41 = .ok (.iconst 1, 1) := by decide +kernel
theorem dX6_add_42 : decode cX6_add 42 = .ok (.isub, 1) := by decide +kernel
theorem dX6_add_43 : decode cX6_add 43 = .ok (.iaload, 1) := by decide +kernel
theorem dX6_add_44 : decode cX6_add 44 = .ok (.iload_n 1, 1) := by decide +kernel
theorem dX6_add_45 : decode cX6_add 45 = .ok (.if_icmp .ne 32, 3) := by decide +kernel
theorem dX6_add_48 : decode cX6_add 48 = .ok (.aload_n 0, 1) := by decide +kernel
theorem dX6_add_49 : decode cX6_add 49 = .ok (.getfield 15, 3) := by decide +kernel
theorem dX6_add_52 : decode cX6_add 52 = .ok (.iload 7, 2) := by decide +kernel
theorem dX6_add_54 : decode cX6_add 54 = .ok (.iconst 1, 1) := by decide +kernel
theorem dX6_add_55 : decode cX6_add 55 = .ok (.isub, 1) := by decide +kernel
theorem dX6_add_56 : decode cX6_add 56 = .ok (.iaload, 1) := by decide +kernel
theorem dX6_add_57 : decode cX6_add 57 = .ok (.iload_n 2, 1) := by decide +kernel
theorem dX6_add_58 : decode cX6_add 58 = .ok (.if_icmp .le 19, 3) := by decide +kernel
theorem dX6_add_61 : decode cX6_add 61 = .ok (.aload_n 0, 1) := by decide +kernel
theorem dX6_add_62 : decode cX6_add 62 = .ok (.iload 7, 2) := by decide +kernel
theorem dX6_add_64 : decode cX6_add 64 = .ok (.iconst 1, 1) := by decide +kernel
theorem dX6_add_65 : decode cX6_add 65 = .ok (.isub, 1) := by decide +kernel
theorem dX6_add_66 : decode cX6_add 66 = .ok (.iload 7, 2) := by decide +kernel
theorem dX6_add_68 : decode cX6_add 68 = .ok (.invokevirtual 38, 3) := by decide +kernel
theorem dX6_add_71 : decode cX6_add 71 = .ok (.iinc 7 (-1), 3) := by decide +kernel
theorem dX6_add_74 : decode cX6_add 74 = .ok (.goto (-57), 3) := by decide +kernel
theorem dX6_add_77 : decode cX6_add 77 = .ok (.aload_n 0, 1) := by decide +kernel
theorem dX6_add_78 : decode cX6_add 78 = .ok (.getfield 9, 3) := by decide +kernel
theorem dX6_add_81 : decode cX6_add 81 = .ok (.iload 7, 2) := by decide +kernel
theorem dX6_add_83 : decode cX6_add 83 = .ok (.iload_n 1, 1) := by decide +kernel
theorem dX6_add_84 : decode cX6_add 84 = .ok (.iastore, 1) := by decide +kernel
theorem dX6_add_85 : decode cX6_add 85 = .ok (.aload_n 0, 1) := by decide +kernel
theorem dX6_add_86 : decode cX6_add 86 = .ok (.getfield 15, 3) := by decide +kernel
theorem dX6_add_89 : decode cX6_add 89 = .ok (.iload 7, 2) := by decide +kernel
theorem dX6_add_91 : decode cX6_add 91 = .ok (.iload_n 2, 1) := by decide +kernel
theorem dX6_add_92 : decode cX6_add 92 = .ok (.iastore, 1) := by decide +kernel
theorem dX6_add_93 : decode cX6_add 93 = .ok (.aload_n 0, 1) := by decide +kernel
theorem dX6_add_94 : decode cX6_add 94 = .ok (.getfield 18, 3) := by decide +kernel
theorem dX6_add_97 : decode cX6_add 97 = .ok (.iload 7, 2) := by decide +kernel
theorem dX6_add_99 : decode cX6_add 99 = .ok (.iload_n 3, 1) := by decide +kernel
theorem dX6_add_100 : decode cX6_add 100 = .ok (.iastore, 1) := by decide +kernel
theorem dX6_add_101 : decode cX6_add 101 = .ok (.aload_n 0, 1) := by decide +kernel
theorem dX6_add_102 : decode cX6_add 102 = .ok (.getfield 21, 3) := by decide +kernel
theorem dX6_add_105 : decode cX6_add 105 = .ok (.iload 7, 2) := by decide +kernel
theorem dX6_add_107 : decode cX6_add 107 = .ok (.iload 4, 2) := by decide +kernel
theorem dX6_add_109 : decode cX6_add 109 = .ok (.iastore, 1) := by decide +kernel
theorem dX6_add_110 : decode cX6_add 110 = .ok (.aload_n 0, 1) := by decide +kernel
theorem dX6_add_111 : decode cX6_add 111 = .ok (.getfield 24, 3) := by decide +kernel
theorem dX6_add_114 : decode cX6_add 114 = .ok (.iload 7, 2) := by decide +kernel
theorem dX6_add_116 : decode cX6_add 116 = .ok (.iload 5, 2) := by decide +kernel
theorem dX6_add_118 : decode cX6_add 118 = .ok (.iastore, 1) := by decide +kernel
theorem dX6_add_119 : decode cX6_add 119 = .ok (.aload_n 0, 1) := by decide +kernel
theorem dX6_add_120 : decode cX6_add 120 = .ok (.getfield 27, 3) := by decide +kernel
theorem dX6_add_123 : decode cX6_add 123 = .ok (.iload 7, 2) := by decide +kernel
theorem dX6_add_125 : decode cX6_add 125 = .ok (.iload 6, 2) := by decide +kernel
theorem dX6_add_127 : decode cX6_add 127 = .ok (.iastore, 1) := by decide +kernel
theorem dX6_add_128 : decode cX6_add 128 = .ok (.aload_n 0, 1) := by decide +kernel
theorem dX6_add_129 : decode cX6_add 129 = .ok (.dup, 1) := by decide +kernel
theorem dX6_add_130 : decode cX6_add 130 = .ok (.getfield 30, 3) := by decide +kernel
theorem dX6_add_133 : decode cX6_add 133 = .ok (.iconst 1, 1) := by decide +kernel
theorem dX6_add_134 : decode cX6_add 134 = .ok (.iadd, 1) := by decide +kernel
theorem dX6_add_135 : decode cX6_add 135 = .ok (.putfield 30, 3) := by decide +kernel
theorem dX6_add_138 : decode cX6_add 138 = .ok (.return_, 1) := by decide +kernel
theorem dX6_move_0 : decode cX6_move 0 = .ok (.aload_n 0, 1) := by decide +kernel
theorem dX6_move_1 : decode cX6_move 1 = .ok (.getfield 9, 3) := by decide +kernel
theorem dX6_move_4 : decode cX6_move 4 = .ok (.iload_n 2, 1) := by decide +kernel
theorem dX6_move_5 : decode cX6_move 5 = .ok (.aload_n 0, 1) := by decide +kernel
theorem dX6_move_6 : decode cX6_move 6 = .ok (.getfield 9, 3) := by decide +kernel
theorem dX6_move_9 : decode cX6_move 9 = .ok (.iload_n 1, 1) := by decide +kernel
theorem dX6_move_10 : decode cX6_move 10 = .ok (.iaload, 1) := by decide +kernel
theorem dX6_move_11 : decode cX6_move 11 = .ok (.iastore, 1) := by decide +kernel
theorem dX6_move_12 : decode cX6_move 12 = .ok (.aload_n 0, 1) := by decide +kernel
theorem dX6_move_13 : decode cX6_move 13 = .ok (.getfield 15, 3) := by decide +kernel
theorem dX6_move_16 : decode cX6_move 16 = .ok (.iload_n 2, 1) := by decide +kernel
theorem dX6_move_17 : decode cX6_move 17 = .ok (.aload_n 0, 1) := by decide +kernel
theorem dX6_move_18 : decode cX6_move 18 = .ok (.getfield 15, 3) := by decide +kernel
theorem dX6_move_21 : decode cX6_move 21 = .ok (.iload_n 1, 1) := by decide +kernel
theorem dX6_move_22 : decode cX6_move 22 = .ok (.iaload, 1) := by decide +kernel
theorem dX6_move_23 : decode cX6_move 23 = .ok (.iastore, 1) := by decide +kernel
theorem dX6_move_24 : decode cX6_move 24 = .ok (.aload_n 0, 1) := by decide +kernel
theorem dX6_move_25 : decode cX6_move 25 = .ok (.getfield 18, 3) := by decide +kernel
theorem dX6_move_28 : decode cX6_move 28 = .ok (.iload_n 2, 1) := by decide +kernel
theorem dX6_move_29 : decode cX6_move 29 = .ok (.aload_n 0, 1) := by decide +kernel
theorem dX6_move_30 : decode cX6_move 30 = .ok (.getfield 18, 3) := by decide +kernel
theorem dX6_move_33 : decode cX6_move 33 = .ok (.iload_n 1, 1) := by decide +kernel
theorem dX6_move_34 : decode cX6_move 34 = .ok (.iaload, 1) := by decide +kernel
theorem dX6_move_35 : decode cX6_move 35 = .ok (.iastore, 1) := by decide +kernel
theorem dX6_move_36 : decode cX6_move 36 = .ok (.aload_n 0, 1) := by decide +kernel
theorem dX6_move_37 : decode cX6_move 37 = .ok (.getfield 21, 3) := by decide +kernel
theorem dX6_move_40 : decode cX6_move 40 = .ok (.iload_n 2, 1) := by decide +kernel
theorem dX6_move_41 : decode cX6_move 41 = .ok (.aload_n 0, 1) := by decide +kernel
theorem dX6_move_42 : decode cX6_move 42 = .ok (.getfield 21, 3) := by decide +kernel
theorem dX6_move_45 : decode cX6_move 45 = .ok (.iload_n 1, 1) := by decide +kernel
theorem dX6_move_46 : decode cX6_move 46 = .ok (.iaload, 1) := by decide +kernel
theorem dX6_move_47 : decode cX6_move 47 = .ok (.iastore, 1) := by decide +kernel
theorem dX6_move_48 : decode cX6_move 48 = .ok (.aload_n 0, 1) := by decide +kernel
theorem dX6_move_49 : decode cX6_move 49 = .ok (.getfield 24, 3) := by decide +kernel
theorem dX6_move_52 : decode cX6_move 52 = .ok (.iload_n 2, 1) := by decide +kernel
theorem dX6_move_53 : decode cX6_move 53 = .ok (.aload_n 0, 1) := by decide +kernel
theorem dX6_move_54 : decode cX6_move 54 = .ok (.getfield 24, 3) := by decide +kernel
theorem dX6_move_57 : decode cX6_move 57 = .ok (.iload_n 1, 1) := by decide +kernel
theorem dX6_move_58 : decode cX6_move 58 = .ok (.iaload, 1) := by decide +kernel
theorem dX6_move_59 : decode cX6_move 59 = .ok (.iastore, 1) := by decide +kernel
theorem dX6_move_60 : decode cX6_move 60 = .ok (.aload_n 0, 1) := by decide +kernel
theorem dX6_move_61 : decode cX6_move 61 = .ok (.getfield 27, 3) := by decide +kernel
theorem dX6_move_64 : decode cX6_move 64 = .ok (.iload_n 2, 1) := by decide +kernel
theorem dX6_move_65 : decode cX6_move 65 = .ok (.aload_n 0, 1) := by decide +kernel
theorem dX6_move_66 : decode cX6_move 66 = .ok (.getfield 27, 3) := by decide +kernel
theorem dX6_move_69 : decode cX6_move 69 = .ok (.iload_n 1, 1) := by decide +kernel
theorem dX6_move_70 : decode cX6_move 70 = .ok (.iaload, 1) := by decide +kernel
theorem dX6_move_71 : decode cX6_move 71 = .ok (.iastore, 1) := by decide +kernel
theorem dX6_move_72 : decode cX6_move 72 = .ok (.return_, 1) := by decide +kernel
theorem dX6_removeFirst_0 : decode cX6_removeFirst 0 = .ok (.aload_n 0, 1) := by decide +kernel
theorem dX6_removeFirst_1 : decode cX6_removeFirst 1 = .ok (.getfield 30, 3) := by decide +kernel
theorem dX6_removeFirst_4 : decode cX6_removeFirst 4 = .ok (.ifCond .gt 4, 3) := by decide +kernel
theorem dX6_removeFirst_7 : decode cX6_removeFirst 7 = .ok (.return_, 1) := by decide +kernel
theorem dX6_removeFirst_8 : decode cX6_removeFirst 8 = .ok (.aload_n 0, 1) := by decide +kernel
theorem dX6_removeFirst_9 : decode cX6_removeFirst 9 = .ok (.dup, 1) := by decide +kernel
theorem dX6_removeFirst_10 : decode cX6_removeFirst 10 = .ok (.getfield 30, 3) := by decide +kernel
theorem dX6_removeFirst_13 : decode cX6_removeFirst 13 = .ok (.iconst 1, 1) := by decide +kernel
theorem dX6_removeFirst_14 : decode cX6_removeFirst 14 = .ok (.isub, 1) := by decide +kernel
theorem dX6_removeFirst_15 : decode cX6_removeFirst 15 = .ok (.putfield 30, 3) := by decide +kernel
theorem dX6_removeFirst_18 : decode cX6_removeFirst 18 = .ok (.iconst 0, 1) := by decide +kernel
theorem dX6_removeFirst_19 : decode cX6_removeFirst 19 = .ok (.istore_n 1, 1) := by decide +kernel
theorem dX6_removeFirst_20 : decode cX6_removeFirst 20 = .ok (.iload_n 1, 1) := by decide +kernel
theorem dX6_removeFirst_21 : decode cX6_removeFirst 21 = .ok (.aload_n 0, 1) := by decide +kernel
theorem dX6_removeFirst_22 : decode cX6_removeFirst 22 = .ok (.getfield 30, 3) := by decide +kernel
theorem dX6_removeFirst_25 : decode cX6_removeFirst 25 = .ok (.if_icmp .ge 17, 3) := by decide +kernel
theorem dX6_removeFirst_28 : decode cX6_removeFirst 28 = .ok (.aload_n 0, 1) := by decide +kernel
theorem dX6_removeFirst_29 : decode cX6_removeFirst 29 = .ok (.iload_n 1, 1) := by decide +kernel
theorem dX6_removeFirst_30 : decode cX6_removeFirst 30 = .ok (.iconst 1, 1) := by decide +kernel
theorem dX6_removeFirst_31 : decode cX6_removeFirst 31 = .ok (.iadd, 1) := by decide +kernel
theorem dX6_removeFirst_32 : decode cX6_removeFirst 32 = .ok (.iload_n 1, 1) := by decide +kernel
theorem dX6_removeFirst_33 : decode cX6_removeFirst 33 = .ok (.invokevirtual 38, 3) := by decide +kernel
theorem dX6_removeFirst_36 : decode cX6_removeFirst 36 = .ok (.iinc 1 1, 3) := by decide +kernel
theorem dX6_removeFirst_39 : decode cX6_removeFirst 39 = .ok (.goto (-19), 3) := by decide +kernel
theorem dX6_removeFirst_42 : decode cX6_removeFirst 42 = .ok (.return_, 1) := by decide +kernel
theorem dX6_countKind_0 : decode cX6_countKind 0 = .ok (.iconst 0, 1) := by decide +kernel
theorem dX6_countKind_1 : decode cX6_countKind 1 = .ok (.istore_n 3, 1) := by decide +kernel
theorem dX6_countKind_2 : decode cX6_countKind 2 = .ok (.iconst 0, 1) := by decide +kernel
theorem dX6_countKind_3 : decode cX6_countKind 3 = .ok (.istore 4, 2) := by decide +kernel
theorem dX6_countKind_5 : decode cX6_countKind 5 = .ok (.iload 4, 2) := by decide +kernel
theorem dX6_countKind_7 : decode cX6_countKind 7 = .ok (.aload_n 0, 1) := by decide +kernel
theorem dX6_countKind_8 : decode cX6_countKind 8 = .ok (.getfield 30, 3) := by decide +kernel
theorem dX6_countKind_11 : decode cX6_countKind 11 = .ok (.if_icmp .ge 34, 3) := by decide +kernel
theorem dX6_countKind_14 : decode cX6_countKind 14 = .ok (.aload_n 0, 1) := by decide +kernel
theorem dX6_countKind_15 : decode cX6_countKind 15 = .ok (.getfield 18, 3) := by decide +kernel
theorem dX6_countKind_18 : decode cX6_countKind 18 = .ok (.iload 4, 2) := by decide +kernel
theorem dX6_countKind_20 : decode cX6_countKind 20 = .ok (.iaload, 1) := by decide +kernel
theorem dX6_countKind_21 : decode cX6_countKind 21 = .ok (.iload_n 1, 1) := by decide +kernel
theorem dX6_countKind_22 : decode cX6_countKind 22 = .ok (.if_icmp .ne 17, 3) := by decide +kernel
theorem dX6_countKind_25 : decode cX6_countKind 25 = .ok (.aload_n 0, 1) := by decide +kernel
theorem dX6_countKind_26 : decode cX6_countKind 26 = .ok (.getfield 15, 3) := by decide +kernel
theorem dX6_countKind_29 : decode cX6_countKind 29 = .ok (.iload 4, 2) := by decide +kernel
theorem dX6_countKind_31 : decode cX6_countKind 31 = .ok (.iaload, 1) := by decide +kernel
theorem dX6_countKind_32 : decode cX6_countKind 32 = .ok (.iload_n 2, 1) := by decide +kernel
theorem dX6_countKind_33 : decode cX6_countKind 33 = .ok (.if_icmp .ne 6, 3) := by decide +kernel
theorem dX6_countKind_36 : decode cX6_countKind 36 = .ok (.iinc 3 1, 3) := by decide +kernel
theorem dX6_countKind_39 : decode cX6_countKind 39 = .ok (.iinc 4 1, 3) := by decide +kernel
theorem dX6_countKind_42 : decode cX6_countKind 42 = .ok (.goto (-37), 3) := by decide +kernel
theorem dX6_countKind_45 : decode cX6_countKind 45 = .ok (.iload_n 3, 1) := by decide +kernel
theorem dX6_countKind_46 : decode cX6_countKind 46 = .ok (.ireturn, 1) := by decide +kernel
theorem dX6_countOwned_0 : decode cX6_countOwned 0 = .ok (.iconst 0, 1) := by decide +kernel
theorem dX6_countOwned_1 : decode cX6_countOwned 1 = .ok (.istore_n 3, 1) := by decide +kernel
theorem dX6_countOwned_2 : decode cX6_countOwned 2 = .ok (.iconst 0, 1) := by decide +kernel
theorem dX6_countOwned_3 : decode cX6_countOwned 3 = .ok (.istore 4, 2) := by decide +kernel
theorem dX6_countOwned_5 : decode cX6_countOwned 5 = .ok (.iload 4, 2) := by decide +kernel
theorem dX6_countOwned_7 : decode cX6_countOwned 7 = .ok (.aload_n 0, 1) := by decide +kernel
theorem dX6_countOwned_8 : decode cX6_countOwned 8 = .ok (.getfield 30, 3) := by decide +kernel
theorem dX6_countOwned_11 : decode cX6_countOwned 11 = .ok (.if_icmp .ge 34, 3) := by decide +kernel
theorem dX6_countOwned_14 : decode cX6_countOwned 14 = .ok (.aload_n 0, 1) := by decide +kernel
theorem dX6_countOwned_15 : decode cX6_countOwned 15 = .ok (.getfield 24, 3) := by decide +kernel
theorem dX6_countOwned_18 : decode cX6_countOwned 18 = .ok (.iload 4, 2) := by decide +kernel
theorem dX6_countOwned_20 : decode cX6_countOwned 20 = .ok (.iaload, 1) := by decide +kernel
theorem dX6_countOwned_21 : decode cX6_countOwned 21 = .ok (.iload_n 1, 1) := by decide +kernel
theorem dX6_countOwned_22 : decode cX6_countOwned 22 = .ok (.if_icmp .ne 17, 3) := by decide +kernel
theorem dX6_countOwned_25 : decode cX6_countOwned 25 = .ok (.aload_n 0, 1) := by decide +kernel
theorem dX6_countOwned_26 : decode cX6_countOwned 26 = .ok (.getfield 18, 3) := by decide +kernel
theorem dX6_countOwned_29 : decode cX6_countOwned 29 = .ok (.iload 4, 2) := by decide +kernel
theorem dX6_countOwned_31 : decode cX6_countOwned 31 = .ok (.iaload, 1) := by decide +kernel
theorem dX6_countOwned_32 : decode cX6_countOwned 32 = .ok (.iload_n 2, 1) := by decide +kernel
theorem dX6_countOwned_33 : decode cX6_countOwned 33 = .ok (.if_icmp .ne 6, 3) := by decide +kernel
theorem dX6_countOwned_36 : decode cX6_countOwned 36 = .ok (.iinc 3 1, 3) := by decide +kernel
theorem dX6_countOwned_39 : decode cX6_countOwned 39 = .ok (.iinc 4 1, 3) := by decide +kernel
theorem dX6_countOwned_42 : decode cX6_countOwned 42 = .ok (.goto (-37), 3) := by decide +kernel
theorem dX6_countOwned_45 : decode cX6_countOwned 45 = .ok (.iload_n 3, 1) := by decide +kernel
theorem dX6_countOwned_46 : decode cX6_countOwned 46 = .ok (.ireturn, 1) := by decide +kernel
theorem dX6_countDepotRepairs_0 : decode cX6_countDepotRepairs 0 = .ok (.iconst 0, 1) := by decide +kernel
theorem dX6_countDepotRepairs_1 : decode cX6_countDepotRepairs 1 = .ok (.istore_n 2, 1) := by decide +kernel
theorem dX6_countDepotRepairs_2 : decode cX6_countDepotRepairs 2 = .ok (.iconst 0, 1) := by decide +kernel
theorem dX6_countDepotRepairs_3 : decode cX6_countDepotRepairs 3 = .ok (.istore_n 3, 1) := by decide +kernel
theorem dX6_countDepotRepairs_4 : decode cX6_countDepotRepairs 4 = .ok (.iload_n 3, 1) := by decide +kernel
theorem dX6_countDepotRepairs_5 : decode cX6_countDepotRepairs 5 = .ok (.aload_n 0, 1) := by decide +kernel
theorem dX6_countDepotRepairs_6 : decode cX6_countDepotRepairs 6 = .ok (.getfield 30, 3) := by decide +kernel
theorem dX6_countDepotRepairs_9 : decode cX6_countDepotRepairs 9 = .ok (.if_icmp .ge 41, 3) := by decide +kernel
theorem dX6_countDepotRepairs_12 : decode cX6_countDepotRepairs 12 = .ok (.aload_n 0, 1) := by decide +kernel
theorem dX6_countDepotRepairs_13 : decode cX6_countDepotRepairs 13 = .ok (.getfield 15, 3) := by decide +kernel
theorem dX6_countDepotRepairs_16 : decode cX6_countDepotRepairs 16 = .ok (.iload_n 3, 1) := by decide +kernel
theorem dX6_countDepotRepairs_17 : decode cX6_countDepotRepairs 17 = .ok (.iaload, 1) := by decide +kernel
theorem dX6_countDepotRepairs_18 : decode cX6_countDepotRepairs 18 = .ok (.iconst 1, 1) := by decide +kernel
theorem dX6_countDepotRepairs_19 : decode cX6_countDepotRepairs 19 = .ok (.if_icmp .ne 25, 3) := by decide +kernel
theorem dX6_countDepotRepairs_22 : decode cX6_countDepotRepairs 22 = .ok (.aload_n 0, 1) := by decide +kernel
theorem dX6_countDepotRepairs_23 : decode cX6_countDepotRepairs 23 = .ok (.getfield 21, 3) := by decide +kernel
theorem dX6_countDepotRepairs_26 : decode cX6_countDepotRepairs 26 = .ok (.iload_n 3, 1) := by decide +kernel
theorem dX6_countDepotRepairs_27 : decode cX6_countDepotRepairs 27 = .ok (.iaload, 1) := by decide +kernel
theorem dX6_countDepotRepairs_28 : decode cX6_countDepotRepairs 28 = .ok (.ifCond .ne 16, 3) := by decide +kernel
theorem dX6_countDepotRepairs_31 : decode cX6_countDepotRepairs 31 = .ok (.aload_n 0, 1) := by decide +kernel
theorem dX6_countDepotRepairs_32 : decode cX6_countDepotRepairs 32 = .ok (.getfield 18, 3) := by decide +kernel
theorem dX6_countDepotRepairs_35 : decode cX6_countDepotRepairs 35 = .ok (.iload_n 3, 1) := by decide +kernel
theorem dX6_countDepotRepairs_36 : decode cX6_countDepotRepairs 36 = .ok (.iaload, 1) := by decide +kernel
theorem dX6_countDepotRepairs_37 : decode cX6_countDepotRepairs 37 = .ok (.iload_n 1, 1) := by decide +kernel
theorem dX6_countDepotRepairs_38 : decode cX6_countDepotRepairs 38 = .ok (.if_icmp .ne 6, 3) := by decide +kernel
theorem dX6_countDepotRepairs_41 : decode cX6_countDepotRepairs 41 = .ok (.iinc 2 1, 3) := by decide +kernel
theorem dX6_countDepotRepairs_44 : decode cX6_countDepotRepairs 44 = .ok (.iinc 3 1, 3) := by decide +kernel
theorem dX6_countDepotRepairs_47 : decode cX6_countDepotRepairs 47 = .ok (.goto (-43), 3) := by decide +kernel
theorem dX6_countDepotRepairs_50 : decode cX6_countDepotRepairs 50 = .ok (.iload_n 2, 1) := by decide +kernel
theorem dX6_countDepotRepairs_51 : decode cX6_countDepotRepairs 51 = .ok (.ireturn, 1) := by decide +kernel
theorem dX6_firstArrival_0 : decode cX6_firstArrival 0 = .ok (.iconst 0, 1) := by decide +kernel
theorem dX6_firstArrival_1 : decode cX6_firstArrival 1 = .ok (.istore_n 3, 1) := by decide +kernel
theorem dX6_firstArrival_2 : decode cX6_firstArrival 2 = .ok (.iload_n 3, 1) := by decide +kernel
theorem dX6_firstArrival_3 : decode cX6_firstArrival 3 = .ok (.aload_n 0, 1) := by decide +kernel
theorem dX6_firstArrival_4 : decode cX6_firstArrival 4 = .ok (.getfield 30, 3) := by decide +kernel
theorem dX6_firstArrival_7 : decode cX6_firstArrival 7 = .ok (.if_icmp .ge 41, 3) := by decide +kernel
theorem dX6_firstArrival_10 : decode cX6_firstArrival 10 = .ok (.aload_n 0, 1) := by decide +kernel
theorem dX6_firstArrival_11 : decode cX6_firstArrival 11 = .ok (.getfield 24, 3) := by decide +kernel
theorem dX6_firstArrival_14 : decode cX6_firstArrival 14 = .ok (.iload_n 3, 1) := by decide +kernel
theorem dX6_firstArrival_15 : decode cX6_firstArrival 15 = .ok (.iaload, 1) := by decide +kernel
theorem dX6_firstArrival_16 : decode cX6_firstArrival 16 = .ok (.iload_n 1, 1) := by decide +kernel
theorem dX6_firstArrival_17 : decode cX6_firstArrival 17 = .ok (.if_icmp .ne 25, 3) := by decide +kernel
theorem dX6_firstArrival_20 : decode cX6_firstArrival 20 = .ok (.aload_n 0, 1) := by decide +kernel
theorem dX6_firstArrival_21 : decode cX6_firstArrival 21 = .ok (.getfield 21, 3) := by decide +kernel
theorem dX6_firstArrival_24 : decode cX6_firstArrival 24 = .ok (.iload_n 3, 1) := by decide +kernel
theorem dX6_firstArrival_25 : decode cX6_firstArrival 25 = .ok (.iaload, 1) := by decide +kernel
theorem dX6_firstArrival_26 : decode cX6_firstArrival 26 = .ok (.iload_n 1, 1) := by decide +kernel
theorem dX6_firstArrival_27 : decode cX6_firstArrival 27 = .ok (.if_icmp .ne 15, 3) := by decide +kernel
theorem dX6_firstArrival_30 : decode cX6_firstArrival 30 = .ok (.aload_n 0, 1) := by decide +kernel
theorem dX6_firstArrival_31 : decode cX6_firstArrival 31 = .ok (.getfield 18, 3) := by decide +kernel
theorem dX6_firstArrival_34 : decode cX6_firstArrival 34 = .ok (.iload_n 3, 1) := by decide +kernel
theorem dX6_firstArrival_35 : decode cX6_firstArrival 35 = .ok (.iaload, 1) := by decide +kernel
theorem dX6_firstArrival_36 : decode cX6_firstArrival 36 = .ok (.iload_n 2, 1) := by decide +kernel
theorem dX6_firstArrival_37 : decode cX6_firstArrival 37 = .ok (.if_icmp .ne 5, 3) := by decide +kernel
theorem dX6_firstArrival_40 : decode cX6_firstArrival 40 = .ok (.iload_n 3, 1) := by decide +kernel
theorem dX6_firstArrival_41 : decode cX6_firstArrival 41 = .ok (.ireturn, 1) := by decide +kernel
theorem dX6_firstArrival_42 : decode cX6_firstArrival 42 = .ok (.iinc 3 1, 3) := by decide +kernel
theorem dX6_firstArrival_45 : decode cX6_firstArrival 45 = .ok (.goto (-43), 3) := by decide +kernel
theorem dX6_firstArrival_48 : decode cX6_firstArrival 48 = .ok (.iconst (-1), 1) := by decide +kernel
theorem dX6_firstArrival_49 : decode cX6_firstArrival 49 = .ok (.ireturn, 1) := by decide +kernel
theorem dX7_init_0 : decode cX7_init 0 = .ok (.aload_n 0, 1) := by decide +kernel
theorem dX7_init_1 : decode cX7_init 1 = .ok (.invokespecial 3, 3) := by decide +kernel
theorem dX7_init_4 : decode cX7_init 4 = .ok (.aload_n 0, 1) := by decide +kernel
theorem dX7_init_5 : decode cX7_init 5 = .ok (.new 9, 3) := by decide +kernel
theorem dX7_init_8 : decode cX7_init 8 = .ok (.dup, 1) := by decide +kernel
theorem dX7_init_9 : decode cX7_init 9 = .ok (.invokespecial 11, 3) := by decide +kernel
theorem dX7_init_12 : decode cX7_init 12 = .ok (.putfield 12, 3) := by decide +kernel
theorem dX7_init_15 : decode cX7_init 15 = .ok (.aload_n 0, 1) := by decide +kernel
theorem dX7_init_16 : decode cX7_init 16 = .ok (.new 9, 3) := by decide +kernel
theorem dX7_init_19 : decode cX7_init 19 = .ok (.dup, 1) := by decide +kernel
theorem dX7_init_20 : decode cX7_init 20 = .ok (.invokespecial 11, 3) := by decide +kernel
theorem dX7_init_23 : decode cX7_init 23 = .ok (.putfield 16, 3) := by decide +kernel
theorem dX7_init_26 : decode cX7_init 26 = .ok (.aload_n 0, 1) := by decide +kernel
theorem dX7_init_27 : decode cX7_init 27 = .ok (.iconst 2, 1) := by decide +kernel
theorem dX7_init_28 : decode cX7_init 28 = .ok (.anewarray 9, 3) := by decide +kernel
theorem dX7_init_31 : decode cX7_init 31 = .ok (.putfield 19, 3) := by decide +kernel
theorem dX7_init_34 : decode cX7_init 34 = .ok (.aload_n 0, 1) := by decide +kernel
theorem dX7_init_35 : decode cX7_init 35 = .ok (.new 23, 3) := by decide +kernel
theorem dX7_init_38 : decode cX7_init 38 = .ok (.dup, 1) := by decide +kernel
theorem dX7_init_39 : decode cX7_init 39 = .ok (.invokespecial 25, 3) := by decide +kernel
theorem dX7_init_42 : decode cX7_init 42 = .ok (.putfield 26, 3) := by decide +kernel
theorem dX7_init_45 : decode cX7_init 45 = .ok (.return_, 1) := by decide +kernel
theorem dX7_addItem_0 : decode cX7_addItem 0 = .ok (.iload_n 1, 1) := by decide +kernel
theorem dX7_addItem_1 : decode cX7_addItem 1 = .ok (.iconst 1, 1) := by decide +kernel
theorem dX7_addItem_2 : decode cX7_addItem 2 = .ok (.bipush 30, 2) := by decide +kernel
theorem dX7_addItem_4 : decode cX7_addItem 4 = .ok (.invokestatic 30, 3) := by decide +kernel
theorem dX7_addItem_7 : decode cX7_addItem 7 = .ok (.iload_n 2, 1) := by decide +kernel
theorem dX7_addItem_8 : decode cX7_addItem 8 = .ok (.iconst 1, 1) := by decide +kernel
theorem dX7_addItem_9 : decode cX7_addItem 9 = .ok (.iconst 5, 1) := by decide +kernel
theorem dX7_addItem_10 : decode cX7_addItem 10 = .ok (.invokestatic 30, 3) := by decide +kernel
theorem dX7_addItem_13 : decode cX7_addItem 13 = .ok (.iload_n 3, 1) := by decide +kernel
theorem dX7_addItem_14 : decode cX7_addItem 14 = .ok (.iconst 1, 1) := by decide +kernel
theorem dX7_addItem_15 : decode cX7_addItem 15 = .ok (.bipush 30, 2) := by decide +kernel
theorem dX7_addItem_17 : decode cX7_addItem 17 = .ok (.invokestatic 30, 3) := by decide +kernel
theorem dX7_addItem_20 : decode cX7_addItem 20 = .ok (.aload_n 0, 1) := by decide +kernel
theorem dX7_addItem_21 : decode cX7_addItem 21 = .ok (.getfield 12, 3) := by decide +kernel
theorem dX7_addItem_24 : decode cX7_addItem 24 = .ok (.getfield 34, 3) := by decide +kernel
theorem dX7_addItem_27 : decode cX7_addItem 27 = .ok (.getfield 38, 3) := by decide +kernel
theorem dX7_addItem_30 : decode cX7_addItem 30 = .ok (.iconst 4, 1) := by decide +kernel
theorem dX7_addItem_31 : decode cX7_addItem 31 = .ok (.if_icmp .lt 13, 3) := by decide +kernel
theorem dX7_addItem_34 : decode cX7_addItem 34 = .ok (.new 44, 3) := by decide +kernel
theorem dX7_addItem_37 : decode cX7_addItem 37 = .ok (.dup, 1) := by decide +kernel
theorem dX7_addItem_38 : decode cX7_addItem 38 = .ok (.ldc 46, 2) := by decide +kernel
theorem dX7_addItem_40 : decode cX7_addItem 40 = .ok (.invokespecial 48, 3) := by decide +kernel
theorem dX7_addItem_43 : decode cX7_addItem 43 = .ok (.athrow, 1) := by decide +kernel
theorem dX7_addItem_44 : decode cX7_addItem 44 = .ok (.aload_n 0, 1) := by decide +kernel
theorem dX7_addItem_45 : decode cX7_addItem 45 = .ok (.getfield 12, 3) := by decide +kernel
theorem dX7_addItem_48 : decode cX7_addItem 48 = .ok (.getfield 34, 3) := by decide +kernel
theorem dX7_addItem_51 : decode cX7_addItem 51 = .ok (.iload_n 1, 1) := by decide +kernel
theorem dX7_addItem_52 : decode cX7_addItem 52 = .ok (.iload_n 2, 1) := by decide +kernel
theorem dX7_addItem_53 : decode cX7_addItem 53 = .ok (.iload_n 3, 1) := by decide +kernel
theorem dX7_addItem_54 : decode cX7_addItem 54 = .ok (.invokevirtual 51, 3) := by decide +kernel
theorem dX7_addItem_57 : decode cX7_addItem 57 = .ok (.ireturn, 1) := by decide +kernel
theorem dX7_addBase_0 : decode cX7_addBase 0 = .ok (.iload_n 1, 1) := by decide +kernel
theorem dX7_addBase_1 : decode cX7_addBase 1 = .ok (.iconst 1, 1) := by decide +kernel
theorem dX7_addBase_2 : decode cX7_addBase 2 = .ok (.bipush 20, 2) := by decide +kernel
theorem dX7_addBase_4 : decode cX7_addBase 4 = .ok (.invokestatic 30, 3) := by decide +kernel
theorem dX7_addBase_7 : decode cX7_addBase 7 = .ok (.aload_n 0, 1) := by decide +kernel
theorem dX7_addBase_8 : decode cX7_addBase 8 = .ok (.getfield 12, 3) := by decide +kernel
theorem dX7_addBase_11 : decode cX7_addBase 11 = .ok (.getfield 34, 3) := by decide +kernel
theorem dX7_addBase_14 : decode cX7_addBase 14 = .ok (.getfield 55, 3) := by decide +kernel
theorem dX7_addBase_17 : decode cX7_addBase 17 = .ok (.bipush 8, 2) := by decide +kernel
theorem dX7_addBase_19 : decode cX7_addBase 19 = .ok (.if_icmp .lt 13, 3) := by decide +kernel
theorem dX7_addBase_22 : decode cX7_addBase 22 = .ok (.new 44, 3) := by decide +kernel
theorem dX7_addBase_25 : decode cX7_addBase 25 = .ok (.dup, 1) := by decide +kernel
theorem dX7_addBase_26 : decode cX7_addBase 26 = .ok (.ldc 58, 2) := by decide +kernel
theorem dX7_addBase_28 : decode cX7_addBase 28 = .ok (.invokespecial 48, 3) := by decide +kernel
theorem dX7_addBase_31 : decode cX7_addBase 31 = .ok (.athrow, 1) := by decide +kernel
theorem dX7_addBase_32 : decode cX7_addBase 32 = .ok (.aload_n 0, 1) := by decide +kernel
theorem dX7_addBase_33 : decode cX7_addBase 33 = .ok (.getfield 12, 3) := by decide +kernel
theorem dX7_addBase_36 : decode cX7_addBase 36 = .ok (.getfield 34, 3) := by decide +kernel
theorem dX7_addBase_39 : decode cX7_addBase 39 = .ok (.iload_n 1, 1) := by decide +kernel
theorem dX7_addBase_40 : decode cX7_addBase 40 = .ok (.invokevirtual 60, 3) := by decide +kernel
theorem dX7_addBase_43 : decode cX7_addBase 43 = .ok (.ireturn, 1) := by decide +kernel
theorem dX7_itemCount_0 : decode cX7_itemCount 0 = .ok (.aload_n 0, 1) := by decide +kernel
theorem dX7_itemCount_1 : decode cX7_itemCount 1 = .ok (.getfield 12, 3) := by decide +kernel
theorem dX7_itemCount_4 : decode cX7_itemCount 4 = .ok (.getfield 34, 3) := by decide +kernel
theorem dX7_itemCount_7 : decode cX7_itemCount 7 = .ok (.getfield 38, 3) := by decide +kernel
theorem dX7_itemCount_10 : decode cX7_itemCount 10 = .ok (.ireturn, 1) := by decide +kernel
theorem dX7_siteCount_0 : decode cX7_siteCount 0 = .ok (.aload_n 0, 1) := by decide +kernel
theorem dX7_siteCount_1 : decode cX7_siteCount 1 = .ok (.getfield 12, 3) := by decide +kernel
theorem dX7_siteCount_4 : decode cX7_siteCount 4 = .ok (.getfield 34, 3) := by decide +kernel
theorem dX7_siteCount_7 : decode cX7_siteCount 7 = .ok (.getfield 55, 3) := by decide +kernel
theorem dX7_siteCount_10 : decode cX7_siteCount 10 = .ok (.ireturn, 1) := by decide +kernel
theorem dX7_setLink_0 : decode cX7_setLink 0 = .ok (.aload_n 0, 1) := by decide +kernel
theorem dX7_setLink_1 : decode cX7_setLink 1 = .ok (.iload_n 1, 1) := by decide +kernel
theorem dX7_setLink_2 : decode cX7_setLink 2 = .ok (.invokevirtual 64, 3) := by decide +kernel
theorem dX7_setLink_5 : decode cX7_setLink 5 = .ok (.aload_n 0, 1) := by decide +kernel
theorem dX7_setLink_6 : decode cX7_setLink 6 = .ok (.iload_n 2, 1) := by decide +kernel
theorem dX7_setLink_7 : decode cX7_setLink 7 = .ok (.invokevirtual 64, 3) := by decide +kernel
theorem dX7_setLink_10 : decode cX7_setLink 10 = .ok (.iload_n 1, 1) := by decide +kernel
theorem dX7_setLink_11 : decode cX7_setLink 11 = .ok (.iload_n 2, 1) := by decide +kernel
theorem dX7_setLink_12 : decode cX7_setLink 12 = .ok (.if_icmp .ne 13, 3) := by decide +kernel
theorem dX7_setLink_15 : decode cX7_setLink 15 = .ok (.new 68, 3) := by decide +kernel
theorem dX7_setLink_18 : decode cX7_setLink 18 = .ok (.dup, 1) := by decide +kernel
theorem dX7_setLink_19 : decode cX7_setLink 19 = .ok (.ldc 70, 2) := by decide +kernel
theorem dX7_setLink_21 : decode cX7_setLink 21 = .ok (.invokespecial 72, 3) := by decide +kernel
theorem dX7_setLink_24 : decode cX7_setLink 24 = .ok (.athrow, 1) := by decide +kernel
theorem dX7_setLink_25 : decode cX7_setLink 25 = .ok (.iload_n 3, 1) := by decide +kernel
theorem dX7_setLink_26 : decode cX7_setLink 26 = .ok (.iconst 0, 1) := by decide +kernel
theorem dX7_setLink_27 : decode cX7_setLink 27 = .ok (.bipush 20, 2) := by decide +kernel
theorem dX7_setLink_29 : decode cX7_setLink 29 = .ok (.invokestatic 30, 3) := by decide +kernel
theorem dX7_setLink_32 : decode cX7_setLink 32 = .ok (.aload_n 0, 1) := by decide +kernel
theorem dX7_setLink_33 : decode cX7_setLink 33 = .ok (.getfield 12, 3) := by decide +kernel
theorem dX7_setLink_36 : decode cX7_setLink 36 = .ok (.getfield 34, 3) := by decide +kernel
theorem dX7_setLink_39 : decode cX7_setLink 39 = .ok (.iload_n 1, 1) := by decide +kernel
theorem dX7_setLink_40 : decode cX7_setLink 40 = .ok (.iload_n 2, 1) := by decide +kernel
theorem dX7_setLink_41 : decode cX7_setLink 41 = .ok (.invokevirtual 73, 3) := by decide +kernel
theorem dX7_setLink_44 : decode cX7_setLink 44 = .ok (.istore 4, 2) := by decide +kernel
theorem dX7_setLink_46 : decode cX7_setLink 46 = .ok (.aload_n 0, 1) := by decide +kernel
theorem dX7_setLink_47 : decode cX7_setLink 47 = .ok (.getfield 12, 3) := by decide +kernel
theorem dX7_setLink_50 : decode cX7_setLink 50 = .ok (.getfield 34, 3) := by decide +kernel
theorem dX7_setLink_53 : decode cX7_setLink 53 = .ok (.iload_n 1, 1) := by decide +kernel
theorem dX7_setLink_54 : decode cX7_setLink 54 = .ok (.iload_n 2, 1) := by decide +kernel
theorem dX7_setLink_55 : decode cX7_setLink 55 = .ok (.iload_n 3, 1) := by decide +kernel
theorem dX7_setLink_56 : decode cX7_setLink 56 = .ok (.invokevirtual 77, 3) := by decide +kernel
theorem dX7_setLink_59 : decode cX7_setLink 59 = .ok (.iload 4, 2) := by decide +kernel
theorem dX7_setLink_61 : decode cX7_setLink 61 = .ok (.ireturn, 1) := by decide +kernel
theorem dX7_setLevel_0 : decode cX7_setLevel 0 = .ok (.aload_n 0, 1) := by decide +kernel
theorem dX7_setLevel_1 : decode cX7_setLevel 1 = .ok (.iload_n 1, 1) := by decide +kernel
theorem dX7_setLevel_2 : decode cX7_setLevel 2 = .ok (.invokevirtual 80, 3) := by decide +kernel
theorem dX7_setLevel_5 : decode cX7_setLevel 5 = .ok (.aload_n 0, 1) := by decide +kernel
theorem dX7_setLevel_6 : decode cX7_setLevel 6 = .ok (.iload_n 2, 1) := by decide +kernel
theorem dX7_setLevel_7 : decode cX7_setLevel 7 = .ok (.invokevirtual 83, 3) := by decide +kernel
theorem dX7_setLevel_10 : decode cX7_setLevel 10 = .ok (.iload_n 3, 1) := by decide +kernel
theorem dX7_setLevel_11 : decode cX7_setLevel 11 = .ok (.iconst 0, 1) := by decide +kernel
theorem dX7_setLevel_12 : decode cX7_setLevel 12 = .ok (.bipush 20, 2) := by decide +kernel
theorem dX7_setLevel_14 : decode cX7_setLevel 14 = .ok (.invokestatic 30, 3) := by decide +kernel
theorem dX7_setLevel_17 : decode cX7_setLevel 17 = .ok (.iload_n 1, 1) := by decide +kernel
theorem dX7_setLevel_18 : decode cX7_setLevel 18 = .ok (.iload_n 2, 1) := by decide +kernel
theorem dX7_setLevel_19 : decode cX7_setLevel 19 = .ok (.invokestatic 86, 3) := by decide +kernel
theorem dX7_setLevel_22 : decode cX7_setLevel 22 = .ok (.istore 4, 2) := by decide +kernel
theorem dX7_setLevel_24 : decode cX7_setLevel 24 = .ok (.aload_n 0, 1) := by decide +kernel
theorem dX7_setLevel_25 : decode cX7_setLevel 25 = .ok (.getfield 12, 3) := by decide +kernel
theorem dX7_setLevel_28 : decode cX7_setLevel 28 = .ok (.getfield 89, 3) := by decide +kernel
theorem dX7_setLevel_31 : decode cX7_setLevel 31 = .ok (.iload 4, 2) := by decide +kernel
theorem dX7_setLevel_33 : decode cX7_setLevel 33 = .ok (.iaload, 1) := by decide +kernel
theorem dX7_setLevel_34 : decode cX7_setLevel 34 = .ok (.istore 5, 2) := by decide +kernel
theorem dX7_setLevel_36 : decode cX7_setLevel 36 = .ok (.iload 5, 2) := by decide +kernel
theorem dX7_setLevel_38 : decode cX7_setLevel 38 = .ok (.iload_n 3, 1) := by decide +kernel
theorem dX7_setLevel_39 : decode cX7_setLevel 39 = .ok (.isub, 1) := by decide +kernel
theorem dX7_setLevel_40 : decode cX7_setLevel 40 = .ok (.aload_n 0, 1) := by decide +kernel
theorem dX7_setLevel_41 : decode cX7_setLevel 41 = .ok (.getfield 12, 3) := by decide +kernel
theorem dX7_setLevel_44 : decode cX7_setLevel 44 = .ok (.getfield 93, 3) := by decide +kernel
theorem dX7_setLevel_47 : decode cX7_setLevel 47 = .ok (.iload 4, 2) := by decide +kernel
theorem dX7_setLevel_49 : decode cX7_setLevel 49 = .ok (.iaload, 1) := by decide +kernel
theorem dX7_setLevel_50 : decode cX7_setLevel 50 = .ok (.if_icmp .le 13, 3) := by decide +kernel
theorem dX7_setLevel_53 : decode cX7_setLevel 53 = .ok (.new 44, 3) := by decide +kernel
theorem dX7_setLevel_56 : decode cX7_setLevel 56 = .ok (.dup, 1) := by decide +kernel
theorem dX7_setLevel_57 : decode cX7_setLevel 57 = .ok (.ldc 96, 2) := by decide +kernel
theorem dX7_setLevel_59 : decode cX7_setLevel 59 = .ok (.invokespecial 48, 3) := by decide +kernel
theorem dX7_setLevel_62 : decode cX7_setLevel 62 = .ok (.athrow, 1) := by decide +kernel
theorem dX7_setLevel_63 : decode cX7_setLevel 63 = .ok (.aload_n 0, 1) := by decide +kernel
theorem dX7_setLevel_64 : decode cX7_setLevel 64 = .ok (.getfield 12, 3) := by decide +kernel
theorem dX7_setLevel_67 : decode cX7_setLevel 67 = .ok (.iload_n 1, 1) := by decide +kernel
theorem dX7_setLevel_68 : decode cX7_setLevel 68 = .ok (.iload_n 2, 1) := by decide +kernel
theorem dX7_setLevel_69 : decode cX7_setLevel 69 = .ok (.iload_n 3, 1) := by decide +kernel
theorem dX7_setLevel_70 : decode cX7_setLevel 70 = .ok (.invokevirtual 98, 3) := by decide +kernel
theorem dX7_setLevel_73 : decode cX7_setLevel 73 = .ok (.iload 5, 2) := by decide +kernel
theorem dX7_setLevel_75 : decode cX7_setLevel 75 = .ok (.ireturn, 1) := by decide +kernel
theorem dX7_setShare_0 : decode cX7_setShare 0 = .ok (.aload_n 0, 1) := by decide +kernel
theorem dX7_setShare_1 : decode cX7_setShare 1 = .ok (.iload_n 1, 1) := by decide +kernel
theorem dX7_setShare_2 : decode cX7_setShare 2 = .ok (.invokevirtual 64, 3) := by decide +kernel
theorem dX7_setShare_5 : decode cX7_setShare 5 = .ok (.aload_n 0, 1) := by decide +kernel
theorem dX7_setShare_6 : decode cX7_setShare 6 = .ok (.iload_n 2, 1) := by decide +kernel
theorem dX7_setShare_7 : decode cX7_setShare 7 = .ok (.invokevirtual 83, 3) := by decide +kernel
theorem dX7_setShare_10 : decode cX7_setShare 10 = .ok (.iload_n 3, 1) := by decide +kernel
theorem dX7_setShare_11 : decode cX7_setShare 11 = .ok (.iconst 0, 1) := by decide +kernel
theorem dX7_setShare_12 : decode cX7_setShare 12 = .ok (.bipush 10, 2) := by decide +kernel
theorem dX7_setShare_14 : decode cX7_setShare 14 = .ok (.invokestatic 30, 3) := by decide +kernel
theorem dX7_setShare_17 : decode cX7_setShare 17 = .ok (.aload_n 0, 1) := by decide +kernel
theorem dX7_setShare_18 : decode cX7_setShare 18 = .ok (.getfield 12, 3) := by decide +kernel
theorem dX7_setShare_21 : decode cX7_setShare 21 = .ok (.getfield 34, 3) := by decide +kernel
theorem dX7_setShare_24 : decode cX7_setShare 24 = .ok (.getfield 101, 3) := by decide +kernel
theorem dX7_setShare_27 : decode cX7_setShare 27 = .ok (.iload_n 1, 1) := by decide +kernel
theorem dX7_setShare_28 : decode cX7_setShare 28 = .ok (.iload_n 2, 1) := by decide +kernel
theorem dX7_setShare_29 : decode cX7_setShare 29 = .ok (.invokestatic 86, 3) := by decide +kernel
theorem dX7_setShare_32 : decode cX7_setShare 32 = .ok (.iload_n 3, 1) := by decide +kernel
theorem dX7_setShare_33 : decode cX7_setShare 33 = .ok (.invokestatic 104, 3) := by decide +kernel
theorem dX7_setShare_36 : decode cX7_setShare 36 = .ok (.ireturn, 1) := by decide +kernel
theorem dX7_setReserve_0 : decode cX7_setReserve 0 = .ok (.aload_n 0, 1) := by decide +kernel
theorem dX7_setReserve_1 : decode cX7_setReserve 1 = .ok (.iload_n 1, 1) := by decide +kernel
theorem dX7_setReserve_2 : decode cX7_setReserve 2 = .ok (.invokevirtual 64, 3) := by decide +kernel
theorem dX7_setReserve_5 : decode cX7_setReserve 5 = .ok (.aload_n 0, 1) := by decide +kernel
theorem dX7_setReserve_6 : decode cX7_setReserve 6 = .ok (.iload_n 2, 1) := by decide +kernel
theorem dX7_setReserve_7 : decode cX7_setReserve 7 = .ok (.invokevirtual 83, 3) := by decide +kernel
theorem dX7_setReserve_10 : decode cX7_setReserve 10 = .ok (.iload_n 3, 1) := by decide +kernel
theorem dX7_setReserve_11 : decode cX7_setReserve 11 = .ok (.iconst 0, 1) := by decide +kernel
theorem dX7_setReserve_12 : decode cX7_setReserve 12 = .ok (.bipush 20, 2) := by decide +kernel
theorem dX7_setReserve_14 : decode cX7_setReserve 14 = .ok (.invokestatic 30, 3) := by decide +kernel
theorem dX7_setReserve_17 : decode cX7_setReserve 17 = .ok (.aload_n 0, 1) := by decide +kernel
theorem dX7_setReserve_18 : decode cX7_setReserve 18 = .ok (.getfield 12, 3) := by decide +kernel
theorem dX7_setReserve_21 : decode cX7_setReserve 21 = .ok (.getfield 34, 3) := by decide +kernel
theorem dX7_setReserve_24 : decode cX7_setReserve 24 = .ok (.getfield 108, 3) := by decide +kernel
theorem dX7_setReserve_27 : decode cX7_setReserve 27 = .ok (.iload_n 1, 1) := by decide +kernel
theorem dX7_setReserve_28 : decode cX7_setReserve 28 = .ok (.iload_n 2, 1) := by decide +kernel
theorem dX7_setReserve_29 : decode cX7_setReserve 29 = .ok (.invokestatic 86, 3) := by decide +kernel
theorem dX7_setReserve_32 : decode cX7_setReserve 32 = .ok (.iload_n 3, 1) := by decide +kernel
theorem dX7_setReserve_33 : decode cX7_setReserve 33 = .ok (.invokestatic 104, 3) := by decide +kernel
theorem dX7_setReserve_36 : decode cX7_setReserve 36 = .ok (.ireturn, 1) := by decide +kernel
theorem dX7_setRate_0 : decode cX7_setRate 0 = .ok (.aload_n 0, 1) := by decide +kernel
theorem dX7_setRate_1 : decode cX7_setRate 1 = .ok (.iload_n 1, 1) := by decide +kernel
theorem dX7_setRate_2 : decode cX7_setRate 2 = .ok (.invokevirtual 64, 3) := by decide +kernel
theorem dX7_setRate_5 : decode cX7_setRate 5 = .ok (.aload_n 0, 1) := by decide +kernel
theorem dX7_setRate_6 : decode cX7_setRate 6 = .ok (.iload_n 2, 1) := by decide +kernel
theorem dX7_setRate_7 : decode cX7_setRate 7 = .ok (.invokevirtual 83, 3) := by decide +kernel
theorem dX7_setRate_10 : decode cX7_setRate 10 = .ok (.iload_n 3, 1) := by decide +kernel
theorem dX7_setRate_11 : decode cX7_setRate 11 = .ok (.iconst 0, 1) := by decide +kernel
theorem dX7_setRate_12 : decode cX7_setRate 12 = .ok (.bipush 100, 2) := by decide +kernel
theorem dX7_setRate_14 : decode cX7_setRate 14 = .ok (.invokestatic 30, 3) := by decide +kernel
theorem dX7_setRate_17 : decode cX7_setRate 17 = .ok (.aload_n 0, 1) := by decide +kernel
theorem dX7_setRate_18 : decode cX7_setRate 18 = .ok (.getfield 12, 3) := by decide +kernel
theorem dX7_setRate_21 : decode cX7_setRate 21 = .ok (.getfield 34, 3) := by decide +kernel
theorem dX7_setRate_24 : decode cX7_setRate 24 = .ok (.getfield 111, 3) := by decide +kernel
theorem dX7_setRate_27 : decode cX7_setRate 27 = .ok (.iload_n 1, 1) := by decide +kernel
theorem dX7_setRate_28 : decode cX7_setRate 28 = .ok (.iload_n 2, 1) := by decide +kernel
theorem dX7_setRate_29 : decode cX7_setRate 29 = .ok (.invokestatic 86, 3) := by decide +kernel
theorem dX7_setRate_32 : decode cX7_setRate 32 = .ok (.iload_n 3, 1) := by decide +kernel
theorem dX7_setRate_33 : decode cX7_setRate 33 = .ok (.invokestatic 104, 3) := by decide +kernel
theorem dX7_setRate_36 : decode cX7_setRate 36 = .ok (.ireturn, 1) := by decide +kernel
theorem dX7_setLateralLimit_0 : decode cX7_setLateralLimit 0 = .ok (.iload_n 1, 1) := by decide +kernel
theorem dX7_setLateralLimit_1 : decode cX7_setLateralLimit 1 = .ok (.iconst 0, 1) := by decide +kernel
theorem dX7_setLateralLimit_2 : decode cX7_setLateralLimit 2 = .ok (.bipush 20, 2) := by decide +kernel
theorem dX7_setLateralLimit_4 : decode cX7_setLateralLimit 4 = .ok (.invokestatic 30, 3) := by decide +kernel
theorem dX7_setLateralLimit_7 : decode cX7_setLateralLimit 7 = .ok (.aload_n 0, 1) := by decide +kernel
theorem dX7_setLateralLimit_8 : decode cX7_setLateralLimit 8 = .ok (.getfield 12, 3) := by decide +kernel
theorem dX7_setLateralLimit_11 : decode cX7_setLateralLimit 11 = .ok (.getfield 34, 3) := by decide +kernel
theorem dX7_setLateralLimit_14 : decode cX7_setLateralLimit 14 = .ok (.getfield 114, 3) := by decide +kernel
theorem dX7_setLateralLimit_17 : decode cX7_setLateralLimit 17 = .ok (.istore_n 2, 1) := by decide +kernel
theorem dX7_setLateralLimit_18 : decode cX7_setLateralLimit 18 = .ok (.aload_n 0, 1) := by decide +kernel
theorem dX7_setLateralLimit_19 : decode cX7_setLateralLimit 19 = .ok (.getfield 12, 3) := by decide +kernel
theorem dX7_setLateralLimit_22 : decode cX7_setLateralLimit 22 = .ok (.getfield 34, 3) := by decide +kernel
theorem dX7_setLateralLimit_25 : decode cX7_setLateralLimit 25 = .ok (.iload_n 1, 1) := by decide +kernel
theorem dX7_setLateralLimit_26 : decode cX7_setLateralLimit 26 = .ok (.putfield 114, 3) := by decide +kernel
theorem dX7_setLateralLimit_29 : decode cX7_setLateralLimit 29 = .ok (.iload_n 2, 1) := by decide +kernel
theorem dX7_setLateralLimit_30 : decode cX7_setLateralLimit 30 = .ok (.ireturn, 1) := by decide +kernel
theorem dX7_demand_0 : decode cX7_demand 0 = .ok (.aload_n 0, 1) := by decide +kernel
theorem dX7_demand_1 : decode cX7_demand 1 = .ok (.iload_n 1, 1) := by decide +kernel
theorem dX7_demand_2 : decode cX7_demand 2 = .ok (.invokevirtual 64, 3) := by decide +kernel
theorem dX7_demand_5 : decode cX7_demand 5 = .ok (.aload_n 0, 1) := by decide +kernel
theorem dX7_demand_6 : decode cX7_demand 6 = .ok (.iload_n 2, 1) := by decide +kernel
theorem dX7_demand_7 : decode cX7_demand 7 = .ok (.invokevirtual 83, 3) := by decide +kernel
theorem dX7_demand_10 : decode cX7_demand 10 = .ok (.iload_n 3, 1) := by decide +kernel
theorem dX7_demand_11 : decode cX7_demand 11 = .ok (.iconst 0, 1) := by decide +kernel
theorem dX7_demand_12 : decode cX7_demand 12 = .ok (.bipush 9, 2) := by decide +kernel
theorem dX7_demand_14 : decode cX7_demand 14 = .ok (.invokestatic 30, 3) := by decide +kernel
theorem dX7_demand_17 : decode cX7_demand 17 = .ok (.aload_n 0, 1) := by decide +kernel
theorem dX7_demand_18 : decode cX7_demand 18 = .ok (.getfield 12, 3) := by decide +kernel
theorem dX7_demand_21 : decode cX7_demand 21 = .ok (.invokevirtual 117, 3) := by decide +kernel
theorem dX7_demand_24 : decode cX7_demand 24 = .ok (.ifCond .eq 13, 3) := by decide +kernel
theorem dX7_demand_27 : decode cX7_demand 27 = .ok (.new 44, 3) := by decide +kernel
theorem dX7_demand_30 : decode cX7_demand 30 = .ok (.dup, 1) := by decide +kernel
theorem dX7_demand_31 : decode cX7_demand 31 = .ok (.ldc 121, 2) := by decide +kernel
theorem dX7_demand_33 : decode cX7_demand 33 = .ok (.invokespecial 48, 3) := by decide +kernel
theorem dX7_demand_36 : decode cX7_demand 36 = .ok (.athrow, 1) := by decide +kernel
theorem dX7_demand_37 : decode cX7_demand 37 = .ok (.aload_n 0, 1) := by decide +kernel
theorem dX7_demand_38 : decode cX7_demand 38 = .ok (.getfield 12, 3) := by decide +kernel
theorem dX7_demand_41 : decode cX7_demand 41 = .ok (.iload_n 1, 1) := by decide +kernel
theorem dX7_demand_42 : decode cX7_demand 42 = .ok (.iload_n 2, 1) := by decide +kernel
theorem dX7_demand_43 : decode cX7_demand 43 = .ok (.iload_n 3, 1) := by decide +kernel
theorem dX7_demand_44 : decode cX7_demand 44 = .ok (.invokevirtual 123, 3) := by decide +kernel
theorem dX7_demand_47 : decode cX7_demand 47 = .ok (.ireturn, 1) := by decide +kernel
theorem dX7_advance_0 : decode cX7_advance 0 = .ok (.iload_n 1, 1) := by decide +kernel
theorem dX7_advance_1 : decode cX7_advance 1 = .ok (.iconst 1, 1) := by decide +kernel
theorem dX7_advance_2 : decode cX7_advance 2 = .ok (.bipush 60, 2) := by decide +kernel
theorem dX7_advance_4 : decode cX7_advance 4 = .ok (.invokestatic 30, 3) := by decide +kernel
theorem dX7_advance_7 : decode cX7_advance 7 = .ok (.aload_n 0, 1) := by decide +kernel
theorem dX7_advance_8 : decode cX7_advance 8 = .ok (.iload_n 1, 1) := by decide +kernel
theorem dX7_advance_9 : decode cX7_advance 9 = .ok (.invokevirtual 127, 3) := by decide +kernel
theorem dX7_advance_12 : decode cX7_advance 12 = .ok (.iconst 0, 1) := by decide +kernel
theorem dX7_advance_13 : decode cX7_advance 13 = .ok (.istore_n 2, 1) := by decide +kernel
theorem dX7_advance_14 : decode cX7_advance 14 = .ok (.iload_n 2, 1) := by decide +kernel
theorem dX7_advance_15 : decode cX7_advance 15 = .ok (.iload_n 1, 1) := by decide +kernel
theorem dX7_advance_16 : decode cX7_advance 16 = .ok (.if_icmp .ge 16, 3) := by decide +kernel
theorem dX7_advance_19 : decode cX7_advance 19 = .ok (.aload_n 0, 1) := by decide +kernel
theorem dX7_advance_20 : decode cX7_advance 20 = .ok (.getfield 12, 3) := by decide +kernel
theorem dX7_advance_23 : decode cX7_advance 23 = .ok (.invokevirtual 130, 3) := by decide +kernel
theorem dX7_advance_26 : decode cX7_advance 26 = .ok (.iinc 2 1, 3) := by decide +kernel
theorem dX7_advance_29 : decode cX7_advance 29 = .ok (.goto (-15), 3) := by decide +kernel
theorem dX7_advance_32 : decode cX7_advance 32 = .ok (.aload_n 0, 1) := by decide +kernel
theorem dX7_advance_33 : decode cX7_advance 33 = .ok (.getfield 12, 3) := by decide +kernel
theorem dX7_advance_36 : decode cX7_advance 36 = .ok (.getfield 133, 3) := by decide +kernel
theorem dX7_advance_39 : decode cX7_advance 39 = .ok (.ireturn, 1) := by decide +kernel
theorem dX7_run_0 : decode cX7_run 0 = .ok (.iload_n 1, 1) := by decide +kernel
theorem dX7_run_1 : decode cX7_run 1 = .ok (.iconst 0, 1) := by decide +kernel
theorem dX7_run_2 : decode cX7_run 2 = .ok (.ldc 136, 2) := by decide +kernel
theorem dX7_run_4 : decode cX7_run 4 = .ok (.invokestatic 30, 3) := by decide +kernel
theorem dX7_run_7 : decode cX7_run 7 = .ok (.iload_n 2, 1) := by decide +kernel
theorem dX7_run_8 : decode cX7_run 8 = .ok (.iconst 1, 1) := by decide +kernel
theorem dX7_run_9 : decode cX7_run 9 = .ok (.bipush 30, 2) := by decide +kernel
theorem dX7_run_11 : decode cX7_run 11 = .ok (.invokestatic 30, 3) := by decide +kernel
theorem dX7_run_14 : decode cX7_run 14 = .ok (.aload_n 0, 1) := by decide +kernel
theorem dX7_run_15 : decode cX7_run 15 = .ok (.iload_n 2, 1) := by decide +kernel
theorem dX7_run_16 : decode cX7_run 16 = .ok (.invokevirtual 127, 3) := by decide +kernel
theorem dX7_run_19 : decode cX7_run 19 = .ok (.aload_n 0, 1) := by decide +kernel
theorem dX7_run_20 : decode cX7_run 20 = .ok (.getfield 12, 3) := by decide +kernel
theorem dX7_run_23 : decode cX7_run 23 = .ok (.iload_n 1, 1) := by decide +kernel
theorem dX7_run_24 : decode cX7_run 24 = .ok (.iload_n 2, 1) := by decide +kernel
theorem dX7_run_25 : decode cX7_run 25 = .ok (.invokevirtual 137, 3) := by decide +kernel
theorem dX7_run_28 : decode cX7_run 28 = .ok (.ireturn, 1) := by decide +kernel
theorem dX7_day_0 : decode cX7_day 0 = .ok (.aload_n 0, 1) := by decide +kernel
theorem dX7_day_1 : decode cX7_day 1 = .ok (.getfield 12, 3) := by decide +kernel
theorem dX7_day_4 : decode cX7_day 4 = .ok (.getfield 133, 3) := by decide +kernel
theorem dX7_day_7 : decode cX7_day 7 = .ok (.ireturn, 1) := by decide +kernel
theorem dX7_refusedDemands_0 : decode cX7_refusedDemands 0 = .ok (.aload_n 0, 1) := by decide +kernel
theorem dX7_refusedDemands_1 : decode cX7_refusedDemands 1 = .ok (.getfield 12, 3) := by decide +kernel
theorem dX7_refusedDemands_4 : decode cX7_refusedDemands 4 = .ok (.getfield 140, 3) := by decide +kernel
theorem dX7_refusedDemands_7 : decode cX7_refusedDemands 7 = .ok (.getfield 144, 3) := by decide +kernel
theorem dX7_refusedDemands_10 : decode cX7_refusedDemands 10 = .ok (.ireturn, 1) := by decide +kernel
theorem dX7_level_0 : decode cX7_level 0 = .ok (.aload_n 0, 1) := by decide +kernel
theorem dX7_level_1 : decode cX7_level 1 = .ok (.iload_n 1, 1) := by decide +kernel
theorem dX7_level_2 : decode cX7_level 2 = .ok (.invokevirtual 80, 3) := by decide +kernel
theorem dX7_level_5 : decode cX7_level 5 = .ok (.aload_n 0, 1) := by decide +kernel
theorem dX7_level_6 : decode cX7_level 6 = .ok (.iload_n 2, 1) := by decide +kernel
theorem dX7_level_7 : decode cX7_level 7 = .ok (.invokevirtual 83, 3) := by decide +kernel
theorem dX7_level_10 : decode cX7_level 10 = .ok (.aload_n 0, 1) := by decide +kernel
theorem dX7_level_11 : decode cX7_level 11 = .ok (.getfield 12, 3) := by decide +kernel
theorem dX7_level_14 : decode cX7_level 14 = .ok (.getfield 89, 3) := by decide +kernel
theorem dX7_level_17 : decode cX7_level 17 = .ok (.iload_n 1, 1) := by decide +kernel
theorem dX7_level_18 : decode cX7_level 18 = .ok (.iload_n 2, 1) := by decide +kernel
theorem dX7_level_19 : decode cX7_level 19 = .ok (.invokestatic 86, 3) := by decide +kernel
theorem dX7_level_22 : decode cX7_level 22 = .ok (.iaload, 1) := by decide +kernel
theorem dX7_level_23 : decode cX7_level 23 = .ok (.ireturn, 1) := by decide +kernel
theorem dX7_onHand_0 : decode cX7_onHand 0 = .ok (.aload_n 0, 1) := by decide +kernel
theorem dX7_onHand_1 : decode cX7_onHand 1 = .ok (.iload_n 1, 1) := by decide +kernel
theorem dX7_onHand_2 : decode cX7_onHand 2 = .ok (.invokevirtual 80, 3) := by decide +kernel
theorem dX7_onHand_5 : decode cX7_onHand 5 = .ok (.aload_n 0, 1) := by decide +kernel
theorem dX7_onHand_6 : decode cX7_onHand 6 = .ok (.iload_n 2, 1) := by decide +kernel
theorem dX7_onHand_7 : decode cX7_onHand 7 = .ok (.invokevirtual 83, 3) := by decide +kernel
theorem dX7_onHand_10 : decode cX7_onHand 10 = .ok (.aload_n 0, 1) := by decide +kernel
theorem dX7_onHand_11 : decode cX7_onHand 11 = .ok (.getfield 12, 3) := by decide +kernel
theorem dX7_onHand_14 : decode cX7_onHand 14 = .ok (.getfield 93, 3) := by decide +kernel
theorem dX7_onHand_17 : decode cX7_onHand 17 = .ok (.iload_n 1, 1) := by decide +kernel
theorem dX7_onHand_18 : decode cX7_onHand 18 = .ok (.iload_n 2, 1) := by decide +kernel
theorem dX7_onHand_19 : decode cX7_onHand 19 = .ok (.invokestatic 86, 3) := by decide +kernel
theorem dX7_onHand_22 : decode cX7_onHand 22 = .ok (.iaload, 1) := by decide +kernel
theorem dX7_onHand_23 : decode cX7_onHand 23 = .ok (.ireturn, 1) := by decide +kernel
theorem dX7_waiting_0 : decode cX7_waiting 0 = .ok (.aload_n 0, 1) := by decide +kernel
theorem dX7_waiting_1 : decode cX7_waiting 1 = .ok (.iload_n 1, 1) := by decide +kernel
theorem dX7_waiting_2 : decode cX7_waiting 2 = .ok (.invokevirtual 64, 3) := by decide +kernel
theorem dX7_waiting_5 : decode cX7_waiting 5 = .ok (.aload_n 0, 1) := by decide +kernel
theorem dX7_waiting_6 : decode cX7_waiting 6 = .ok (.iload_n 2, 1) := by decide +kernel
theorem dX7_waiting_7 : decode cX7_waiting 7 = .ok (.invokevirtual 83, 3) := by decide +kernel
theorem dX7_waiting_10 : decode cX7_waiting 10 = .ok (.aload_n 0, 1) := by decide +kernel
theorem dX7_waiting_11 : decode cX7_waiting 11 = .ok (.getfield 12, 3) := by decide +kernel
theorem dX7_waiting_14 : decode cX7_waiting 14 = .ok (.getfield 149, 3) := by decide +kernel
theorem dX7_waiting_17 : decode cX7_waiting 17 = .ok (.iload_n 1, 1) := by decide +kernel
theorem dX7_waiting_18 : decode cX7_waiting 18 = .ok (.iload_n 2, 1) := by decide +kernel
theorem dX7_waiting_19 : decode cX7_waiting 19 = .ok (.invokevirtual 153, 3) := by decide +kernel
theorem dX7_waiting_22 : decode cX7_waiting 22 = .ok (.ireturn, 1) := by decide +kernel
theorem dX7_topPriority_0 : decode cX7_topPriority 0 = .ok (.aload_n 0, 1) := by decide +kernel
theorem dX7_topPriority_1 : decode cX7_topPriority 1 = .ok (.iload_n 1, 1) := by decide +kernel
theorem dX7_topPriority_2 : decode cX7_topPriority 2 = .ok (.invokevirtual 64, 3) := by decide +kernel
theorem dX7_topPriority_5 : decode cX7_topPriority 5 = .ok (.aload_n 0, 1) := by decide +kernel
theorem dX7_topPriority_6 : decode cX7_topPriority 6 = .ok (.iload_n 2, 1) := by decide +kernel
theorem dX7_topPriority_7 : decode cX7_topPriority 7 = .ok (.invokevirtual 83, 3) := by decide +kernel
theorem dX7_topPriority_10 : decode cX7_topPriority 10 = .ok (.aload_n 0, 1) := by decide +kernel
theorem dX7_topPriority_11 : decode cX7_topPriority 11 = .ok (.getfield 12, 3) := by decide +kernel
theorem dX7_topPriority_14 : decode cX7_topPriority 14 = .ok (.getfield 149, 3) := by decide +kernel
theorem dX7_topPriority_17 : decode cX7_topPriority 17 = .ok (.iload_n 1, 1) := by decide +kernel
theorem dX7_topPriority_18 : decode cX7_topPriority 18 = .ok (.iload_n 2, 1) := by decide +kernel
theorem dX7_topPriority_19 : decode cX7_topPriority 19 = .ok (.invokevirtual 158, 3) := by decide +kernel
theorem dX7_topPriority_22 : decode cX7_topPriority 22 = .ok (.istore_n 3, 1) := by decide +kernel
theorem dX7_topPriority_23 : decode cX7_topPriority 23 = .ok (.iload_n 3, 1) := by decide +kernel
theorem dX7_topPriority_24 : decode cX7_topPriority 24 = .ok (.iconst (-1), 1) := by decide +kernel
theorem dX7_topPriority_25 : decode cX7_topPriority 25 = .ok (.if_icmp .ne 7, 3) := by decide +kernel
theorem dX7_topPriority_28 : decode cX7_topPriority 28 = .ok (.iconst (-1), 1) := by decide +kernel
theorem dX7_topPriority_29 : decode cX7_topPriority 29 = .ok (.goto 15, 3) := by decide +kernel
theorem dX7_topPriority_32 : decode cX7_topPriority 32 = .ok (.aload_n 0, 1) := by decide +kernel
theorem dX7_topPriority_33 : decode cX7_topPriority 33 = .ok (.getfield 12, 3) := by decide +kernel
theorem dX7_topPriority_36 : decode cX7_topPriority 36 = .ok (.getfield 149, 3) := by decide +kernel
theorem dX7_topPriority_39 : decode cX7_topPriority 39 = .ok (.getfield 161, 3) := by decide +kernel
theorem dX7_topPriority_42 : decode cX7_topPriority 42 = .ok (.iload_n 3, 1) := by decide +kernel
theorem dX7_topPriority_43 : decode cX7_topPriority 43 = .ok (.iaload, 1) := by decide +kernel
theorem dX7_topPriority_44 : decode cX7_topPriority 44 = .ok (.ireturn, 1) := by decide +kernel
theorem dX7_keptOrders_0 : decode cX7_keptOrders 0 = .ok (.aload_n 0, 1) := by decide +kernel
theorem dX7_keptOrders_1 : decode cX7_keptOrders 1 = .ok (.iload_n 1, 1) := by decide +kernel
theorem dX7_keptOrders_2 : decode cX7_keptOrders 2 = .ok (.invokevirtual 83, 3) := by decide +kernel
theorem dX7_keptOrders_5 : decode cX7_keptOrders 5 = .ok (.aload_n 0, 1) := by decide +kernel
theorem dX7_keptOrders_6 : decode cX7_keptOrders 6 = .ok (.getfield 12, 3) := by decide +kernel
theorem dX7_keptOrders_9 : decode cX7_keptOrders 9 = .ok (.getfield 164, 3) := by decide +kernel
theorem dX7_keptOrders_12 : decode cX7_keptOrders 12 = .ok (.iconst (-1), 1) := by decide +kernel
theorem dX7_keptOrders_13 : decode cX7_keptOrders 13 = .ok (.iload_n 1, 1) := by decide +kernel
theorem dX7_keptOrders_14 : decode cX7_keptOrders 14 = .ok (.invokevirtual 153, 3) := by decide +kernel
theorem dX7_keptOrders_17 : decode cX7_keptOrders 17 = .ok (.ireturn, 1) := by decide +kernel
theorem dX7_dueIn_0 : decode cX7_dueIn 0 = .ok (.aload_n 0, 1) := by decide +kernel
theorem dX7_dueIn_1 : decode cX7_dueIn 1 = .ok (.iload_n 1, 1) := by decide +kernel
theorem dX7_dueIn_2 : decode cX7_dueIn 2 = .ok (.invokevirtual 64, 3) := by decide +kernel
theorem dX7_dueIn_5 : decode cX7_dueIn 5 = .ok (.aload_n 0, 1) := by decide +kernel
theorem dX7_dueIn_6 : decode cX7_dueIn 6 = .ok (.iload_n 2, 1) := by decide +kernel
theorem dX7_dueIn_7 : decode cX7_dueIn 7 = .ok (.invokevirtual 83, 3) := by decide +kernel
theorem dX7_dueIn_10 : decode cX7_dueIn 10 = .ok (.aload_n 0, 1) := by decide +kernel
theorem dX7_dueIn_11 : decode cX7_dueIn 11 = .ok (.getfield 12, 3) := by decide +kernel
theorem dX7_dueIn_14 : decode cX7_dueIn 14 = .ok (.iload_n 1, 1) := by decide +kernel
theorem dX7_dueIn_15 : decode cX7_dueIn 15 = .ok (.iload_n 2, 1) := by decide +kernel
theorem dX7_dueIn_16 : decode cX7_dueIn 16 = .ok (.invokevirtual 167, 3) := by decide +kernel
theorem dX7_dueIn_19 : decode cX7_dueIn 19 = .ok (.ireturn, 1) := by decide +kernel
theorem dX7_position_0 : decode cX7_position 0 = .ok (.aload_n 0, 1) := by decide +kernel
theorem dX7_position_1 : decode cX7_position 1 = .ok (.iload_n 1, 1) := by decide +kernel
theorem dX7_position_2 : decode cX7_position 2 = .ok (.invokevirtual 64, 3) := by decide +kernel
theorem dX7_position_5 : decode cX7_position 5 = .ok (.aload_n 0, 1) := by decide +kernel
theorem dX7_position_6 : decode cX7_position 6 = .ok (.iload_n 2, 1) := by decide +kernel
theorem dX7_position_7 : decode cX7_position 7 = .ok (.invokevirtual 83, 3) := by decide +kernel
theorem dX7_position_10 : decode cX7_position 10 = .ok (.aload_n 0, 1) := by decide +kernel
theorem dX7_position_11 : decode cX7_position 11 = .ok (.getfield 12, 3) := by decide +kernel
theorem dX7_position_14 : decode cX7_position 14 = .ok (.getfield 93, 3) := by decide +kernel
theorem dX7_position_17 : decode cX7_position 17 = .ok (.iload_n 1, 1) := by decide +kernel
theorem dX7_position_18 : decode cX7_position 18 = .ok (.iload_n 2, 1) := by decide +kernel
theorem dX7_position_19 : decode cX7_position 19 = .ok (.invokestatic 86, 3) := by decide +kernel
theorem dX7_position_22 : decode cX7_position 22 = .ok (.iaload, 1) := by decide +kernel
theorem dX7_position_23 : decode cX7_position 23 = .ok (.aload_n 0, 1) := by decide +kernel
theorem dX7_position_24 : decode cX7_position 24 = .ok (.getfield 12, 3) := by decide +kernel
theorem dX7_position_27 : decode cX7_position 27 = .ok (.iload_n 1, 1) := by decide +kernel
theorem dX7_position_28 : decode cX7_position 28 = .ok (.iload_n 2, 1) := by decide +kernel
theorem dX7_position_29 : decode cX7_position 29 = .ok (.invokevirtual 167, 3) := by decide +kernel
theorem dX7_position_32 : decode cX7_position 32 = .ok (.iadd, 1) := by decide +kernel
theorem dX7_position_33 : decode cX7_position 33 = .ok (.aload_n 0, 1) := by decide +kernel
theorem dX7_position_34 : decode cX7_position 34 = .ok (.getfield 12, 3) := by decide +kernel
theorem dX7_position_37 : decode cX7_position 37 = .ok (.getfield 149, 3) := by decide +kernel
theorem dX7_position_40 : decode cX7_position 40 = .ok (.iload_n 1, 1) := by decide +kernel
theorem dX7_position_41 : decode cX7_position 41 = .ok (.iload_n 2, 1) := by decide +kernel
theorem dX7_position_42 : decode cX7_position 42 = .ok (.invokevirtual 153, 3) := by decide +kernel
theorem dX7_position_45 : decode cX7_position 45 = .ok (.isub, 1) := by decide +kernel
theorem dX7_position_46 : decode cX7_position 46 = .ok (.ireturn, 1) := by decide +kernel
theorem dX7_underWay_0 : decode cX7_underWay 0 = .ok (.aload_n 0, 1) := by decide +kernel
theorem dX7_underWay_1 : decode cX7_underWay 1 = .ok (.iload_n 1, 1) := by decide +kernel
theorem dX7_underWay_2 : decode cX7_underWay 2 = .ok (.invokevirtual 83, 3) := by decide +kernel
theorem dX7_underWay_5 : decode cX7_underWay 5 = .ok (.iload_n 2, 1) := by decide +kernel
theorem dX7_underWay_6 : decode cX7_underWay 6 = .ok (.iconst 0, 1) := by decide +kernel
theorem dX7_underWay_7 : decode cX7_underWay 7 = .ok (.iconst 4, 1) := by decide +kernel
theorem dX7_underWay_8 : decode cX7_underWay 8 = .ok (.invokestatic 30, 3) := by decide +kernel
theorem dX7_underWay_11 : decode cX7_underWay 11 = .ok (.aload_n 0, 1) := by decide +kernel
theorem dX7_underWay_12 : decode cX7_underWay 12 = .ok (.getfield 12, 3) := by decide +kernel
theorem dX7_underWay_15 : decode cX7_underWay 15 = .ok (.iload_n 1, 1) := by decide +kernel
theorem dX7_underWay_16 : decode cX7_underWay 16 = .ok (.iload_n 2, 1) := by decide +kernel
theorem dX7_underWay_17 : decode cX7_underWay 17 = .ok (.invokevirtual 170, 3) := by decide +kernel
theorem dX7_underWay_20 : decode cX7_underWay 20 = .ok (.ireturn, 1) := by decide +kernel
theorem dX7_fleet_0 : decode cX7_fleet 0 = .ok (.aload_n 0, 1) := by decide +kernel
theorem dX7_fleet_1 : decode cX7_fleet 1 = .ok (.iload_n 1, 1) := by decide +kernel
theorem dX7_fleet_2 : decode cX7_fleet 2 = .ok (.invokevirtual 83, 3) := by decide +kernel
theorem dX7_fleet_5 : decode cX7_fleet 5 = .ok (.iconst 0, 1) := by decide +kernel
theorem dX7_fleet_6 : decode cX7_fleet 6 = .ok (.istore_n 2, 1) := by decide +kernel
theorem dX7_fleet_7 : decode cX7_fleet 7 = .ok (.iconst 0, 1) := by decide +kernel
theorem dX7_fleet_8 : decode cX7_fleet 8 = .ok (.istore_n 3, 1) := by decide +kernel
theorem dX7_fleet_9 : decode cX7_fleet 9 = .ok (.iload_n 3, 1) := by decide +kernel
theorem dX7_fleet_10 : decode cX7_fleet 10 = .ok (.aload_n 0, 1) := by decide +kernel
theorem dX7_fleet_11 : decode cX7_fleet 11 = .ok (.getfield 12, 3) := by decide +kernel
theorem dX7_fleet_14 : decode cX7_fleet 14 = .ok (.getfield 34, 3) := by decide +kernel
theorem dX7_fleet_17 : decode cX7_fleet 17 = .ok (.getfield 55, 3) := by decide +kernel
theorem dX7_fleet_20 : decode cX7_fleet 20 = .ok (.if_icmp .ge 25, 3) := by decide +kernel
theorem dX7_fleet_23 : decode cX7_fleet 23 = .ok (.iload_n 2, 1) := by decide +kernel
theorem dX7_fleet_24 : decode cX7_fleet 24 = .ok (.aload_n 0, 1) := by decide +kernel
theorem dX7_fleet_25 : decode cX7_fleet 25 = .ok (.getfield 12, 3) := by decide +kernel
theorem dX7_fleet_28 : decode cX7_fleet 28 = .ok (.getfield 93, 3) := by decide +kernel
theorem dX7_fleet_31 : decode cX7_fleet 31 = .ok (.iload_n 3, 1) := by decide +kernel
theorem dX7_fleet_32 : decode cX7_fleet 32 = .ok (.iload_n 1, 1) := by decide +kernel
theorem dX7_fleet_33 : decode cX7_fleet 33 = .ok (.invokestatic 86, 3) := by decide +kernel
theorem dX7_fleet_36 : decode cX7_fleet 36 = .ok (.iaload, 1) := by decide +kernel
theorem dX7_fleet_37 : decode cX7_fleet 37 = .ok (.iadd, 1) := by decide +kernel
theorem dX7_fleet_38 : decode cX7_fleet 38 = .ok (.istore_n 2, 1) := by decide +kernel
theorem dX7_fleet_39 : decode cX7_fleet 39 = .ok (.iinc 3 1, 3) := by decide +kernel
theorem dX7_fleet_42 : decode cX7_fleet 42 = .ok (.goto (-33), 3) := by decide +kernel
theorem dX7_fleet_45 : decode cX7_fleet 45 = .ok (.iconst 0, 1) := by decide +kernel
theorem dX7_fleet_46 : decode cX7_fleet 46 = .ok (.istore_n 3, 1) := by decide +kernel
theorem dX7_fleet_47 : decode cX7_fleet 47 = .ok (.iload_n 3, 1) := by decide +kernel
theorem dX7_fleet_48 : decode cX7_fleet 48 = .ok (.iconst 4, 1) := by decide +kernel
theorem dX7_fleet_49 : decode cX7_fleet 49 = .ok (.if_icmp .gt 21, 3) := by decide +kernel
theorem dX7_fleet_52 : decode cX7_fleet 52 = .ok (.iload_n 2, 1) := by decide +kernel
theorem dX7_fleet_53 : decode cX7_fleet 53 = .ok (.aload_n 0, 1) := by decide +kernel
theorem dX7_fleet_54 : decode cX7_fleet 54 = .ok (.getfield 12, 3) := by decide +kernel
theorem dX7_fleet_57 : decode cX7_fleet 57 = .ok (.iload_n 1, 1) := by decide +kernel
theorem dX7_fleet_58 : decode cX7_fleet 58 = .ok (.iload_n 3, 1) := by decide +kernel
theorem dX7_fleet_59 : decode cX7_fleet 59 = .ok (.invokevirtual 170, 3) := by decide +kernel
theorem dX7_fleet_62 : decode cX7_fleet 62 = .ok (.iadd, 1) := by decide +kernel
theorem dX7_fleet_63 : decode cX7_fleet 63 = .ok (.istore_n 2, 1) := by decide +kernel
theorem dX7_fleet_64 : decode cX7_fleet 64 = .ok (.iinc 3 1, 3) := by decide +kernel
theorem dX7_fleet_67 : decode cX7_fleet 67 = .ok (.goto (-20), 3) := by decide +kernel
theorem dX7_fleet_70 : decode cX7_fleet 70 = .ok (.iload_n 2, 1) := by decide +kernel
theorem dX7_fleet_71 : decode cX7_fleet 71 = .ok (.aload_n 0, 1) := by decide +kernel
theorem dX7_fleet_72 : decode cX7_fleet 72 = .ok (.getfield 12, 3) := by decide +kernel
theorem dX7_fleet_75 : decode cX7_fleet 75 = .ok (.getfield 149, 3) := by decide +kernel
theorem dX7_fleet_78 : decode cX7_fleet 78 = .ok (.iconst (-1), 1) := by decide +kernel
theorem dX7_fleet_79 : decode cX7_fleet 79 = .ok (.iload_n 1, 1) := by decide +kernel
theorem dX7_fleet_80 : decode cX7_fleet 80 = .ok (.invokevirtual 153, 3) := by decide +kernel
theorem dX7_fleet_83 : decode cX7_fleet 83 = .ok (.isub, 1) := by decide +kernel
theorem dX7_fleet_84 : decode cX7_fleet 84 = .ok (.ireturn, 1) := by decide +kernel
theorem dX7_nextArrival_0 : decode cX7_nextArrival 0 = .ok (.aload_n 0, 1) := by decide +kernel
theorem dX7_nextArrival_1 : decode cX7_nextArrival 1 = .ok (.iload_n 1, 1) := by decide +kernel
theorem dX7_nextArrival_2 : decode cX7_nextArrival 2 = .ok (.invokevirtual 64, 3) := by decide +kernel
theorem dX7_nextArrival_5 : decode cX7_nextArrival 5 = .ok (.aload_n 0, 1) := by decide +kernel
theorem dX7_nextArrival_6 : decode cX7_nextArrival 6 = .ok (.iload_n 2, 1) := by decide +kernel
theorem dX7_nextArrival_7 : decode cX7_nextArrival 7 = .ok (.invokevirtual 83, 3) := by decide +kernel
theorem dX7_nextArrival_10 : decode cX7_nextArrival 10 = .ok (.aload_n 0, 1) := by decide +kernel
theorem dX7_nextArrival_11 : decode cX7_nextArrival 11 = .ok (.getfield 12, 3) := by decide +kernel
theorem dX7_nextArrival_14 : decode cX7_nextArrival 14 = .ok (.getfield 173, 3) := by decide +kernel
theorem dX7_nextArrival_17 : decode cX7_nextArrival 17 = .ok (.iload_n 1, 1) := by decide +kernel
theorem dX7_nextArrival_18 : decode cX7_nextArrival 18 = .ok (.iload_n 2, 1) := by decide +kernel
theorem dX7_nextArrival_19 : decode cX7_nextArrival 19 = .ok (.invokevirtual 177, 3) := by decide +kernel
