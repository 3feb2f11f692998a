theorem dX0_init_0 : decode cX0_init 0 = .ok (.aload_n 0, 1) := by decide +kernel
theorem dX0_init_1 : decode cX0_init 1 = .ok (.invokespecial 3, 3) := by decide +kernel
theorem dX0_init_4 : decode cX0_init 4 = .ok (.aload_n 0, 1) := by decide +kernel
theorem dX0_init_5 : decode cX0_init 5 = .ok (.bipush 32, 2) := by decide +kernel
theorem dX0_init_7 : decode cX0_init 7 = .ok (.newarray .int, 2) := by decide +kernel
theorem dX0_init_9 : decode cX0_init 9 = .ok (.putfield 9, 3) := by decide +kernel
theorem dX0_init_12 : decode cX0_init 12 = .ok (.aload_n 0, 1) := by decide +kernel
theorem dX0_init_13 : decode cX0_init 13 = .ok (.bipush 32, 2) := by decide +kernel
theorem dX0_init_15 : decode cX0_init 15 = .ok (.newarray .int, 2) := by decide +kernel
theorem dX0_init_17 : decode cX0_init 17 = .ok (.putfield 15, 3) := by decide +kernel
theorem dX0_init_20 : decode cX0_init 20 = .ok (.aload_n 0, 1) := by decide +kernel
theorem dX0_init_21 : decode cX0_init 21 = .ok (.bipush 32, 2) := by decide +kernel
theorem dX0_init_23 : decode cX0_init 23 = .ok (.newarray .int, 2) := by decide +kernel
theorem dX0_init_25 : decode cX0_init 25 = .ok (.putfield 18, 3) := by decide +kernel
theorem dX0_init_28 : decode cX0_init 28 = .ok (.aload_n 0, 1) := by decide +kernel
theorem dX0_init_29 : decode cX0_init 29 = .ok (.bipush 32, 2) := by decide +kernel
theorem dX0_init_31 : decode cX0_init 31 = .ok (.newarray .int, 2) := by decide +kernel
theorem dX0_init_33 : decode cX0_init 33 = .ok (.putfield 21, 3) := by decide +kernel
theorem dX0_init_36 : decode cX0_init 36 = .ok (.aload_n 0, 1) := by decide +kernel
theorem dX0_init_37 : decode cX0_init 37 = .ok (.bipush 32, 2) := by decide +kernel
theorem dX0_init_39 : decode cX0_init 39 = .ok (.newarray .int, 2) := by decide +kernel
theorem dX0_init_41 : decode cX0_init 41 = .ok (.putfield 24, 3) := by decide +kernel
theorem dX0_init_44 : decode cX0_init 44 = .ok (.return_, 1) := by decide +kernel
theorem dX0_clear_0 : decode cX0_clear 0 = .ok (.aload_n 0, 1) := by decide +kernel
theorem dX0_clear_1 : decode cX0_clear 1 = .ok (.iconst 0, 1) := by decide +kernel
theorem dX0_clear_2 : decode cX0_clear 2 = .ok (.putfield 27, 3) := by decide +kernel
theorem dX0_clear_5 : decode cX0_clear 5 = .ok (.aload_n 0, 1) := by decide +kernel
theorem dX0_clear_6 : decode cX0_clear 6 = .ok (.getfield 9, 3) := by decide +kernel
theorem dX0_clear_9 : decode cX0_clear 9 = .ok (.iconst 0, 1) := by decide +kernel
theorem dX0_clear_10 : decode cX0_clear 10 = .ok (.invokestatic 31, 3) := by decide +kernel
theorem dX0_clear_13 : decode cX0_clear 13 = .ok (.aload_n 0, 1) := by decide +kernel
theorem dX0_clear_14 : decode cX0_clear 14 = .ok (.getfield 15, 3) := by decide +kernel
theorem dX0_clear_17 : decode cX0_clear 17 = .ok (.iconst 0, 1) := by decide +kernel
theorem dX0_clear_18 : decode cX0_clear 18 = .ok (.invokestatic 31, 3) := by decide +kernel
theorem dX0_clear_21 : decode cX0_clear 21 = .ok (.aload_n 0, 1) := by decide +kernel
theorem dX0_clear_22 : decode cX0_clear 22 = .ok (.getfield 18, 3) := by decide +kernel
theorem dX0_clear_25 : decode cX0_clear 25 = .ok (.iconst 0, 1) := by decide +kernel
theorem dX0_clear_26 : decode cX0_clear 26 = .ok (.invokestatic 31, 3) := by decide +kernel
theorem dX0_clear_29 : decode cX0_clear 29 = .ok (.aload_n 0, 1) := by decide +kernel
theorem dX0_clear_30 : decode cX0_clear 30 = .ok (.getfield 21, 3) := by decide +kernel
theorem dX0_clear_33 : decode cX0_clear 33 = .ok (.iconst 0, 1) := by decide +kernel
theorem dX0_clear_34 : decode cX0_clear 34 = .ok (.invokestatic 31, 3) := by decide +kernel
theorem dX0_clear_37 : decode cX0_clear 37 = .ok (.aload_n 0, 1) := by decide +kernel
theorem dX0_clear_38 : decode cX0_clear 38 = .ok (.getfield 24, 3) := by decide +kernel
theorem dX0_clear_41 : decode cX0_clear 41 = .ok (.iconst 0, 1) := by decide +kernel
theorem dX0_clear_42 : decode cX0_clear 42 = .ok (.invokestatic 31, 3) := by decide +kernel
theorem dX0_clear_45 : decode cX0_clear 45 = .ok (.return_, 1) := by decide +kernel
theorem dX0_copyFrom_0 : decode cX0_copyFrom 0 = .ok (.aload_n 0, 1) := by decide +kernel
theorem dX0_copyFrom_1 : decode cX0_copyFrom 1 = .ok (.aload_n 1, 1) := by decide +kernel
theorem dX0_copyFrom_2 : decode cX0_copyFrom 2 = .ok (.getfield 27, 3) := by decide +kernel
theorem dX0_copyFrom_5 : decode cX0_copyFrom 5 = .ok (.putfield 27, 3) := by decide +kernel
theorem dX0_copyFrom_8 : decode cX0_copyFrom 8 = .ok (.aload_n 1, 1) := by decide +kernel
theorem dX0_copyFrom_9 : decode cX0_copyFrom 9 = .ok (.getfield 9, 3) := by decide +kernel
theorem dX0_copyFrom_12 : decode cX0_copyFrom 12 = .ok (.aload_n 0, 1) := by decide +kernel
theorem dX0_copyFrom_13 : decode cX0_copyFrom 13 = .ok (.getfield 9, 3) := by decide +kernel
theorem dX0_copyFrom_16 : decode cX0_copyFrom 16 = .ok (.bipush 32, 2) := by decide +kernel
theorem dX0_copyFrom_18 : decode cX0_copyFrom 18 = .ok (.invokestatic 37, 3) := by decide +kernel
theorem dX0_copyFrom_21 : decode cX0_copyFrom 21 = .ok (.aload_n 1, 1) := by decide +kernel
theorem dX0_copyFrom_22 : decode cX0_copyFrom 22 = .ok (.getfield 15, 3) := by decide +kernel
theorem dX0_copyFrom_25 : decode cX0_copyFrom 25 = .ok (.aload_n 0, 1) := by decide +kernel
theorem dX0_copyFrom_26 : decode cX0_copyFrom 26 = .ok (.getfield 15, 3) := by decide +kernel
theorem dX0_copyFrom_29 : decode cX0_copyFrom 29 = .ok (.bipush 32, 2) := by decide +kernel
theorem dX0_copyFrom_31 : decode cX0_copyFrom 31 = .ok (.invokestatic 37, 3) := by decide +kernel
theorem dX0_copyFrom_34 : decode cX0_copyFrom 34 = .ok (.aload_n 1, 1) := by decide +kernel
theorem dX0_copyFrom_35 : decode cX0_copyFrom 35 = .ok (.getfield 18, 3) := by decide +kernel
theorem dX0_copyFrom_38 : decode cX0_copyFrom 38 = .ok (.aload_n 0, 1) := by decide +kernel
theorem dX0_copyFrom_39 : decode cX0_copyFrom 39 = .ok (.getfield 18, 3) := by decide +kernel
theorem dX0_copyFrom_42 : decode cX0_copyFrom 42 = .ok (.bipush 32, 2) := by decide +kernel
theorem dX0_copyFrom_44 : decode cX0_copyFrom 44 = .ok (.invokestatic 37, 3) := by decide +kernel
theorem dX0_copyFrom_47 : decode cX0_copyFrom 47 = .ok (.aload_n 1, 1) := by decide +kernel
theorem dX0_copyFrom_48 : decode cX0_copyFrom 48 = .ok (.getfield 21, 3) := by decide +kernel
theorem dX0_copyFrom_51 : decode cX0_copyFrom 51 = .ok (.aload_n 0, 1) := by decide +kernel
theorem dX0_copyFrom_52 : decode cX0_copyFrom 52 = .ok (.getfield 21, 3) := by decide +kernel
theorem dX0_copyFrom_55 : decode cX0_copyFrom 55 = .ok (.bipush 32, 2) := by decide +kernel
theorem dX0_copyFrom_57 : decode cX0_copyFrom 57 = .ok (.invokestatic 37, 3) := by decide +kernel
theorem dX0_copyFrom_60 : decode cX0_copyFrom 60 = .ok (.aload_n 1, 1) := by decide +kernel
theorem dX0_copyFrom_61 : decode cX0_copyFrom 61 = .ok (.getfield 24, 3) := by decide +kernel
theorem dX0_copyFrom_64 : decode cX0_copyFrom 64 = .ok (.aload_n 0, 1) := by decide +kernel
theorem dX0_copyFrom_65 : decode cX0_copyFrom 65 = .ok (.getfield 24, 3) := by decide +kernel
theorem dX0_copyFrom_68 : decode cX0_copyFrom 68 = .ok (.bipush 32, 2) := by decide +kernel
theorem dX0_copyFrom_70 : decode cX0_copyFrom 70 = .ok (.invokestatic 37, 3) := by decide +kernel
theorem dX0_copyFrom_73 : decode cX0_copyFrom 73 = .ok (.return_, 1) := by decide +kernel
theorem dX1_init_0 : decode cX1_init 0 = .ok (.aload_n 0, 1) := by decide +kernel
theorem dX1_init_1 : decode cX1_init 1 = .ok (.invokespecial 1, 3) := by decide +kernel
theorem dX1_init_4 : decode cX1_init 4 = .ok (.return_, 1) := by decide +kernel
theorem dX1_start_0 : decode cX1_start 0 = .ok (.aload_n 0, 1) := by decide +kernel
theorem dX1_start_1 : decode cX1_start 1 = .ok (.iload_n 1, 1) := by decide +kernel
theorem dX1_start_2 : decode cX1_start 2 = .ok (.i2l, 1) := by decide +kernel
theorem dX1_start_3 : decode cX1_start 3 = .ok (.putfield 7, 3) := by decide +kernel
theorem dX1_start_6 : decode cX1_start 6 = .ok (.return_, 1) := by decide +kernel
theorem dX1_draw_0 : decode cX1_draw 0 = .ok (.aload_n 0, 1) := by decide +kernel
theorem dX1_draw_1 : decode cX1_draw 1 = .ok (.aload_n 0, 1) := by decide +kernel
theorem dX1_draw_2 : decode cX1_draw 2 = .ok (.getfield 7, 3) := by decide +kernel
theorem dX1_draw_5 : decode cX1_draw 5 = .ok (.ldc2_w 13, 3) := by decide +kernel
theorem dX1_draw_8 : decode cX1_draw 8 = .ok (.lmul, 1) := by decide +kernel
theorem dX1_draw_9 : decode cX1_draw 9 = .ok (.ldc2_w 15, 3) := by decide +kernel
theorem dX1_draw_12 : decode cX1_draw 12 = .ok (.ladd, 1) := by decide +kernel
theorem dX1_draw_13 : decode cX1_draw 13 = .ok (.ldc2_w 17, 3) := by decide +kernel
theorem dX1_draw_16 : decode cX1_draw 16 = .ok (.lrem, 1) := by decide +kernel
theorem dX1_draw_17 : decode cX1_draw 17 = .ok (.putfield 7, 3) := by decide +kernel
theorem dX1_draw_20 : decode cX1_draw 20 = .ok (.iload_n 1, 1) := by decide +kernel
theorem dX1_draw_21 : decode cX1_draw 21 = .ok (.iconst 1, 1) := by decide +kernel
theorem dX1_draw_22 : decode cX1_draw 22 = .ok (.if_icmp .ge 7, 3) := by decide +kernel
theorem dX1_draw_25 : decode cX1_draw 25 = .ok (.iconst 0, 1) := by decide +kernel
theorem dX1_draw_26 : decode cX1_draw 26 = .ok (.goto 15, 3) := by decide +kernel
theorem dX1_draw_29 : decode cX1_draw 29 = .ok (.aload_n 0, 1) := by decide +kernel
theorem dX1_draw_30 : decode cX1_draw 30 = .ok (.getfield 7, 3) := by decide +kernel
theorem dX1_draw_33 : decode cX1_draw 33 = .ok (.ldc2_w 19, 3) := by decide +kernel
theorem dX1_draw_36 : decode cX1_draw 36 = .ok (.ldiv, 1) := by decide +kernel
theorem dX1_draw_37 : decode cX1_draw 37 = .ok (.iload_n 1, 1) := by decide +kernel
theorem dX1_draw_38 : decode cX1_draw 38 = .ok (.i2l, 1) := by decide +kernel
theorem dX1_draw_39 : decode cX1_draw 39 = .ok (.lrem, 1) := by decide +kernel
theorem dX1_draw_40 : decode cX1_draw 40 = .ok (.l2i, 1) := by decide +kernel
theorem dX1_draw_41 : decode cX1_draw 41 = .ok (.ireturn, 1) := by decide +kernel
theorem dX2_init_0 : decode cX2_init 0 = .ok (.aload_n 0, 1) := by decide +kernel
theorem dX2_init_1 : decode cX2_init 1 = .ok (.invokespecial 3, 3) := by decide +kernel
theorem dX2_init_4 : decode cX2_init 4 = .ok (.aload_n 0, 1) := by decide +kernel
theorem dX2_init_5 : decode cX2_init 5 = .ok (.bipush 32, 2) := by decide +kernel
theorem dX2_init_7 : decode cX2_init 7 = .ok (.newarray .int, 2) := by decide +kernel
theorem dX2_init_9 : decode cX2_init 9 = .ok (.putfield 9, 3) := by decide +kernel
theorem dX2_init_12 : decode cX2_init 12 = .ok (.aload_n 0, 1) := by decide +kernel
theorem dX2_init_13 : decode cX2_init 13 = .ok (.bipush 32, 2) := by decide +kernel
theorem dX2_init_15 : decode cX2_init 15 = .ok (.newarray .int, 2) := by decide +kernel
theorem dX2_init_17 : decode cX2_init 17 = .ok (.putfield 15, 3) := by decide +kernel
theorem dX2_init_20 : decode cX2_init 20 = .ok (.aload_n 0, 1) := by decide +kernel
theorem dX2_init_21 : decode cX2_init 21 = .ok (.new 18, 3) := by decide +kernel
theorem dX2_init_24 : decode cX2_init 24 = .ok (.dup, 1) := by decide +kernel
theorem dX2_init_25 : decode cX2_init 25 = .ok (.invokespecial 20, 3) := by decide +kernel
theorem dX2_init_28 : decode cX2_init 28 = .ok (.putfield 21, 3) := by decide +kernel
theorem dX2_init_31 : decode cX2_init 31 = .ok (.aload_n 0, 1) := by decide +kernel
theorem dX2_init_32 : decode cX2_init 32 = .ok (.new 25, 3) := by decide +kernel
theorem dX2_init_35 : decode cX2_init 35 = .ok (.dup, 1) := by decide +kernel
theorem dX2_init_36 : decode cX2_init 36 = .ok (.invokespecial 27, 3) := by decide +kernel
theorem dX2_init_39 : decode cX2_init 39 = .ok (.putfield 28, 3) := by decide +kernel
theorem dX2_init_42 : decode cX2_init 42 = .ok (.aload_n 0, 1) := by decide +kernel
theorem dX2_init_43 : decode cX2_init 43 = .ok (.new 32, 3) := by decide +kernel
theorem dX2_init_46 : decode cX2_init 46 = .ok (.dup, 1) := by decide +kernel
theorem dX2_init_47 : decode cX2_init 47 = .ok (.invokespecial 34, 3) := by decide +kernel
theorem dX2_init_50 : decode cX2_init 50 = .ok (.putfield 35, 3) := by decide +kernel
theorem dX2_init_53 : decode cX2_init 53 = .ok (.aload_n 0, 1) := by decide +kernel
theorem dX2_init_54 : decode cX2_init 54 = .ok (.new 39, 3) := by decide +kernel
theorem dX2_init_57 : decode cX2_init 57 = .ok (.dup, 1) := by decide +kernel
theorem dX2_init_58 : decode cX2_init 58 = .ok (.invokespecial 41, 3) := by decide +kernel
theorem dX2_init_61 : decode cX2_init 61 = .ok (.putfield 42, 3) := by decide +kernel
theorem dX2_init_64 : decode cX2_init 64 = .ok (.aload_n 0, 1) := by decide +kernel
theorem dX2_init_65 : decode cX2_init 65 = .ok (.new 39, 3) := by decide +kernel
theorem dX2_init_68 : decode cX2_init 68 = .ok (.dup, 1) := by decide +kernel
theorem dX2_init_69 : decode cX2_init 69 = .ok (.invokespecial 41, 3) := by decide +kernel
theorem dX2_init_72 : decode cX2_init 72 = .ok (.putfield 46, 3) := by decide +kernel
theorem dX2_init_75 : decode cX2_init 75 = .ok (.aload_n 0, 1) := by decide +kernel
theorem dX2_init_76 : decode cX2_init 76 = .ok (.new 39, 3) := by decide +kernel
theorem dX2_init_79 : decode cX2_init 79 = .ok (.dup, 1) := by decide +kernel
theorem dX2_init_80 : decode cX2_init 80 = .ok (.invokespecial 41, 3) := by decide +kernel
theorem dX2_init_83 : decode cX2_init 83 = .ok (.putfield 49, 3) := by decide +kernel
theorem dX2_init_86 : decode cX2_init 86 = .ok (.aload_n 0, 1) := by decide +kernel
theorem dX2_init_87 : decode cX2_init 87 = .ok (.new 52, 3) := by decide +kernel
theorem dX2_init_90 : decode cX2_init 90 = .ok (.dup, 1) := by decide +kernel
theorem dX2_init_91 : decode cX2_init 91 = .ok (.invokespecial 54, 3) := by decide +kernel
theorem dX2_init_94 : decode cX2_init 94 = .ok (.putfield 55, 3) := by decide +kernel
theorem dX2_init_97 : decode cX2_init 97 = .ok (.return_, 1) := by decide +kernel
theorem dX2_clear_0 : decode cX2_clear 0 = .ok (.aload_n 0, 1) := by decide +kernel
theorem dX2_clear_1 : decode cX2_clear 1 = .ok (.iconst 0, 1) := by decide +kernel
theorem dX2_clear_2 : decode cX2_clear 2 = .ok (.putfield 59, 3) := by decide +kernel
theorem dX2_clear_5 : decode cX2_clear 5 = .ok (.aload_n 0, 1) := by decide +kernel
theorem dX2_clear_6 : decode cX2_clear 6 = .ok (.getfield 9, 3) := by decide +kernel
theorem dX2_clear_9 : decode cX2_clear 9 = .ok (.iconst 0, 1) := by decide +kernel
theorem dX2_clear_10 : decode cX2_clear 10 = .ok (.invokestatic 63, 3) := by decide +kernel
theorem dX2_clear_13 : decode cX2_clear 13 = .ok (.aload_n 0, 1) := by decide +kernel
theorem dX2_clear_14 : decode cX2_clear 14 = .ok (.getfield 15, 3) := by decide +kernel
theorem dX2_clear_17 : decode cX2_clear 17 = .ok (.iconst 0, 1) := by decide +kernel
theorem dX2_clear_18 : decode cX2_clear 18 = .ok (.invokestatic 63, 3) := by decide +kernel
theorem dX2_clear_21 : decode cX2_clear 21 = .ok (.aload_n 0, 1) := by decide +kernel
theorem dX2_clear_22 : decode cX2_clear 22 = .ok (.getfield 21, 3) := by decide +kernel
theorem dX2_clear_25 : decode cX2_clear 25 = .ok (.invokevirtual 69, 3) := by decide +kernel
theorem dX2_clear_28 : decode cX2_clear 28 = .ok (.aload_n 0, 1) := by decide +kernel
theorem dX2_clear_29 : decode cX2_clear 29 = .ok (.getfield 28, 3) := by decide +kernel
theorem dX2_clear_32 : decode cX2_clear 32 = .ok (.invokevirtual 72, 3) := by decide +kernel
theorem dX2_clear_35 : decode cX2_clear 35 = .ok (.aload_n 0, 1) := by decide +kernel
theorem dX2_clear_36 : decode cX2_clear 36 = .ok (.getfield 35, 3) := by decide +kernel
theorem dX2_clear_39 : decode cX2_clear 39 = .ok (.iconst 0, 1) := by decide +kernel
theorem dX2_clear_40 : decode cX2_clear 40 = .ok (.putfield 73, 3) := by decide +kernel
theorem dX2_clear_43 : decode cX2_clear 43 = .ok (.aload_n 0, 1) := by decide +kernel
theorem dX2_clear_44 : decode cX2_clear 44 = .ok (.getfield 42, 3) := by decide +kernel
theorem dX2_clear_47 : decode cX2_clear 47 = .ok (.iconst 0, 1) := by decide +kernel
theorem dX2_clear_48 : decode cX2_clear 48 = .ok (.putfield 76, 3) := by decide +kernel
theorem dX2_clear_51 : decode cX2_clear 51 = .ok (.aload_n 0, 1) := by decide +kernel
theorem dX2_clear_52 : decode cX2_clear 52 = .ok (.getfield 46, 3) := by decide +kernel
theorem dX2_clear_55 : decode cX2_clear 55 = .ok (.iconst 0, 1) := by decide +kernel
theorem dX2_clear_56 : decode cX2_clear 56 = .ok (.putfield 76, 3) := by decide +kernel
theorem dX2_clear_59 : decode cX2_clear 59 = .ok (.aload_n 0, 1) := by decide +kernel
theorem dX2_clear_60 : decode cX2_clear 60 = .ok (.getfield 49, 3) := by decide +kernel
theorem dX2_clear_63 : decode cX2_clear 63 = .ok (.iconst 0, 1) := by decide +kernel
theorem dX2_clear_64 : decode cX2_clear 64 = .ok (.putfield 76, 3) := by decide +kernel
theorem dX2_clear_67 : decode cX2_clear 67 = .ok (.return_, 1) := by decide +kernel
theorem dX2_copyFrom_0 : decode cX2_copyFrom 0 = .ok (.aload_n 0, 1) := by decide +kernel
theorem dX2_copyFrom_1 : decode cX2_copyFrom 1 = .ok (.aload_n 1, 1) := by decide +kernel
theorem dX2_copyFrom_2 : decode cX2_copyFrom 2 = .ok (.getfield 59, 3) := by decide +kernel
theorem dX2_copyFrom_5 : decode cX2_copyFrom 5 = .ok (.putfield 59, 3) := by decide +kernel
theorem dX2_copyFrom_8 : decode cX2_copyFrom 8 = .ok (.aload_n 1, 1) := by decide +kernel
theorem dX2_copyFrom_9 : decode cX2_copyFrom 9 = .ok (.getfield 9, 3) := by decide +kernel
theorem dX2_copyFrom_12 : decode cX2_copyFrom 12 = .ok (.aload_n 0, 1) := by decide +kernel
theorem dX2_copyFrom_13 : decode cX2_copyFrom 13 = .ok (.getfield 9, 3) := by decide +kernel
theorem dX2_copyFrom_16 : decode cX2_copyFrom 16 = .ok (.bipush 32, 2) := by decide +kernel
theorem dX2_copyFrom_18 : decode cX2_copyFrom 18 = .ok (.invokestatic 77, 3) := by decide +kernel
theorem dX2_copyFrom_21 : decode cX2_copyFrom 21 = .ok (.aload_n 1, 1) := by decide +kernel
theorem dX2_copyFrom_22 : decode cX2_copyFrom 22 = .ok (.getfield 15, 3) := by decide +kernel
theorem dX2_copyFrom_25 : decode cX2_copyFrom 25 = .ok (.aload_n 0, 1) := by decide +kernel
theorem dX2_copyFrom_26 : decode cX2_copyFrom 26 = .ok (.getfield 15, 3) := by decide +kernel
theorem dX2_copyFrom_29 : decode cX2_copyFrom 29 = .ok (.bipush 32, 2) := by decide +kernel
theorem dX2_copyFrom_31 : decode cX2_copyFrom 31 = .ok (.invokestatic 77, 3) := by decide +kernel
theorem dX2_copyFrom_34 : decode cX2_copyFrom 34 = .ok (.aload_n 0, 1) := by decide +kernel
theorem dX2_copyFrom_35 : decode cX2_copyFrom 35 = .ok (.getfield 21, 3) := by decide +kernel
theorem dX2_copyFrom_38 : decode cX2_copyFrom 38 = .ok (.aload_n 1, 1) := by decide +kernel
theorem dX2_copyFrom_39 : decode cX2_copyFrom 39 = .ok (.getfield 21, 3) := by decide +kernel
theorem dX2_copyFrom_42 : decode cX2_copyFrom 42 = .ok (.invokevirtual 81, 3) := by decide +kernel
theorem dX2_copyFrom_45 : decode cX2_copyFrom 45 = .ok (.aload_n 0, 1) := by decide +kernel
theorem dX2_copyFrom_46 : decode cX2_copyFrom 46 = .ok (.getfield 28, 3) := by decide +kernel
theorem dX2_copyFrom_49 : decode cX2_copyFrom 49 = .ok (.aload_n 1, 1) := by decide +kernel
theorem dX2_copyFrom_50 : decode cX2_copyFrom 50 = .ok (.getfield 28, 3) := by decide +kernel
theorem dX2_copyFrom_53 : decode cX2_copyFrom 53 = .ok (.invokevirtual 85, 3) := by decide +kernel
theorem dX2_copyFrom_56 : decode cX2_copyFrom 56 = .ok (.aload_n 0, 1) := by decide +kernel
theorem dX2_copyFrom_57 : decode cX2_copyFrom 57 = .ok (.getfield 35, 3) := by decide +kernel
theorem dX2_copyFrom_60 : decode cX2_copyFrom 60 = .ok (.aload_n 1, 1) := by decide +kernel
theorem dX2_copyFrom_61 : decode cX2_copyFrom 61 = .ok (.getfield 35, 3) := by decide +kernel
theorem dX2_copyFrom_64 : decode cX2_copyFrom 64 = .ok (.invokevirtual 88, 3) := by decide +kernel
theorem dX2_copyFrom_67 : decode cX2_copyFrom 67 = .ok (.aload_n 0, 1) := by decide +kernel
theorem dX2_copyFrom_68 : decode cX2_copyFrom 68 = .ok (.getfield 42, 3) := by decide +kernel
theorem dX2_copyFrom_71 : decode cX2_copyFrom 71 = .ok (.aload_n 1, 1) := by decide +kernel
theorem dX2_copyFrom_72 : decode cX2_copyFrom 72 = .ok (.getfield 42, 3) := by decide +kernel
theorem dX2_copyFrom_75 : decode cX2_copyFrom 75 = .ok (.invokevirtual 91, 3) := by decide +kernel
theorem dX2_copyFrom_78 : decode cX2_copyFrom 78 = .ok (.aload_n 0, 1) := by decide +kernel
theorem dX2_copyFrom_79 : decode cX2_copyFrom 79 = .ok (.getfield 46, 3) := by decide +kernel
theorem dX2_copyFrom_82 : decode cX2_copyFrom 82 = .ok (.aload_n 1, 1) := by decide +kernel
theorem dX2_copyFrom_83 : decode cX2_copyFrom 83 = .ok (.getfield 46, 3) := by decide +kernel
theorem dX2_copyFrom_86 : decode cX2_copyFrom 86 = .ok (.invokevirtual 91, 3) := by decide +kernel
theorem dX2_copyFrom_89 : decode cX2_copyFrom 89 = .ok (.aload_n 0, 1) := by decide +kernel
theorem dX2_copyFrom_90 : decode cX2_copyFrom 90 = .ok (.getfield 49, 3) := by decide +kernel
theorem dX2_copyFrom_93 : decode cX2_copyFrom 93 = .ok (.aload_n 1, 1) := by decide +kernel
theorem dX2_copyFrom_94 : decode cX2_copyFrom 94 = .ok (.getfield 49, 3) := by decide +kernel
theorem dX2_copyFrom_97 : decode cX2_copyFrom 97 = .ok (.invokevirtual 91, 3) := by decide +kernel
theorem dX2_copyFrom_100 : decode cX2_copyFrom 100 = .ok (.return_, 1) := by decide +kernel
theorem dX2_countKind_0 : decode cX2_countKind 0 = .ok (.iload_n 2, 1) := by decide +kernel
theorem dX2_countKind_1 : decode cX2_countKind 1 = .ok (.iconst 4, 1) := by decide +kernel
theorem dX2_countKind_2 : decode cX2_countKind 2 = .ok (.if_icmp .ne 15, 3) := by decide +kernel
theorem dX2_countKind_5 : decode cX2_countKind 5 = .ok (.aload_n 0, 1) := by decide +kernel
theorem dX2_countKind_6 : decode cX2_countKind 6 = .ok (.getfield 42, 3) := by decide +kernel
theorem dX2_countKind_9 : decode cX2_countKind 9 = .ok (.iconst 0, 1) := by decide +kernel
theorem dX2_countKind_10 : decode cX2_countKind 10 = .ok (.iload_n 1, 1) := by decide +kernel
theorem dX2_countKind_11 : decode cX2_countKind 11 = .ok (.invokevirtual 94, 3) := by decide +kernel
theorem dX2_countKind_14 : decode cX2_countKind 14 = .ok (.goto 12, 3) := by decide +kernel
theorem dX2_countKind_17 : decode cX2_countKind 17 = .ok (.aload_n 0, 1) := by decide +kernel
theorem dX2_countKind_18 : decode cX2_countKind 18 = .ok (.getfield 35, 3) := by decide +kernel
theorem dX2_countKind_21 : decode cX2_countKind 21 = .ok (.iload_n 1, 1) := by decide +kernel
theorem dX2_countKind_22 : decode cX2_countKind 22 = .ok (.iload_n 2, 1) := by decide +kernel
theorem dX2_countKind_23 : decode cX2_countKind 23 = .ok (.invokevirtual 98, 3) := by decide +kernel
theorem dX2_countKind_26 : decode cX2_countKind 26 = .ok (.ireturn, 1) := by decide +kernel
theorem dX2_expected_0 : decode cX2_expected 0 = .ok (.aload_n 0, 1) := by decide +kernel
theorem dX2_expected_1 : decode cX2_expected 1 = .ok (.getfield 35, 3) := by decide +kernel
theorem dX2_expected_4 : decode cX2_expected 4 = .ok (.iload_n 1, 1) := by decide +kernel
theorem dX2_expected_5 : decode cX2_expected 5 = .ok (.iload_n 2, 1) := by decide +kernel
theorem dX2_expected_6 : decode cX2_expected 6 = .ok (.invokevirtual 101, 3) := by decide +kernel
theorem dX2_expected_9 : decode cX2_expected 9 = .ok (.aload_n 0, 1) := by decide +kernel
theorem dX2_expected_10 : decode cX2_expected 10 = .ok (.getfield 46, 3) := by decide +kernel
theorem dX2_expected_13 : decode cX2_expected 13 = .ok (.iload_n 1, 1) := by decide +kernel
theorem dX2_expected_14 : decode cX2_expected 14 = .ok (.iload_n 2, 1) := by decide +kernel
theorem dX2_expected_15 : decode cX2_expected 15 = .ok (.invokevirtual 94, 3) := by decide +kernel
theorem dX2_expected_18 : decode cX2_expected 18 = .ok (.iadd, 1) := by decide +kernel
theorem dX2_expected_19 : decode cX2_expected 19 = .ok (.ireturn, 1) := by decide +kernel
theorem dX2_total_0 : decode cX2_total 0 = .ok (.iload_n 2, 1) := by decide +kernel
theorem dX2_total_1 : decode cX2_total 1 = .ok (.iconst (-1), 1) := by decide +kernel
theorem dX2_total_2 : decode cX2_total 2 = .ok (.if_icmp .ne 7, 3) := by decide +kernel
theorem dX2_total_5 : decode cX2_total 5 = .ok (.iconst 1, 1) := by decide +kernel
theorem dX2_total_6 : decode cX2_total 6 = .ok (.goto 4, 3) := by decide +kernel
theorem dX2_total_9 : decode cX2_total 9 = .ok (.iload_n 2, 1) := by decide +kernel
theorem dX2_total_10 : decode cX2_total 10 = .ok (.istore 4, 2) := by decide +kernel
theorem dX2_total_12 : decode cX2_total 12 = .ok (.iload_n 2, 1) := by decide +kernel
theorem dX2_total_13 : decode cX2_total 13 = .ok (.iconst (-1), 1) := by decide +kernel
theorem dX2_total_14 : decode cX2_total 14 = .ok (.if_icmp .ne 15, 3) := by decide +kernel
theorem dX2_total_17 : decode cX2_total 17 = .ok (.aload_n 0, 1) := by decide +kernel
theorem dX2_total_18 : decode cX2_total 18 = .ok (.getfield 21, 3) := by decide +kernel
theorem dX2_total_21 : decode cX2_total 21 = .ok (.getfield 104, 3) := by decide +kernel
theorem dX2_total_24 : decode cX2_total 24 = .ok (.iconst 1, 1) := by decide +kernel
theorem dX2_total_25 : decode cX2_total 25 = .ok (.isub, 1) := by decide +kernel
theorem dX2_total_26 : decode cX2_total 26 = .ok (.goto 4, 3) := by decide +kernel
theorem dX2_total_29 : decode cX2_total 29 = .ok (.iload_n 2, 1) := by decide +kernel
theorem dX2_total_30 : decode cX2_total 30 = .ok (.istore 5, 2) := by decide +kernel
theorem dX2_total_32 : decode cX2_total 32 = .ok (.iload_n 3, 1) := by decide +kernel
theorem dX2_total_33 : decode cX2_total 33 = .ok (.iconst (-1), 1) := by decide +kernel
theorem dX2_total_34 : decode cX2_total 34 = .ok (.if_icmp .ne 7, 3) := by decide +kernel
theorem dX2_total_37 : decode cX2_total 37 = .ok (.iconst 0, 1) := by decide +kernel
theorem dX2_total_38 : decode cX2_total 38 = .ok (.goto 4, 3) := by decide +kernel
theorem dX2_total_41 : decode cX2_total 41 = .ok (.iload_n 3, 1) := by decide +kernel
theorem dX2_total_42 : decode cX2_total 42 = .ok (.istore 6, 2) := by decide +kernel
theorem dX2_total_44 : decode cX2_total 44 = .ok (.iload_n 3, 1) := by decide +kernel
theorem dX2_total_45 : decode cX2_total 45 = .ok (.iconst (-1), 1) := by decide +kernel
theorem dX2_total_46 : decode cX2_total 46 = .ok (.if_icmp .ne 15, 3) := by decide +kernel
theorem dX2_total_49 : decode cX2_total 49 = .ok (.aload_n 0, 1) := by decide +kernel
theorem dX2_total_50 : decode cX2_total 50 = .ok (.getfield 21, 3) := by decide +kernel
theorem dX2_total_53 : decode cX2_total 53 = .ok (.getfield 107, 3) := by decide +kernel
theorem dX2_total_56 : decode cX2_total 56 = .ok (.iconst 1, 1) := by decide +kernel
theorem dX2_total_57 : decode cX2_total 57 = .ok (.isub, 1) := by decide +kernel
theorem dX2_total_58 : decode cX2_total 58 = .ok (.goto 4, 3) := by decide +kernel
theorem dX2_total_61 : decode cX2_total 61 = .ok (.iload_n 3, 1) := by decide +kernel
theorem dX2_total_62 : decode cX2_total 62 = .ok (.istore 7, 2) := by decide +kernel
theorem dX2_total_64 : decode cX2_total 64 = .ok (.iconst 0, 1) := by decide +kernel
theorem dX2_total_65 : decode cX2_total 65 = .ok (.istore 8, 2) := by decide +kernel
theorem dX2_total_67 : decode cX2_total 67 = .ok (.iload 4, 2) := by decide +kernel
theorem dX2_total_69 : decode cX2_total 69 = .ok (.istore 9, 2) := by decide +kernel
theorem dX2_total_71 : decode cX2_total 71 = .ok (.iload 9, 2) := by decide +kernel
theorem dX2_total_73 : decode cX2_total 73 = .ok (.iload 5, 2) := by decide +kernel
theorem dX2_total_75 : decode cX2_total 75 = .ok (.if_icmp .gt 40, 3) := by decide +kernel
theorem dX2_total_78 : decode cX2_total 78 = .ok (.iload 6, 2) := by decide +kernel
theorem dX2_total_80 : decode cX2_total 80 = .ok (.istore 10, 2) := by decide +kernel
theorem dX2_total_82 : decode cX2_total 82 = .ok (.iload 10, 2) := by decide +kernel
theorem dX2_total_84 : decode cX2_total 84 = .ok (.iload 7, 2) := by decide +kernel
theorem dX2_total_86 : decode cX2_total 86 = .ok (.if_icmp .gt 23, 3) := by decide +kernel
theorem dX2_total_89 : decode cX2_total 89 = .ok (.iload 8, 2) := by decide +kernel
theorem dX2_total_91 : decode cX2_total 91 = .ok (.aload_n 1, 1) := by decide +kernel
theorem dX2_total_92 : decode cX2_total 92 = .ok (.iload 9, 2) := by decide +kernel
theorem dX2_total_94 : decode cX2_total 94 = .ok (.iload 10, 2) := by decide +kernel
theorem dX2_total_96 : decode cX2_total 96 = .ok (.invokestatic 110, 3) := by decide +kernel
theorem dX2_total_99 : decode cX2_total 99 = .ok (.iaload, 1) := by decide +kernel
theorem dX2_total_100 : decode cX2_total 100 = .ok (.iadd, 1) := by decide +kernel
theorem dX2_total_101 : decode cX2_total 101 = .ok (.istore 8, 2) := by decide +kernel
theorem dX2_total_103 : decode cX2_total 103 = .ok (.iinc 10 1, 3) := by decide +kernel
theorem dX2_total_106 : decode cX2_total 106 = .ok (.goto (-24), 3) := by decide +kernel
theorem dX2_total_109 : decode cX2_total 109 = .ok (.iinc 9 1, 3) := by decide +kernel
theorem dX2_total_112 : decode cX2_total 112 = .ok (.goto (-41), 3) := by decide +kernel
theorem dX2_total_115 : decode cX2_total 115 = .ok (.iload 8, 2) := by decide +kernel
theorem dX2_total_117 : decode cX2_total 117 = .ok (.ireturn, 1) := by decide +kernel
theorem dX2_changeLevel_0 : decode cX2_changeLevel 0 = .ok (.iload_n 1, 1) := by decide +kernel
theorem dX2_changeLevel_1 : decode cX2_changeLevel 1 = .ok (.iload_n 2, 1) := by decide +kernel
theorem dX2_changeLevel_2 : decode cX2_changeLevel 2 = .ok (.invokestatic 110, 3) := by decide +kernel
theorem dX2_changeLevel_5 : decode cX2_changeLevel 5 = .ok (.istore 4, 2) := by decide +kernel
theorem dX2_changeLevel_7 : decode cX2_changeLevel 7 = .ok (.iload_n 3, 1) := by decide +kernel
theorem dX2_changeLevel_8 : decode cX2_changeLevel 8 = .ok (.aload_n 0, 1) := by decide +kernel
theorem dX2_changeLevel_9 : decode cX2_changeLevel 9 = .ok (.getfield 9, 3) := by decide +kernel
theorem dX2_changeLevel_12 : decode cX2_changeLevel 12 = .ok (.iload 4, 2) := by decide +kernel
theorem dX2_changeLevel_14 : decode cX2_changeLevel 14 = .ok (.iaload, 1) := by decide +kernel
theorem dX2_changeLevel_15 : decode cX2_changeLevel 15 = .ok (.isub, 1) := by decide +kernel
theorem dX2_changeLevel_16 : decode cX2_changeLevel 16 = .ok (.istore 5, 2) := by decide +kernel
theorem dX2_changeLevel_18 : decode cX2_changeLevel 18 = .ok (.aload_n 0, 1) := by decide +kernel
theorem dX2_changeLevel_19 : decode cX2_changeLevel 19 = .ok (.getfield 9, 3) := by decide +kernel
theorem dX2_changeLevel_22 : decode cX2_changeLevel 22 = .ok (.iload 4, 2) := by decide +kernel
theorem dX2_changeLevel_24 : decode cX2_changeLevel 24 = .ok (.iload_n 3, 1) := by decide +kernel
theorem dX2_changeLevel_25 : decode cX2_changeLevel 25 = .ok (.iastore, 1) := by decide +kernel
theorem dX2_changeLevel_26 : decode cX2_changeLevel 26 = .ok (.iload 5, 2) := by decide +kernel
theorem dX2_changeLevel_28 : decode cX2_changeLevel 28 = .ok (.ifCond .ge 15, 3) := by decide +kernel
theorem dX2_changeLevel_31 : decode cX2_changeLevel 31 = .ok (.aload_n 0, 1) := by decide +kernel
theorem dX2_changeLevel_32 : decode cX2_changeLevel 32 = .ok (.getfield 15, 3) := by decide +kernel
theorem dX2_changeLevel_35 : decode cX2_changeLevel 35 = .ok (.iload 4, 2) := by decide +kernel
theorem dX2_changeLevel_37 : decode cX2_changeLevel 37 = .ok (.dup2, 1) := by decide +kernel
theorem dX2_changeLevel_38 : decode cX2_changeLevel 38 = .ok (.iaload, 1) := by decide +kernel
theorem dX2_changeLevel_39 : decode cX2_changeLevel 39 = .ok (.iload 5, 2) := by decide +kernel
theorem dX2_changeLevel_41 : decode cX2_changeLevel 41 = .ok (.iadd, 1) := by decide +kernel
theorem dX2_changeLevel_42 : decode cX2_changeLevel 42 = .ok (.iastore, 1) := by decide +kernel
theorem dX2_changeLevel_43 : decode cX2_changeLevel 43 = .ok (.iconst 0, 1) := by decide +kernel
theorem dX2_changeLevel_44 : decode cX2_changeLevel 44 = .ok (.istore 6, 2) := by decide +kernel
theorem dX2_changeLevel_46 : decode cX2_changeLevel 46 = .ok (.iload 6, 2) := by decide +kernel
theorem dX2_changeLevel_48 : decode cX2_changeLevel 48 = .ok (.iload 5, 2) := by decide +kernel
theorem dX2_changeLevel_50 : decode cX2_changeLevel 50 = .ok (.if_icmp .ge 27, 3) := by decide +kernel
theorem dX2_changeLevel_53 : decode cX2_changeLevel 53 = .ok (.iload_n 1, 1) := by decide +kernel
theorem dX2_changeLevel_54 : decode cX2_changeLevel 54 = .ok (.ifCond .ne 11, 3) := by decide +kernel
theorem dX2_changeLevel_57 : decode cX2_changeLevel 57 = .ok (.aload_n 0, 1) := by decide +kernel
theorem dX2_changeLevel_58 : decode cX2_changeLevel 58 = .ok (.iload_n 2, 1) := by decide +kernel
theorem dX2_changeLevel_59 : decode cX2_changeLevel 59 = .ok (.invokevirtual 113, 3) := by decide +kernel
theorem dX2_changeLevel_62 : decode cX2_changeLevel 62 = .ok (.goto 9, 3) := by decide +kernel
theorem dX2_changeLevel_65 : decode cX2_changeLevel 65 = .ok (.aload_n 0, 1) := by decide +kernel
theorem dX2_changeLevel_66 : decode cX2_changeLevel 66 = .ok (.iload_n 1, 1) := by decide +kernel
theorem dX2_changeLevel_67 : decode cX2_changeLevel 67 = .ok (.iload_n 2, 1) := by decide +kernel
theorem dX2_changeLevel_68 : decode cX2_changeLevel 68 = .ok (.invokevirtual 117, 3) := by decide +kernel
theorem dX2_changeLevel_71 : decode cX2_changeLevel 71 = .ok (.iinc 6 1, 3) := by decide +kernel
theorem dX2_changeLevel_74 : decode cX2_changeLevel 74 = .ok (.goto (-28), 3) := by decide +kernel
theorem dX2_changeLevel_77 : decode cX2_changeLevel 77 = .ok (.return_, 1) := by decide +kernel
theorem dX2_refuses_0 : decode cX2_refuses 0 = .ok (.aload_n 0, 1) := by decide +kernel
theorem dX2_refuses_1 : decode cX2_refuses 1 = .ok (.getfield 35, 3) := by decide +kernel
theorem dX2_refuses_4 : decode cX2_refuses 4 = .ok (.getfield 73, 3) := by decide +kernel
theorem dX2_refuses_7 : decode cX2_refuses 7 = .ok (.aload_n 0, 1) := by decide +kernel
theorem dX2_refuses_8 : decode cX2_refuses 8 = .ok (.getfield 42, 3) := by decide +kernel
theorem dX2_refuses_11 : decode cX2_refuses 11 = .ok (.getfield 76, 3) := by decide +kernel
theorem dX2_refuses_14 : decode cX2_refuses 14 = .ok (.iadd, 1) := by decide +kernel
theorem dX2_refuses_15 : decode cX2_refuses 15 = .ok (.sipush 200, 3) := by decide +kernel
theorem dX2_refuses_18 : decode cX2_refuses 18 = .ok (.if_icmp .ge 15, 3) := by decide +kernel
theorem dX2_refuses_21 : decode cX2_refuses 21 = .ok (.aload_n 0, 1) := by decide +kernel
theorem dX2_refuses_22 : decode cX2_refuses 22 = .ok (.getfield 49, 3) := by decide +kernel
theorem dX2_refuses_25 : decode cX2_refuses 25 = .ok (.getfield 76, 3) := by decide +kernel
theorem dX2_refuses_28 : decode cX2_refuses 28 = .ok (.bipush 100, 2) := by decide +kernel
theorem dX2_refuses_30 : decode cX2_refuses 30 = .ok (.if_icmp .lt 7, 3) := by decide +kernel
theorem dX2_refuses_33 : decode cX2_refuses 33 = .ok (.iconst 1, 1) := by decide +kernel
theorem dX2_refuses_34 : decode cX2_refuses 34 = .ok (.goto 4, 3) := by decide +kernel
theorem dX2_refuses_37 : decode cX2_refuses 37 = .ok (.iconst 0, 1) := by decide +kernel
theorem dX2_refuses_38 : decode cX2_refuses 38 = .ok (.ireturn, 1) := by decide +kernel
theorem dX2_occur_0 : decode cX2_occur 0 = .ok (.iload_n 1, 1) := by decide +kernel
theorem dX2_occur_1 : decode cX2_occur 1 = .ok (.iload_n 2, 1) := by decide +kernel
theorem dX2_occur_2 : decode cX2_occur 2 = .ok (.invokestatic 110, 3) := by decide +kernel
theorem dX2_occur_5 : decode cX2_occur 5 = .ok (.istore 4, 2) := by decide +kernel
theorem dX2_occur_7 : decode cX2_occur 7 = .ok (.aload_n 0, 1) := by decide +kernel
theorem dX2_occur_8 : decode cX2_occur 8 = .ok (.getfield 28, 3) := by decide +kernel
theorem dX2_occur_11 : decode cX2_occur 11 = .ok (.getfield 121, 3) := by decide +kernel
theorem dX2_occur_14 : decode cX2_occur 14 = .ok (.iload 4, 2) := by decide +kernel
theorem dX2_occur_16 : decode cX2_occur 16 = .ok (.dup2, 1) := by decide +kernel
theorem dX2_occur_17 : decode cX2_occur 17 = .ok (.iaload, 1) := by decide +kernel
theorem dX2_occur_18 : decode cX2_occur 18 = .ok (.iconst 1, 1) := by decide +kernel
theorem dX2_occur_19 : decode cX2_occur 19 = .ok (.iadd, 1) := by decide +kernel
theorem dX2_occur_20 : decode cX2_occur 20 = .ok (.iastore, 1) := by decide +kernel
theorem dX2_occur_21 : decode cX2_occur 21 = .ok (.aload_n 0, 1) := by decide +kernel
theorem dX2_occur_22 : decode cX2_occur 22 = .ok (.getfield 28, 3) := by decide +kernel
theorem dX2_occur_25 : decode cX2_occur 25 = .ok (.getfield 121, 3) := by decide +kernel
theorem dX2_occur_28 : decode cX2_occur 28 = .ok (.iload 4, 2) := by decide +kernel
theorem dX2_occur_30 : decode cX2_occur 30 = .ok (.iaload, 1) := by decide +kernel
theorem dX2_occur_31 : decode cX2_occur 31 = .ok (.aload_n 0, 1) := by decide +kernel
theorem dX2_occur_32 : decode cX2_occur 32 = .ok (.getfield 21, 3) := by decide +kernel
theorem dX2_occur_35 : decode cX2_occur 35 = .ok (.getfield 124, 3) := by decide +kernel
theorem dX2_occur_38 : decode cX2_occur 38 = .ok (.iload 4, 2) := by decide +kernel
theorem dX2_occur_40 : decode cX2_occur 40 = .ok (.iaload, 1) := by decide +kernel
theorem dX2_occur_41 : decode cX2_occur 41 = .ok (.invokestatic 127, 3) := by decide +kernel
theorem dX2_occur_44 : decode cX2_occur 44 = .ok (.istore 5, 2) := by decide +kernel
theorem dX2_occur_46 : decode cX2_occur 46 = .ok (.aload_n 0, 1) := by decide +kernel
theorem dX2_occur_47 : decode cX2_occur 47 = .ok (.getfield 15, 3) := by decide +kernel
theorem dX2_occur_50 : decode cX2_occur 50 = .ok (.iload 4, 2) := by decide +kernel
theorem dX2_occur_52 : decode cX2_occur 52 = .ok (.iaload, 1) := by decide +kernel
theorem dX2_occur_53 : decode cX2_occur 53 = .ok (.ifCond .le 7, 3) := by decide +kernel
theorem dX2_occur_56 : decode cX2_occur 56 = .ok (.iconst 1, 1) := by decide +kernel
theorem dX2_occur_57 : decode cX2_occur 57 = .ok (.goto 4, 3) := by decide +kernel
theorem dX2_occur_60 : decode cX2_occur 60 = .ok (.iconst 0, 1) := by decide +kernel
theorem dX2_occur_61 : decode cX2_occur 61 = .ok (.istore 6, 2) := by decide +kernel
theorem dX2_occur_63 : decode cX2_occur 63 = .ok (.iload_n 1, 1) := by decide +kernel
theorem dX2_occur_64 : decode cX2_occur 64 = .ok (.istore 7, 2) := by decide +kernel
theorem dX2_occur_66 : decode cX2_occur 66 = .ok (.iload 6, 2) := by decide +kernel
theorem dX2_occur_68 : decode cX2_occur 68 = .ok (.ifCond .eq 31, 3) := by decide +kernel
theorem dX2_occur_71 : decode cX2_occur 71 = .ok (.aload_n 0, 1) := by decide +kernel
theorem dX2_occur_72 : decode cX2_occur 72 = .ok (.getfield 15, 3) := by decide +kernel
theorem dX2_occur_75 : decode cX2_occur 75 = .ok (.iload 4, 2) := by decide +kernel
theorem dX2_occur_77 : decode cX2_occur 77 = .ok (.dup2, 1) := by decide +kernel
theorem dX2_occur_78 : decode cX2_occur 78 = .ok (.iaload, 1) := by decide +kernel
theorem dX2_occur_79 : decode cX2_occur 79 = .ok (.iconst 1, 1) := by decide +kernel
theorem dX2_occur_80 : decode cX2_occur 80 = .ok (.isub, 1) := by decide +kernel
theorem dX2_occur_81 : decode cX2_occur 81 = .ok (.iastore, 1) := by decide +kernel
theorem dX2_occur_82 : decode cX2_occur 82 = .ok (.aload_n 0, 1) := by decide +kernel
theorem dX2_occur_83 : decode cX2_occur 83 = .ok (.getfield 28, 3) := by decide +kernel
theorem dX2_occur_86 : decode cX2_occur 86 = .ok (.getfield 131, 3) := by decide +kernel
theorem dX2_occur_89 : decode cX2_occur 89 = .ok (.iload 4, 2) := by decide +kernel
theorem dX2_occur_91 : decode cX2_occur 91 = .ok (.dup2, 1) := by decide +kernel
theorem dX2_occur_92 : decode cX2_occur 92 = .ok (.iaload, 1) := by decide +kernel
theorem dX2_occur_93 : decode cX2_occur 93 = .ok (.iconst 1, 1) := by decide +kernel
theorem dX2_occur_94 : decode cX2_occur 94 = .ok (.iadd, 1) := by decide +kernel
theorem dX2_occur_95 : decode cX2_occur 95 = .ok (.iastore, 1) := by decide +kernel
theorem dX2_occur_96 : decode cX2_occur 96 = .ok (.goto 43, 3) := by decide +kernel
theorem dX2_occur_99 : decode cX2_occur 99 = .ok (.aload_n 0, 1) := by decide +kernel
theorem dX2_occur_100 : decode cX2_occur 100 = .ok (.getfield 49, 3) := by decide +kernel
theorem dX2_occur_103 : decode cX2_occur 103 = .ok (.iload_n 1, 1) := by decide +kernel
theorem dX2_occur_104 : decode cX2_occur 104 = .ok (.iload_n 2, 1) := by decide +kernel
theorem dX2_occur_105 : decode cX2_occur 105 = .ok (.iload_n 3, 1) := by decide +kernel
theorem dX2_occur_106 : decode cX2_occur 106 = .ok (.aload_n 0, 1) := by decide +kernel
theorem dX2_occur_107 : decode cX2_occur 107 = .ok (.getfield 59, 3) := by decide +kernel
theorem dX2_occur_110 : decode cX2_occur 110 = .ok (.invokevirtual 134, 3) := by decide +kernel
theorem dX2_occur_113 : decode cX2_occur 113 = .ok (.aload_n 0, 1) := by decide +kernel
theorem dX2_occur_114 : decode cX2_occur 114 = .ok (.iload_n 1, 1) := by decide +kernel
theorem dX2_occur_115 : decode cX2_occur 115 = .ok (.iload_n 2, 1) := by decide +kernel
theorem dX2_occur_116 : decode cX2_occur 116 = .ok (.invokevirtual 138, 3) := by decide +kernel
theorem dX2_occur_119 : decode cX2_occur 119 = .ok (.istore 8, 2) := by decide +kernel
theorem dX2_occur_121 : decode cX2_occur 121 = .ok (.iload 8, 2) := by decide +kernel
theorem dX2_occur_123 : decode cX2_occur 123 = .ok (.iconst (-1), 1) := by decide +kernel
theorem dX2_occur_124 : decode cX2_occur 124 = .ok (.if_icmp .eq 15, 3) := by decide +kernel
theorem dX2_occur_127 : decode cX2_occur 127 = .ok (.aload_n 0, 1) := by decide +kernel
theorem dX2_occur_128 : decode cX2_occur 128 = .ok (.iload 8, 2) := by decide +kernel
theorem dX2_occur_130 : decode cX2_occur 130 = .ok (.iload_n 1, 1) := by decide +kernel
theorem dX2_occur_131 : decode cX2_occur 131 = .ok (.iload_n 2, 1) := by decide +kernel
theorem dX2_occur_132 : decode cX2_occur 132 = .ok (.invokevirtual 141, 3) := by decide +kernel
theorem dX2_occur_135 : decode cX2_occur 135 = .ok (.iload 8, 2) := by decide +kernel
theorem dX2_occur_137 : decode cX2_occur 137 = .ok (.istore 7, 2) := by decide +kernel
theorem dX2_occur_139 : decode cX2_occur 139 = .ok (.iload 5, 2) := by decide +kernel
theorem dX2_occur_141 : decode cX2_occur 141 = .ok (.ifCond .eq 42, 3) := by decide +kernel
theorem dX2_occur_144 : decode cX2_occur 144 = .ok (.aload_n 0, 1) := by decide +kernel
theorem dX2_occur_145 : decode cX2_occur 145 = .ok (.getfield 35, 3) := by decide +kernel
theorem dX2_occur_148 : decode cX2_occur 148 = .ok (.aload_n 0, 1) := by decide +kernel
theorem dX2_occur_149 : decode cX2_occur 149 = .ok (.getfield 59, 3) := by decide +kernel
theorem dX2_occur_152 : decode cX2_occur 152 = .ok (.aload_n 0, 1) := by decide +kernel
theorem dX2_occur_153 : decode cX2_occur 153 = .ok (.getfield 21, 3) := by decide +kernel
theorem dX2_occur_156 : decode cX2_occur 156 = .ok (.getfield 145, 3) := by decide +kernel
theorem dX2_occur_159 : decode cX2_occur 159 = .ok (.iload_n 2, 1) := by decide +kernel
theorem dX2_occur_160 : decode cX2_occur 160 = .ok (.iaload, 1) := by decide +kernel
theorem dX2_occur_161 : decode cX2_occur 161 = .ok (.iadd, 1) := by decide +kernel
theorem dX2_occur_162 : decode cX2_occur 162 = .ok (.iconst 1, 1) := by decide +kernel
theorem dX2_occur_163 : decode cX2_occur 163 = .ok (.iload_n 2, 1) := by decide +kernel
theorem dX2_occur_164 : decode cX2_occur 164 = .ok (.iload_n 1, 1) := by decide +kernel
theorem dX2_occur_165 : decode cX2_occur 165 = .ok (.iload 7, 2) := by decide +kernel
theorem dX2_occur_167 : decode cX2_occur 167 = .ok (.aload_n 0, 1) := by decide +kernel
theorem dX2_occur_168 : decode cX2_occur 168 = .ok (.getfield 21, 3) := by decide +kernel
theorem dX2_occur_171 : decode cX2_occur 171 = .ok (.iload_n 1, 1) := by decide +kernel
theorem dX2_occur_172 : decode cX2_occur 172 = .ok (.iload 7, 2) := by decide +kernel
theorem dX2_occur_174 : decode cX2_occur 174 = .ok (.invokevirtual 148, 3) := by decide +kernel
theorem dX2_occur_177 : decode cX2_occur 177 = .ok (.invokevirtual 151, 3) := by decide +kernel
theorem dX2_occur_180 : decode cX2_occur 180 = .ok (.goto 37, 3) := by decide +kernel
theorem dX2_occur_183 : decode cX2_occur 183 = .ok (.aload_n 0, 1) := by decide +kernel
theorem dX2_occur_184 : decode cX2_occur 184 = .ok (.getfield 35, 3) := by decide +kernel
theorem dX2_occur_187 : decode cX2_occur 187 = .ok (.aload_n 0, 1) := by decide +kernel
theorem dX2_occur_188 : decode cX2_occur 188 = .ok (.getfield 59, 3) := by decide +kernel
theorem dX2_occur_191 : decode cX2_occur 191 = .ok (.aload_n 0, 1) := by decide +kernel
theorem dX2_occur_192 : decode cX2_occur 192 = .ok (.getfield 21, 3) := by decide +kernel
theorem dX2_occur_195 : decode cX2_occur 195 = .ok (.getfield 154, 3) := by decide +kernel
theorem dX2_occur_198 : decode cX2_occur 198 = .ok (.iload_n 1, 1) := by decide +kernel
theorem dX2_occur_199 : decode cX2_occur 199 = .ok (.iaload, 1) := by decide +kernel
theorem dX2_occur_200 : decode cX2_occur 200 = .ok (.iadd, 1) := by decide +kernel
theorem dX2_occur_201 : decode cX2_occur 201 = .ok (.iconst 0, 1) := by decide +kernel
theorem dX2_occur_202 : decode cX2_occur 202 = .ok (.iload_n 2, 1) := by decide +kernel
theorem dX2_occur_203 : decode cX2_occur 203 = .ok (.iconst 0, 1) := by decide +kernel
theorem dX2_occur_204 : decode cX2_occur 204 = .ok (.iconst 0, 1) := by decide +kernel
theorem dX2_occur_205 : decode cX2_occur 205 = .ok (.iconst 0, 1) := by decide +kernel
theorem dX2_occur_206 : decode cX2_occur 206 = .ok (.invokevirtual 151, 3) := by decide +kernel
theorem dX2_occur_209 : decode cX2_occur 209 = .ok (.aload_n 0, 1) := by decide +kernel
theorem dX2_occur_210 : decode cX2_occur 210 = .ok (.iload 7, 2) := by decide +kernel
theorem dX2_occur_212 : decode cX2_occur 212 = .ok (.iload_n 2, 1) := by decide +kernel
theorem dX2_occur_213 : decode cX2_occur 213 = .ok (.iload_n 3, 1) := by decide +kernel
theorem dX2_occur_214 : decode cX2_occur 214 = .ok (.invokevirtual 157, 3) := by decide +kernel
theorem dX2_occur_217 : decode cX2_occur 217 = .ok (.iload 6, 2) := by decide +kernel
theorem dX2_occur_219 : decode cX2_occur 219 = .ok (.ireturn, 1) := by decide +kernel
theorem dX2_isRepairedLocally_0 : decode cX2_isRepairedLocally 0 = .ok (.iload_n 0, 1) := by decide +kernel
theorem dX2_isRepairedLocally_1 : decode cX2_isRepairedLocally 1 = .ok (.iload_n 1, 1) := by decide +kernel
theorem dX2_isRepairedLocally_2 : decode cX2_isRepairedLocally 2 = .ok (.imul, 1) := by decide +kernel
theorem dX2_isRepairedLocally_3 : decode cX2_isRepairedLocally 3 = .ok (.bipush 10, 2) := by decide +kernel
theorem dX2_isRepairedLocally_5 : decode cX2_isRepairedLocally 5 = .ok (.idiv, 1) := by decide +kernel
theorem dX2_isRepairedLocally_6 : decode cX2_isRepairedLocally 6 = .ok (.iload_n 0, 1) := by decide +kernel
theorem dX2_isRepairedLocally_7 : decode cX2_isRepairedLocally 7 = .ok (.iconst 1, 1) := by decide +kernel
theorem dX2_isRepairedLocally_8 : decode cX2_isRepairedLocally 8 = .ok (.isub, 1) := by decide +kernel
theorem dX2_isRepairedLocally_9 : decode cX2_isRepairedLocally 9 = .ok (.iload_n 1, 1) := by decide +kernel
theorem dX2_isRepairedLocally_10 : decode cX2_isRepairedLocally 10 = .ok (.imul, 1) := by decide +kernel
theorem dX2_isRepairedLocally_11 : decode cX2_isRepairedLocally 11 = .ok (.bipush 10, 2) := by decide +kernel
theorem dX2_isRepairedLocally_13 : decode cX2_isRepairedLocally 13 = .ok (.idiv, 1) := by decide +kernel
theorem dX2_isRepairedLocally_14 : decode cX2_isRepairedLocally 14 = .ok (.if_icmp .le 7, 3) := by decide +kernel
theorem dX2_isRepairedLocally_17 : decode cX2_isRepairedLocally 17 = .ok (.iconst 1, 1) := by decide +kernel
theorem dX2_isRepairedLocally_18 : decode cX2_isRepairedLocally 18 = .ok (.goto 4, 3) := by decide +kernel
theorem dX2_isRepairedLocally_21 : decode cX2_isRepairedLocally 21 = .ok (.iconst 0, 1) := by decide +kernel
theorem dX2_isRepairedLocally_22 : decode cX2_isRepairedLocally 22 = .ok (.ireturn, 1) := by decide +kernel
theorem dX2_sendHelp_0 : decode cX2_sendHelp 0 = .ok (.aload_n 0, 1) := by decide +kernel
theorem dX2_sendHelp_1 : decode cX2_sendHelp 1 = .ok (.getfield 15, 3) := by decide +kernel
theorem dX2_sendHelp_4 : decode cX2_sendHelp 4 = .ok (.iload_n 1, 1) := by decide +kernel
theorem dX2_sendHelp_5 : decode cX2_sendHelp 5 = .ok (.iload_n 3, 1) := by decide +kernel
theorem dX2_sendHelp_6 : decode cX2_sendHelp 6 = .ok (.invokestatic 110, 3) := by decide +kernel
theorem dX2_sendHelp_9 : decode cX2_sendHelp 9 = .ok (.dup2, 1) := by decide +kernel
theorem dX2_sendHelp_10 : decode cX2_sendHelp 10 = .ok (.iaload, 1) := by decide +kernel
theorem dX2_sendHelp_11 : decode cX2_sendHelp 11 = .ok (.iconst 1, 1) := by decide +kernel
theorem dX2_sendHelp_12 : decode cX2_sendHelp 12 = .ok (.isub, 1) := by decide +kernel
theorem dX2_sendHelp_13 : decode cX2_sendHelp 13 = .ok (.iastore, 1) := by decide +kernel
theorem dX2_sendHelp_14 : decode cX2_sendHelp 14 = .ok (.aload_n 0, 1) := by decide +kernel
theorem dX2_sendHelp_15 : decode cX2_sendHelp 15 = .ok (.getfield 28, 3) := by decide +kernel
theorem dX2_sendHelp_18 : decode cX2_sendHelp 18 = .ok (.getfield 160, 3) := by decide +kernel
theorem dX2_sendHelp_21 : decode cX2_sendHelp 21 = .ok (.iload_n 1, 1) := by decide +kernel
theorem dX2_sendHelp_22 : decode cX2_sendHelp 22 = .ok (.iload_n 3, 1) := by decide +kernel
theorem dX2_sendHelp_23 : decode cX2_sendHelp 23 = .ok (.invokestatic 110, 3) := by decide +kernel
theorem dX2_sendHelp_26 : decode cX2_sendHelp 26 = .ok (.dup2, 1) := by decide +kernel
theorem dX2_sendHelp_27 : decode cX2_sendHelp 27 = .ok (.iaload, 1) := by decide +kernel
theorem dX2_sendHelp_28 : decode cX2_sendHelp 28 = .ok (.iconst 1, 1) := by decide +kernel
theorem dX2_sendHelp_29 : decode cX2_sendHelp 29 = .ok (.iadd, 1) := by decide +kernel
theorem dX2_sendHelp_30 : decode cX2_sendHelp 30 = .ok (.iastore, 1) := by decide +kernel
theorem dX2_sendHelp_31 : decode cX2_sendHelp 31 = .ok (.aload_n 0, 1) := by decide +kernel
theorem dX2_sendHelp_32 : decode cX2_sendHelp 32 = .ok (.getfield 35, 3) := by decide +kernel
theorem dX2_sendHelp_35 : decode cX2_sendHelp 35 = .ok (.aload_n 0, 1) := by decide +kernel
theorem dX2_sendHelp_36 : decode cX2_sendHelp 36 = .ok (.getfield 59, 3) := by decide +kernel
theorem dX2_sendHelp_39 : decode cX2_sendHelp 39 = .ok (.aload_n 0, 1) := by decide +kernel
theorem dX2_sendHelp_40 : decode cX2_sendHelp 40 = .ok (.getfield 21, 3) := by decide +kernel
theorem dX2_sendHelp_43 : decode cX2_sendHelp 43 = .ok (.iload_n 2, 1) := by decide +kernel
theorem dX2_sendHelp_44 : decode cX2_sendHelp 44 = .ok (.iload_n 1, 1) := by decide +kernel
theorem dX2_sendHelp_45 : decode cX2_sendHelp 45 = .ok (.invokevirtual 148, 3) := by decide +kernel
theorem dX2_sendHelp_48 : decode cX2_sendHelp 48 = .ok (.iadd, 1) := by decide +kernel
theorem dX2_sendHelp_49 : decode cX2_sendHelp 49 = .ok (.iconst 3, 1) := by decide +kernel
theorem dX2_sendHelp_50 : decode cX2_sendHelp 50 = .ok (.iload_n 3, 1) := by decide +kernel
theorem dX2_sendHelp_51 : decode cX2_sendHelp 51 = .ok (.iload_n 2, 1) := by decide +kernel
theorem dX2_sendHelp_52 : decode cX2_sendHelp 52 = .ok (.iload_n 2, 1) := by decide +kernel
theorem dX2_sendHelp_53 : decode cX2_sendHelp 53 = .ok (.iconst 0, 1) := by decide +kernel
theorem dX2_sendHelp_54 : decode cX2_sendHelp 54 = .ok (.invokevirtual 151, 3) := by decide +kernel
theorem dX2_sendHelp_57 : decode cX2_sendHelp 57 = .ok (.return_, 1) := by decide +kernel
theorem dX2_findHelper_0 : decode cX2_findHelper 0 = .ok (.iconst (-1), 1) := by decide +kernel
theorem dX2_findHelper_1 : decode cX2_findHelper 1 = .ok (.istore_n 3, 1) := by decide +kernel
theorem dX2_findHelper_2 : decode cX2_findHelper 2 = .ok (.iconst 1, 1) := by decide +kernel
theorem dX2_findHelper_3 : decode cX2_findHelper 3 = .ok (.istore 4, 2) := by decide +kernel
theorem dX2_findHelper_5 : decode cX2_findHelper 5 = .ok (.iload 4, 2) := by decide +kernel
theorem dX2_findHelper_7 : decode cX2_findHelper 7 = .ok (.aload_n 0, 1) := by decide +kernel
theorem dX2_findHelper_8 : decode cX2_findHelper 8 = .ok (.getfield 21, 3) := by decide +kernel
theorem dX2_findHelper_11 : decode cX2_findHelper 11 = .ok (.getfield 104, 3) := by decide +kernel
theorem dX2_findHelper_14 : decode cX2_findHelper 14 = .ok (.if_icmp .ge 40, 3) := by decide +kernel
theorem dX2_findHelper_17 : decode cX2_findHelper 17 = .ok (.aload_n 0, 1) := by decide +kernel
theorem dX2_findHelper_18 : decode cX2_findHelper 18 = .ok (.iload 4, 2) := by decide +kernel
theorem dX2_findHelper_20 : decode cX2_findHelper 20 = .ok (.iload_n 1, 1) := by decide +kernel
theorem dX2_findHelper_21 : decode cX2_findHelper 21 = .ok (.iload_n 2, 1) := by decide +kernel
theorem dX2_findHelper_22 : decode cX2_findHelper 22 = .ok (.invokevirtual 163, 3) := by decide +kernel
theorem dX2_findHelper_25 : decode cX2_findHelper 25 = .ok (.ifCond .eq 23, 3) := by decide +kernel
theorem dX2_findHelper_28 : decode cX2_findHelper 28 = .ok (.iload_n 3, 1) := by decide +kernel
theorem dX2_findHelper_29 : decode cX2_findHelper 29 = .ok (.iconst (-1), 1) := by decide +kernel
theorem dX2_findHelper_30 : decode cX2_findHelper 30 = .ok (.if_icmp .eq 15, 3) := by decide +kernel
theorem dX2_findHelper_33 : decode cX2_findHelper 33 = .ok (.aload_n 0, 1) := by decide +kernel
theorem dX2_findHelper_34 : decode cX2_findHelper 34 = .ok (.iload 4, 2) := by decide +kernel
theorem dX2_findHelper_36 : decode cX2_findHelper 36 = .ok (.iload_n 3, 1) := by decide +kernel
theorem dX2_findHelper_37 : decode cX2_findHelper 37 = .ok (.iload_n 1, 1) := by decide +kernel
theorem dX2_findHelper_38 : decode cX2_findHelper 38 = .ok (.iload_n 2, 1) := by decide +kernel
theorem dX2_findHelper_39 : decode cX2_findHelper 39 = .ok (.invokevirtual 167, 3) := by decide +kernel
theorem dX2_findHelper_42 : decode cX2_findHelper 42 = .ok (.ifCond .eq 6, 3) := by decide +kernel
theorem dX2_findHelper_45 : decode cX2_findHelper 45 = .ok (.iload 4, 2) := by decide +kernel
theorem dX2_findHelper_47 : decode cX2_findHelper 47 = .ok (.istore_n 3, 1) := by decide +kernel
theorem dX2_findHelper_48 : decode cX2_findHelper 48 = .ok (.iinc 4 1, 3) := by decide +kernel
theorem dX2_findHelper_51 : decode cX2_findHelper 51 = .ok (.goto (-46), 3) := by decide +kernel
theorem dX2_findHelper_54 : decode cX2_findHelper 54 = .ok (.iload_n 3, 1) := by decide +kernel
theorem dX2_findHelper_55 : decode cX2_findHelper 55 = .ok (.ireturn, 1) := by decide +kernel
theorem dX2_canHelp_0 : decode cX2_canHelp 0 = .ok (.aload_n 0, 1) := by decide +kernel
theorem dX2_canHelp_1 : decode cX2_canHelp 1 = .ok (.getfield 21, 3) := by decide +kernel
theorem dX2_canHelp_4 : decode cX2_canHelp 4 = .ok (.iload_n 2, 1) := by decide +kernel
theorem dX2_canHelp_5 : decode cX2_canHelp 5 = .ok (.iload_n 1, 1) := by decide +kernel
theorem dX2_canHelp_6 : decode cX2_canHelp 6 = .ok (.invokevirtual 148, 3) := by decide +kernel
theorem dX2_canHelp_9 : decode cX2_canHelp 9 = .ok (.istore 4, 2) := by decide +kernel
theorem dX2_canHelp_11 : decode cX2_canHelp 11 = .ok (.iload_n 1, 1) := by decide +kernel
theorem dX2_canHelp_12 : decode cX2_canHelp 12 = .ok (.iload_n 3, 1) := by decide +kernel
theorem dX2_canHelp_13 : decode cX2_canHelp 13 = .ok (.invokestatic 110, 3) := by decide +kernel
theorem dX2_canHelp_16 : decode cX2_canHelp 16 = .ok (.istore 5, 2) := by decide +kernel
theorem dX2_canHelp_18 : decode cX2_canHelp 18 = .ok (.iload 4, 2) := by decide +kernel
theorem dX2_canHelp_20 : decode cX2_canHelp 20 = .ok (.ifCond .le 39, 3) := by decide +kernel
theorem dX2_canHelp_23 : decode cX2_canHelp 23 = .ok (.iload 4, 2) := by decide +kernel
theorem dX2_canHelp_25 : decode cX2_canHelp 25 = .ok (.aload_n 0, 1) := by decide +kernel
theorem dX2_canHelp_26 : decode cX2_canHelp 26 = .ok (.getfield 21, 3) := by decide +kernel
theorem dX2_canHelp_29 : decode cX2_canHelp 29 = .ok (.getfield 171, 3) := by decide +kernel
theorem dX2_canHelp_32 : decode cX2_canHelp 32 = .ok (.if_icmp .gt 27, 3) := by decide +kernel
theorem dX2_canHelp_35 : decode cX2_canHelp 35 = .ok (.aload_n 0, 1) := by decide +kernel
theorem dX2_canHelp_36 : decode cX2_canHelp 36 = .ok (.getfield 15, 3) := by decide +kernel
theorem dX2_canHelp_39 : decode cX2_canHelp 39 = .ok (.iload 5, 2) := by decide +kernel
theorem dX2_canHelp_41 : decode cX2_canHelp 41 = .ok (.iaload, 1) := by decide +kernel
theorem dX2_canHelp_42 : decode cX2_canHelp 42 = .ok (.aload_n 0, 1) := by decide +kernel
theorem dX2_canHelp_43 : decode cX2_canHelp 43 = .ok (.getfield 21, 3) := by decide +kernel
theorem dX2_canHelp_46 : decode cX2_canHelp 46 = .ok (.getfield 174, 3) := by decide +kernel
theorem dX2_canHelp_49 : decode cX2_canHelp 49 = .ok (.iload 5, 2) := by decide +kernel
theorem dX2_canHelp_51 : decode cX2_canHelp 51 = .ok (.iaload, 1) := by decide +kernel
theorem dX2_canHelp_52 : decode cX2_canHelp 52 = .ok (.if_icmp .le 7, 3) := by decide +kernel
theorem dX2_canHelp_55 : decode cX2_canHelp 55 = .ok (.iconst 1, 1) := by decide +kernel
theorem dX2_canHelp_56 : decode cX2_canHelp 56 = .ok (.goto 4, 3) := by decide +kernel
theorem dX2_canHelp_59 : decode cX2_canHelp 59 = .ok (.iconst 0, 1) := by decide +kernel
theorem dX2_canHelp_60 : decode cX2_canHelp 60 = .ok (.ireturn, 1) := by decide +kernel
theorem dX2_helpsBetter_0 : decode cX2_helpsBetter 0 = .ok (.aload_n 0, 1) := by decide +kernel
theorem dX2_helpsBetter_1 : decode cX2_helpsBetter 1 = .ok (.getfield 21, 3) := by decide +kernel
theorem dX2_helpsBetter_4 : decode cX2_helpsBetter 4 = .ok (.iload_n 3, 1) := by decide +kernel
theorem dX2_helpsBetter_5 : decode cX2_helpsBetter 5 = .ok (.iload_n 1, 1) := by decide +kernel
theorem dX2_helpsBetter_6 : decode cX2_helpsBetter 6 = .ok (.invokevirtual 148, 3) := by decide +kernel
theorem dX2_helpsBetter_9 : decode cX2_helpsBetter 9 = .ok (.istore 5, 2) := by decide +kernel
theorem dX2_helpsBetter_11 : decode cX2_helpsBetter 11 = .ok (.aload_n 0, 1) := by decide +kernel
theorem dX2_helpsBetter_12 : decode cX2_helpsBetter 12 = .ok (.getfield 21, 3) := by decide +kernel
theorem dX2_helpsBetter_15 : decode cX2_helpsBetter 15 = .ok (.iload_n 3, 1) := by decide +kernel
theorem dX2_helpsBetter_16 : decode cX2_helpsBetter 16 = .ok (.iload_n 2, 1) := by decide +kernel
theorem dX2_helpsBetter_17 : decode cX2_helpsBetter 17 = .ok (.invokevirtual 148, 3) := by decide +kernel
theorem dX2_helpsBetter_20 : decode cX2_helpsBetter 20 = .ok (.istore 6, 2) := by decide +kernel
theorem dX2_helpsBetter_22 : decode cX2_helpsBetter 22 = .ok (.iload 5, 2) := by decide +kernel
theorem dX2_helpsBetter_24 : decode cX2_helpsBetter 24 = .ok (.iload 6, 2) := by decide +kernel
theorem dX2_helpsBetter_26 : decode cX2_helpsBetter 26 = .ok (.if_icmp .eq 16, 3) := by decide +kernel
theorem dX2_helpsBetter_29 : decode cX2_helpsBetter 29 = .ok (.iload 5, 2) := by decide +kernel
theorem dX2_helpsBetter_31 : decode cX2_helpsBetter 31 = .ok (.iload 6, 2) := by decide +kernel
theorem dX2_helpsBetter_33 : decode cX2_helpsBetter 33 = .ok (.if_icmp .ge 7, 3) := by decide +kernel
theorem dX2_helpsBetter_36 : decode cX2_helpsBetter 36 = .ok (.iconst 1, 1) := by decide +kernel
theorem dX2_helpsBetter_37 : decode cX2_helpsBetter 37 = .ok (.goto 4, 3) := by decide +kernel
theorem dX2_helpsBetter_40 : decode cX2_helpsBetter 40 = .ok (.iconst 0, 1) := by decide +kernel
theorem dX2_helpsBetter_41 : decode cX2_helpsBetter 41 = .ok (.ireturn, 1) := by decide +kernel
theorem dX2_helpsBetter_42 : decode cX2_helpsBetter 42 = .ok (.aload_n 0, 1) := by decide +kernel
theorem dX2_helpsBetter_43 : decode cX2_helpsBetter 43 = .ok (.getfield 15, 3) := by decide +kernel
theorem dX2_helpsBetter_46 : decode cX2_helpsBetter 46 = .ok (.iload_n 1, 1) := by decide +kernel
theorem dX2_helpsBetter_47 : decode cX2_helpsBetter 47 = .ok (.iload 4, 2) := by decide +kernel
theorem dX2_helpsBetter_49 : decode cX2_helpsBetter 49 = .ok (.invokestatic 110, 3) := by decide +kernel
theorem dX2_helpsBetter_52 : decode cX2_helpsBetter 52 = .ok (.iaload, 1) := by decide +kernel
theorem dX2_helpsBetter_53 : decode cX2_helpsBetter 53 = .ok (.aload_n 0, 1) := by decide +kernel
theorem dX2_helpsBetter_54 : decode cX2_helpsBetter 54 = .ok (.getfield 15, 3) := by decide +kernel
theorem dX2_helpsBetter_57 : decode cX2_helpsBetter 57 = .ok (.iload_n 2, 1) := by decide +kernel
theorem dX2_helpsBetter_58 : decode cX2_helpsBetter 58 = .ok (.iload 4, 2) := by decide +kernel
theorem dX2_helpsBetter_60 : decode cX2_helpsBetter 60 = .ok (.invokestatic 110, 3) := by decide +kernel
theorem dX2_helpsBetter_63 : decode cX2_helpsBetter 63 = .ok (.iaload, 1) := by decide +kernel
theorem dX2_helpsBetter_64 : decode cX2_helpsBetter 64 = .ok (.if_icmp .le 7, 3) := by decide +kernel
theorem dX2_helpsBetter_67 : decode cX2_helpsBetter 67 = .ok (.iconst 1, 1) := by decide +kernel
theorem dX2_helpsBetter_68 : decode cX2_helpsBetter 68 = .ok (.goto 4, 3) := by decide +kernel
theorem dX2_helpsBetter_71 : decode cX2_helpsBetter 71 = .ok (.iconst 0, 1) := by decide +kernel
theorem dX2_helpsBetter_72 : decode cX2_helpsBetter 72 = .ok (.ireturn, 1) := by decide +kernel
theorem dX2_order_0 : decode cX2_order 0 = .ok (.iconst 0, 1) := by decide +kernel
theorem dX2_order_1 : decode cX2_order 1 = .ok (.iload_n 2, 1) := by decide +kernel
theorem dX2_order_2 : decode cX2_order 2 = .ok (.invokestatic 110, 3) := by decide +kernel
theorem dX2_order_5 : decode cX2_order 5 = .ok (.istore 4, 2) := by decide +kernel
theorem dX2_order_7 : decode cX2_order 7 = .ok (.aload_n 0, 1) := by decide +kernel
theorem dX2_order_8 : decode cX2_order 8 = .ok (.getfield 15, 3) := by decide +kernel
theorem dX2_order_11 : decode cX2_order 11 = .ok (.iload 4, 2) := by decide +kernel
theorem dX2_order_13 : decode cX2_order 13 = .ok (.iaload, 1) := by decide +kernel
theorem dX2_order_14 : decode cX2_order 14 = .ok (.ifCond .le 43, 3) := by decide +kernel
theorem dX2_order_17 : decode cX2_order 17 = .ok (.aload_n 0, 1) := by decide +kernel
theorem dX2_order_18 : decode cX2_order 18 = .ok (.getfield 15, 3) := by decide +kernel
theorem dX2_order_21 : decode cX2_order 21 = .ok (.iload 4, 2) := by decide +kernel
theorem dX2_order_23 : decode cX2_order 23 = .ok (.dup2, 1) := by decide +kernel
theorem dX2_order_24 : decode cX2_order 24 = .ok (.iaload, 1) := by decide +kernel
theorem dX2_order_25 : decode cX2_order 25 = .ok (.iconst 1, 1) := by decide +kernel
theorem dX2_order_26 : decode cX2_order 26 = .ok (.isub, 1) := by decide +kernel
theorem dX2_order_27 : decode cX2_order 27 = .ok (.iastore, 1) := by decide +kernel
theorem dX2_order_28 : decode cX2_order 28 = .ok (.aload_n 0, 1) := by decide +kernel
theorem dX2_order_29 : decode cX2_order 29 = .ok (.getfield 35, 3) := by decide +kernel
theorem dX2_order_32 : decode cX2_order 32 = .ok (.aload_n 0, 1) := by decide +kernel
theorem dX2_order_33 : decode cX2_order 33 = .ok (.getfield 59, 3) := by decide +kernel
theorem dX2_order_36 : decode cX2_order 36 = .ok (.aload_n 0, 1) := by decide +kernel
theorem dX2_order_37 : decode cX2_order 37 = .ok (.getfield 21, 3) := by decide +kernel
theorem dX2_order_40 : decode cX2_order 40 = .ok (.getfield 154, 3) := by decide +kernel
theorem dX2_order_43 : decode cX2_order 43 = .ok (.iload_n 1, 1) := by decide +kernel
theorem dX2_order_44 : decode cX2_order 44 = .ok (.iaload, 1) := by decide +kernel
theorem dX2_order_45 : decode cX2_order 45 = .ok (.iadd, 1) := by decide +kernel
theorem dX2_order_46 : decode cX2_order 46 = .ok (.iconst 2, 1) := by decide +kernel
theorem dX2_order_47 : decode cX2_order 47 = .ok (.iload_n 2, 1) := by decide +kernel
theorem dX2_order_48 : decode cX2_order 48 = .ok (.iload_n 1, 1) := by decide +kernel
theorem dX2_order_49 : decode cX2_order 49 = .ok (.iload_n 1, 1) := by decide +kernel
theorem dX2_order_50 : decode cX2_order 50 = .ok (.iconst 0, 1) := by decide +kernel
theorem dX2_order_51 : decode cX2_order 51 = .ok (.invokevirtual 151, 3) := by decide +kernel
theorem dX2_order_54 : decode cX2_order 54 = .ok (.goto 17, 3) := by decide +kernel
theorem dX2_order_57 : decode cX2_order 57 = .ok (.aload_n 0, 1) := by decide +kernel
theorem dX2_order_58 : decode cX2_order 58 = .ok (.getfield 46, 3) := by decide +kernel
theorem dX2_order_61 : decode cX2_order 61 = .ok (.iload_n 1, 1) := by decide +kernel
theorem dX2_order_62 : decode cX2_order 62 = .ok (.iload_n 2, 1) := by decide +kernel
theorem dX2_order_63 : decode cX2_order 63 = .ok (.iload_n 3, 1) := by decide +kernel
theorem dX2_order_64 : decode cX2_order 64 = .ok (.aload_n 0, 1) := by decide +kernel
theorem dX2_order_65 : decode cX2_order 65 = .ok (.getfield 59, 3) := by decide +kernel
theorem dX2_order_68 : decode cX2_order 68 = .ok (.invokevirtual 134, 3) := by decide +kernel
theorem dX2_order_71 : decode cX2_order 71 = .ok (.return_, 1) := by decide +kernel
theorem dX2_stockDepot_0 : decode cX2_stockDepot 0 = .ok (.aload_n 0, 1) := by decide +kernel
theorem dX2_stockDepot_1 : decode cX2_stockDepot 1 = .ok (.getfield 46, 3) := by decide +kernel
theorem dX2_stockDepot_4 : decode cX2_stockDepot 4 = .ok (.iconst (-1), 1) := by decide +kernel
theorem dX2_stockDepot_5 : decode cX2_stockDepot 5 = .ok (.iload_n 1, 1) := by decide +kernel
theorem dX2_stockDepot_6 : decode cX2_stockDepot 6 = .ok (.invokevirtual 177, 3) := by decide +kernel
theorem dX2_stockDepot_9 : decode cX2_stockDepot 9 = .ok (.istore_n 2, 1) := by decide +kernel
theorem dX2_stockDepot_10 : decode cX2_stockDepot 10 = .ok (.iload_n 2, 1) := by decide +kernel
theorem dX2_stockDepot_11 : decode cX2_stockDepot 11 = .ok (.iconst (-1), 1) := by decide +kernel
theorem dX2_stockDepot_12 : decode cX2_stockDepot 12 = .ok (.if_icmp .ne 18, 3) := by decide +kernel
theorem dX2_stockDepot_15 : decode cX2_stockDepot 15 = .ok (.aload_n 0, 1) := by decide +kernel
theorem dX2_stockDepot_16 : decode cX2_stockDepot 16 = .ok (.getfield 15, 3) := by decide +kernel
theorem dX2_stockDepot_19 : decode cX2_stockDepot 19 = .ok (.iconst 0, 1) := by decide +kernel
theorem dX2_stockDepot_20 : decode cX2_stockDepot 20 = .ok (.iload_n 1, 1) := by decide +kernel
theorem dX2_stockDepot_21 : decode cX2_stockDepot 21 = .ok (.invokestatic 110, 3) := by decide +kernel
theorem dX2_stockDepot_24 : decode cX2_stockDepot 24 = .ok (.dup2, 1) := by decide +kernel
theorem dX2_stockDepot_25 : decode cX2_stockDepot 25 = .ok (.iaload, 1) := by decide +kernel
theorem dX2_stockDepot_26 : decode cX2_stockDepot 26 = .ok (.iconst 1, 1) := by decide +kernel
theorem dX2_stockDepot_27 : decode cX2_stockDepot 27 = .ok (.iadd, 1) := by decide +kernel
theorem dX2_stockDepot_28 : decode cX2_stockDepot 28 = .ok (.iastore, 1) := by decide +kernel
theorem dX2_stockDepot_29 : decode cX2_stockDepot 29 = .ok (.return_, 1) := by decide +kernel
theorem dX2_stockDepot_30 : decode cX2_stockDepot 30 = .ok (.aload_n 0, 1) := by decide +kernel
theorem dX2_stockDepot_31 : decode cX2_stockDepot 31 = .ok (.getfield 46, 3) := by decide +kernel
theorem dX2_stockDepot_34 : decode cX2_stockDepot 34 = .ok (.getfield 180, 3) := by decide +kernel
theorem dX2_stockDepot_37 : decode cX2_stockDepot 37 = .ok (.iload_n 2, 1) := by decide +kernel
theorem dX2_stockDepot_38 : decode cX2_stockDepot 38 = .ok (.iaload, 1) := by decide +kernel
theorem dX2_stockDepot_39 : decode cX2_stockDepot 39 = .ok (.istore_n 3, 1) := by decide +kernel
theorem dX2_stockDepot_40 : decode cX2_stockDepot 40 = .ok (.aload_n 0, 1) := by decide +kernel
theorem dX2_stockDepot_41 : decode cX2_stockDepot 41 = .ok (.getfield 46, 3) := by decide +kernel
theorem dX2_stockDepot_44 : decode cX2_stockDepot 44 = .ok (.iload_n 2, 1) := by decide +kernel
theorem dX2_stockDepot_45 : decode cX2_stockDepot 45 = .ok (.invokevirtual 183, 3) := by decide +kernel
theorem dX2_stockDepot_48 : decode cX2_stockDepot 48 = .ok (.aload_n 0, 1) := by decide +kernel
theorem dX2_stockDepot_49 : decode cX2_stockDepot 49 = .ok (.getfield 35, 3) := by decide +kernel
theorem dX2_stockDepot_52 : decode cX2_stockDepot 52 = .ok (.aload_n 0, 1) := by decide +kernel
theorem dX2_stockDepot_53 : decode cX2_stockDepot 53 = .ok (.getfield 59, 3) := by decide +kernel
theorem dX2_stockDepot_56 : decode cX2_stockDepot 56 = .ok (.aload_n 0, 1) := by decide +kernel
theorem dX2_stockDepot_57 : decode cX2_stockDepot 57 = .ok (.getfield 21, 3) := by decide +kernel
theorem dX2_stockDepot_60 : decode cX2_stockDepot 60 = .ok (.getfield 154, 3) := by decide +kernel
theorem dX2_stockDepot_63 : decode cX2_stockDepot 63 = .ok (.iload_n 3, 1) := by decide +kernel
theorem dX2_stockDepot_64 : decode cX2_stockDepot 64 = .ok (.iaload, 1) := by decide +kernel
theorem dX2_stockDepot_65 : decode cX2_stockDepot 65 = .ok (.iadd, 1) := by decide +kernel
theorem dX2_stockDepot_66 : decode cX2_stockDepot 66 = .ok (.iconst 2, 1) := by decide +kernel
theorem dX2_stockDepot_67 : decode cX2_stockDepot 67 = .ok (.iload_n 1, 1) := by decide +kernel
theorem dX2_stockDepot_68 : decode cX2_stockDepot 68 = .ok (.iload_n 3, 1) := by decide +kernel
theorem dX2_stockDepot_69 : decode cX2_stockDepot 69 = .ok (.iload_n 3, 1) := by decide +kernel
theorem dX2_stockDepot_70 : decode cX2_stockDepot 70 = .ok (.iconst 0, 1) := by decide +kernel
theorem dX2_stockDepot_71 : decode cX2_stockDepot 71 = .ok (.invokevirtual 151, 3) := by decide +kernel
theorem dX2_stockDepot_74 : decode cX2_stockDepot 74 = .ok (.return_, 1) := by decide +kernel
theorem dX2_stockBase_0 : decode cX2_stockBase 0 = .ok (.iload_n 1, 1) := by decide +kernel
theorem dX2_stockBase_1 : decode cX2_stockBase 1 = .ok (.iload_n 2, 1) := by decide +kernel
theorem dX2_stockBase_2 : decode cX2_stockBase 2 = .ok (.invokestatic 110, 3) := by decide +kernel
theorem dX2_stockBase_5 : decode cX2_stockBase 5 = .ok (.istore_n 3, 1) := by decide +kernel
theorem dX2_stockBase_6 : decode cX2_stockBase 6 = .ok (.aload_n 0, 1) := by decide +kernel
theorem dX2_stockBase_7 : decode cX2_stockBase 7 = .ok (.getfield 49, 3) := by decide +kernel
theorem dX2_stockBase_10 : decode cX2_stockBase 10 = .ok (.iload_n 1, 1) := by decide +kernel
theorem dX2_stockBase_11 : decode cX2_stockBase 11 = .ok (.iload_n 2, 1) := by decide +kernel
theorem dX2_stockBase_12 : decode cX2_stockBase 12 = .ok (.invokevirtual 177, 3) := by decide +kernel
theorem dX2_stockBase_15 : decode cX2_stockBase 15 = .ok (.istore 4, 2) := by decide +kernel
theorem dX2_stockBase_17 : decode cX2_stockBase 17 = .ok (.iload 4, 2) := by decide +kernel
theorem dX2_stockBase_19 : decode cX2_stockBase 19 = .ok (.iconst (-1), 1) := by decide +kernel
theorem dX2_stockBase_20 : decode cX2_stockBase 20 = .ok (.if_icmp .ne 14, 3) := by decide +kernel
theorem dX2_stockBase_23 : decode cX2_stockBase 23 = .ok (.aload_n 0, 1) := by decide +kernel
theorem dX2_stockBase_24 : decode cX2_stockBase 24 = .ok (.getfield 15, 3) := by decide +kernel
theorem dX2_stockBase_27 : decode cX2_stockBase 27 = .ok (.iload_n 3, 1) := by decide +kernel
theorem dX2_stockBase_28 : decode cX2_stockBase 28 = .ok (.dup2, 1) := by decide +kernel
theorem dX2_stockBase_29 : decode cX2_stockBase 29 = .ok (.iaload, 1) := by decide +kernel
theorem dX2_stockBase_30 : decode cX2_stockBase 30 = .ok (.iconst 1, 1) := by decide +kernel
theorem dX2_stockBase_31 : decode cX2_stockBase 31 = .ok (.iadd, 1) := by decide +kernel
theorem dX2_stockBase_32 : decode cX2_stockBase 32 = .ok (.iastore, 1) := by decide +kernel
theorem dX2_stockBase_33 : decode cX2_stockBase 33 = .ok (.return_, 1) := by decide +kernel
theorem dX2_stockBase_34 : decode cX2_stockBase 34 = .ok (.aload_n 0, 1) := by decide +kernel
theorem dX2_stockBase_35 : decode cX2_stockBase 35 = .ok (.getfield 28, 3) := by decide +kernel
theorem dX2_stockBase_38 : decode cX2_stockBase 38 = .ok (.getfield 186, 3) := by decide +kernel
theorem dX2_stockBase_41 : decode cX2_stockBase 41 = .ok (.iload_n 3, 1) := by decide +kernel
theorem dX2_stockBase_42 : decode cX2_stockBase 42 = .ok (.dup2, 1) := by decide +kernel
theorem dX2_stockBase_43 : decode cX2_stockBase 43 = .ok (.iaload, 1) := by decide +kernel
theorem dX2_stockBase_44 : decode cX2_stockBase 44 = .ok (.aload_n 0, 1) := by decide +kernel
theorem dX2_stockBase_45 : decode cX2_stockBase 45 = .ok (.getfield 59, 3) := by decide +kernel
theorem dX2_stockBase_48 : decode cX2_stockBase 48 = .ok (.aload_n 0, 1) := by decide +kernel
theorem dX2_stockBase_49 : decode cX2_stockBase 49 = .ok (.getfield 49, 3) := by decide +kernel
theorem dX2_stockBase_52 : decode cX2_stockBase 52 = .ok (.getfield 189, 3) := by decide +kernel
theorem dX2_stockBase_55 : decode cX2_stockBase 55 = .ok (.iload 4, 2) := by decide +kernel
theorem dX2_stockBase_57 : decode cX2_stockBase 57 = .ok (.iaload, 1) := by decide +kernel
theorem dX2_stockBase_58 : decode cX2_stockBase 58 = .ok (.isub, 1) := by decide +kernel
theorem dX2_stockBase_59 : decode cX2_stockBase 59 = .ok (.iadd, 1) := by decide +kernel
theorem dX2_stockBase_60 : decode cX2_stockBase 60 = .ok (.iastore, 1) := by decide +kernel
theorem dX2_stockBase_61 : decode cX2_stockBase 61 = .ok (.aload_n 0, 1) := by decide +kernel
theorem dX2_stockBase_62 : decode cX2_stockBase 62 = .ok (.getfield 49, 3) := by decide +kernel
theorem dX2_stockBase_65 : decode cX2_stockBase 65 = .ok (.iload 4, 2) := by decide +kernel
theorem dX2_stockBase_67 : decode cX2_stockBase 67 = .ok (.invokevirtual 183, 3) := by decide +kernel
theorem dX2_stockBase_70 : decode cX2_stockBase 70 = .ok (.return_, 1) := by decide +kernel
theorem dX2_beginDay_0 : decode cX2_beginDay 0 = .ok (.aload_n 0, 1) := by decide +kernel
theorem dX2_beginDay_1 : decode cX2_beginDay 1 = .ok (.dup, 1) := by decide +kernel
theorem dX2_beginDay_2 : decode cX2_beginDay 2 = .ok (.getfield 59, 3) := by decide +kernel
theorem dX2_beginDay_5 : decode cX2_beginDay 5 = .ok (.iconst 1, 1) := by decide +kernel
theorem dX2_beginDay_6 : decode cX2_beginDay 6 = .ok (.iadd, 1) := by decide +kernel
theorem dX2_beginDay_7 : decode cX2_beginDay 7 = .ok (.putfield 59, 3) := by decide +kernel
theorem dX2_beginDay_10 : decode cX2_beginDay 10 = .ok (.aload_n 0, 1) := by decide +kernel
theorem dX2_beginDay_11 : decode cX2_beginDay 11 = .ok (.getfield 35, 3) := by decide +kernel
theorem dX2_beginDay_14 : decode cX2_beginDay 14 = .ok (.getfield 73, 3) := by decide +kernel
theorem dX2_beginDay_17 : decode cX2_beginDay 17 = .ok (.istore_n 1, 1) := by decide +kernel
theorem dX2_beginDay_18 : decode cX2_beginDay 18 = .ok (.iconst 0, 1) := by decide +kernel
theorem dX2_beginDay_19 : decode cX2_beginDay 19 = .ok (.istore_n 2, 1) := by decide +kernel
theorem dX2_beginDay_20 : decode cX2_beginDay 20 = .ok (.iload_n 2, 1) := by decide +kernel
theorem dX2_beginDay_21 : decode cX2_beginDay 21 = .ok (.iload_n 1, 1) := by decide +kernel
theorem dX2_beginDay_22 : decode cX2_beginDay 22 = .ok (.if_icmp .ge 39, 3) := by decide +kernel
theorem dX2_beginDay_25 : decode cX2_beginDay 25 = .ok (.aload_n 0, 1) := by decide +kernel
theorem dX2_beginDay_26 : decode cX2_beginDay 26 = .ok (.getfield 35, 3) := by decide +kernel
theorem dX2_beginDay_29 : decode cX2_beginDay 29 = .ok (.getfield 73, 3) := by decide +kernel
theorem dX2_beginDay_32 : decode cX2_beginDay 32 = .ok (.ifCond .le 29, 3) := by decide +kernel
theorem dX2_beginDay_35 : decode cX2_beginDay 35 = .ok (.aload_n 0, 1) := by decide +kernel
theorem dX2_beginDay_36 : decode cX2_beginDay 36 = .ok (.getfield 35, 3) := by decide +kernel
theorem dX2_beginDay_39 : decode cX2_beginDay 39 = .ok (.getfield 192, 3) := by decide +kernel
theorem dX2_beginDay_42 : decode cX2_beginDay 42 = .ok (.iconst 0, 1) := by decide +kernel
theorem dX2_beginDay_43 : decode cX2_beginDay 43 = .ok (.iaload, 1) := by decide +kernel
theorem dX2_beginDay_44 : decode cX2_beginDay 44 = .ok (.aload_n 0, 1) := by decide +kernel
theorem dX2_beginDay_45 : decode cX2_beginDay 45 = .ok (.getfield 59, 3) := by decide +kernel
theorem dX2_beginDay_48 : decode cX2_beginDay 48 = .ok (.if_icmp .gt 13, 3) := by decide +kernel
theorem dX2_beginDay_51 : decode cX2_beginDay 51 = .ok (.aload_n 0, 1) := by decide +kernel
theorem dX2_beginDay_52 : decode cX2_beginDay 52 = .ok (.invokevirtual 194, 3) := by decide +kernel
theorem dX2_beginDay_55 : decode cX2_beginDay 55 = .ok (.iinc 2 1, 3) := by decide +kernel
theorem dX2_beginDay_58 : decode cX2_beginDay 58 = .ok (.goto (-38), 3) := by decide +kernel
theorem dX2_beginDay_61 : decode cX2_beginDay 61 = .ok (.iconst 0, 1) := by decide +kernel
theorem dX2_beginDay_62 : decode cX2_beginDay 62 = .ok (.istore_n 2, 1) := by decide +kernel
theorem dX2_beginDay_63 : decode cX2_beginDay 63 = .ok (.iload_n 2, 1) := by decide +kernel
theorem dX2_beginDay_64 : decode cX2_beginDay 64 = .ok (.aload_n 0, 1) := by decide +kernel
theorem dX2_beginDay_65 : decode cX2_beginDay 65 = .ok (.getfield 49, 3) := by decide +kernel
theorem dX2_beginDay_68 : decode cX2_beginDay 68 = .ok (.getfield 76, 3) := by decide +kernel
theorem dX2_beginDay_71 : decode cX2_beginDay 71 = .ok (.if_icmp .ge 42, 3) := by decide +kernel
theorem dX2_beginDay_74 : decode cX2_beginDay 74 = .ok (.aload_n 0, 1) := by decide +kernel
theorem dX2_beginDay_75 : decode cX2_beginDay 75 = .ok (.getfield 28, 3) := by decide +kernel
theorem dX2_beginDay_78 : decode cX2_beginDay 78 = .ok (.getfield 197, 3) := by decide +kernel
theorem dX2_beginDay_81 : decode cX2_beginDay 81 = .ok (.aload_n 0, 1) := by decide +kernel
theorem dX2_beginDay_82 : decode cX2_beginDay 82 = .ok (.getfield 49, 3) := by decide +kernel
theorem dX2_beginDay_85 : decode cX2_beginDay 85 = .ok (.getfield 180, 3) := by decide +kernel
theorem dX2_beginDay_88 : decode cX2_beginDay 88 = .ok (.iload_n 2, 1) := by decide +kernel
theorem dX2_beginDay_89 : decode cX2_beginDay 89 = .ok (.iaload, 1) := by decide +kernel
theorem dX2_beginDay_90 : decode cX2_beginDay 90 = .ok (.aload_n 0, 1) := by decide +kernel
theorem dX2_beginDay_91 : decode cX2_beginDay 91 = .ok (.getfield 49, 3) := by decide +kernel
theorem dX2_beginDay_94 : decode cX2_beginDay 94 = .ok (.getfield 200, 3) := by decide +kernel
theorem dX2_beginDay_97 : decode cX2_beginDay 97 = .ok (.iload_n 2, 1) := by decide +kernel
theorem dX2_beginDay_98 : decode cX2_beginDay 98 = .ok (.iaload, 1) := by decide +kernel
theorem dX2_beginDay_99 : decode cX2_beginDay 99 = .ok (.invokestatic 110, 3) := by decide +kernel
theorem dX2_beginDay_102 : decode cX2_beginDay 102 = .ok (.dup2, 1) := by decide +kernel
theorem dX2_beginDay_103 : decode cX2_beginDay 103 = .ok (.iaload, 1) := by decide +kernel
theorem dX2_beginDay_104 : decode cX2_beginDay 104 = .ok (.iconst 1, 1) := by decide +kernel
theorem dX2_beginDay_105 : decode cX2_beginDay 105 = .ok (.iadd, 1) := by decide +kernel
theorem dX2_beginDay_106 : decode cX2_beginDay 106 = .ok (.iastore, 1) := by decide +kernel
theorem dX2_beginDay_107 : decode cX2_beginDay 107 = .ok (.iinc 2 1, 3) := by decide +kernel
theorem dX2_beginDay_110 : decode cX2_beginDay 110 = .ok (.goto (-47), 3) := by decide +kernel
theorem dX2_beginDay_113 : decode cX2_beginDay 113 = .ok (.return_, 1) := by decide +kernel
theorem dX2_treatFirst_0 : decode cX2_treatFirst 0 = .ok (.aload_n 0, 1) := by decide +kernel
theorem dX2_treatFirst_1 : decode cX2_treatFirst 1 = .ok (.getfield 35, 3) := by decide +kernel
theorem dX2_treatFirst_4 : decode cX2_treatFirst 4 = .ok (.getfield 203, 3) := by decide +kernel
theorem dX2_treatFirst_7 : decode cX2_treatFirst 7 = .ok (.iconst 0, 1) := by decide +kernel
theorem dX2_treatFirst_8 : decode cX2_treatFirst 8 = .ok (.iaload, 1) := by decide +kernel
theorem dX2_treatFirst_9 : decode cX2_treatFirst 9 = .ok (.istore_n 1, 1) := by decide +kernel
theorem dX2_treatFirst_10 : decode cX2_treatFirst 10 = .ok (.aload_n 0, 1) := by decide +kernel
theorem dX2_treatFirst_11 : decode cX2_treatFirst 11 = .ok (.getfield 35, 3) := by decide +kernel
theorem dX2_treatFirst_14 : decode cX2_treatFirst 14 = .ok (.getfield 206, 3) := by decide +kernel
theorem dX2_treatFirst_17 : decode cX2_treatFirst 17 = .ok (.iconst 0, 1) := by decide +kernel
theorem dX2_treatFirst_18 : decode cX2_treatFirst 18 = .ok (.iaload, 1) := by decide +kernel
theorem dX2_treatFirst_19 : decode cX2_treatFirst 19 = .ok (.istore_n 2, 1) := by decide +kernel
theorem dX2_treatFirst_20 : decode cX2_treatFirst 20 = .ok (.aload_n 0, 1) := by decide +kernel
theorem dX2_treatFirst_21 : decode cX2_treatFirst 21 = .ok (.getfield 35, 3) := by decide +kernel
theorem dX2_treatFirst_24 : decode cX2_treatFirst 24 = .ok (.getfield 207, 3) := by decide +kernel
theorem dX2_treatFirst_27 : decode cX2_treatFirst 27 = .ok (.iconst 0, 1) := by decide +kernel
theorem dX2_treatFirst_28 : decode cX2_treatFirst 28 = .ok (.iaload, 1) := by decide +kernel
theorem dX2_treatFirst_29 : decode cX2_treatFirst 29 = .ok (.istore_n 3, 1) := by decide +kernel
theorem dX2_treatFirst_30 : decode cX2_treatFirst 30 = .ok (.aload_n 0, 1) := by decide +kernel
theorem dX2_treatFirst_31 : decode cX2_treatFirst 31 = .ok (.getfield 35, 3) := by decide +kernel
theorem dX2_treatFirst_34 : decode cX2_treatFirst 34 = .ok (.getfield 208, 3) := by decide +kernel
theorem dX2_treatFirst_37 : decode cX2_treatFirst 37 = .ok (.iconst 0, 1) := by decide +kernel
theorem dX2_treatFirst_38 : decode cX2_treatFirst 38 = .ok (.iaload, 1) := by decide +kernel
theorem dX2_treatFirst_39 : decode cX2_treatFirst 39 = .ok (.istore 4, 2) := by decide +kernel
theorem dX2_treatFirst_41 : decode cX2_treatFirst 41 = .ok (.aload_n 0, 1) := by decide +kernel
theorem dX2_treatFirst_42 : decode cX2_treatFirst 42 = .ok (.getfield 35, 3) := by decide +kernel
theorem dX2_treatFirst_45 : decode cX2_treatFirst 45 = .ok (.getfield 211, 3) := by decide +kernel
theorem dX2_treatFirst_48 : decode cX2_treatFirst 48 = .ok (.iconst 0, 1) := by decide +kernel
theorem dX2_treatFirst_49 : decode cX2_treatFirst 49 = .ok (.iaload, 1) := by decide +kernel
theorem dX2_treatFirst_50 : decode cX2_treatFirst 50 = .ok (.istore 5, 2) := by decide +kernel
theorem dX2_treatFirst_52 : decode cX2_treatFirst 52 = .ok (.aload_n 0, 1) := by decide +kernel
theorem dX2_treatFirst_53 : decode cX2_treatFirst 53 = .ok (.getfield 35, 3) := by decide +kernel
theorem dX2_treatFirst_56 : decode cX2_treatFirst 56 = .ok (.invokevirtual 214, 3) := by decide +kernel
theorem dX2_treatFirst_59 : decode cX2_treatFirst 59 = .ok (.iload_n 1, 1) := by decide +kernel
theorem dX2_treatFirst_60 : decode cX2_treatFirst 60 = .ok (.ifCond .ne 11, 3) := by decide +kernel
theorem dX2_treatFirst_63 : decode cX2_treatFirst 63 = .ok (.aload_n 0, 1) := by decide +kernel
theorem dX2_treatFirst_64 : decode cX2_treatFirst 64 = .ok (.iload_n 2, 1) := by decide +kernel
theorem dX2_treatFirst_65 : decode cX2_treatFirst 65 = .ok (.invokevirtual 217, 3) := by decide +kernel
theorem dX2_treatFirst_68 : decode cX2_treatFirst 68 = .ok (.goto 79, 3) := by decide +kernel
theorem dX2_treatFirst_71 : decode cX2_treatFirst 71 = .ok (.iload_n 3, 1) := by decide +kernel
theorem dX2_treatFirst_72 : decode cX2_treatFirst 72 = .ok (.ifCond .ne 16, 3) := by decide +kernel
theorem dX2_treatFirst_75 : decode cX2_treatFirst 75 = .ok (.aload_n 0, 1) := by decide +kernel
theorem dX2_treatFirst_76 : decode cX2_treatFirst 76 = .ok (.iload_n 2, 1) := by decide +kernel
theorem dX2_treatFirst_77 : decode cX2_treatFirst 77 = .ok (.invokevirtual 220, 3) := by decide +kernel
theorem dX2_treatFirst_80 : decode cX2_treatFirst 80 = .ok (.aload_n 0, 1) := by decide +kernel
theorem dX2_treatFirst_81 : decode cX2_treatFirst 81 = .ok (.iload_n 2, 1) := by decide +kernel
theorem dX2_treatFirst_82 : decode cX2_treatFirst 82 = .ok (.invokevirtual 113, 3) := by decide +kernel
theorem dX2_treatFirst_85 : decode cX2_treatFirst 85 = .ok (.goto 62, 3) := by decide +kernel
theorem dX2_treatFirst_88 : decode cX2_treatFirst 88 = .ok (.iload_n 3, 1) := by decide +kernel
theorem dX2_treatFirst_89 : decode cX2_treatFirst 89 = .ok (.iload 4, 2) := by decide +kernel
theorem dX2_treatFirst_91 : decode cX2_treatFirst 91 = .ok (.if_icmp .eq 49, 3) := by decide +kernel
theorem dX2_treatFirst_94 : decode cX2_treatFirst 94 = .ok (.aload_n 0, 1) := by decide +kernel
theorem dX2_treatFirst_95 : decode cX2_treatFirst 95 = .ok (.getfield 21, 3) := by decide +kernel
theorem dX2_treatFirst_98 : decode cX2_treatFirst 98 = .ok (.iload_n 3, 1) := by decide +kernel
theorem dX2_treatFirst_99 : decode cX2_treatFirst 99 = .ok (.iload 4, 2) := by decide +kernel
theorem dX2_treatFirst_101 : decode cX2_treatFirst 101 = .ok (.invokevirtual 148, 3) := by decide +kernel
theorem dX2_treatFirst_104 : decode cX2_treatFirst 104 = .ok (.istore 6, 2) := by decide +kernel
theorem dX2_treatFirst_106 : decode cX2_treatFirst 106 = .ok (.aload_n 0, 1) := by decide +kernel
theorem dX2_treatFirst_107 : decode cX2_treatFirst 107 = .ok (.getfield 35, 3) := by decide +kernel
theorem dX2_treatFirst_110 : decode cX2_treatFirst 110 = .ok (.aload_n 0, 1) := by decide +kernel
theorem dX2_treatFirst_111 : decode cX2_treatFirst 111 = .ok (.getfield 59, 3) := by decide +kernel
theorem dX2_treatFirst_114 : decode cX2_treatFirst 114 = .ok (.iload 6, 2) := by decide +kernel
theorem dX2_treatFirst_116 : decode cX2_treatFirst 116 = .ok (.ifCond .le 8, 3) := by decide +kernel
theorem dX2_treatFirst_119 : decode cX2_treatFirst 119 = .ok (.iload 6, 2) := by decide +kernel
theorem dX2_treatFirst_121 : decode cX2_treatFirst 121 = .ok (.goto 5, 3) := by decide +kernel
theorem dX2_treatFirst_124 : decode cX2_treatFirst 124 = .ok (.iload 5, 2) := by decide +kernel
theorem dX2_treatFirst_126 : decode cX2_treatFirst 126 = .ok (.iadd, 1) := by decide +kernel
theorem dX2_treatFirst_127 : decode cX2_treatFirst 127 = .ok (.iconst 3, 1) := by decide +kernel
theorem dX2_treatFirst_128 : decode cX2_treatFirst 128 = .ok (.iload_n 2, 1) := by decide +kernel
theorem dX2_treatFirst_129 : decode cX2_treatFirst 129 = .ok (.iload 4, 2) := by decide +kernel
theorem dX2_treatFirst_131 : decode cX2_treatFirst 131 = .ok (.iload 4, 2) := by decide +kernel
theorem dX2_treatFirst_133 : decode cX2_treatFirst 133 = .ok (.iconst 0, 1) := by decide +kernel
theorem dX2_treatFirst_134 : decode cX2_treatFirst 134 = .ok (.invokevirtual 151, 3) := by decide +kernel
theorem dX2_treatFirst_137 : decode cX2_treatFirst 137 = .ok (.goto 10, 3) := by decide +kernel
theorem dX2_treatFirst_140 : decode cX2_treatFirst 140 = .ok (.aload_n 0, 1) := by decide +kernel
theorem dX2_treatFirst_141 : decode cX2_treatFirst 141 = .ok (.iload 4, 2) := by decide +kernel
theorem dX2_treatFirst_143 : decode cX2_treatFirst 143 = .ok (.iload_n 2, 1) := by decide +kernel
theorem dX2_treatFirst_144 : decode cX2_treatFirst 144 = .ok (.invokevirtual 117, 3) := by decide +kernel
theorem dX2_treatFirst_147 : decode cX2_treatFirst 147 = .ok (.return_, 1) := by decide +kernel
theorem dX2_endReturn_0 : decode cX2_endReturn 0 = .ok (.aload_n 0, 1) := by decide +kernel
theorem dX2_endReturn_1 : decode cX2_endReturn 1 = .ok (.getfield 35, 3) := by decide +kernel
theorem dX2_endReturn_4 : decode cX2_endReturn 4 = .ok (.iload_n 1, 1) := by decide +kernel
theorem dX2_endReturn_5 : decode cX2_endReturn 5 = .ok (.invokevirtual 223, 3) := by decide +kernel
theorem dX2_endReturn_8 : decode cX2_endReturn 8 = .ok (.aload_n 0, 1) := by decide +kernel
theorem dX2_endReturn_9 : decode cX2_endReturn 9 = .ok (.getfield 21, 3) := by decide +kernel
theorem dX2_endReturn_12 : decode cX2_endReturn 12 = .ok (.getfield 227, 3) := by decide +kernel
theorem dX2_endReturn_15 : decode cX2_endReturn 15 = .ok (.iload_n 1, 1) := by decide +kernel
theorem dX2_endReturn_16 : decode cX2_endReturn 16 = .ok (.iaload, 1) := by decide +kernel
theorem dX2_endReturn_17 : decode cX2_endReturn 17 = .ok (.if_icmp .ge 32, 3) := by decide +kernel
theorem dX2_endReturn_20 : decode cX2_endReturn 20 = .ok (.aload_n 0, 1) := by decide +kernel
theorem dX2_endReturn_21 : decode cX2_endReturn 21 = .ok (.getfield 35, 3) := by decide +kernel
theorem dX2_endReturn_24 : decode cX2_endReturn 24 = .ok (.aload_n 0, 1) := by decide +kernel
theorem dX2_endReturn_25 : decode cX2_endReturn 25 = .ok (.getfield 59, 3) := by decide +kernel
theorem dX2_endReturn_28 : decode cX2_endReturn 28 = .ok (.aload_n 0, 1) := by decide +kernel
theorem dX2_endReturn_29 : decode cX2_endReturn 29 = .ok (.getfield 21, 3) := by decide +kernel
theorem dX2_endReturn_32 : decode cX2_endReturn 32 = .ok (.getfield 230, 3) := by decide +kernel
theorem dX2_endReturn_35 : decode cX2_endReturn 35 = .ok (.iload_n 1, 1) := by decide +kernel
theorem dX2_endReturn_36 : decode cX2_endReturn 36 = .ok (.iaload, 1) := by decide +kernel
theorem dX2_endReturn_37 : decode cX2_endReturn 37 = .ok (.iadd, 1) := by decide +kernel
theorem dX2_endReturn_38 : decode cX2_endReturn 38 = .ok (.iconst 1, 1) := by decide +kernel
theorem dX2_endReturn_39 : decode cX2_endReturn 39 = .ok (.iload_n 1, 1) := by decide +kernel
theorem dX2_endReturn_40 : decode cX2_endReturn 40 = .ok (.iconst 0, 1) := by decide +kernel
theorem dX2_endReturn_41 : decode cX2_endReturn 41 = .ok (.iconst 0, 1) := by decide +kernel
theorem dX2_endReturn_42 : decode cX2_endReturn 42 = .ok (.iconst 0, 1) := by decide +kernel
theorem dX2_endReturn_43 : decode cX2_endReturn 43 = .ok (.invokevirtual 151, 3) := by decide +kernel
theorem dX2_endReturn_46 : decode cX2_endReturn 46 = .ok (.goto 17, 3) := by decide +kernel
theorem dX2_endReturn_49 : decode cX2_endReturn 49 = .ok (.aload_n 0, 1) := by decide +kernel
theorem dX2_endReturn_50 : decode cX2_endReturn 50 = .ok (.getfield 42, 3) := by decide +kernel
theorem dX2_endReturn_53 : decode cX2_endReturn 53 = .ok (.iconst 0, 1) := by decide +kernel
theorem dX2_endReturn_54 : decode cX2_endReturn 54 = .ok (.iload_n 1, 1) := by decide +kernel
theorem dX2_endReturn_55 : decode cX2_endReturn 55 = .ok (.iconst 0, 1) := by decide +kernel
theorem dX2_endReturn_56 : decode cX2_endReturn 56 = .ok (.aload_n 0, 1) := by decide +kernel
theorem dX2_endReturn_57 : decode cX2_endReturn 57 = .ok (.getfield 59, 3) := by decide +kernel
theorem dX2_endReturn_60 : decode cX2_endReturn 60 = .ok (.invokevirtual 134, 3) := by decide +kernel
theorem dX2_endReturn_63 : decode cX2_endReturn 63 = .ok (.return_, 1) := by decide +kernel
theorem dX2_freePlace_0 : decode cX2_freePlace 0 = .ok (.aload_n 0, 1) := by decide +kernel
theorem dX2_freePlace_1 : decode cX2_freePlace 1 = .ok (.getfield 42, 3) := by decide +kernel
theorem dX2_freePlace_4 : decode cX2_freePlace 4 = .ok (.iconst 0, 1) := by decide +kernel
theorem dX2_freePlace_5 : decode cX2_freePlace 5 = .ok (.iload_n 1, 1) := by decide +kernel
theorem dX2_freePlace_6 : decode cX2_freePlace 6 = .ok (.invokevirtual 177, 3) := by decide +kernel
theorem dX2_freePlace_9 : decode cX2_freePlace 9 = .ok (.istore_n 2, 1) := by decide +kernel
theorem dX2_freePlace_10 : decode cX2_freePlace 10 = .ok (.iload_n 2, 1) := by decide +kernel
theorem dX2_freePlace_11 : decode cX2_freePlace 11 = .ok (.iconst (-1), 1) := by decide +kernel
theorem dX2_freePlace_12 : decode cX2_freePlace 12 = .ok (.if_icmp .eq 37, 3) := by decide +kernel
theorem dX2_freePlace_15 : decode cX2_freePlace 15 = .ok (.aload_n 0, 1) := by decide +kernel
theorem dX2_freePlace_16 : decode cX2_freePlace 16 = .ok (.getfield 42, 3) := by decide +kernel
theorem dX2_freePlace_19 : decode cX2_freePlace 19 = .ok (.iload_n 2, 1) := by decide +kernel
theorem dX2_freePlace_20 : decode cX2_freePlace 20 = .ok (.invokevirtual 183, 3) := by decide +kernel
theorem dX2_freePlace_23 : decode cX2_freePlace 23 = .ok (.aload_n 0, 1) := by decide +kernel
theorem dX2_freePlace_24 : decode cX2_freePlace 24 = .ok (.getfield 35, 3) := by decide +kernel
theorem dX2_freePlace_27 : decode cX2_freePlace 27 = .ok (.aload_n 0, 1) := by decide +kernel
theorem dX2_freePlace_28 : decode cX2_freePlace 28 = .ok (.getfield 59, 3) := by decide +kernel
theorem dX2_freePlace_31 : decode cX2_freePlace 31 = .ok (.aload_n 0, 1) := by decide +kernel
theorem dX2_freePlace_32 : decode cX2_freePlace 32 = .ok (.getfield 21, 3) := by decide +kernel
theorem dX2_freePlace_35 : decode cX2_freePlace 35 = .ok (.getfield 230, 3) := by decide +kernel
theorem dX2_freePlace_38 : decode cX2_freePlace 38 = .ok (.iload_n 1, 1) := by decide +kernel
theorem dX2_freePlace_39 : decode cX2_freePlace 39 = .ok (.iaload, 1) := by decide +kernel
theorem dX2_freePlace_40 : decode cX2_freePlace 40 = .ok (.iadd, 1) := by decide +kernel
theorem dX2_freePlace_41 : decode cX2_freePlace 41 = .ok (.iconst 1, 1) := by decide +kernel
theorem dX2_freePlace_42 : decode cX2_freePlace 42 = .ok (.iload_n 1, 1) := by decide +kernel
theorem dX2_freePlace_43 : decode cX2_freePlace 43 = .ok (.iconst 0, 1) := by decide +kernel
theorem dX2_freePlace_44 : decode cX2_freePlace 44 = .ok (.iconst 0, 1) := by decide +kernel
theorem dX2_freePlace_45 : decode cX2_freePlace 45 = .ok (.iconst 0, 1) := by decide +kernel
theorem dX2_freePlace_46 : decode cX2_freePlace 46 = .ok (.invokevirtual 151, 3) := by decide +kernel
theorem dX2_freePlace_49 : decode cX2_freePlace 49 = .ok (.return_, 1) := by decide +kernel
theorem dX2_runDays_0 : decode cX2_runDays 0 = .ok (.aload_n 0, 1) := by decide +kernel
theorem dX2_runDays_1 : decode cX2_runDays 1 = .ok (.getfield 55, 3) := by decide +kernel
theorem dX2_runDays_4 : decode cX2_runDays 4 = .ok (.iload_n 1, 1) := by decide +kernel
theorem dX2_runDays_5 : decode cX2_runDays 5 = .ok (.invokevirtual 233, 3) := by decide +kernel
theorem dX2_runDays_8 : decode cX2_runDays 8 = .ok (.iconst 0, 1) := by decide +kernel
theorem dX2_runDays_9 : decode cX2_runDays 9 = .ok (.istore_n 3, 1) := by decide +kernel
theorem dX2_runDays_10 : decode cX2_runDays 10 = .ok (.iconst 0, 1) := by decide +kernel
theorem dX2_runDays_11 : decode cX2_runDays 11 = .ok (.istore 4, 2) := by decide +kernel
theorem dX2_runDays_13 : decode cX2_runDays 13 = .ok (.iload 4, 2) := by decide +kernel
theorem dX2_runDays_15 : decode cX2_runDays 15 = .ok (.iload_n 2, 1) := by decide +kernel
theorem dX2_runDays_16 : decode cX2_runDays 16 = .ok (.if_icmp .ge 66, 3) := by decide +kernel
theorem dX2_runDays_19 : decode cX2_runDays 19 = .ok (.aload_n 0, 1) := by decide +kernel
theorem dX2_runDays_20 : decode cX2_runDays 20 = .ok (.invokevirtual 236, 3) := by decide +kernel
theorem dX2_runDays_23 : decode cX2_runDays 23 = .ok (.iconst 1, 1) := by decide +kernel
theorem dX2_runDays_24 : decode cX2_runDays 24 = .ok (.istore 5, 2) := by decide +kernel
theorem dX2_runDays_26 : decode cX2_runDays 26 = .ok (.iload 5, 2) := by decide +kernel
theorem dX2_runDays_28 : decode cX2_runDays 28 = .ok (.aload_n 0, 1) := by decide +kernel
theorem dX2_runDays_29 : decode cX2_runDays 29 = .ok (.getfield 21, 3) := by decide +kernel
theorem dX2_runDays_32 : decode cX2_runDays 32 = .ok (.getfield 104, 3) := by decide +kernel
theorem dX2_runDays_35 : decode cX2_runDays 35 = .ok (.if_icmp .ge 41, 3) := by decide +kernel
theorem dX2_runDays_38 : decode cX2_runDays 38 = .ok (.iconst 0, 1) := by decide +kernel
theorem dX2_runDays_39 : decode cX2_runDays 39 = .ok (.istore 6, 2) := by decide +kernel
theorem dX2_runDays_41 : decode cX2_runDays 41 = .ok (.iload 6, 2) := by decide +kernel
theorem dX2_runDays_43 : decode cX2_runDays 43 = .ok (.aload_n 0, 1) := by decide +kernel
theorem dX2_runDays_44 : decode cX2_runDays 44 = .ok (.getfield 21, 3) := by decide +kernel
theorem dX2_runDays_47 : decode cX2_runDays 47 = .ok (.getfield 107, 3) := by decide +kernel
theorem dX2_runDays_50 : decode cX2_runDays 50 = .ok (.if_icmp .ge 20, 3) := by decide +kernel
theorem dX2_runDays_53 : decode cX2_runDays 53 = .ok (.iload_n 3, 1) := by decide +kernel
theorem dX2_runDays_54 : decode cX2_runDays 54 = .ok (.aload_n 0, 1) := by decide +kernel
theorem dX2_runDays_55 : decode cX2_runDays 55 = .ok (.iload 5, 2) := by decide +kernel
theorem dX2_runDays_57 : decode cX2_runDays 57 = .ok (.iload 6, 2) := by decide +kernel
theorem dX2_runDays_59 : decode cX2_runDays 59 = .ok (.invokevirtual 239, 3) := by decide +kernel
theorem dX2_runDays_62 : decode cX2_runDays 62 = .ok (.iadd, 1) := by decide +kernel
theorem dX2_runDays_63 : decode cX2_runDays 63 = .ok (.istore_n 3, 1) := by decide +kernel
theorem dX2_runDays_64 : decode cX2_runDays 64 = .ok (.iinc 6 1, 3) := by decide +kernel
theorem dX2_runDays_67 : decode cX2_runDays 67 = .ok (.goto (-26), 3) := by decide +kernel
theorem dX2_runDays_70 : decode cX2_runDays 70 = .ok (.iinc 5 1, 3) := by decide +kernel
theorem dX2_runDays_73 : decode cX2_runDays 73 = .ok (.goto (-47), 3) := by decide +kernel
theorem dX2_runDays_76 : decode cX2_runDays 76 = .ok (.iinc 4 1, 3) := by decide +kernel
theorem dX2_runDays_79 : decode cX2_runDays 79 = .ok (.goto (-66), 3) := by decide +kernel
theorem dX2_runDays_82 : decode cX2_runDays 82 = .ok (.iload_n 3, 1) := by decide +kernel
theorem dX2_runDays_83 : decode cX2_runDays 83 = .ok (.ireturn, 1) := by decide +kernel
theorem dX2_drawDemand_0 : decode cX2_drawDemand 0 = .ok (.aload_n 0, 1) := by decide +kernel
theorem dX2_drawDemand_1 : decode cX2_drawDemand 1 = .ok (.getfield 55, 3) := by decide +kernel
theorem dX2_drawDemand_4 : decode cX2_drawDemand 4 = .ok (.bipush 100, 2) := by decide +kernel
theorem dX2_drawDemand_6 : decode cX2_drawDemand 6 = .ok (.invokevirtual 242, 3) := by decide +kernel
theorem dX2_drawDemand_9 : decode cX2_drawDemand 9 = .ok (.aload_n 0, 1) := by decide +kernel
theorem dX2_drawDemand_10 : decode cX2_drawDemand 10 = .ok (.getfield 21, 3) := by decide +kernel
theorem dX2_drawDemand_13 : decode cX2_drawDemand 13 = .ok (.getfield 245, 3) := by decide +kernel
theorem dX2_drawDemand_16 : decode cX2_drawDemand 16 = .ok (.iload_n 1, 1) := by decide +kernel
theorem dX2_drawDemand_17 : decode cX2_drawDemand 17 = .ok (.iload_n 2, 1) := by decide +kernel
theorem dX2_drawDemand_18 : decode cX2_drawDemand 18 = .ok (.invokestatic 110, 3) := by decide +kernel
theorem dX2_drawDemand_21 : decode cX2_drawDemand 21 = .ok (.iaload, 1) := by decide +kernel
theorem dX2_drawDemand_22 : decode cX2_drawDemand 22 = .ok (.if_icmp .lt 5, 3) := by decide +kernel
theorem dX2_drawDemand_25 : decode cX2_drawDemand 25 = .ok (.iconst 0, 1) := by decide +kernel
theorem dX2_drawDemand_26 : decode cX2_drawDemand 26 = .ok (.ireturn, 1) := by decide +kernel
theorem dX2_drawDemand_27 : decode cX2_drawDemand 27 = .ok (.aload_n 0, 1) := by decide +kernel
theorem dX2_drawDemand_28 : decode cX2_drawDemand 28 = .ok (.getfield 55, 3) := by decide +kernel
theorem dX2_drawDemand_31 : decode cX2_drawDemand 31 = .ok (.bipush 10, 2) := by decide +kernel
theorem dX2_drawDemand_33 : decode cX2_drawDemand 33 = .ok (.invokevirtual 242, 3) := by decide +kernel
theorem dX2_drawDemand_36 : decode cX2_drawDemand 36 = .ok (.istore_n 3, 1) := by decide +kernel
theorem dX2_drawDemand_37 : decode cX2_drawDemand 37 = .ok (.aload_n 0, 1) := by decide +kernel
theorem dX2_drawDemand_38 : decode cX2_drawDemand 38 = .ok (.invokevirtual 248, 3) := by decide +kernel
theorem dX2_drawDemand_41 : decode cX2_drawDemand 41 = .ok (.ifCond .eq 18, 3) := by decide +kernel
theorem dX2_drawDemand_44 : decode cX2_drawDemand 44 = .ok (.aload_n 0, 1) := by decide +kernel
theorem dX2_drawDemand_45 : decode cX2_drawDemand 45 = .ok (.getfield 28, 3) := by decide +kernel
theorem dX2_drawDemand_48 : decode cX2_drawDemand 48 = .ok (.dup, 1) := by decide +kernel
theorem dX2_drawDemand_49 : decode cX2_drawDemand 49 = .ok (.getfield 252, 3) := by decide +kernel
theorem dX2_drawDemand_52 : decode cX2_drawDemand 52 = .ok (.iconst 1, 1) := by decide +kernel
theorem dX2_drawDemand_53 : decode cX2_drawDemand 53 = .ok (.iadd, 1) := by decide +kernel
theorem dX2_drawDemand_54 : decode cX2_drawDemand 54 = .ok (.putfield 252, 3) := by decide +kernel
theorem dX2_drawDemand_57 : decode cX2_drawDemand 57 = .ok (.iconst 0, 1) := by decide +kernel
theorem dX2_drawDemand_58 : decode cX2_drawDemand 58 = .ok (.ireturn, 1) := by decide +kernel
theorem dX2_drawDemand_59 : decode cX2_drawDemand 59 = .ok (.aload_n 0, 1) := by decide +kernel
theorem dX2_drawDemand_60 : decode cX2_drawDemand 60 = .ok (.iload_n 1, 1) := by decide +kernel
theorem dX2_drawDemand_61 : decode cX2_drawDemand 61 = .ok (.iload_n 2, 1) := by decide +kernel
theorem dX2_drawDemand_62 : decode cX2_drawDemand 62 = .ok (.iload_n 3, 1) := by decide +kernel
theorem dX2_drawDemand_63 : decode cX2_drawDemand 63 = .ok (.invokevirtual 255, 3) := by decide +kernel
theorem dX2_drawDemand_66 : decode cX2_drawDemand 66 = .ok (.pop, 1) := by decide +kernel
theorem dX2_drawDemand_67 : decode cX2_drawDemand 67 = .ok (.iconst 1, 1) := by decide +kernel
theorem dX2_drawDemand_68 : decode cX2_drawDemand 68 = .ok (.ireturn, 1) := by decide +kernel
theorem dX3_init_0 : decode cX3_init 0 = .ok (.aload_n 0, 1) := by decide +kernel
theorem dX3_init_1 : decode cX3_init 1 = .ok (.invokespecial 3, 3) := by decide +kernel
theorem dX3_init_4 : decode cX3_init 4 = .ok (.aload_n 0, 1) := by decide +kernel
theorem dX3_init_5 : decode cX3_init 5 = .ok (.sipush 300, 3) := by decide +kernel
theorem dX3_init_8 : decode cX3_init 8 = .ok (.newarray .int, 2) := by decide +kernel
theorem dX3_init_10 : decode cX3_init 10 = .ok (.putfield 9, 3) := by decide +kernel
theorem dX3_init_13 : decode cX3_init 13 = .ok (.aload_n 0, 1) := by decide +kernel
theorem dX3_init_14 : decode cX3_init 14 = .ok (.sipush 300, 3) := by decide +kernel
theorem dX3_init_17 : decode cX3_init 17 = .ok (.newarray .int, 2) := by decide +kernel
theorem dX3_init_19 : decode cX3_init 19 = .ok (.putfield 15, 3) := by decide +kernel
theorem dX3_init_22 : decode cX3_init 22 = .ok (.aload_n 0, 1) := by decide +kernel
theorem dX3_init_23 : decode cX3_init 23 = .ok (.sipush 300, 3) := by decide +kernel
theorem dX3_init_26 : decode cX3_init 26 = .ok (.newarray .int, 2) := by decide +kernel
theorem dX3_init_28 : decode cX3_init 28 = .ok (.putfield 18, 3) := by decide +kernel
theorem dX3_init_31 : decode cX3_init 31 = .ok (.aload_n 0, 1) := by decide +kernel
theorem dX3_init_32 : decode cX3_init 32 = .ok (.sipush 300, 3) := by decide +kernel
theorem dX3_init_35 : decode cX3_init 35 = .ok (.newarray .int, 2) := by decide +kernel
theorem dX3_init_37 : decode cX3_init 37 = .ok (.putfield 21, 3) := by decide +kernel
theorem dX3_init_40 : decode cX3_init 40 = .ok (.return_, 1) := by decide +kernel
theorem dX3_copyFrom_0 : decode cX3_copyFrom 0 = .ok (.aload_n 0, 1) := by decide +kernel
theorem dX3_copyFrom_1 : decode cX3_copyFrom 1 = .ok (.aload_n 1, 1) := by decide +kernel
theorem dX3_copyFrom_2 : decode cX3_copyFrom 2 = .ok (.getfield 24, 3) := by decide +kernel
theorem dX3_copyFrom_5 : decode cX3_copyFrom 5 = .ok (.putfield 24, 3) := by decide +kernel
theorem dX3_copyFrom_8 : decode cX3_copyFrom 8 = .ok (.aload_n 1, 1) := by decide +kernel
theorem dX3_copyFrom_9 : decode cX3_copyFrom 9 = .ok (.getfield 9, 3) := by decide +kernel
theorem dX3_copyFrom_12 : decode cX3_copyFrom 12 = .ok (.aload_n 0, 1) := by decide +kernel
theorem dX3_copyFrom_13 : decode cX3_copyFrom 13 = .ok (.getfield 9, 3) := by decide +kernel
theorem dX3_copyFrom_16 : decode cX3_copyFrom 16 = .ok (.aload_n 0, 1) := by decide +kernel
theorem dX3_copyFrom_17 : decode cX3_copyFrom 17 = .ok (.getfield 24, 3) := by decide +kernel
theorem dX3_copyFrom_20 : decode cX3_copyFrom 20 = .ok (.invokestatic 28, 3) := by decide +kernel
theorem dX3_copyFrom_23 : decode cX3_copyFrom 23 = .ok (.aload_n 1, 1) := by decide +kernel
theorem dX3_copyFrom_24 : decode cX3_copyFrom 24 = .ok (.getfield 15, 3) := by decide +kernel
theorem dX3_copyFrom_27 : decode cX3_copyFrom 27 = .ok (.aload_n 0, 1) := by decide +kernel
theorem dX3_copyFrom_28 : decode cX3_copyFrom 28 = .ok (.getfield 15, 3) := by decide +kernel
theorem dX3_copyFrom_31 : decode cX3_copyFrom 31 = .ok (.aload_n 0, 1) := by decide +kernel
theorem dX3_copyFrom_32 : decode cX3_copyFrom 32 = .ok (.getfield 24, 3) := by decide +kernel
theorem dX3_copyFrom_35 : decode cX3_copyFrom 35 = .ok (.invokestatic 28, 3) := by decide +kernel
theorem dX3_copyFrom_38 : decode cX3_copyFrom 38 = .ok (.aload_n 1, 1) := by decide +kernel
theorem dX3_copyFrom_39 : decode cX3_copyFrom 39 = .ok (.getfield 18, 3) := by decide +kernel
theorem dX3_copyFrom_42 : decode cX3_copyFrom 42 = .ok (.aload_n 0, 1) := by decide +kernel
theorem dX3_copyFrom_43 : decode cX3_copyFrom 43 = .ok (.getfield 18, 3) := by decide +kernel
theorem dX3_copyFrom_46 : decode cX3_copyFrom 46 = .ok (.aload_n 0, 1) := by decide +kernel
theorem dX3_copyFrom_47 : decode cX3_copyFrom 47 = .ok (.getfield 24, 3) := by decide +kernel
theorem dX3_copyFrom_50 : decode cX3_copyFrom 50 = .ok (.invokestatic 28, 3) := by decide +kernel
theorem dX3_copyFrom_53 : decode cX3_copyFrom 53 = .ok (.aload_n 1, 1) := by decide +kernel
theorem dX3_copyFrom_54 : decode cX3_copyFrom 54 = .ok (.getfield 21, 3) := by decide +kernel
theorem dX3_copyFrom_57 : decode cX3_copyFrom 57 = .ok (.aload_n 0, 1) := by decide +kernel
theorem dX3_copyFrom_58 : decode cX3_copyFrom 58 = .ok (.getfield 21, 3) := by decide +kernel
theorem dX3_copyFrom_61 : decode cX3_copyFrom 61 = .ok (.aload_n 0, 1) := by decide +kernel
theorem dX3_copyFrom_62 : decode cX3_copyFrom 62 = .ok (.getfield 24, 3) := by decide +kernel
theorem dX3_copyFrom_65 : decode cX3_copyFrom 65 = .ok (.invokestatic 28, 3) := by decide +kernel
theorem dX3_copyFrom_68 : decode cX3_copyFrom 68 = .ok (.return_, 1) := by decide +kernel
theorem dX3_add_0 : decode cX3_add 0 = .ok (.aload_n 0, 1) := by decide +kernel
theorem dX3_add_1 : decode cX3_add 1 = .ok (.getfield 24, 3) := by decide +kernel
theorem dX3_add_4 : decode cX3_add 4 = .ok (.sipush 300, 3) := by decide +kernel
theorem dX3_add_7 : decode cX3_add 7 = .ok (.if_icmp .lt 4, 3) := by decide +kernel
theorem dX3_add_10 : decode cX3_add 10 = .ok (.return_, 1) := by decide +kernel
theorem dX3_add_11 : decode cX3_add 11 = .ok (.aload_n 0, 1) := by decide +kernel
theorem dX3_add_12 : decode cX3_add 12 = .ok (.getfield 9, 3) := by decide +kernel
theorem dX3_add_15 : decode cX3_add 15 = .ok (.aload_n 0, 1) := by decide +kernel
theorem dX3_add_16 : decode cX3_add 16 = .ok (.getfield 24, 3) := by decide +kernel
theorem dX3_add_19 : decode cX3_add 19 = .ok (.iload_n 1, 1) := by decide +kernel
theorem dX3_add_20 : decode cX3_add 20 = .ok (.iastore, 1) := by decide +kernel
theorem dX3_add_21 : decode cX3_add 21 = .ok (.aload_n 0, 1) := by decide +kernel
theorem dX3_add_22 : decode cX3_add 22 = .ok (.getfield 15, 3) := by decide +kernel
theorem dX3_add_25 : decode cX3_add 25 = .ok (.aload_n 0, 1) := by decide +kernel
theorem dX3_add_26 : decode cX3_add 26 = .ok (.getfield 24, 3) := by decide +kernel
theorem dX3_add_29 : decode cX3_add 29 = .ok (.iload_n 2, 1) := by decide +kernel
theorem dX3_add_30 : decode cX3_add 30 = .ok (.iastore, 1) := by decide +kernel
theorem dX3_add_31 : decode cX3_add 31 = .ok (.aload_n 0, 1) := by decide +kernel
theorem dX3_add_32 : decode cX3_add 32 = .ok (.getfield 18, 3) := by decide +kernel
theorem dX3_add_35 : decode cX3_add 35 = .ok (.aload_n 0, 1) := by decide +kernel
theorem dX3_add_36 : decode cX3_add 36 = .ok (.getfield 24, 3) := by decide +kernel
theorem dX3_add_39 : decode cX3_add 39 = .ok (.iload_n 3, 1) := by decide +kernel
theorem dX3_add_40 : decode cX3_add 40 = .ok (.iastore, 1) := by decide +kernel
theorem dX3_add_41 : decode cX3_add 41 = .ok (.aload_n 0, 1) := by decide +kernel
theorem dX3_add_42 : decode cX3_add 42 = .ok (.getfield 21, 3) := by decide +kernel
theorem dX3_add_45 : decode cX3_add 45 = .ok (.aload_n 0, 1) := by decide +kernel
theorem dX3_add_46 : decode cX3_add 46 = .ok (.getfield 24, 3) := by decide +kernel
theorem dX3_add_49 : decode cX3_add 49 = .ok (.iload 4, 2) := by decide +kernel
theorem dX3_add_51 : decode cX3_add 51 = .ok (.iastore, 1) := by decide +kernel
theorem dX3_add_52 : decode cX3_add 52 = .ok (.aload_n 0, 1) := by decide +kernel
theorem dX3_add_53 : decode cX3_add 53 = .ok (.dup, 1) := by decide +kernel
theorem dX3_add_54 : decode cX3_add 54 = .ok (.getfield 24, 3) := by decide +kernel
theorem dX3_add_57 : decode cX3_add 57 = .ok (.iconst 1, 1) := by decide +kernel
theorem dX3_add_58 : decode cX3_add 58 = .ok (.iadd, 1) := by decide +kernel
theorem dX3_add_59 : decode cX3_add 59 = .ok (.putfield 24, 3) := by decide +kernel
theorem dX3_add_62 : decode cX3_add 62 = .ok (.return_, 1) := by decide +kernel
theorem dX3_remove_0 : decode cX3_remove 0 = .ok (.iload_n 1, 1) := by decide +kernel
theorem dX3_remove_1 : decode cX3_remove 1 = .ok (.ifCond .lt 11, 3) := by decide +kernel
theorem dX3_remove_4 : decode cX3_remove 4 = .ok (.iload_n 1, 1) := by decide +kernel
theorem dX3_remove_5 : decode cX3_remove 5 = .ok (.aload_n 0, 1) := by decide +kernel
theorem dX3_remove_6 : decode cX3_remove 6 = .ok (.getfield 24, 3) := by decide +kernel
theorem dX3_remove_9 : decode cX3_remove 9 = .ok (.if_icmp .lt 4, 3) := by decide +kernel
theorem dX3_remove_12 : decode cX3_remove 12 = .ok (.return_, 1) := by decide +kernel
theorem dX3_remove_13 : decode cX3_remove 13 = .ok (.aload_n 0, 1) := by decide +kernel
theorem dX3_remove_14 : decode cX3_remove 14 = .ok (.dup, 1) := by decide +kernel
theorem dX3_remove_15 : decode cX3_remove 15 = .ok (.getfield 24, 3) := by decide +kernel
theorem dX3_remove_18 : decode cX3_remove 18 = .ok (.iconst 1, 1) := by decide +kernel
theorem dX3_remove_19 : decode cX3_remove 19 = .ok (.isub, 1) := by decide +kernel
theorem dX3_remove_20 : decode cX3_remove 20 = .ok (.putfield 24, 3) := by decide +kernel
theorem dX3_remove_23 : decode cX3_remove 23 = .ok (.iload_n 1, 1) := by decide +kernel
theorem dX3_remove_24 : decode cX3_remove 24 = .ok (.istore_n 2, 1) := by decide +kernel
theorem dX3_remove_25 : decode cX3_remove 25 = .ok (.iload_n 2, 1) := by decide +kernel
theorem dX3_remove_26 : decode cX3_remove 26 = .ok (.aload_n 0, 1) := by decide +kernel
theorem dX3_remove_27 : decode cX3_remove 27 = .ok (.getfield 24, 3) := by decide +kernel
theorem dX3_remove_30 : decode cX3_remove 30 = .ok (.if_icmp .ge 65, 3) := by decide +kernel
theorem dX3_remove_33 : decode cX3_remove 33 = .ok (.aload_n 0, 1) := by decide +kernel
theorem dX3_remove_34 : decode cX3_remove 34 = .ok (.getfield 9, 3) := by decide +kernel
theorem dX3_remove_37 : decode cX3_remove 37 = .ok (.iload_n 2, 1) := by decide +kernel
theorem dX3_remove_38 : decode cX3_remove 38 = .ok (.aload_n 0, 1) := by decide +kernel
theorem dX3_remove_39 : decode cX3_remove 39 = .ok (.getfield 9, 3) := by decide +kernel
theorem dX3_remove_42 : decode cX3_remove 42 = .ok (.iload_n 2, 1) := by decide +kernel
theorem dX3_remove_43 : decode cX3_remove 43 = .ok (.iconst 1, 1) := by decide +kernel
theorem dX3_remove_44 : decode cX3_remove 44 = .ok (.iadd, 1) := by decide +kernel
theorem dX3_remove_45 : decode cX3_remove 45 = .ok (.iaload, 1) := by decide +kernel
theorem dX3_remove_46 : decode cX3_remove 46 = .ok (.iastore, 1) := by decide +kernel
theorem dX3_remove_47 : decode cX3_remove 47 = .ok (.aload_n 0, 1) := by decide +kernel
theorem dX3_remove_48 : decode cX3_remove 48 = .ok (.getfield 15, 3) := by decide +kernel
theorem dX3_remove_51 : decode cX3_remove 51 = .ok (.iload_n 2, 1) := by decide +kernel
theorem dX3_remove_52 : decode cX3_remove 52 = .ok (.aload_n 0, 1) := by decide +kernel
theorem dX3_remove_53 : decode cX3_remove 53 = .ok (.getfield 15, 3) := by decide +kernel
theorem dX3_remove_56 : decode cX3_remove 56 = .ok (.iload_n 2, 1) := by decide +kernel
theorem dX3_remove_57 : decode cX3_remove 57 = .ok (.iconst 1, 1) := by decide +kernel
theorem dX3_remove_58 : decode cX3_remove 58 = .ok (.iadd, 1) := by decide +kernel
theorem dX3_remove_59 : decode cX3_remove 59 = .ok (.iaload, 1) := by decide +kernel
theorem dX3_remove_60 : decode cX3_remove 60 = .ok (.iastore, 1) := by decide +kernel
theorem dX3_remove_61 : decode cX3_remove 61 = .ok (.aload_n 0, 1) := by decide +kernel
theorem dX3_remove_62 : decode cX3_remove 62 = .ok (.getfield 18, 3) := by decide +kernel
theorem dX3_remove_65 : decode cX3_remove 65 = .ok (.iload_n 2, 1) := by decide +kernel
theorem dX3_remove_66 : decode cX3_remove 66 = .ok (.aload_n 0, 1) := by decide +kernel
theorem dX3_remove_67 : decode cX3_remove 67 = .ok (.getfield 18, 3) := by decide +kernel
theorem dX3_remove_70 : decode cX3_remove 70 = .ok (.iload_n 2, 1) := by decide +kernel
theorem dX3_remove_71 : decode cX3_remove 71 = .ok (.iconst 1, 1) := by decide +kernel
theorem dX3_remove_72 : decode cX3_remove 72 = .ok (.iadd, 1) := by decide +kernel
theorem dX3_remove_73 : decode cX3_remove 73 = .ok (.iaload, 1) := by decide +kernel
theorem dX3_remove_74 : decode cX3_remove 74 = .ok (.iastore, 1) := by decide +kernel
theorem dX3_remove_75 : decode cX3_remove 75 = .ok (.aload_n 0, 1) := by decide +kernel
theorem dX3_remove_76 : decode cX3_remove 76 = .ok (.getfield 21, 3) := by decide +kernel
theorem dX3_remove_79 : decode cX3_remove 79 = .ok (.iload_n 2, 1) := by decide +kernel
theorem dX3_remove_80 : decode cX3_remove 80 = .ok (.aload_n 0, 1) := by decide +kernel
theorem dX3_remove_81 : decode cX3_remove 81 = .ok (.getfield 21, 3) := by decide +kernel
theorem dX3_remove_84 : decode cX3_remove 84 = .ok (.iload_n 2, 1) := by decide +kernel
theorem dX3_remove_85 : decode cX3_remove 85 = .ok (.iconst 1, 1) := by decide +kernel
theorem dX3_remove_86 : decode cX3_remove 86 = .ok (.iadd, 1) := by decide +kernel
theorem dX3_remove_87 : decode cX3_remove 87 = .ok (.iaload, 1) := by decide +kernel
theorem dX3_remove_88 : decode cX3_remove 88 = .ok (.iastore, 1) := by decide +kernel
theorem dX3_remove_89 : decode cX3_remove 89 = .ok (.iinc 2 1, 3) := by decide +kernel
theorem dX3_remove_92 : decode cX3_remove 92 = .ok (.goto (-67), 3) := by decide +kernel
theorem dX3_remove_95 : decode cX3_remove 95 = .ok (.return_, 1) := by decide +kernel
theorem dX3_countOf_0 : decode cX3_countOf 0 = .ok (.iconst 0, 1) := by decide +kernel
theorem dX3_countOf_1 : decode cX3_countOf 1 = .ok (.istore_n 3, 1) := by decide +kernel
theorem dX3_countOf_2 : decode cX3_countOf 2 = .ok (.iconst 0, 1) := by decide +kernel
theorem dX3_countOf_3 : decode cX3_countOf 3 = .ok (.istore 4, 2) := by decide +kernel
theorem dX3_countOf_5 : decode cX3_countOf 5 = .ok (.iload 4, 2) := by decide +kernel
theorem dX3_countOf_7 : decode cX3_countOf 7 = .ok (.aload_n 0, 1) := by decide +kernel
theorem dX3_countOf_8 : decode cX3_countOf 8 = .ok (.getfield 24, 3) := by decide +kernel
theorem dX3_countOf_11 : decode cX3_countOf 11 = .ok (.if_icmp .ge 39, 3) := by decide +kernel
theorem dX3_countOf_14 : decode cX3_countOf 14 = .ok (.aload_n 0, 1) := by decide +kernel
theorem dX3_countOf_15 : decode cX3_countOf 15 = .ok (.getfield 15, 3) := by decide +kernel
theorem dX3_countOf_18 : decode cX3_countOf 18 = .ok (.iload 4, 2) := by decide +kernel
theorem dX3_countOf_20 : decode cX3_countOf 20 = .ok (.iaload, 1) := by decide +kernel
theorem dX3_countOf_21 : decode cX3_countOf 21 = .ok (.iload_n 2, 1) := by decide +kernel
theorem dX3_countOf_22 : decode cX3_countOf 22 = .ok (.if_icmp .ne 22, 3) := by decide +kernel
theorem dX3_countOf_25 : decode cX3_countOf 25 = .ok (.iload_n 1, 1) := by decide +kernel
theorem dX3_countOf_26 : decode cX3_countOf 26 = .ok (.iconst (-1), 1) := by decide +kernel
theorem dX3_countOf_27 : decode cX3_countOf 27 = .ok (.if_icmp .eq 14, 3) := by decide +kernel
theorem dX3_countOf_30 : decode cX3_countOf 30 = .ok (.aload_n 0, 1) := by decide +kernel
theorem dX3_countOf_31 : decode cX3_countOf 31 = .ok (.getfield 9, 3) := by decide +kernel
theorem dX3_countOf_34 : decode cX3_countOf 34 = .ok (.iload 4, 2) := by decide +kernel
theorem dX3_countOf_36 : decode cX3_countOf 36 = .ok (.iaload, 1) := by decide +kernel
theorem dX3_countOf_37 : decode cX3_countOf 37 = .ok (.iload_n 1, 1) := by decide +kernel
theorem dX3_countOf_38 : decode cX3_countOf 38 = .ok (.if_icmp .ne 6, 3) := by decide +kernel
theorem dX3_countOf_41 : decode cX3_countOf 41 = .ok (.iinc 3 1, 3) := by decide +kernel
theorem dX3_countOf_44 : decode cX3_countOf 44 = .ok (.iinc 4 1, 3) := by decide +kernel
theorem dX3_countOf_47 : decode cX3_countOf 47 = .ok (.goto (-42), 3) := by decide +kernel
theorem dX3_countOf_50 : decode cX3_countOf 50 = .ok (.iload_n 3, 1) := by decide +kernel
theorem dX3_countOf_51 : decode cX3_countOf 51 = .ok (.ireturn, 1) := by decide +kernel
theorem dX3_firstOf_0 : decode cX3_firstOf 0 = .ok (.iconst (-1), 1) := by decide +kernel
theorem dX3_firstOf_1 : decode cX3_firstOf 1 = .ok (.istore_n 3, 1) := by decide +kernel
theorem dX3_firstOf_2 : decode cX3_firstOf 2 = .ok (.iconst 0, 1) := by decide +kernel
theorem dX3_firstOf_3 : decode cX3_firstOf 3 = .ok (.istore 4, 2) := by decide +kernel
theorem dX3_firstOf_5 : decode cX3_firstOf 5 = .ok (.iload 4, 2) := by decide +kernel
theorem dX3_firstOf_7 : decode cX3_firstOf 7 = .ok (.aload_n 0, 1) := by decide +kernel
theorem dX3_firstOf_8 : decode cX3_firstOf 8 = .ok (.getfield 24, 3) := by decide +kernel
theorem dX3_firstOf_11 : decode cX3_firstOf 11 = .ok (.if_icmp .ge 60, 3) := by decide +kernel
theorem dX3_firstOf_14 : decode cX3_firstOf 14 = .ok (.aload_n 0, 1) := by decide +kernel
theorem dX3_firstOf_15 : decode cX3_firstOf 15 = .ok (.getfield 15, 3) := by decide +kernel
theorem dX3_firstOf_18 : decode cX3_firstOf 18 = .ok (.iload 4, 2) := by decide +kernel
theorem dX3_firstOf_20 : decode cX3_firstOf 20 = .ok (.iaload, 1) := by decide +kernel
theorem dX3_firstOf_21 : decode cX3_firstOf 21 = .ok (.iload_n 2, 1) := by decide +kernel
theorem dX3_firstOf_22 : decode cX3_firstOf 22 = .ok (.if_icmp .ne 43, 3) := by decide +kernel
theorem dX3_firstOf_25 : decode cX3_firstOf 25 = .ok (.iload_n 1, 1) := by decide +kernel
theorem dX3_firstOf_26 : decode cX3_firstOf 26 = .ok (.iconst (-1), 1) := by decide +kernel
theorem dX3_firstOf_27 : decode cX3_firstOf 27 = .ok (.if_icmp .eq 14, 3) := by decide +kernel
theorem dX3_firstOf_30 : decode cX3_firstOf 30 = .ok (.aload_n 0, 1) := by decide +kernel
theorem dX3_firstOf_31 : decode cX3_firstOf 31 = .ok (.getfield 9, 3) := by decide +kernel
theorem dX3_firstOf_34 : decode cX3_firstOf 34 = .ok (.iload 4, 2) := by decide +kernel
theorem dX3_firstOf_36 : decode cX3_firstOf 36 = .ok (.iaload, 1) := by decide +kernel
theorem dX3_firstOf_37 : decode cX3_firstOf 37 = .ok (.iload_n 1, 1) := by decide +kernel
theorem dX3_firstOf_38 : decode cX3_firstOf 38 = .ok (.if_icmp .ne 27, 3) := by decide +kernel
theorem dX3_firstOf_41 : decode cX3_firstOf 41 = .ok (.iload_n 3, 1) := by decide +kernel
theorem dX3_firstOf_42 : decode cX3_firstOf 42 = .ok (.iconst (-1), 1) := by decide +kernel
theorem dX3_firstOf_43 : decode cX3_firstOf 43 = .ok (.if_icmp .eq 19, 3) := by decide +kernel
theorem dX3_firstOf_46 : decode cX3_firstOf 46 = .ok (.aload_n 0, 1) := by decide +kernel
theorem dX3_firstOf_47 : decode cX3_firstOf 47 = .ok (.getfield 18, 3) := by decide +kernel
theorem dX3_firstOf_50 : decode cX3_firstOf 50 = .ok (.iload 4, 2) := by decide +kernel
theorem dX3_firstOf_52 : decode cX3_firstOf 52 = .ok (.iaload, 1) := by decide +kernel
theorem dX3_firstOf_53 : decode cX3_firstOf 53 = .ok (.aload_n 0, 1) := by decide +kernel
theorem dX3_firstOf_54 : decode cX3_firstOf 54 = .ok (.getfield 18, 3) := by decide +kernel
theorem dX3_firstOf_57 : decode cX3_firstOf 57 = .ok (.iload_n 3, 1) := by decide +kernel
theorem dX3_firstOf_58 : decode cX3_firstOf 58 = .ok (.iaload, 1) := by decide +kernel
theorem dX3_firstOf_59 : decode cX3_firstOf 59 = .ok (.if_icmp .le 6, 3) := by decide +kernel
theorem dX3_firstOf_62 : decode cX3_firstOf 62 = .ok (.iload 4, 2) := by decide +kernel
theorem dX3_firstOf_64 : decode cX3_firstOf 64 = .ok (.istore_n 3, 1) := by decide +kernel
theorem dX3_firstOf_65 : decode cX3_firstOf 65 = .ok (.iinc 4 1, 3) := by decide +kernel
theorem dX3_firstOf_68 : decode cX3_firstOf 68 = .ok (.goto (-63), 3) := by decide +kernel
theorem dX3_firstOf_71 : decode cX3_firstOf 71 = .ok (.iload_n 3, 1) := by decide +kernel
theorem dX3_firstOf_72 : decode cX3_firstOf 72 = .ok (.ireturn, 1) := by decide +kernel
theorem dX4_init_0 : decode cX4_init 0 = .ok (.aload_n 0, 1) := by decide +kernel
theorem dX4_init_1 : decode cX4_init 1 = .ok (.invokespecial 3, 3) := by decide +kernel
theorem dX4_init_4 : decode cX4_init 4 = .ok (.aload_n 0, 1) := by decide +kernel
theorem dX4_init_5 : decode cX4_init 5 = .ok (.iconst 1, 1) := by decide +kernel
theorem dX4_init_6 : decode cX4_init 6 = .ok (.putfield 9, 3) := by decide +kernel
theorem dX4_init_9 : decode cX4_init 9 = .ok (.aload_n 0, 1) := by decide +kernel
theorem dX4_init_10 : decode cX4_init 10 = .ok (.iconst 4, 1) := by decide +kernel
theorem dX4_init_11 : decode cX4_init 11 = .ok (.newarray .int, 2) := by decide +kernel
theorem dX4_init_13 : decode cX4_init 13 = .ok (.putfield 15, 3) := by decide +kernel
theorem dX4_init_16 : decode cX4_init 16 = .ok (.aload_n 0, 1) := by decide +kernel
theorem dX4_init_17 : decode cX4_init 17 = .ok (.iconst 4, 1) := by decide +kernel
theorem dX4_init_18 : decode cX4_init 18 = .ok (.newarray .int, 2) := by decide +kernel
theorem dX4_init_20 : decode cX4_init 20 = .ok (.putfield 19, 3) := by decide +kernel
theorem dX4_init_23 : decode cX4_init 23 = .ok (.aload_n 0, 1) := by decide +kernel
theorem dX4_init_24 : decode cX4_init 24 = .ok (.iconst 4, 1) := by decide +kernel
theorem dX4_init_25 : decode cX4_init 25 = .ok (.newarray .int, 2) := by decide +kernel
theorem dX4_init_27 : decode cX4_init 27 = .ok (.putfield 22, 3) := by decide +kernel
theorem dX4_init_30 : decode cX4_init 30 = .ok (.aload_n 0, 1) := by decide +kernel
theorem dX4_init_31 : decode cX4_init 31 = .ok (.bipush 8, 2) := by decide +kernel
theorem dX4_init_33 : decode cX4_init 33 = .ok (.newarray .int, 2) := by decide +kernel
theorem dX4_init_35 : decode cX4_init 35 = .ok (.putfield 25, 3) := by decide +kernel
theorem dX4_init_38 : decode cX4_init 38 = .ok (.aload_n 0, 1) := by decide +kernel
theorem dX4_init_39 : decode cX4_init 39 = .ok (.bipush 64, 2) := by decide +kernel
theorem dX4_init_41 : decode cX4_init 41 = .ok (.newarray .int, 2) := by decide +kernel
theorem dX4_init_43 : decode cX4_init 43 = .ok (.putfield 28, 3) := by decide +kernel
theorem dX4_init_46 : decode cX4_init 46 = .ok (.aload_n 0, 1) := by decide +kernel
theorem dX4_init_47 : decode cX4_init 47 = .ok (.bipush 32, 2) := by decide +kernel
theorem dX4_init_49 : decode cX4_init 49 = .ok (.newarray .int, 2) := by decide +kernel
theorem dX4_init_51 : decode cX4_init 51 = .ok (.putfield 31, 3) := by decide +kernel
theorem dX4_init_54 : decode cX4_init 54 = .ok (.aload_n 0, 1) := by decide +kernel
theorem dX4_init_55 : decode cX4_init 55 = .ok (.bipush 32, 2) := by decide +kernel
theorem dX4_init_57 : decode cX4_init 57 = .ok (.newarray .int, 2) := by decide +kernel
theorem dX4_init_59 : decode cX4_init 59 = .ok (.putfield 34, 3) := by decide +kernel
theorem dX4_init_62 : decode cX4_init 62 = .ok (.aload_n 0, 1) := by decide +kernel
theorem dX4_init_63 : decode cX4_init 63 = .ok (.bipush 32, 2) := by decide +kernel
theorem dX4_init_65 : decode cX4_init 65 = .ok (.newarray .int, 2) := by decide +kernel
theorem dX4_init_67 : decode cX4_init 67 = .ok (.putfield 37, 3) := by decide +kernel
theorem dX4_init_70 : decode cX4_init 70 = .ok (.return_, 1) := by decide +kernel
theorem dX4_clear_0 : decode cX4_clear 0 = .ok (.aload_n 0, 1) := by decide +kernel
theorem dX4_clear_1 : decode cX4_clear 1 = .ok (.iconst 0, 1) := by decide +kernel
theorem dX4_clear_2 : decode cX4_clear 2 = .ok (.putfield 40, 3) := by decide +kernel
theorem dX4_clear_5 : decode cX4_clear 5 = .ok (.aload_n 0, 1) := by decide +kernel
theorem dX4_clear_6 : decode cX4_clear 6 = .ok (.iconst 1, 1) := by decide +kernel
theorem dX4_clear_7 : decode cX4_clear 7 = .ok (.putfield 9, 3) := by decide +kernel
theorem dX4_clear_10 : decode cX4_clear 10 = .ok (.aload_n 0, 1) := by decide +kernel
theorem dX4_clear_11 : decode cX4_clear 11 = .ok (.iconst 0, 1) := by decide +kernel
theorem dX4_clear_12 : decode cX4_clear 12 = .ok (.putfield 43, 3) := by decide +kernel
theorem dX4_clear_15 : decode cX4_clear 15 = .ok (.aload_n 0, 1) := by decide +kernel
theorem dX4_clear_16 : decode cX4_clear 16 = .ok (.getfield 28, 3) := by decide +kernel
theorem dX4_clear_19 : decode cX4_clear 19 = .ok (.iconst 0, 1) := by decide +kernel
theorem dX4_clear_20 : decode cX4_clear 20 = .ok (.invokestatic 46, 3) := by decide +kernel
theorem dX4_clear_23 : decode cX4_clear 23 = .ok (.aload_n 0, 1) := by decide +kernel
theorem dX4_clear_24 : decode cX4_clear 24 = .ok (.getfield 31, 3) := by decide +kernel
theorem dX4_clear_27 : decode cX4_clear 27 = .ok (.iconst 0, 1) := by decide +kernel
theorem dX4_clear_28 : decode cX4_clear 28 = .ok (.invokestatic 46, 3) := by decide +kernel
theorem dX4_clear_31 : decode cX4_clear 31 = .ok (.aload_n 0, 1) := by decide +kernel
theorem dX4_clear_32 : decode cX4_clear 32 = .ok (.getfield 34, 3) := by decide +kernel
theorem dX4_clear_35 : decode cX4_clear 35 = .ok (.iconst 0, 1) := by decide +kernel
theorem dX4_clear_36 : decode cX4_clear 36 = .ok (.invokestatic 46, 3) := by decide +kernel
theorem dX4_clear_39 : decode cX4_clear 39 = .ok (.aload_n 0, 1) := by decide +kernel
theorem dX4_clear_40 : decode cX4_clear 40 = .ok (.getfield 37, 3) := by decide +kernel
theorem dX4_clear_43 : decode cX4_clear 43 = .ok (.iconst 0, 1) := by decide +kernel
theorem dX4_clear_44 : decode cX4_clear 44 = .ok (.invokestatic 46, 3) := by decide +kernel
theorem dX4_clear_47 : decode cX4_clear 47 = .ok (.return_, 1) := by decide +kernel
theorem dX4_copyFrom_0 : decode cX4_copyFrom 0 = .ok (.aload_n 0, 1) := by decide +kernel
theorem dX4_copyFrom_1 : decode cX4_copyFrom 1 = .ok (.aload_n 1, 1) := by decide +kernel
theorem dX4_copyFrom_2 : decode cX4_copyFrom 2 = .ok (.getfield 40, 3) := by decide +kernel
theorem dX4_copyFrom_5 : decode cX4_copyFrom 5 = .ok (.putfield 40, 3) := by decide +kernel
theorem dX4_copyFrom_8 : decode cX4_copyFrom 8 = .ok (.aload_n 0, 1) := by decide +kernel
theorem dX4_copyFrom_9 : decode cX4_copyFrom 9 = .ok (.aload_n 1, 1) := by decide +kernel
theorem dX4_copyFrom_10 : decode cX4_copyFrom 10 = .ok (.getfield 9, 3) := by decide +kernel
theorem dX4_copyFrom_13 : decode cX4_copyFrom 13 = .ok (.putfield 9, 3) := by decide +kernel
theorem dX4_copyFrom_16 : decode cX4_copyFrom 16 = .ok (.aload_n 0, 1) := by decide +kernel
theorem dX4_copyFrom_17 : decode cX4_copyFrom 17 = .ok (.aload_n 1, 1) := by decide +kernel
theorem dX4_copyFrom_18 : decode cX4_copyFrom 18 = .ok (.getfield 43, 3) := by decide +kernel
theorem dX4_copyFrom_21 : decode cX4_copyFrom 21 = .ok (.putfield 43, 3) := by decide +kernel
theorem dX4_copyFrom_24 : decode cX4_copyFrom 24 = .ok (.aload_n 1, 1) := by decide +kernel
theorem dX4_copyFrom_25 : decode cX4_copyFrom 25 = .ok (.getfield 15, 3) := by decide +kernel
theorem dX4_copyFrom_28 : decode cX4_copyFrom 28 = .ok (.aload_n 0, 1) := by decide +kernel
theorem dX4_copyFrom_29 : decode cX4_copyFrom 29 = .ok (.getfield 15, 3) := by decide +kernel
theorem dX4_copyFrom_32 : decode cX4_copyFrom 32 = .ok (.iconst 4, 1) := by decide +kernel
theorem dX4_copyFrom_33 : decode cX4_copyFrom 33 = .ok (.invokestatic 52, 3) := by decide +kernel
theorem dX4_copyFrom_36 : decode cX4_copyFrom 36 = .ok (.aload_n 1, 1) := by decide +kernel
theorem dX4_copyFrom_37 : decode cX4_copyFrom 37 = .ok (.getfield 19, 3) := by decide +kernel
theorem dX4_copyFrom_40 : decode cX4_copyFrom 40 = .ok (.aload_n 0, 1) := by decide +kernel
theorem dX4_copyFrom_41 : decode cX4_copyFrom 41 = .ok (.getfield 19, 3) := by decide +kernel
theorem dX4_copyFrom_44 : decode cX4_copyFrom 44 = .ok (.iconst 4, 1) := by decide +kernel
theorem dX4_copyFrom_45 : decode cX4_copyFrom 45 = .ok (.invokestatic 52, 3) := by decide +kernel
theorem dX4_copyFrom_48 : decode cX4_copyFrom 48 = .ok (.aload_n 1, 1) := by decide +kernel
theorem dX4_copyFrom_49 : decode cX4_copyFrom 49 = .ok (.getfield 22, 3) := by decide +kernel
theorem dX4_copyFrom_52 : decode cX4_copyFrom 52 = .ok (.aload_n 0, 1) := by decide +kernel
theorem dX4_copyFrom_53 : decode cX4_copyFrom 53 = .ok (.getfield 22, 3) := by decide +kernel
theorem dX4_copyFrom_56 : decode cX4_copyFrom 56 = .ok (.iconst 4, 1) := by decide +kernel
theorem dX4_copyFrom_57 : decode cX4_copyFrom 57 = .ok (.invokestatic 52, 3) := by decide +kernel
theorem dX4_copyFrom_60 : decode cX4_copyFrom 60 = .ok (.aload_n 1, 1) := by decide +kernel
theorem dX4_copyFrom_61 : decode cX4_copyFrom 61 = .ok (.getfield 25, 3) := by decide +kernel
theorem dX4_copyFrom_64 : decode cX4_copyFrom 64 = .ok (.aload_n 0, 1) := by decide +kernel
theorem dX4_copyFrom_65 : decode cX4_copyFrom 65 = .ok (.getfield 25, 3) := by decide +kernel
theorem dX4_copyFrom_68 : decode cX4_copyFrom 68 = .ok (.bipush 8, 2) := by decide +kernel
theorem dX4_copyFrom_70 : decode cX4_copyFrom 70 = .ok (.invokestatic 52, 3) := by decide +kernel
theorem dX4_copyFrom_73 : decode cX4_copyFrom 73 = .ok (.aload_n 1, 1) := by decide +kernel
theorem dX4_copyFrom_74 : decode cX4_copyFrom 74 = .ok (.getfield 28, 3) := by decide +kernel
theorem dX4_copyFrom_77 : decode cX4_copyFrom 77 = .ok (.aload_n 0, 1) := by decide +kernel
theorem dX4_copyFrom_78 : decode cX4_copyFrom 78 = .ok (.getfield 28, 3) := by decide +kernel
theorem dX4_copyFrom_81 : decode cX4_copyFrom 81 = .ok (.bipush 64, 2) := by decide +kernel
theorem dX4_copyFrom_83 : decode cX4_copyFrom 83 = .ok (.invokestatic 52, 3) := by decide +kernel
theorem dX4_copyFrom_86 : decode cX4_copyFrom 86 = .ok (.aload_n 1, 1) := by decide +kernel
theorem dX4_copyFrom_87 : decode cX4_copyFrom 87 = .ok (.getfield 31, 3) := by decide +kernel
theorem dX4_copyFrom_90 : decode cX4_copyFrom 90 = .ok (.aload_n 0, 1) := by decide +kernel
theorem dX4_copyFrom_91 : decode cX4_copyFrom 91 = .ok (.getfield 31, 3) := by decide +kernel
theorem dX4_copyFrom_94 : decode cX4_copyFrom 94 = .ok (.bipush 32, 2) := by decide +kernel
theorem dX4_copyFrom_96 : decode cX4_copyFrom 96 = .ok (.invokestatic 52, 3) := by decide +kernel
theorem dX4_copyFrom_99 : decode cX4_copyFrom 99 = .ok (.aload_n 1, 1) := by decide +kernel
theorem dX4_copyFrom_100 : decode cX4_copyFrom 100 = .ok (.getfield 34, 3) := by decide +kernel
theorem dX4_copyFrom_103 : decode cX4_copyFrom 103 = .ok (.aload_n 0, 1) := by decide +kernel
theorem dX4_copyFrom_104 : decode cX4_copyFrom 104 = .ok (.getfield 34, 3) := by decide +kernel
theorem dX4_copyFrom_107 : decode cX4_copyFrom 107 = .ok (.bipush 32, 2) := by decide +kernel
theorem dX4_copyFrom_109 : decode cX4_copyFrom 109 = .ok (.invokestatic 52, 3) := by decide +kernel
theorem dX4_copyFrom_112 : decode cX4_copyFrom 112 = .ok (.aload_n 1, 1) := by decide +kernel
theorem dX4_copyFrom_113 : decode cX4_copyFrom 113 = .ok (.getfield 37, 3) := by decide +kernel
theorem dX4_copyFrom_116 : decode cX4_copyFrom 116 = .ok (.aload_n 0, 1) := by decide +kernel
theorem dX4_copyFrom_117 : decode cX4_copyFrom 117 = .ok (.getfield 37, 3) := by decide +kernel
theorem dX4_copyFrom_120 : decode cX4_copyFrom 120 = .ok (.bipush 32, 2) := by decide +kernel
theorem dX4_copyFrom_122 : decode cX4_copyFrom 122 = .ok (.invokestatic 52, 3) := by decide +kernel
theorem dX4_copyFrom_125 : decode cX4_copyFrom 125 = .ok (.return_, 1) := by decide +kernel
theorem dX4_isSite_0 : decode cX4_isSite 0 = .ok (.iload_n 1, 1) := by decide +kernel
theorem dX4_isSite_1 : decode cX4_isSite 1 = .ok (.ifCond .lt 15, 3) := by decide +kernel
theorem dX4_isSite_4 : decode cX4_isSite 4 = .ok (.iload_n 1, 1) := by decide +kernel
theorem dX4_isSite_5 : decode cX4_isSite 5 = .ok (.aload_n 0, 1) := by decide +kernel
theorem dX4_isSite_6 : decode cX4_isSite 6 = .ok (.getfield 9, 3) := by decide +kernel
theorem dX4_isSite_9 : decode cX4_isSite 9 = .ok (.if_icmp .ge 7, 3) := by decide +kernel
theorem dX4_isSite_12 : decode cX4_isSite 12 = .ok (.iconst 1, 1) := by decide +kernel
theorem dX4_isSite_13 : decode cX4_isSite 13 = .ok (.goto 4, 3) := by decide +kernel
theorem dX4_isSite_16 : decode cX4_isSite 16 = .ok (.iconst 0, 1) := by decide +kernel
theorem dX4_isSite_17 : decode cX4_isSite 17 = .ok (.ireturn, 1) := by decide +kernel
theorem dX4_isBase_0 : decode cX4_isBase 0 = .ok (.iload_n 1, 1) := by decide +kernel
theorem dX4_isBase_1 : decode cX4_isBase 1 = .ok (.ifCond .le 15, 3) := by decide +kernel
theorem dX4_isBase_4 : decode cX4_isBase 4 = .ok (.iload_n 1, 1) := by decide +kernel
theorem dX4_isBase_5 : decode cX4_isBase 5 = .ok (.aload_n 0, 1) := by decide +kernel
theorem dX4_isBase_6 : decode cX4_isBase 6 = .ok (.getfield 9, 3) := by decide +kernel
theorem dX4_isBase_9 : decode cX4_isBase 9 = .ok (.if_icmp .ge 7, 3) := by decide +kernel
theorem dX4_isBase_12 : decode cX4_isBase 12 = .ok (.iconst 1, 1) := by decide +kernel
theorem dX4_isBase_13 : decode cX4_isBase 13 = .ok (.goto 4, 3) := by decide +kernel
theorem dX4_isBase_16 : decode cX4_isBase 16 = .ok (.iconst 0, 1) := by decide +kernel
theorem dX4_isBase_17 : decode cX4_isBase 17 = .ok (.ireturn, 1) := by decide +kernel
theorem dX4_isItem_0 : decode cX4_isItem 0 = .ok (.iload_n 1, 1) := by decide +kernel
theorem dX4_isItem_1 : decode cX4_isItem 1 = .ok (.ifCond .lt 15, 3) := by decide +kernel
theorem dX4_isItem_4 : decode cX4_isItem 4 = .ok (.iload_n 1, 1) := by decide +kernel
theorem dX4_isItem_5 : decode cX4_isItem 5 = .ok (.aload_n 0, 1) := by decide +kernel
theorem dX4_isItem_6 : decode cX4_isItem 6 = .ok (.getfield 40, 3) := by decide +kernel
theorem dX4_isItem_9 : decode cX4_isItem 9 = .ok (.if_icmp .ge 7, 3) := by decide +kernel
theorem dX4_isItem_12 : decode cX4_isItem 12 = .ok (.iconst 1, 1) := by decide +kernel
theorem dX4_isItem_13 : decode cX4_isItem 13 = .ok (.goto 4, 3) := by decide +kernel
theorem dX4_isItem_16 : decode cX4_isItem 16 = .ok (.iconst 0, 1) := by decide +kernel
theorem dX4_isItem_17 : decode cX4_isItem 17 = .ok (.ireturn, 1) := by decide +kernel
theorem dX4_newItem_0 : decode cX4_newItem 0 = .ok (.aload_n 0, 1) := by decide +kernel
theorem dX4_newItem_1 : decode cX4_newItem 1 = .ok (.getfield 40, 3) := by decide +kernel
theorem dX4_newItem_4 : decode cX4_newItem 4 = .ok (.iconst 4, 1) := by decide +kernel
theorem dX4_newItem_5 : decode cX4_newItem 5 = .ok (.if_icmp .lt 5, 3) := by decide +kernel
theorem dX4_newItem_8 : decode cX4_newItem 8 = .ok (.iconst (-1), 1) := by decide +kernel
theorem dX4_newItem_9 : decode cX4_newItem 9 = .ok (.ireturn, 1) := by decide +kernel
theorem dX4_newItem_10 : decode cX4_newItem 10 = .ok (.aload_n 0, 1) := by decide +kernel
theorem dX4_newItem_11 : decode cX4_newItem 11 = .ok (.getfield 15, 3) := by decide +kernel
theorem dX4_newItem_14 : decode cX4_newItem 14 = .ok (.aload_n 0, 1) := by decide +kernel
theorem dX4_newItem_15 : decode cX4_newItem 15 = .ok (.getfield 40, 3) := by decide +kernel
theorem dX4_newItem_18 : decode cX4_newItem 18 = .ok (.iload_n 1, 1) := by decide +kernel
theorem dX4_newItem_19 : decode cX4_newItem 19 = .ok (.iastore, 1) := by decide +kernel
theorem dX4_newItem_20 : decode cX4_newItem 20 = .ok (.aload_n 0, 1) := by decide +kernel
theorem dX4_newItem_21 : decode cX4_newItem 21 = .ok (.getfield 19, 3) := by decide +kernel
theorem dX4_newItem_24 : decode cX4_newItem 24 = .ok (.aload_n 0, 1) := by decide +kernel
theorem dX4_newItem_25 : decode cX4_newItem 25 = .ok (.getfield 40, 3) := by decide +kernel
theorem dX4_newItem_28 : decode cX4_newItem 28 = .ok (.iload_n 2, 1) := by decide +kernel
theorem dX4_newItem_29 : decode cX4_newItem 29 = .ok (.iastore, 1) := by decide +kernel
theorem dX4_newItem_30 : decode cX4_newItem 30 = .ok (.aload_n 0, 1) := by decide +kernel
theorem dX4_newItem_31 : decode cX4_newItem 31 = .ok (.getfield 22, 3) := by decide +kernel
theorem dX4_newItem_34 : decode cX4_newItem 34 = .ok (.aload_n 0, 1) := by decide +kernel
theorem dX4_newItem_35 : decode cX4_newItem 35 = .ok (.getfield 40, 3) := by decide +kernel
theorem dX4_newItem_38 : decode cX4_newItem 38 = .ok (.iload_n 3, 1) := by decide +kernel
theorem dX4_newItem_39 : decode cX4_newItem 39 = .ok (.iastore, 1) := by decide +kernel
theorem dX4_newItem_40 : decode cX4_newItem 40 = .ok (.aload_n 0, 1) := by decide +kernel
theorem dX4_newItem_41 : decode cX4_newItem 41 = .ok (.dup, 1) := by decide +kernel
theorem dX4_newItem_42 : decode cX4_newItem 42 = .ok (.getfield 40, 3) := by decide +kernel
theorem dX4_newItem_45 : decode cX4_newItem 45 = .ok (.iconst 1, 1) := by decide +kernel
theorem dX4_newItem_46 : decode cX4_newItem 46 = .ok (.iadd, 1) := by decide +kernel
theorem dX4_newItem_47 : decode cX4_newItem 47 = .ok (.putfield 40, 3) := by decide +kernel
theorem dX4_newItem_50 : decode cX4_newItem 50 = .ok (.aload_n 0, 1) := by decide +kernel
theorem dX4_newItem_51 : decode cX4_newItem 51 = .ok (.getfield 40, 3) := by decide +kernel
theorem dX4_newItem_54 : decode cX4_newItem 54 = .ok (.iconst 1, 1) := by decide +kernel
theorem dX4_newItem_55 : decode cX4_newItem 55 = .ok (.isub, 1) := by decide +kernel
