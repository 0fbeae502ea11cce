theorem dX0_init_0 : decode cX0_init 0 = .ok (.aload_n 0, 1) := by decide +kernel
theorem dX0_init_1 : decode cX0_init 1 = .ok (.invokespecial 3, 3) := by decide +kernel
theorem dX0_init_4 : decode cX0_init 4 = .ok (.aload_n 0, 1) := by decide +kernel
theorem dX0_init_5 : decode cX0_init 5 = .ok (.bipush 16, 2) := by decide +kernel
theorem dX0_init_7 : decode cX0_init 7 = .ok (.newarray .int, 2) := by decide +kernel
theorem dX0_init_9 : decode cX0_init 9 = .ok (.putfield 11, 3) := by decide +kernel
theorem dX0_init_12 : decode cX0_init 12 = .ok (.return_, 1) := by decide +kernel
theorem dX0_start_0 : decode cX0_start 0 = .ok (.aload_n 0, 1) := by decide +kernel
theorem dX0_start_1 : decode cX0_start 1 = .ok (.iconst 0, 1) := by decide +kernel
theorem dX0_start_2 : decode cX0_start 2 = .ok (.putfield 15, 3) := by decide +kernel
theorem dX0_start_5 : decode cX0_start 5 = .ok (.aload_n 0, 1) := by decide +kernel
theorem dX0_start_6 : decode cX0_start 6 = .ok (.iload_n 1, 1) := by decide +kernel
theorem dX0_start_7 : decode cX0_start 7 = .ok (.putfield 19, 3) := by decide +kernel
theorem dX0_start_10 : decode cX0_start 10 = .ok (.return_, 1) := by decide +kernel
theorem dX0_begin_0 : decode cX0_begin 0 = .ok (.aload_n 0, 1) := by decide +kernel
theorem dX0_begin_1 : decode cX0_begin 1 = .ok (.getfield 15, 3) := by decide +kernel
theorem dX0_begin_4 : decode cX0_begin 4 = .ok (.bipush 16, 2) := by decide +kernel
theorem dX0_begin_6 : decode cX0_begin 6 = .ok (.if_icmp .lt 4, 3) := by decide +kernel
theorem dX0_begin_9 : decode cX0_begin 9 = .ok (.return_, 1) := by decide +kernel
theorem dX0_begin_10 : decode cX0_begin 10 = .ok (.aload_n 0, 1) := by decide +kernel
theorem dX0_begin_11 : decode cX0_begin 11 = .ok (.getfield 11, 3) := by decide +kernel
theorem dX0_begin_14 : decode cX0_begin 14 = .ok (.aload_n 0, 1) := by decide +kernel
theorem dX0_begin_15 : decode cX0_begin 15 = .ok (.getfield 15, 3) := by decide +kernel
theorem dX0_begin_18 : decode cX0_begin 18 = .ok (.iload_n 1, 1) := by decide +kernel
theorem dX0_begin_19 : decode cX0_begin 19 = .ok (.iastore, 1) := by decide +kernel
theorem dX0_begin_20 : decode cX0_begin 20 = .ok (.aload_n 0, 1) := by decide +kernel
theorem dX0_begin_21 : decode cX0_begin 21 = .ok (.dup, 1) := by decide +kernel
theorem dX0_begin_22 : decode cX0_begin 22 = .ok (.getfield 15, 3) := by decide +kernel
theorem dX0_begin_25 : decode cX0_begin 25 = .ok (.iconst 1, 1) := by decide +kernel
theorem dX0_begin_26 : decode cX0_begin 26 = .ok (.iadd, 1) := by decide +kernel
theorem dX0_begin_27 : decode cX0_begin 27 = .ok (.putfield 15, 3) := by decide +kernel
theorem dX0_begin_30 : decode cX0_begin 30 = .ok (.return_, 1) := by decide +kernel
theorem dX0_size_0 : decode cX0_size 0 = .ok (.aload_n 1, 1) := by decide +kernel
theorem dX0_size_1 : decode cX0_size 1 = .ok (.iload_n 2, 1) := by decide +kernel
theorem dX0_size_2 : decode cX0_size 2 = .ok (.invokevirtual 22, 3) := by decide +kernel
theorem dX0_size_5 : decode cX0_size 5 = .ok (.tableswitch 70 1 5 #[35, 42, 49, 56, 63], 35) := by decide +kernel
theorem dX0_size_40 : decode cX0_size 40 = .ok (.aload_n 0, 1) := by decide +kernel
theorem dX0_size_41 : decode cX0_size 41 = .ok (.aload_n 1, 1) := by decide +kernel
theorem dX0_size_42 : decode cX0_size 42 = .ok (.iload_n 2, 1) := by decide +kernel
theorem dX0_size_43 : decode cX0_size 43 = .ok (.invokevirtual 28, 3) := by decide +kernel
theorem dX0_size_46 : decode cX0_size 46 = .ok (.ireturn, 1) := by decide +kernel
theorem dX0_size_47 : decode cX0_size 47 = .ok (.aload_n 0, 1) := by decide +kernel
theorem dX0_size_48 : decode cX0_size 48 = .ok (.aload_n 1, 1) := by decide +kernel
theorem dX0_size_49 : decode cX0_size 49 = .ok (.iload_n 2, 1) := by decide +kernel
theorem dX0_size_50 : decode cX0_size 50 = .ok (.invokevirtual 32, 3) := by decide +kernel
theorem dX0_size_53 : decode cX0_size 53 = .ok (.ireturn, 1) := by decide +kernel
theorem dX0_size_54 : decode cX0_size 54 = .ok (.aload_n 0, 1) := by decide +kernel
theorem dX0_size_55 : decode cX0_size 55 = .ok (.aload_n 1, 1) := by decide +kernel
theorem dX0_size_56 : decode cX0_size 56 = .ok (.iload_n 2, 1) := by decide +kernel
theorem dX0_size_57 : decode cX0_size 57 = .ok (.invokevirtual 35, 3) := by decide +kernel
theorem dX0_size_60 : decode cX0_size 60 = .ok (.ireturn, 1) := by decide +kernel
theorem dX0_size_61 : decode cX0_size 61 = .ok (.aload_n 0, 1) := by decide +kernel
theorem dX0_size_62 : decode cX0_size 62 = .ok (.aload_n 1, 1) := by decide +kernel
theorem dX0_size_63 : decode cX0_size 63 = .ok (.iload_n 2, 1) := by decide +kernel
theorem dX0_size_64 : decode cX0_size 64 = .ok (.invokevirtual 38, 3) := by decide +kernel
theorem dX0_size_67 : decode cX0_size 67 = .ok (.ireturn, 1) := by decide +kernel
theorem dX0_size_68 : decode cX0_size 68 = .ok (.aload_n 0, 1) := by decide +kernel
theorem dX0_size_69 : decode cX0_size 69 = .ok (.aload_n 1, 1) := by decide +kernel
theorem dX0_size_70 : decode cX0_size 70 = .ok (.iload_n 2, 1) := by decide +kernel
theorem dX0_size_71 : decode cX0_size 71 = .ok (.invokevirtual 41, 3) := by decide +kernel
theorem dX0_size_74 : decode cX0_size 74 = .ok (.ireturn, 1) := by decide +kernel
theorem dX0_size_75 : decode cX0_size 75 = .ok (.aload_n 0, 1) := by decide +kernel
theorem dX0_size_76 : decode cX0_size 76 = .ok (.aload_n 1, 1) := by decide +kernel
theorem dX0_size_77 : decode cX0_size 77 = .ok (.iload_n 2, 1) := by decide +kernel
theorem dX0_size_78 : decode cX0_size 78 = .ok (.invokevirtual 44, 3) := by decide +kernel
theorem dX0_size_81 : decode cX0_size 81 = .ok (.ireturn, 1) := by decide +kernel
theorem dX0_mark_0 : decode cX0_mark 0 = .ok (.aload_n 1, 1) := by decide +kernel
theorem dX0_mark_1 : decode cX0_mark 1 = .ok (.iload_n 2, 1) := by decide +kernel
theorem dX0_mark_2 : decode cX0_mark 2 = .ok (.invokevirtual 22, 3) := by decide +kernel
theorem dX0_mark_5 : decode cX0_mark 5 = .ok (.tableswitch 40 3 5 #[27, 27, 33], 27) := by decide +kernel
theorem dX0_mark_32 : decode cX0_mark 32 = .ok (.aload_n 0, 1) := by decide +kernel
theorem dX0_mark_33 : decode cX0_mark 33 = .ok (.iload_n 2, 1) := by decide +kernel
theorem dX0_mark_34 : decode cX0_mark 34 = .ok (.invokevirtual 47, 3) := by decide +kernel
theorem dX0_mark_37 : decode cX0_mark 37 = .ok (.ireturn, 1) := by decide +kernel
theorem dX0_mark_38 : decode cX0_mark 38 = .ok (.aload_n 0, 1) := by decide +kernel
theorem dX0_mark_39 : decode cX0_mark 39 = .ok (.aload_n 1, 1) := by decide +kernel
theorem dX0_mark_40 : decode cX0_mark 40 = .ok (.iload_n 2, 1) := by decide +kernel
theorem dX0_mark_41 : decode cX0_mark 41 = .ok (.invokevirtual 50, 3) := by decide +kernel
theorem dX0_mark_44 : decode cX0_mark 44 = .ok (.ireturn, 1) := by decide +kernel
theorem dX0_mark_45 : decode cX0_mark 45 = .ok (.aload_n 0, 1) := by decide +kernel
theorem dX0_mark_46 : decode cX0_mark 46 = .ok (.iload_n 2, 1) := by decide +kernel
theorem dX0_mark_47 : decode cX0_mark 47 = .ok (.invokevirtual 53, 3) := by decide +kernel
theorem dX0_mark_50 : decode cX0_mark 50 = .ok (.ireturn, 1) := by decide +kernel
theorem dX0_size10_0 : decode cX0_size10 0 = .ok (.aload_n 0, 1) := by decide +kernel
theorem dX0_size10_1 : decode cX0_size10 1 = .ok (.bipush 10, 2) := by decide +kernel
theorem dX0_size10_3 : decode cX0_size10 3 = .ok (.invokevirtual 56, 3) := by decide +kernel
theorem dX0_size10_6 : decode cX0_size10 6 = .ok (.aload_n 1, 1) := by decide +kernel
theorem dX0_size10_7 : decode cX0_size10 7 = .ok (.iload_n 2, 1) := by decide +kernel
theorem dX0_size10_8 : decode cX0_size10 8 = .ok (.invokevirtual 60, 3) := by decide +kernel
theorem dX0_size10_11 : decode cX0_size10 11 = .ok (.ireturn, 1) := by decide +kernel
theorem dX0_size11_0 : decode cX0_size11 0 = .ok (.aload_n 0, 1) := by decide +kernel
theorem dX0_size11_1 : decode cX0_size11 1 = .ok (.bipush 11, 2) := by decide +kernel
theorem dX0_size11_3 : decode cX0_size11 3 = .ok (.invokevirtual 56, 3) := by decide +kernel
theorem dX0_size11_6 : decode cX0_size11 6 = .ok (.aload_n 0, 1) := by decide +kernel
theorem dX0_size11_7 : decode cX0_size11 7 = .ok (.aload_n 1, 1) := by decide +kernel
theorem dX0_size11_8 : decode cX0_size11 8 = .ok (.iload_n 2, 1) := by decide +kernel
theorem dX0_size11_9 : decode cX0_size11 9 = .ok (.invokevirtual 44, 3) := by decide +kernel
theorem dX0_size11_12 : decode cX0_size11 12 = .ok (.aload_n 1, 1) := by decide +kernel
theorem dX0_size11_13 : decode cX0_size11 13 = .ok (.getfield 63, 3) := by decide +kernel
theorem dX0_size11_16 : decode cX0_size11 16 = .ok (.iload_n 2, 1) := by decide +kernel
theorem dX0_size11_17 : decode cX0_size11 17 = .ok (.iaload, 1) := by decide +kernel
theorem dX0_size11_18 : decode cX0_size11 18 = .ok (.iadd, 1) := by decide +kernel
theorem dX0_size11_19 : decode cX0_size11 19 = .ok (.ireturn, 1) := by decide +kernel
theorem dX0_size12_0 : decode cX0_size12 0 = .ok (.aload_n 0, 1) := by decide +kernel
theorem dX0_size12_1 : decode cX0_size12 1 = .ok (.bipush 12, 2) := by decide +kernel
theorem dX0_size12_3 : decode cX0_size12 3 = .ok (.invokevirtual 56, 3) := by decide +kernel
theorem dX0_size12_6 : decode cX0_size12 6 = .ok (.iconst 2, 1) := by decide +kernel
theorem dX0_size12_7 : decode cX0_size12 7 = .ok (.aload_n 0, 1) := by decide +kernel
theorem dX0_size12_8 : decode cX0_size12 8 = .ok (.aload_n 1, 1) := by decide +kernel
theorem dX0_size12_9 : decode cX0_size12 9 = .ok (.iload_n 2, 1) := by decide +kernel
theorem dX0_size12_10 : decode cX0_size12 10 = .ok (.invokevirtual 28, 3) := by decide +kernel
theorem dX0_size12_13 : decode cX0_size12 13 = .ok (.imul, 1) := by decide +kernel
theorem dX0_size12_14 : decode cX0_size12 14 = .ok (.ireturn, 1) := by decide +kernel
theorem dX0_size13_0 : decode cX0_size13 0 = .ok (.aload_n 0, 1) := by decide +kernel
theorem dX0_size13_1 : decode cX0_size13 1 = .ok (.bipush 13, 2) := by decide +kernel
theorem dX0_size13_3 : decode cX0_size13 3 = .ok (.invokevirtual 56, 3) := by decide +kernel
theorem dX0_size13_6 : decode cX0_size13 6 = .ok (.aload_n 0, 1) := by decide +kernel
theorem dX0_size13_7 : decode cX0_size13 7 = .ok (.aload_n 1, 1) := by decide +kernel
theorem dX0_size13_8 : decode cX0_size13 8 = .ok (.iload_n 2, 1) := by decide +kernel
theorem dX0_size13_9 : decode cX0_size13 9 = .ok (.invokevirtual 44, 3) := by decide +kernel
theorem dX0_size13_12 : decode cX0_size13 12 = .ok (.aload_n 0, 1) := by decide +kernel
theorem dX0_size13_13 : decode cX0_size13 13 = .ok (.aload_n 1, 1) := by decide +kernel
theorem dX0_size13_14 : decode cX0_size13 14 = .ok (.iload_n 2, 1) := by decide +kernel
theorem dX0_size13_15 : decode cX0_size13 15 = .ok (.invokevirtual 66, 3) := by decide +kernel
theorem dX0_size13_18 : decode cX0_size13 18 = .ok (.iadd, 1) := by decide +kernel
theorem dX0_size13_19 : decode cX0_size13 19 = .ok (.ireturn, 1) := by decide +kernel
theorem dX0_size14_0 : decode cX0_size14 0 = .ok (.aload_n 0, 1) := by decide +kernel
theorem dX0_size14_1 : decode cX0_size14 1 = .ok (.bipush 14, 2) := by decide +kernel
theorem dX0_size14_3 : decode cX0_size14 3 = .ok (.invokevirtual 56, 3) := by decide +kernel
theorem dX0_size14_6 : decode cX0_size14 6 = .ok (.aload_n 0, 1) := by decide +kernel
theorem dX0_size14_7 : decode cX0_size14 7 = .ok (.aload_n 1, 1) := by decide +kernel
theorem dX0_size14_8 : decode cX0_size14 8 = .ok (.iload_n 2, 1) := by decide +kernel
theorem dX0_size14_9 : decode cX0_size14 9 = .ok (.invokevirtual 35, 3) := by decide +kernel
theorem dX0_size14_12 : decode cX0_size14 12 = .ok (.aload_n 1, 1) := by decide +kernel
theorem dX0_size14_13 : decode cX0_size14 13 = .ok (.iload_n 2, 1) := by decide +kernel
theorem dX0_size14_14 : decode cX0_size14 14 = .ok (.invokevirtual 69, 3) := by decide +kernel
theorem dX0_size14_17 : decode cX0_size14 17 = .ok (.iadd, 1) := by decide +kernel
theorem dX0_size14_18 : decode cX0_size14 18 = .ok (.ireturn, 1) := by decide +kernel
theorem dX0_size15_0 : decode cX0_size15 0 = .ok (.aload_n 0, 1) := by decide +kernel
theorem dX0_size15_1 : decode cX0_size15 1 = .ok (.bipush 15, 2) := by decide +kernel
theorem dX0_size15_3 : decode cX0_size15 3 = .ok (.invokevirtual 56, 3) := by decide +kernel
theorem dX0_size15_6 : decode cX0_size15 6 = .ok (.aload_n 0, 1) := by decide +kernel
theorem dX0_size15_7 : decode cX0_size15 7 = .ok (.aload_n 1, 1) := by decide +kernel
theorem dX0_size15_8 : decode cX0_size15 8 = .ok (.iload_n 2, 1) := by decide +kernel
theorem dX0_size15_9 : decode cX0_size15 9 = .ok (.invokevirtual 28, 3) := by decide +kernel
theorem dX0_size15_12 : decode cX0_size15 12 = .ok (.ineg, 1) := by decide +kernel
theorem dX0_size15_13 : decode cX0_size15 13 = .ok (.ireturn, 1) := by decide +kernel
theorem dX0_mark20_0 : decode cX0_mark20 0 = .ok (.aload_n 0, 1) := by decide +kernel
theorem dX0_mark20_1 : decode cX0_mark20 1 = .ok (.bipush 20, 2) := by decide +kernel
theorem dX0_mark20_3 : decode cX0_mark20 3 = .ok (.invokevirtual 56, 3) := by decide +kernel
theorem dX0_mark20_6 : decode cX0_mark20 6 = .ok (.iload_n 1, 1) := by decide +kernel
theorem dX0_mark20_7 : decode cX0_mark20 7 = .ok (.ireturn, 1) := by decide +kernel
theorem dX0_mark21_0 : decode cX0_mark21 0 = .ok (.aload_n 0, 1) := by decide +kernel
theorem dX0_mark21_1 : decode cX0_mark21 1 = .ok (.bipush 21, 2) := by decide +kernel
theorem dX0_mark21_3 : decode cX0_mark21 3 = .ok (.invokevirtual 56, 3) := by decide +kernel
theorem dX0_mark21_6 : decode cX0_mark21 6 = .ok (.aload_n 0, 1) := by decide +kernel
theorem dX0_mark21_7 : decode cX0_mark21 7 = .ok (.iload_n 1, 1) := by decide +kernel
theorem dX0_mark21_8 : decode cX0_mark21 8 = .ok (.invokevirtual 53, 3) := by decide +kernel
theorem dX0_mark21_11 : decode cX0_mark21 11 = .ok (.bipush 100, 2) := by decide +kernel
theorem dX0_mark21_13 : decode cX0_mark21 13 = .ok (.aload_n 0, 1) := by decide +kernel
theorem dX0_mark21_14 : decode cX0_mark21 14 = .ok (.getfield 19, 3) := by decide +kernel
theorem dX0_mark21_17 : decode cX0_mark21 17 = .ok (.iload_n 1, 1) := by decide +kernel
theorem dX0_mark21_18 : decode cX0_mark21 18 = .ok (.invokestatic 72, 3) := by decide +kernel
theorem dX0_mark21_21 : decode cX0_mark21 21 = .ok (.imul, 1) := by decide +kernel
theorem dX0_mark21_22 : decode cX0_mark21 22 = .ok (.iadd, 1) := by decide +kernel
theorem dX0_mark21_23 : decode cX0_mark21 23 = .ok (.ireturn, 1) := by decide +kernel
theorem dX0_mark22_0 : decode cX0_mark22 0 = .ok (.aload_n 0, 1) := by decide +kernel
theorem dX0_mark22_1 : decode cX0_mark22 1 = .ok (.bipush 22, 2) := by decide +kernel
theorem dX0_mark22_3 : decode cX0_mark22 3 = .ok (.invokevirtual 56, 3) := by decide +kernel
theorem dX0_mark22_6 : decode cX0_mark22 6 = .ok (.aload_n 0, 1) := by decide +kernel
theorem dX0_mark22_7 : decode cX0_mark22 7 = .ok (.iload_n 2, 1) := by decide +kernel
theorem dX0_mark22_8 : decode cX0_mark22 8 = .ok (.invokevirtual 53, 3) := by decide +kernel
theorem dX0_mark22_11 : decode cX0_mark22 11 = .ok (.aload_n 1, 1) := by decide +kernel
theorem dX0_mark22_12 : decode cX0_mark22 12 = .ok (.getfield 76, 3) := by decide +kernel
theorem dX0_mark22_15 : decode cX0_mark22 15 = .ok (.iadd, 1) := by decide +kernel
theorem dX0_mark22_16 : decode cX0_mark22 16 = .ok (.ireturn, 1) := by decide +kernel
theorem dX1_init_0 : decode cX1_init 0 = .ok (.aload_n 0, 1) := by decide +kernel
theorem dX1_init_1 : decode cX1_init 1 = .ok (.invokespecial 3, 3) := by decide +kernel
theorem dX1_init_4 : decode cX1_init 4 = .ok (.aload_n 0, 1) := by decide +kernel
theorem dX1_init_5 : decode cX1_init 5 = .ok (.bipush 20, 2) := by decide +kernel
theorem dX1_init_7 : decode cX1_init 7 = .ok (.newarray .int, 2) := by decide +kernel
theorem dX1_init_9 : decode cX1_init 9 = .ok (.putfield 9, 3) := by decide +kernel
theorem dX1_init_12 : decode cX1_init 12 = .ok (.return_, 1) := by decide +kernel
theorem dX1_seek_0 : decode cX1_seek 0 = .ok (.aload_n 0, 1) := by decide +kernel
theorem dX1_seek_1 : decode cX1_seek 1 = .ok (.iload_n 2, 1) := by decide +kernel
theorem dX1_seek_2 : decode cX1_seek 2 = .ok (.putfield 15, 3) := by decide +kernel
theorem dX1_seek_5 : decode cX1_seek 5 = .ok (.aload_n 0, 1) := by decide +kernel
theorem dX1_seek_6 : decode cX1_seek 6 = .ok (.aload_n 1, 1) := by decide +kernel
theorem dX1_seek_7 : decode cX1_seek 7 = .ok (.invokevirtual 19, 3) := by decide +kernel
theorem dX1_seek_10 : decode cX1_seek 10 = .ok (.putfield 25, 3) := by decide +kernel
theorem dX1_seek_13 : decode cX1_seek 13 = .ok (.aload_n 0, 1) := by decide +kernel
theorem dX1_seek_14 : decode cX1_seek 14 = .ok (.iload_n 3, 1) := by decide +kernel
theorem dX1_seek_15 : decode cX1_seek 15 = .ok (.putfield 27, 3) := by decide +kernel
theorem dX1_seek_18 : decode cX1_seek 18 = .ok (.aload_n 0, 1) := by decide +kernel
theorem dX1_seek_19 : decode cX1_seek 19 = .ok (.iconst 0, 1) := by decide +kernel
theorem dX1_seek_20 : decode cX1_seek 20 = .ok (.putfield 30, 3) := by decide +kernel
theorem dX1_seek_23 : decode cX1_seek 23 = .ok (.aload_n 0, 1) := by decide +kernel
theorem dX1_seek_24 : decode cX1_seek 24 = .ok (.ldc 33, 2) := by decide +kernel
theorem dX1_seek_26 : decode cX1_seek 26 = .ok (.putfield 34, 3) := by decide +kernel
theorem dX1_seek_29 : decode cX1_seek 29 = .ok (.aload_n 0, 1) := by decide +kernel
theorem dX1_seek_30 : decode cX1_seek 30 = .ok (.getfield 25, 3) := by decide +kernel
theorem dX1_seek_33 : decode cX1_seek 33 = .ok (.aload_n 0, 1) := by decide +kernel
theorem dX1_seek_34 : decode cX1_seek 34 = .ok (.aload_n 1, 1) := by decide +kernel
theorem dX1_seek_35 : decode cX1_seek 35 = .ok (.invokevirtual 37, 3) := by decide +kernel
theorem dX1_seek_38 : decode cX1_seek 38 = .ok (.iconst (-1), 1) := by decide +kernel
theorem dX1_seek_39 : decode cX1_seek 39 = .ok (.ixor, 1) := by decide +kernel
theorem dX1_seek_40 : decode cX1_seek 40 = .ok (.iand, 1) := by decide +kernel
theorem dX1_seek_41 : decode cX1_seek 41 = .ok (.istore 4, 2) := by decide +kernel
theorem dX1_seek_43 : decode cX1_seek 43 = .ok (.aload_n 0, 1) := by decide +kernel
theorem dX1_seek_44 : decode cX1_seek 44 = .ok (.aload_n 1, 1) := by decide +kernel
theorem dX1_seek_45 : decode cX1_seek 45 = .ok (.iload 4, 2) := by decide +kernel
theorem dX1_seek_47 : decode cX1_seek 47 = .ok (.invokevirtual 41, 3) := by decide +kernel
theorem dX1_seek_50 : decode cX1_seek 50 = .ok (.aload_n 0, 1) := by decide +kernel
theorem dX1_seek_51 : decode cX1_seek 51 = .ok (.aload_n 1, 1) := by decide +kernel
theorem dX1_seek_52 : decode cX1_seek 52 = .ok (.iload 4, 2) := by decide +kernel
theorem dX1_seek_54 : decode cX1_seek 54 = .ok (.invokevirtual 45, 3) := by decide +kernel
theorem dX1_seek_57 : decode cX1_seek 57 = .ok (.iload_n 3, 1) := by decide +kernel
theorem dX1_seek_58 : decode cX1_seek 58 = .ok (.ifCond .ge 10, 3) := by decide +kernel
theorem dX1_seek_61 : decode cX1_seek 61 = .ok (.aload_n 0, 1) := by decide +kernel
theorem dX1_seek_62 : decode cX1_seek 62 = .ok (.getfield 30, 3) := by decide +kernel
theorem dX1_seek_65 : decode cX1_seek 65 = .ok (.goto 7, 3) := by decide +kernel
theorem dX1_seek_68 : decode cX1_seek 68 = .ok (.aload_n 0, 1) := by decide +kernel
theorem dX1_seek_69 : decode cX1_seek 69 = .ok (.getfield 34, 3) := by decide +kernel
theorem dX1_seek_72 : decode cX1_seek 72 = .ok (.ireturn, 1) := by decide +kernel
theorem dX1_seekOnes_0 : decode cX1_seekOnes 0 = .ok (.iconst 0, 1) := by decide +kernel
theorem dX1_seekOnes_1 : decode cX1_seekOnes 1 = .ok (.istore_n 2, 1) := by decide +kernel
theorem dX1_seekOnes_2 : decode cX1_seekOnes 2 = .ok (.iconst 0, 1) := by decide +kernel
theorem dX1_seekOnes_3 : decode cX1_seekOnes 3 = .ok (.istore_n 3, 1) := by decide +kernel
theorem dX1_seekOnes_4 : decode cX1_seekOnes 4 = .ok (.iload_n 3, 1) := by decide +kernel
theorem dX1_seekOnes_5 : decode cX1_seekOnes 5 = .ok (.bipush 20, 2) := by decide +kernel
theorem dX1_seekOnes_7 : decode cX1_seekOnes 7 = .ok (.if_icmp .ge 38, 3) := by decide +kernel
theorem dX1_seekOnes_10 : decode cX1_seekOnes 10 = .ok (.aload_n 0, 1) := by decide +kernel
theorem dX1_seekOnes_11 : decode cX1_seekOnes 11 = .ok (.getfield 25, 3) := by decide +kernel
theorem dX1_seekOnes_14 : decode cX1_seekOnes 14 = .ok (.iload_n 3, 1) := by decide +kernel
theorem dX1_seekOnes_15 : decode cX1_seekOnes 15 = .ok (.invokestatic 48, 3) := by decide +kernel
theorem dX1_seekOnes_18 : decode cX1_seekOnes 18 = .ok (.iconst 1, 1) := by decide +kernel
theorem dX1_seekOnes_19 : decode cX1_seekOnes 19 = .ok (.if_icmp .ne 20, 3) := by decide +kernel
theorem dX1_seekOnes_22 : decode cX1_seekOnes 22 = .ok (.aload_n 0, 1) := by decide +kernel
theorem dX1_seekOnes_23 : decode cX1_seekOnes 23 = .ok (.aload_n 1, 1) := by decide +kernel
theorem dX1_seekOnes_24 : decode cX1_seekOnes 24 = .ok (.iconst 1, 1) := by decide +kernel
theorem dX1_seekOnes_25 : decode cX1_seekOnes 25 = .ok (.iload_n 3, 1) := by decide +kernel
theorem dX1_seekOnes_26 : decode cX1_seekOnes 26 = .ok (.ishl, 1) := by decide +kernel
theorem dX1_seekOnes_27 : decode cX1_seekOnes 27 = .ok (.invokevirtual 52, 3) := by decide +kernel
theorem dX1_seekOnes_30 : decode cX1_seekOnes 30 = .ok (.ifCond .eq 9, 3) := by decide +kernel
theorem dX1_seekOnes_33 : decode cX1_seekOnes 33 = .ok (.iload_n 2, 1) := by decide +kernel
theorem dX1_seekOnes_34 : decode cX1_seekOnes 34 = .ok (.iconst 1, 1) := by decide +kernel
theorem dX1_seekOnes_35 : decode cX1_seekOnes 35 = .ok (.iload_n 3, 1) := by decide +kernel
theorem dX1_seekOnes_36 : decode cX1_seekOnes 36 = .ok (.ishl, 1) := by decide +kernel
theorem dX1_seekOnes_37 : decode cX1_seekOnes 37 = .ok (.ior, 1) := by decide +kernel
theorem dX1_seekOnes_38 : decode cX1_seekOnes 38 = .ok (.istore_n 2, 1) := by decide +kernel
theorem dX1_seekOnes_39 : decode cX1_seekOnes 39 = .ok (.iinc 3 1, 3) := by decide +kernel
theorem dX1_seekOnes_42 : decode cX1_seekOnes 42 = .ok (.goto (-38), 3) := by decide +kernel
theorem dX1_seekOnes_45 : decode cX1_seekOnes 45 = .ok (.iload_n 2, 1) := by decide +kernel
theorem dX1_seekOnes_46 : decode cX1_seekOnes 46 = .ok (.ireturn, 1) := by decide +kernel
theorem dX1_seekTwos_0 : decode cX1_seekTwos 0 = .ok (.iconst 0, 1) := by decide +kernel
theorem dX1_seekTwos_1 : decode cX1_seekTwos 1 = .ok (.istore_n 3, 1) := by decide +kernel
theorem dX1_seekTwos_2 : decode cX1_seekTwos 2 = .ok (.iload_n 3, 1) := by decide +kernel
theorem dX1_seekTwos_3 : decode cX1_seekTwos 3 = .ok (.bipush 20, 2) := by decide +kernel
theorem dX1_seekTwos_5 : decode cX1_seekTwos 5 = .ok (.if_icmp .ge 81, 3) := by decide +kernel
theorem dX1_seekTwos_8 : decode cX1_seekTwos 8 = .ok (.aload_n 0, 1) := by decide +kernel
theorem dX1_seekTwos_9 : decode cX1_seekTwos 9 = .ok (.getfield 9, 3) := by decide +kernel
theorem dX1_seekTwos_12 : decode cX1_seekTwos 12 = .ok (.iload_n 3, 1) := by decide +kernel
theorem dX1_seekTwos_13 : decode cX1_seekTwos 13 = .ok (.iconst 0, 1) := by decide +kernel
theorem dX1_seekTwos_14 : decode cX1_seekTwos 14 = .ok (.iastore, 1) := by decide +kernel
theorem dX1_seekTwos_15 : decode cX1_seekTwos 15 = .ok (.iload_n 2, 1) := by decide +kernel
theorem dX1_seekTwos_16 : decode cX1_seekTwos 16 = .ok (.iload_n 3, 1) := by decide +kernel
theorem dX1_seekTwos_17 : decode cX1_seekTwos 17 = .ok (.invokestatic 48, 3) := by decide +kernel
theorem dX1_seekTwos_20 : decode cX1_seekTwos 20 = .ok (.ifCond .ne 6, 3) := by decide +kernel
theorem dX1_seekTwos_23 : decode cX1_seekTwos 23 = .ok (.goto 57, 3) := by decide +kernel
theorem dX1_seekTwos_26 : decode cX1_seekTwos 26 = .ok (.iconst 0, 1) := by decide +kernel
theorem dX1_seekTwos_27 : decode cX1_seekTwos 27 = .ok (.istore 4, 2) := by decide +kernel
theorem dX1_seekTwos_29 : decode cX1_seekTwos 29 = .ok (.iload 4, 2) := by decide +kernel
theorem dX1_seekTwos_31 : decode cX1_seekTwos 31 = .ok (.iload_n 3, 1) := by decide +kernel
theorem dX1_seekTwos_32 : decode cX1_seekTwos 32 = .ok (.if_icmp .ge 48, 3) := by decide +kernel
theorem dX1_seekTwos_35 : decode cX1_seekTwos 35 = .ok (.iload_n 2, 1) := by decide +kernel
theorem dX1_seekTwos_36 : decode cX1_seekTwos 36 = .ok (.iload 4, 2) := by decide +kernel
theorem dX1_seekTwos_38 : decode cX1_seekTwos 38 = .ok (.invokestatic 48, 3) := by decide +kernel
theorem dX1_seekTwos_41 : decode cX1_seekTwos 41 = .ok (.iconst 1, 1) := by decide +kernel
theorem dX1_seekTwos_42 : decode cX1_seekTwos 42 = .ok (.if_icmp .ne 32, 3) := by decide +kernel
theorem dX1_seekTwos_45 : decode cX1_seekTwos 45 = .ok (.aload_n 0, 1) := by decide +kernel
theorem dX1_seekTwos_46 : decode cX1_seekTwos 46 = .ok (.aload_n 1, 1) := by decide +kernel
theorem dX1_seekTwos_47 : decode cX1_seekTwos 47 = .ok (.iconst 1, 1) := by decide +kernel
theorem dX1_seekTwos_48 : decode cX1_seekTwos 48 = .ok (.iload_n 3, 1) := by decide +kernel
theorem dX1_seekTwos_49 : decode cX1_seekTwos 49 = .ok (.ishl, 1) := by decide +kernel
theorem dX1_seekTwos_50 : decode cX1_seekTwos 50 = .ok (.iconst 1, 1) := by decide +kernel
theorem dX1_seekTwos_51 : decode cX1_seekTwos 51 = .ok (.iload 4, 2) := by decide +kernel
theorem dX1_seekTwos_53 : decode cX1_seekTwos 53 = .ok (.ishl, 1) := by decide +kernel
theorem dX1_seekTwos_54 : decode cX1_seekTwos 54 = .ok (.ior, 1) := by decide +kernel
theorem dX1_seekTwos_55 : decode cX1_seekTwos 55 = .ok (.invokevirtual 52, 3) := by decide +kernel
theorem dX1_seekTwos_58 : decode cX1_seekTwos 58 = .ok (.ifCond .eq 16, 3) := by decide +kernel
theorem dX1_seekTwos_61 : decode cX1_seekTwos 61 = .ok (.aload_n 0, 1) := by decide +kernel
theorem dX1_seekTwos_62 : decode cX1_seekTwos 62 = .ok (.getfield 9, 3) := by decide +kernel
theorem dX1_seekTwos_65 : decode cX1_seekTwos 65 = .ok (.iload_n 3, 1) := by decide +kernel
theorem dX1_seekTwos_66 : decode cX1_seekTwos 66 = .ok (.dup2, 1) := by decide +kernel
theorem dX1_seekTwos_67 : decode cX1_seekTwos 67 = .ok (.iaload, 1) := by decide +kernel
theorem dX1_seekTwos_68 : decode cX1_seekTwos 68 = .ok (.iconst 1, 1) := by decide +kernel
theorem dX1_seekTwos_69 : decode cX1_seekTwos 69 = .ok (.iload 4, 2) := by decide +kernel
theorem dX1_seekTwos_71 : decode cX1_seekTwos 71 = .ok (.ishl, 1) := by decide +kernel
theorem dX1_seekTwos_72 : decode cX1_seekTwos 72 = .ok (.ior, 1) := by decide +kernel
theorem dX1_seekTwos_73 : decode cX1_seekTwos 73 = .ok (.iastore, 1) := by decide +kernel
theorem dX1_seekTwos_74 : decode cX1_seekTwos 74 = .ok (.iinc 4 1, 3) := by decide +kernel
theorem dX1_seekTwos_77 : decode cX1_seekTwos 77 = .ok (.goto (-48), 3) := by decide +kernel
theorem dX1_seekTwos_80 : decode cX1_seekTwos 80 = .ok (.iinc 3 1, 3) := by decide +kernel
theorem dX1_seekTwos_83 : decode cX1_seekTwos 83 = .ok (.goto (-81), 3) := by decide +kernel
theorem dX1_seekTwos_86 : decode cX1_seekTwos 86 = .ok (.return_, 1) := by decide +kernel
theorem dX1_seekThrees_0 : decode cX1_seekThrees 0 = .ok (.iconst 0, 1) := by decide +kernel
theorem dX1_seekThrees_1 : decode cX1_seekThrees 1 = .ok (.istore_n 3, 1) := by decide +kernel
theorem dX1_seekThrees_2 : decode cX1_seekThrees 2 = .ok (.iload_n 3, 1) := by decide +kernel
theorem dX1_seekThrees_3 : decode cX1_seekThrees 3 = .ok (.bipush 20, 2) := by decide +kernel
theorem dX1_seekThrees_5 : decode cX1_seekThrees 5 = .ok (.if_icmp .ge 120, 3) := by decide +kernel
theorem dX1_seekThrees_8 : decode cX1_seekThrees 8 = .ok (.iload_n 2, 1) := by decide +kernel
theorem dX1_seekThrees_9 : decode cX1_seekThrees 9 = .ok (.iload_n 3, 1) := by decide +kernel
theorem dX1_seekThrees_10 : decode cX1_seekThrees 10 = .ok (.invokestatic 48, 3) := by decide +kernel
theorem dX1_seekThrees_13 : decode cX1_seekThrees 13 = .ok (.ifCond .ne 6, 3) := by decide +kernel
theorem dX1_seekThrees_16 : decode cX1_seekThrees 16 = .ok (.goto 103, 3) := by decide +kernel
theorem dX1_seekThrees_19 : decode cX1_seekThrees 19 = .ok (.iload_n 2, 1) := by decide +kernel
theorem dX1_seekThrees_20 : decode cX1_seekThrees 20 = .ok (.aload_n 0, 1) := by decide +kernel
theorem dX1_seekThrees_21 : decode cX1_seekThrees 21 = .ok (.getfield 9, 3) := by decide +kernel
theorem dX1_seekThrees_24 : decode cX1_seekThrees 24 = .ok (.iload_n 3, 1) := by decide +kernel
theorem dX1_seekThrees_25 : decode cX1_seekThrees 25 = .ok (.iaload, 1) := by decide +kernel
theorem dX1_seekThrees_26 : decode cX1_seekThrees 26 = .ok (.iconst (-1), 1) := by decide +kernel
theorem dX1_seekThrees_27 : decode cX1_seekThrees 27 = .ok (.ixor, 1) := by decide +kernel
theorem dX1_seekThrees_28 : decode cX1_seekThrees 28 = .ok (.iand, 1) := by decide +kernel
theorem dX1_seekThrees_29 : decode cX1_seekThrees 29 = .ok (.istore 4, 2) := by decide +kernel
theorem dX1_seekThrees_31 : decode cX1_seekThrees 31 = .ok (.iconst 0, 1) := by decide +kernel
theorem dX1_seekThrees_32 : decode cX1_seekThrees 32 = .ok (.istore 5, 2) := by decide +kernel
theorem dX1_seekThrees_34 : decode cX1_seekThrees 34 = .ok (.iload 5, 2) := by decide +kernel
theorem dX1_seekThrees_36 : decode cX1_seekThrees 36 = .ok (.iload_n 3, 1) := by decide +kernel
theorem dX1_seekThrees_37 : decode cX1_seekThrees 37 = .ok (.if_icmp .ge 82, 3) := by decide +kernel
theorem dX1_seekThrees_40 : decode cX1_seekThrees 40 = .ok (.iload 4, 2) := by decide +kernel
theorem dX1_seekThrees_42 : decode cX1_seekThrees 42 = .ok (.iload 5, 2) := by decide +kernel
theorem dX1_seekThrees_44 : decode cX1_seekThrees 44 = .ok (.invokestatic 48, 3) := by decide +kernel
theorem dX1_seekThrees_47 : decode cX1_seekThrees 47 = .ok (.ifCond .ne 6, 3) := by decide +kernel
theorem dX1_seekThrees_50 : decode cX1_seekThrees 50 = .ok (.goto 63, 3) := by decide +kernel
theorem dX1_seekThrees_53 : decode cX1_seekThrees 53 = .ok (.iload 4, 2) := by decide +kernel
theorem dX1_seekThrees_55 : decode cX1_seekThrees 55 = .ok (.aload_n 0, 1) := by decide +kernel
theorem dX1_seekThrees_56 : decode cX1_seekThrees 56 = .ok (.getfield 9, 3) := by decide +kernel
theorem dX1_seekThrees_59 : decode cX1_seekThrees 59 = .ok (.iload 5, 2) := by decide +kernel
theorem dX1_seekThrees_61 : decode cX1_seekThrees 61 = .ok (.iaload, 1) := by decide +kernel
theorem dX1_seekThrees_62 : decode cX1_seekThrees 62 = .ok (.iconst (-1), 1) := by decide +kernel
theorem dX1_seekThrees_63 : decode cX1_seekThrees 63 = .ok (.ixor, 1) := by decide +kernel
theorem dX1_seekThrees_64 : decode cX1_seekThrees 64 = .ok (.iand, 1) := by decide +kernel
theorem dX1_seekThrees_65 : decode cX1_seekThrees 65 = .ok (.istore 6, 2) := by decide +kernel
theorem dX1_seekThrees_67 : decode cX1_seekThrees 67 = .ok (.iconst 0, 1) := by decide +kernel
theorem dX1_seekThrees_68 : decode cX1_seekThrees 68 = .ok (.istore 7, 2) := by decide +kernel
theorem dX1_seekThrees_70 : decode cX1_seekThrees 70 = .ok (.iload 7, 2) := by decide +kernel
theorem dX1_seekThrees_72 : decode cX1_seekThrees 72 = .ok (.iload 5, 2) := by decide +kernel
theorem dX1_seekThrees_74 : decode cX1_seekThrees 74 = .ok (.if_icmp .ge 39, 3) := by decide +kernel
theorem dX1_seekThrees_77 : decode cX1_seekThrees 77 = .ok (.iload 6, 2) := by decide +kernel
theorem dX1_seekThrees_79 : decode cX1_seekThrees 79 = .ok (.iload 7, 2) := by decide +kernel
theorem dX1_seekThrees_81 : decode cX1_seekThrees 81 = .ok (.invokestatic 48, 3) := by decide +kernel
theorem dX1_seekThrees_84 : decode cX1_seekThrees 84 = .ok (.iconst 1, 1) := by decide +kernel
theorem dX1_seekThrees_85 : decode cX1_seekThrees 85 = .ok (.if_icmp .ne 22, 3) := by decide +kernel
theorem dX1_seekThrees_88 : decode cX1_seekThrees 88 = .ok (.aload_n 0, 1) := by decide +kernel
theorem dX1_seekThrees_89 : decode cX1_seekThrees 89 = .ok (.aload_n 1, 1) := by decide +kernel
theorem dX1_seekThrees_90 : decode cX1_seekThrees 90 = .ok (.iconst 1, 1) := by decide +kernel
theorem dX1_seekThrees_91 : decode cX1_seekThrees 91 = .ok (.iload_n 3, 1) := by decide +kernel
theorem dX1_seekThrees_92 : decode cX1_seekThrees 92 = .ok (.ishl, 1) := by decide +kernel
theorem dX1_seekThrees_93 : decode cX1_seekThrees 93 = .ok (.iconst 1, 1) := by decide +kernel
theorem dX1_seekThrees_94 : decode cX1_seekThrees 94 = .ok (.iload 5, 2) := by decide +kernel
theorem dX1_seekThrees_96 : decode cX1_seekThrees 96 = .ok (.ishl, 1) := by decide +kernel
theorem dX1_seekThrees_97 : decode cX1_seekThrees 97 = .ok (.ior, 1) := by decide +kernel
theorem dX1_seekThrees_98 : decode cX1_seekThrees 98 = .ok (.iconst 1, 1) := by decide +kernel
theorem dX1_seekThrees_99 : decode cX1_seekThrees 99 = .ok (.iload 7, 2) := by decide +kernel
theorem dX1_seekThrees_101 : decode cX1_seekThrees 101 = .ok (.ishl, 1) := by decide +kernel
theorem dX1_seekThrees_102 : decode cX1_seekThrees 102 = .ok (.ior, 1) := by decide +kernel
theorem dX1_seekThrees_103 : decode cX1_seekThrees 103 = .ok (.invokevirtual 52, 3) := by decide +kernel
theorem dX1_seekThrees_106 : decode cX1_seekThrees 106 = .ok (.pop, 1) := by decide +kernel
theorem dX1_seekThrees_107 : decode cX1_seekThrees 107 = .ok (.iinc 7 1, 3) := by decide +kernel
theorem dX1_seekThrees_110 : decode cX1_seekThrees 110 = .ok (.goto (-40), 3) := by decide +kernel
theorem dX1_seekThrees_113 : decode cX1_seekThrees 113 = .ok (.iinc 5 1, 3) := by decide +kernel
theorem dX1_seekThrees_116 : decode cX1_seekThrees 116 = .ok (.goto (-82), 3) := by decide +kernel
theorem dX1_seekThrees_119 : decode cX1_seekThrees 119 = .ok (.iinc 3 1, 3) := by decide +kernel
theorem dX1_seekThrees_122 : decode cX1_seekThrees 122 = .ok (.goto (-120), 3) := by decide +kernel
theorem dX1_seekThrees_125 : decode cX1_seekThrees 125 = .ok (.return_, 1) := by decide +kernel
theorem dX1_countIfItFells_0 : decode cX1_countIfItFells 0 = .ok (.aload_n 1, 1) := by decide +kernel
theorem dX1_countIfItFells_1 : decode cX1_countIfItFells 1 = .ok (.aload_n 0, 1) := by decide +kernel
theorem dX1_countIfItFells_2 : decode cX1_countIfItFells 2 = .ok (.getfield 25, 3) := by decide +kernel
theorem dX1_countIfItFells_5 : decode cX1_countIfItFells 5 = .ok (.iload_n 2, 1) := by decide +kernel
theorem dX1_countIfItFells_6 : decode cX1_countIfItFells 6 = .ok (.iconst (-1), 1) := by decide +kernel
theorem dX1_countIfItFells_7 : decode cX1_countIfItFells 7 = .ok (.ixor, 1) := by decide +kernel
theorem dX1_countIfItFells_8 : decode cX1_countIfItFells 8 = .ok (.iand, 1) := by decide +kernel
theorem dX1_countIfItFells_9 : decode cX1_countIfItFells 9 = .ok (.iconst 0, 1) := by decide +kernel
theorem dX1_countIfItFells_10 : decode cX1_countIfItFells 10 = .ok (.invokevirtual 56, 3) := by decide +kernel
theorem dX1_countIfItFells_13 : decode cX1_countIfItFells 13 = .ok (.aload_n 0, 1) := by decide +kernel
theorem dX1_countIfItFells_14 : decode cX1_countIfItFells 14 = .ok (.getfield 15, 3) := by decide +kernel
theorem dX1_countIfItFells_17 : decode cX1_countIfItFells 17 = .ok (.invokestatic 48, 3) := by decide +kernel
theorem dX1_countIfItFells_20 : decode cX1_countIfItFells 20 = .ok (.iconst 1, 1) := by decide +kernel
theorem dX1_countIfItFells_21 : decode cX1_countIfItFells 21 = .ok (.if_icmp .ne 5, 3) := by decide +kernel
theorem dX1_countIfItFells_24 : decode cX1_countIfItFells 24 = .ok (.iconst 0, 1) := by decide +kernel
theorem dX1_countIfItFells_25 : decode cX1_countIfItFells 25 = .ok (.ireturn, 1) := by decide +kernel
theorem dX1_countIfItFells_26 : decode cX1_countIfItFells 26 = .ok (.aload_n 0, 1) := by decide +kernel
theorem dX1_countIfItFells_27 : decode cX1_countIfItFells 27 = .ok (.getfield 30, 3) := by decide +kernel
theorem dX1_countIfItFells_30 : decode cX1_countIfItFells 30 = .ok (.aload_n 0, 1) := by decide +kernel
theorem dX1_countIfItFells_31 : decode cX1_countIfItFells 31 = .ok (.getfield 27, 3) := by decide +kernel
theorem dX1_countIfItFells_34 : decode cX1_countIfItFells 34 = .ok (.if_icmp .ne 8, 3) := by decide +kernel
theorem dX1_countIfItFells_37 : decode cX1_countIfItFells 37 = .ok (.aload_n 0, 1) := by decide +kernel
theorem dX1_countIfItFells_38 : decode cX1_countIfItFells 38 = .ok (.iload_n 2, 1) := by decide +kernel
theorem dX1_countIfItFells_39 : decode cX1_countIfItFells 39 = .ok (.putfield 34, 3) := by decide +kernel
theorem dX1_countIfItFells_42 : decode cX1_countIfItFells 42 = .ok (.aload_n 0, 1) := by decide +kernel
theorem dX1_countIfItFells_43 : decode cX1_countIfItFells 43 = .ok (.dup, 1) := by decide +kernel
theorem dX1_countIfItFells_44 : decode cX1_countIfItFells 44 = .ok (.getfield 30, 3) := by decide +kernel
theorem dX1_countIfItFells_47 : decode cX1_countIfItFells 47 = .ok (.iconst 1, 1) := by decide +kernel
theorem dX1_countIfItFells_48 : decode cX1_countIfItFells 48 = .ok (.iadd, 1) := by decide +kernel
theorem dX1_countIfItFells_49 : decode cX1_countIfItFells 49 = .ok (.putfield 30, 3) := by decide +kernel
theorem dX1_countIfItFells_52 : decode cX1_countIfItFells 52 = .ok (.iconst 1, 1) := by decide +kernel
theorem dX1_countIfItFells_53 : decode cX1_countIfItFells 53 = .ok (.ireturn, 1) := by decide +kernel
theorem dX2_init_0 : decode cX2_init 0 = .ok (.aload_n 0, 1) := by decide +kernel
theorem dX2_init_1 : decode cX2_init 1 = .ok (.invokespecial 3, 3) := by decide +kernel
theorem dX2_init_4 : decode cX2_init 4 = .ok (.aload_n 0, 1) := by decide +kernel
theorem dX2_init_5 : decode cX2_init 5 = .ok (.bipush 20, 2) := by decide +kernel
theorem dX2_init_7 : decode cX2_init 7 = .ok (.newarray .int, 2) := by decide +kernel
theorem dX2_init_9 : decode cX2_init 9 = .ok (.putfield 9, 3) := by decide +kernel
theorem dX2_init_12 : decode cX2_init 12 = .ok (.aload_n 0, 1) := by decide +kernel
theorem dX2_init_13 : decode cX2_init 13 = .ok (.bipush 20, 2) := by decide +kernel
theorem dX2_init_15 : decode cX2_init 15 = .ok (.newarray .int, 2) := by decide +kernel
theorem dX2_init_17 : decode cX2_init 17 = .ok (.putfield 15, 3) := by decide +kernel
theorem dX2_init_20 : decode cX2_init 20 = .ok (.aload_n 0, 1) := by decide +kernel
theorem dX2_init_21 : decode cX2_init 21 = .ok (.bipush 20, 2) := by decide +kernel
theorem dX2_init_23 : decode cX2_init 23 = .ok (.newarray .int, 2) := by decide +kernel
theorem dX2_init_25 : decode cX2_init 25 = .ok (.putfield 18, 3) := by decide +kernel
theorem dX2_init_28 : decode cX2_init 28 = .ok (.aload_n 0, 1) := by decide +kernel
theorem dX2_init_29 : decode cX2_init 29 = .ok (.bipush 20, 2) := by decide +kernel
theorem dX2_init_31 : decode cX2_init 31 = .ok (.newarray .int, 2) := by decide +kernel
theorem dX2_init_33 : decode cX2_init 33 = .ok (.putfield 21, 3) := by decide +kernel
theorem dX2_init_36 : decode cX2_init 36 = .ok (.aload_n 0, 1) := by decide +kernel
theorem dX2_init_37 : decode cX2_init 37 = .ok (.bipush 20, 2) := by decide +kernel
theorem dX2_init_39 : decode cX2_init 39 = .ok (.newarray .int, 2) := by decide +kernel
theorem dX2_init_41 : decode cX2_init 41 = .ok (.putfield 24, 3) := by decide +kernel
theorem dX2_init_44 : decode cX2_init 44 = .ok (.aload_n 0, 1) := by decide +kernel
theorem dX2_init_45 : decode cX2_init 45 = .ok (.bipush 16, 2) := by decide +kernel
theorem dX2_init_47 : decode cX2_init 47 = .ok (.newarray .int, 2) := by decide +kernel
theorem dX2_init_49 : decode cX2_init 49 = .ok (.putfield 27, 3) := by decide +kernel
theorem dX2_init_52 : decode cX2_init 52 = .ok (.aload_n 0, 1) := by decide +kernel
theorem dX2_init_53 : decode cX2_init 53 = .ok (.bipush 16, 2) := by decide +kernel
theorem dX2_init_55 : decode cX2_init 55 = .ok (.newarray .int, 2) := by decide +kernel
theorem dX2_init_57 : decode cX2_init 57 = .ok (.putfield 30, 3) := by decide +kernel
theorem dX2_init_60 : decode cX2_init 60 = .ok (.aload_n 0, 1) := by decide +kernel
theorem dX2_init_61 : decode cX2_init 61 = .ok (.bipush 16, 2) := by decide +kernel
theorem dX2_init_63 : decode cX2_init 63 = .ok (.newarray .int, 2) := by decide +kernel
theorem dX2_init_65 : decode cX2_init 65 = .ok (.putfield 33, 3) := by decide +kernel
theorem dX2_init_68 : decode cX2_init 68 = .ok (.aload_n 0, 1) := by decide +kernel
theorem dX2_init_69 : decode cX2_init 69 = .ok (.bipush 16, 2) := by decide +kernel
theorem dX2_init_71 : decode cX2_init 71 = .ok (.newarray .int, 2) := by decide +kernel
theorem dX2_init_73 : decode cX2_init 73 = .ok (.putfield 36, 3) := by decide +kernel
theorem dX2_init_76 : decode cX2_init 76 = .ok (.aload_n 0, 1) := by decide +kernel
theorem dX2_init_77 : decode cX2_init 77 = .ok (.bipush 96, 2) := by decide +kernel
theorem dX2_init_79 : decode cX2_init 79 = .ok (.newarray .int, 2) := by decide +kernel
theorem dX2_init_81 : decode cX2_init 81 = .ok (.putfield 39, 3) := by decide +kernel
theorem dX2_init_84 : decode cX2_init 84 = .ok (.aload_n 0, 1) := by decide +kernel
theorem dX2_init_85 : decode cX2_init 85 = .ok (.bipush 16, 2) := by decide +kernel
theorem dX2_init_87 : decode cX2_init 87 = .ok (.newarray .int, 2) := by decide +kernel
theorem dX2_init_89 : decode cX2_init 89 = .ok (.putfield 42, 3) := by decide +kernel
theorem dX2_init_92 : decode cX2_init 92 = .ok (.aload_n 0, 1) := by decide +kernel
theorem dX2_init_93 : decode cX2_init 93 = .ok (.bipush 48, 2) := by decide +kernel
theorem dX2_init_95 : decode cX2_init 95 = .ok (.newarray .int, 2) := by decide +kernel
theorem dX2_init_97 : decode cX2_init 97 = .ok (.putfield 45, 3) := by decide +kernel
theorem dX2_init_100 : decode cX2_init 100 = .ok (.aload_n 0, 1) := by decide +kernel
theorem dX2_init_101 : decode cX2_init 101 = .ok (.bipush 20, 2) := by decide +kernel
theorem dX2_init_103 : decode cX2_init 103 = .ok (.newarray .int, 2) := by decide +kernel
theorem dX2_init_105 : decode cX2_init 105 = .ok (.putfield 48, 3) := by decide +kernel
theorem dX2_init_108 : decode cX2_init 108 = .ok (.return_, 1) := by decide +kernel
theorem dX2_hasNode_0 : decode cX2_hasNode 0 = .ok (.iload_n 1, 1) := by decide +kernel
theorem dX2_hasNode_1 : decode cX2_hasNode 1 = .ok (.ifCond .lt 15, 3) := by decide +kernel
theorem dX2_hasNode_4 : decode cX2_hasNode 4 = .ok (.iload_n 1, 1) := by decide +kernel
theorem dX2_hasNode_5 : decode cX2_hasNode 5 = .ok (.aload_n 0, 1) := by decide +kernel
theorem dX2_hasNode_6 : decode cX2_hasNode 6 = .ok (.getfield 51, 3) := by decide +kernel
theorem dX2_hasNode_9 : decode cX2_hasNode 9 = .ok (.if_icmp .ge 7, 3) := by decide +kernel
theorem dX2_hasNode_12 : decode cX2_hasNode 12 = .ok (.iconst 1, 1) := by decide +kernel
theorem dX2_hasNode_13 : decode cX2_hasNode 13 = .ok (.goto 4, 3) := by decide +kernel
theorem dX2_hasNode_16 : decode cX2_hasNode 16 = .ok (.iconst 0, 1) := by decide +kernel
theorem dX2_hasNode_17 : decode cX2_hasNode 17 = .ok (.ireturn, 1) := by decide +kernel
theorem dX2_isClaim_0 : decode cX2_isClaim 0 = .ok (.aload_n 0, 1) := by decide +kernel
theorem dX2_isClaim_1 : decode cX2_isClaim 1 = .ok (.iload_n 1, 1) := by decide +kernel
theorem dX2_isClaim_2 : decode cX2_isClaim 2 = .ok (.invokevirtual 55, 3) := by decide +kernel
theorem dX2_isClaim_5 : decode cX2_isClaim 5 = .ok (.ifCond .eq 17, 3) := by decide +kernel
theorem dX2_isClaim_8 : decode cX2_isClaim 8 = .ok (.aload_n 0, 1) := by decide +kernel
theorem dX2_isClaim_9 : decode cX2_isClaim 9 = .ok (.getfield 9, 3) := by decide +kernel
theorem dX2_isClaim_12 : decode cX2_isClaim 12 = .ok (.iload_n 1, 1) := by decide +kernel
theorem dX2_isClaim_13 : decode cX2_isClaim 13 = .ok (.iaload, 1) := by decide +kernel
theorem dX2_isClaim_14 : decode cX2_isClaim 14 = .ok (.iconst 2, 1) := by decide +kernel
theorem dX2_isClaim_15 : decode cX2_isClaim 15 = .ok (.if_icmp .ne 7, 3) := by decide +kernel
theorem dX2_isClaim_18 : decode cX2_isClaim 18 = .ok (.iconst 1, 1) := by decide +kernel
theorem dX2_isClaim_19 : decode cX2_isClaim 19 = .ok (.goto 4, 3) := by decide +kernel
theorem dX2_isClaim_22 : decode cX2_isClaim 22 = .ok (.iconst 0, 1) := by decide +kernel
theorem dX2_isClaim_23 : decode cX2_isClaim 23 = .ok (.ireturn, 1) := by decide +kernel
theorem dX2_isGround_0 : decode cX2_isGround 0 = .ok (.aload_n 0, 1) := by decide +kernel
theorem dX2_isGround_1 : decode cX2_isGround 1 = .ok (.iload_n 1, 1) := by decide +kernel
theorem dX2_isGround_2 : decode cX2_isGround 2 = .ok (.invokevirtual 55, 3) := by decide +kernel
theorem dX2_isGround_5 : decode cX2_isGround 5 = .ok (.ifCond .eq 17, 3) := by decide +kernel
theorem dX2_isGround_8 : decode cX2_isGround 8 = .ok (.aload_n 0, 1) := by decide +kernel
theorem dX2_isGround_9 : decode cX2_isGround 9 = .ok (.getfield 9, 3) := by decide +kernel
theorem dX2_isGround_12 : decode cX2_isGround 12 = .ok (.iload_n 1, 1) := by decide +kernel
theorem dX2_isGround_13 : decode cX2_isGround 13 = .ok (.iaload, 1) := by decide +kernel
theorem dX2_isGround_14 : decode cX2_isGround 14 = .ok (.iconst 2, 1) := by decide +kernel
theorem dX2_isGround_15 : decode cX2_isGround 15 = .ok (.if_icmp .eq 7, 3) := by decide +kernel
theorem dX2_isGround_18 : decode cX2_isGround 18 = .ok (.iconst 1, 1) := by decide +kernel
theorem dX2_isGround_19 : decode cX2_isGround 19 = .ok (.goto 4, 3) := by decide +kernel
theorem dX2_isGround_22 : decode cX2_isGround 22 = .ok (.iconst 0, 1) := by decide +kernel
theorem dX2_isGround_23 : decode cX2_isGround 23 = .ok (.ireturn, 1) := by decide +kernel
theorem dX2_hasStep_0 : decode cX2_hasStep 0 = .ok (.iload_n 1, 1) := by decide +kernel
theorem dX2_hasStep_1 : decode cX2_hasStep 1 = .ok (.ifCond .lt 15, 3) := by decide +kernel
theorem dX2_hasStep_4 : decode cX2_hasStep 4 = .ok (.iload_n 1, 1) := by decide +kernel
theorem dX2_hasStep_5 : decode cX2_hasStep 5 = .ok (.aload_n 0, 1) := by decide +kernel
theorem dX2_hasStep_6 : decode cX2_hasStep 6 = .ok (.getfield 59, 3) := by decide +kernel
theorem dX2_hasStep_9 : decode cX2_hasStep 9 = .ok (.if_icmp .ge 7, 3) := by decide +kernel
theorem dX2_hasStep_12 : decode cX2_hasStep 12 = .ok (.iconst 1, 1) := by decide +kernel
theorem dX2_hasStep_13 : decode cX2_hasStep 13 = .ok (.goto 4, 3) := by decide +kernel
theorem dX2_hasStep_16 : decode cX2_hasStep 16 = .ok (.iconst 0, 1) := by decide +kernel
theorem dX2_hasStep_17 : decode cX2_hasStep 17 = .ok (.ireturn, 1) := by decide +kernel
theorem dX2_hasPart_0 : decode cX2_hasPart 0 = .ok (.aload_n 0, 1) := by decide +kernel
theorem dX2_hasPart_1 : decode cX2_hasPart 1 = .ok (.getfield 36, 3) := by decide +kernel
theorem dX2_hasPart_4 : decode cX2_hasPart 4 = .ok (.iload_n 1, 1) := by decide +kernel
theorem dX2_hasPart_5 : decode cX2_hasPart 5 = .ok (.iaload, 1) := by decide +kernel
theorem dX2_hasPart_6 : decode cX2_hasPart 6 = .ok (.iload_n 2, 1) := by decide +kernel
theorem dX2_hasPart_7 : decode cX2_hasPart 7 = .ok (.invokestatic 62, 3) := by decide +kernel
theorem dX2_hasPart_10 : decode cX2_hasPart 10 = .ok (.iconst 1, 1) := by decide +kernel
theorem dX2_hasPart_11 : decode cX2_hasPart 11 = .ok (.if_icmp .ne 7, 3) := by decide +kernel
theorem dX2_hasPart_14 : decode cX2_hasPart 14 = .ok (.iconst 1, 1) := by decide +kernel
theorem dX2_hasPart_15 : decode cX2_hasPart 15 = .ok (.goto 4, 3) := by decide +kernel
theorem dX2_hasPart_18 : decode cX2_hasPart 18 = .ok (.iconst 0, 1) := by decide +kernel
theorem dX2_hasPart_19 : decode cX2_hasPart 19 = .ok (.ireturn, 1) := by decide +kernel
theorem dX2_partAt_0 : decode cX2_partAt 0 = .ok (.aload_n 0, 1) := by decide +kernel
theorem dX2_partAt_1 : decode cX2_partAt 1 = .ok (.getfield 39, 3) := by decide +kernel
theorem dX2_partAt_4 : decode cX2_partAt 4 = .ok (.iload_n 1, 1) := by decide +kernel
theorem dX2_partAt_5 : decode cX2_partAt 5 = .ok (.bipush 6, 2) := by decide +kernel
theorem dX2_partAt_7 : decode cX2_partAt 7 = .ok (.imul, 1) := by decide +kernel
theorem dX2_partAt_8 : decode cX2_partAt 8 = .ok (.iload_n 2, 1) := by decide +kernel
theorem dX2_partAt_9 : decode cX2_partAt 9 = .ok (.iadd, 1) := by decide +kernel
theorem dX2_partAt_10 : decode cX2_partAt 10 = .ok (.iaload, 1) := by decide +kernel
theorem dX2_partAt_11 : decode cX2_partAt 11 = .ok (.ireturn, 1) := by decide +kernel
theorem dX2_doubtsOf_0 : decode cX2_doubtsOf 0 = .ok (.getstatic 66, 3) := by decide +kernel
theorem dX2_doubtsOf_3 : decode cX2_doubtsOf 3 = .ok (.aload_n 0, 1) := by decide +kernel
theorem dX2_doubtsOf_4 : decode cX2_doubtsOf 4 = .ok (.getfield 27, 3) := by decide +kernel
theorem dX2_doubtsOf_7 : decode cX2_doubtsOf 7 = .ok (.iload_n 1, 1) := by decide +kernel
theorem dX2_doubtsOf_8 : decode cX2_doubtsOf 8 = .ok (.iaload, 1) := by decide +kernel
theorem dX2_doubtsOf_9 : decode cX2_doubtsOf 9 = .ok (.iaload, 1) := by decide +kernel
theorem dX2_doubtsOf_10 : decode cX2_doubtsOf 10 = .ok (.ireturn, 1) := by decide +kernel
theorem dX2_addNode_0 : decode cX2_addNode 0 = .ok (.aload_n 0, 1) := by decide +kernel
theorem dX2_addNode_1 : decode cX2_addNode 1 = .ok (.getfield 51, 3) := by decide +kernel
theorem dX2_addNode_4 : decode cX2_addNode 4 = .ok (.bipush 20, 2) := by decide +kernel
theorem dX2_addNode_6 : decode cX2_addNode 6 = .ok (.if_icmp .lt 4, 3) := by decide +kernel
theorem dX2_addNode_9 : decode cX2_addNode 9 = .ok (.return_, 1) := by decide +kernel
theorem dX2_addNode_10 : decode cX2_addNode 10 = .ok (.aload_n 0, 1) := by decide +kernel
theorem dX2_addNode_11 : decode cX2_addNode 11 = .ok (.getfield 9, 3) := by decide +kernel
theorem dX2_addNode_14 : decode cX2_addNode 14 = .ok (.aload_n 0, 1) := by decide +kernel
theorem dX2_addNode_15 : decode cX2_addNode 15 = .ok (.getfield 51, 3) := by decide +kernel
theorem dX2_addNode_18 : decode cX2_addNode 18 = .ok (.iload_n 1, 1) := by decide +kernel
theorem dX2_addNode_19 : decode cX2_addNode 19 = .ok (.iastore, 1) := by decide +kernel
theorem dX2_addNode_20 : decode cX2_addNode 20 = .ok (.aload_n 0, 1) := by decide +kernel
theorem dX2_addNode_21 : decode cX2_addNode 21 = .ok (.getfield 15, 3) := by decide +kernel
theorem dX2_addNode_24 : decode cX2_addNode 24 = .ok (.aload_n 0, 1) := by decide +kernel
theorem dX2_addNode_25 : decode cX2_addNode 25 = .ok (.getfield 51, 3) := by decide +kernel
theorem dX2_addNode_28 : decode cX2_addNode 28 = .ok (.iload_n 2, 1) := by decide +kernel
theorem dX2_addNode_29 : decode cX2_addNode 29 = .ok (.iastore, 1) := by decide +kernel
theorem dX2_addNode_30 : decode cX2_addNode 30 = .ok (.aload_n 0, 1) := by decide +kernel
theorem dX2_addNode_31 : decode cX2_addNode 31 = .ok (.getfield 18, 3) := by decide +kernel
theorem dX2_addNode_34 : decode cX2_addNode 34 = .ok (.aload_n 0, 1) := by decide +kernel
theorem dX2_addNode_35 : decode cX2_addNode 35 = .ok (.getfield 51, 3) := by decide +kernel
theorem dX2_addNode_38 : decode cX2_addNode 38 = .ok (.iconst 0, 1) := by decide +kernel
theorem dX2_addNode_39 : decode cX2_addNode 39 = .ok (.iastore, 1) := by decide +kernel
theorem dX2_addNode_40 : decode cX2_addNode 40 = .ok (.aload_n 0, 1) := by decide +kernel
theorem dX2_addNode_41 : decode cX2_addNode 41 = .ok (.getfield 21, 3) := by decide +kernel
theorem dX2_addNode_44 : decode cX2_addNode 44 = .ok (.aload_n 0, 1) := by decide +kernel
theorem dX2_addNode_45 : decode cX2_addNode 45 = .ok (.getfield 51, 3) := by decide +kernel
theorem dX2_addNode_48 : decode cX2_addNode 48 = .ok (.sipush 9999, 3) := by decide +kernel
theorem dX2_addNode_51 : decode cX2_addNode 51 = .ok (.iastore, 1) := by decide +kernel
theorem dX2_addNode_52 : decode cX2_addNode 52 = .ok (.aload_n 0, 1) := by decide +kernel
theorem dX2_addNode_53 : decode cX2_addNode 53 = .ok (.getfield 24, 3) := by decide +kernel
theorem dX2_addNode_56 : decode cX2_addNode 56 = .ok (.aload_n 0, 1) := by decide +kernel
theorem dX2_addNode_57 : decode cX2_addNode 57 = .ok (.getfield 51, 3) := by decide +kernel
theorem dX2_addNode_60 : decode cX2_addNode 60 = .ok (.iconst 0, 1) := by decide +kernel
theorem dX2_addNode_61 : decode cX2_addNode 61 = .ok (.iastore, 1) := by decide +kernel
theorem dX2_addNode_62 : decode cX2_addNode 62 = .ok (.aload_n 0, 1) := by decide +kernel
theorem dX2_addNode_63 : decode cX2_addNode 63 = .ok (.dup, 1) := by decide +kernel
theorem dX2_addNode_64 : decode cX2_addNode 64 = .ok (.getfield 51, 3) := by decide +kernel
theorem dX2_addNode_67 : decode cX2_addNode 67 = .ok (.iconst 1, 1) := by decide +kernel
theorem dX2_addNode_68 : decode cX2_addNode 68 = .ok (.iadd, 1) := by decide +kernel
theorem dX2_addNode_69 : decode cX2_addNode 69 = .ok (.putfield 51, 3) := by decide +kernel
theorem dX2_addNode_72 : decode cX2_addNode 72 = .ok (.return_, 1) := by decide +kernel
theorem dX2_addStep_0 : decode cX2_addStep 0 = .ok (.aload_n 0, 1) := by decide +kernel
theorem dX2_addStep_1 : decode cX2_addStep 1 = .ok (.getfield 59, 3) := by decide +kernel
theorem dX2_addStep_4 : decode cX2_addStep 4 = .ok (.bipush 15, 2) := by decide +kernel
theorem dX2_addStep_6 : decode cX2_addStep 6 = .ok (.invokestatic 69, 3) := by decide +kernel
theorem dX2_addStep_9 : decode cX2_addStep 9 = .ok (.istore_n 3, 1) := by decide +kernel
theorem dX2_addStep_10 : decode cX2_addStep 10 = .ok (.aload_n 0, 1) := by decide +kernel
theorem dX2_addStep_11 : decode cX2_addStep 11 = .ok (.getfield 27, 3) := by decide +kernel
theorem dX2_addStep_14 : decode cX2_addStep 14 = .ok (.iload_n 3, 1) := by decide +kernel
theorem dX2_addStep_15 : decode cX2_addStep 15 = .ok (.iload_n 1, 1) := by decide +kernel
theorem dX2_addStep_16 : decode cX2_addStep 16 = .ok (.iastore, 1) := by decide +kernel
theorem dX2_addStep_17 : decode cX2_addStep 17 = .ok (.aload_n 0, 1) := by decide +kernel
theorem dX2_addStep_18 : decode cX2_addStep 18 = .ok (.getfield 30, 3) := by decide +kernel
theorem dX2_addStep_21 : decode cX2_addStep 21 = .ok (.iload_n 3, 1) := by decide +kernel
theorem dX2_addStep_22 : decode cX2_addStep 22 = .ok (.iload_n 2, 1) := by decide +kernel
theorem dX2_addStep_23 : decode cX2_addStep 23 = .ok (.iastore, 1) := by decide +kernel
theorem dX2_addStep_24 : decode cX2_addStep 24 = .ok (.aload_n 0, 1) := by decide +kernel
theorem dX2_addStep_25 : decode cX2_addStep 25 = .ok (.getfield 33, 3) := by decide +kernel
theorem dX2_addStep_28 : decode cX2_addStep 28 = .ok (.iload_n 3, 1) := by decide +kernel
theorem dX2_addStep_29 : decode cX2_addStep 29 = .ok (.iconst 0, 1) := by decide +kernel
theorem dX2_addStep_30 : decode cX2_addStep 30 = .ok (.iastore, 1) := by decide +kernel
theorem dX2_addStep_31 : decode cX2_addStep 31 = .ok (.aload_n 0, 1) := by decide +kernel
theorem dX2_addStep_32 : decode cX2_addStep 32 = .ok (.getfield 36, 3) := by decide +kernel
theorem dX2_addStep_35 : decode cX2_addStep 35 = .ok (.iload_n 3, 1) := by decide +kernel
theorem dX2_addStep_36 : decode cX2_addStep 36 = .ok (.iconst 0, 1) := by decide +kernel
theorem dX2_addStep_37 : decode cX2_addStep 37 = .ok (.iastore, 1) := by decide +kernel
theorem dX2_addStep_38 : decode cX2_addStep 38 = .ok (.aload_n 0, 1) := by decide +kernel
theorem dX2_addStep_39 : decode cX2_addStep 39 = .ok (.getfield 42, 3) := by decide +kernel
theorem dX2_addStep_42 : decode cX2_addStep 42 = .ok (.iload_n 3, 1) := by decide +kernel
theorem dX2_addStep_43 : decode cX2_addStep 43 = .ok (.getstatic 66, 3) := by decide +kernel
theorem dX2_addStep_46 : decode cX2_addStep 46 = .ok (.iload_n 1, 1) := by decide +kernel
theorem dX2_addStep_47 : decode cX2_addStep 47 = .ok (.iaload, 1) := by decide +kernel
theorem dX2_addStep_48 : decode cX2_addStep 48 = .ok (.iastore, 1) := by decide +kernel
theorem dX2_addStep_49 : decode cX2_addStep 49 = .ok (.iconst 0, 1) := by decide +kernel
theorem dX2_addStep_50 : decode cX2_addStep 50 = .ok (.istore 4, 2) := by decide +kernel
theorem dX2_addStep_52 : decode cX2_addStep 52 = .ok (.iload 4, 2) := by decide +kernel
theorem dX2_addStep_54 : decode cX2_addStep 54 = .ok (.iconst 3, 1) := by decide +kernel
theorem dX2_addStep_55 : decode cX2_addStep 55 = .ok (.if_icmp .ge 21, 3) := by decide +kernel
theorem dX2_addStep_58 : decode cX2_addStep 58 = .ok (.aload_n 0, 1) := by decide +kernel
theorem dX2_addStep_59 : decode cX2_addStep 59 = .ok (.getfield 45, 3) := by decide +kernel
theorem dX2_addStep_62 : decode cX2_addStep 62 = .ok (.iload_n 3, 1) := by decide +kernel
theorem dX2_addStep_63 : decode cX2_addStep 63 = .ok (.iconst 3, 1) := by decide +kernel
theorem dX2_addStep_64 : decode cX2_addStep 64 = .ok (.imul, 1) := by decide +kernel
theorem dX2_addStep_65 : decode cX2_addStep 65 = .ok (.iload 4, 2) := by decide +kernel
theorem dX2_addStep_67 : decode cX2_addStep 67 = .ok (.iadd, 1) := by decide +kernel
theorem dX2_addStep_68 : decode cX2_addStep 68 = .ok (.iconst 0, 1) := by decide +kernel
theorem dX2_addStep_69 : decode cX2_addStep 69 = .ok (.iastore, 1) := by decide +kernel
theorem dX2_addStep_70 : decode cX2_addStep 70 = .ok (.iinc 4 1, 3) := by decide +kernel
theorem dX2_addStep_73 : decode cX2_addStep 73 = .ok (.goto (-21), 3) := by decide +kernel
theorem dX2_addStep_76 : decode cX2_addStep 76 = .ok (.aload_n 0, 1) := by decide +kernel
theorem dX2_addStep_77 : decode cX2_addStep 77 = .ok (.iload_n 3, 1) := by decide +kernel
theorem dX2_addStep_78 : decode cX2_addStep 78 = .ok (.iconst 1, 1) := by decide +kernel
theorem dX2_addStep_79 : decode cX2_addStep 79 = .ok (.iadd, 1) := by decide +kernel
theorem dX2_addStep_80 : decode cX2_addStep 80 = .ok (.putfield 59, 3) := by decide +kernel
theorem dX2_addStep_83 : decode cX2_addStep 83 = .ok (.iload_n 3, 1) := by decide +kernel
theorem dX2_addStep_84 : decode cX2_addStep 84 = .ok (.ireturn, 1) := by decide +kernel
theorem dX2_addPart_0 : decode cX2_addPart 0 = .ok (.aload_n 0, 1) := by decide +kernel
theorem dX2_addPart_1 : decode cX2_addPart 1 = .ok (.getfield 33, 3) := by decide +kernel
theorem dX2_addPart_4 : decode cX2_addPart 4 = .ok (.iload_n 1, 1) := by decide +kernel
theorem dX2_addPart_5 : decode cX2_addPart 5 = .ok (.iaload, 1) := by decide +kernel
theorem dX2_addPart_6 : decode cX2_addPart 6 = .ok (.bipush 6, 2) := by decide +kernel
theorem dX2_addPart_8 : decode cX2_addPart 8 = .ok (.if_icmp .lt 4, 3) := by decide +kernel
theorem dX2_addPart_11 : decode cX2_addPart 11 = .ok (.return_, 1) := by decide +kernel
theorem dX2_addPart_12 : decode cX2_addPart 12 = .ok (.aload_n 0, 1) := by decide +kernel
theorem dX2_addPart_13 : decode cX2_addPart 13 = .ok (.getfield 39, 3) := by decide +kernel
theorem dX2_addPart_16 : decode cX2_addPart 16 = .ok (.iload_n 1, 1) := by decide +kernel
theorem dX2_addPart_17 : decode cX2_addPart 17 = .ok (.bipush 6, 2) := by decide +kernel
theorem dX2_addPart_19 : decode cX2_addPart 19 = .ok (.imul, 1) := by decide +kernel
theorem dX2_addPart_20 : decode cX2_addPart 20 = .ok (.aload_n 0, 1) := by decide +kernel
theorem dX2_addPart_21 : decode cX2_addPart 21 = .ok (.getfield 33, 3) := by decide +kernel
theorem dX2_addPart_24 : decode cX2_addPart 24 = .ok (.iload_n 1, 1) := by decide +kernel
theorem dX2_addPart_25 : decode cX2_addPart 25 = .ok (.iaload, 1) := by decide +kernel
theorem dX2_addPart_26 : decode cX2_addPart 26 = .ok (.iadd, 1) := by decide +kernel
theorem dX2_addPart_27 : decode cX2_addPart 27 = .ok (.iload_n 2, 1) := by decide +kernel
theorem dX2_addPart_28 : decode cX2_addPart 28 = .ok (.iastore, 1) := by decide +kernel
theorem dX2_addPart_29 : decode cX2_addPart 29 = .ok (.aload_n 0, 1) := by decide +kernel
theorem dX2_addPart_30 : decode cX2_addPart 30 = .ok (.getfield 36, 3) := by decide +kernel
theorem dX2_addPart_33 : decode cX2_addPart 33 = .ok (.iload_n 1, 1) := by decide +kernel
theorem dX2_addPart_34 : decode cX2_addPart 34 = .ok (.dup2, 1) := by decide +kernel
theorem dX2_addPart_35 : decode cX2_addPart 35 = .ok (.iaload, 1) := by decide +kernel
theorem dX2_addPart_36 : decode cX2_addPart 36 = .ok (.iconst 1, 1) := by decide +kernel
theorem dX2_addPart_37 : decode cX2_addPart 37 = .ok (.iload_n 2, 1) := by decide +kernel
theorem dX2_addPart_38 : decode cX2_addPart 38 = .ok (.ishl, 1) := by decide +kernel
theorem dX2_addPart_39 : decode cX2_addPart 39 = .ok (.ior, 1) := by decide +kernel
theorem dX2_addPart_40 : decode cX2_addPart 40 = .ok (.iastore, 1) := by decide +kernel
theorem dX2_addPart_41 : decode cX2_addPart 41 = .ok (.aload_n 0, 1) := by decide +kernel
theorem dX2_addPart_42 : decode cX2_addPart 42 = .ok (.getfield 33, 3) := by decide +kernel
theorem dX2_addPart_45 : decode cX2_addPart 45 = .ok (.iload_n 1, 1) := by decide +kernel
theorem dX2_addPart_46 : decode cX2_addPart 46 = .ok (.dup2, 1) := by decide +kernel
theorem dX2_addPart_47 : decode cX2_addPart 47 = .ok (.iaload, 1) := by decide +kernel
theorem dX2_addPart_48 : decode cX2_addPart 48 = .ok (.iconst 1, 1) := by decide +kernel
theorem dX2_addPart_49 : decode cX2_addPart 49 = .ok (.iadd, 1) := by decide +kernel
theorem dX2_addPart_50 : decode cX2_addPart 50 = .ok (.iastore, 1) := by decide +kernel
theorem dX2_addPart_51 : decode cX2_addPart 51 = .ok (.return_, 1) := by decide +kernel
theorem dX2_cutBack_0 : decode cX2_cutBack 0 = .ok (.aload_n 0, 1) := by decide +kernel
theorem dX2_cutBack_1 : decode cX2_cutBack 1 = .ok (.iload_n 1, 1) := by decide +kernel
theorem dX2_cutBack_2 : decode cX2_cutBack 2 = .ok (.putfield 51, 3) := by decide +kernel
theorem dX2_cutBack_5 : decode cX2_cutBack 5 = .ok (.aload_n 0, 1) := by decide +kernel
theorem dX2_cutBack_6 : decode cX2_cutBack 6 = .ok (.iload_n 2, 1) := by decide +kernel
theorem dX2_cutBack_7 : decode cX2_cutBack 7 = .ok (.putfield 59, 3) := by decide +kernel
theorem dX2_cutBack_10 : decode cX2_cutBack 10 = .ok (.return_, 1) := by decide +kernel
theorem dX2_tellDoubt_0 : decode cX2_tellDoubt 0 = .ok (.aload_n 0, 1) := by decide +kernel
theorem dX2_tellDoubt_1 : decode cX2_tellDoubt 1 = .ok (.getfield 45, 3) := by decide +kernel
theorem dX2_tellDoubt_4 : decode cX2_tellDoubt 4 = .ok (.iload_n 1, 1) := by decide +kernel
theorem dX2_tellDoubt_5 : decode cX2_tellDoubt 5 = .ok (.iconst 3, 1) := by decide +kernel
theorem dX2_tellDoubt_6 : decode cX2_tellDoubt 6 = .ok (.imul, 1) := by decide +kernel
theorem dX2_tellDoubt_7 : decode cX2_tellDoubt 7 = .ok (.iload_n 2, 1) := by decide +kernel
theorem dX2_tellDoubt_8 : decode cX2_tellDoubt 8 = .ok (.iadd, 1) := by decide +kernel
theorem dX2_tellDoubt_9 : decode cX2_tellDoubt 9 = .ok (.iaload, 1) := by decide +kernel
theorem dX2_tellDoubt_10 : decode cX2_tellDoubt 10 = .ok (.istore 4, 2) := by decide +kernel
theorem dX2_tellDoubt_12 : decode cX2_tellDoubt 12 = .ok (.iload 4, 2) := by decide +kernel
theorem dX2_tellDoubt_14 : decode cX2_tellDoubt 14 = .ok (.ifCond .ne 13, 3) := by decide +kernel
theorem dX2_tellDoubt_17 : decode cX2_tellDoubt 17 = .ok (.aload_n 0, 1) := by decide +kernel
theorem dX2_tellDoubt_18 : decode cX2_tellDoubt 18 = .ok (.getfield 42, 3) := by decide +kernel
theorem dX2_tellDoubt_21 : decode cX2_tellDoubt 21 = .ok (.iload_n 1, 1) := by decide +kernel
theorem dX2_tellDoubt_22 : decode cX2_tellDoubt 22 = .ok (.dup2, 1) := by decide +kernel
theorem dX2_tellDoubt_23 : decode cX2_tellDoubt 23 = .ok (.iaload, 1) := by decide +kernel
theorem dX2_tellDoubt_24 : decode cX2_tellDoubt 24 = .ok (.iconst 1, 1) := by decide +kernel
theorem dX2_tellDoubt_25 : decode cX2_tellDoubt 25 = .ok (.isub, 1) := by decide +kernel
theorem dX2_tellDoubt_26 : decode cX2_tellDoubt 26 = .ok (.iastore, 1) := by decide +kernel
theorem dX2_tellDoubt_27 : decode cX2_tellDoubt 27 = .ok (.iload_n 3, 1) := by decide +kernel
theorem dX2_tellDoubt_28 : decode cX2_tellDoubt 28 = .ok (.ifCond .ne 13, 3) := by decide +kernel
theorem dX2_tellDoubt_31 : decode cX2_tellDoubt 31 = .ok (.aload_n 0, 1) := by decide +kernel
theorem dX2_tellDoubt_32 : decode cX2_tellDoubt 32 = .ok (.getfield 42, 3) := by decide +kernel
theorem dX2_tellDoubt_35 : decode cX2_tellDoubt 35 = .ok (.iload_n 1, 1) := by decide +kernel
theorem dX2_tellDoubt_36 : decode cX2_tellDoubt 36 = .ok (.dup2, 1) := by decide +kernel
theorem dX2_tellDoubt_37 : decode cX2_tellDoubt 37 = .ok (.iaload, 1) := by decide +kernel
theorem dX2_tellDoubt_38 : decode cX2_tellDoubt 38 = .ok (.iconst 1, 1) := by decide +kernel
theorem dX2_tellDoubt_39 : decode cX2_tellDoubt 39 = .ok (.iadd, 1) := by decide +kernel
theorem dX2_tellDoubt_40 : decode cX2_tellDoubt 40 = .ok (.iastore, 1) := by decide +kernel
theorem dX2_tellDoubt_41 : decode cX2_tellDoubt 41 = .ok (.aload_n 0, 1) := by decide +kernel
theorem dX2_tellDoubt_42 : decode cX2_tellDoubt 42 = .ok (.getfield 45, 3) := by decide +kernel
theorem dX2_tellDoubt_45 : decode cX2_tellDoubt 45 = .ok (.iload_n 1, 1) := by decide +kernel
theorem dX2_tellDoubt_46 : decode cX2_tellDoubt 46 = .ok (.iconst 3, 1) := by decide +kernel
theorem dX2_tellDoubt_47 : decode cX2_tellDoubt 47 = .ok (.imul, 1) := by decide +kernel
theorem dX2_tellDoubt_48 : decode cX2_tellDoubt 48 = .ok (.iload_n 2, 1) := by decide +kernel
theorem dX2_tellDoubt_49 : decode cX2_tellDoubt 49 = .ok (.iadd, 1) := by decide +kernel
theorem dX2_tellDoubt_50 : decode cX2_tellDoubt 50 = .ok (.iload_n 3, 1) := by decide +kernel
theorem dX2_tellDoubt_51 : decode cX2_tellDoubt 51 = .ok (.iastore, 1) := by decide +kernel
theorem dX2_tellDoubt_52 : decode cX2_tellDoubt 52 = .ok (.iload 4, 2) := by decide +kernel
theorem dX2_tellDoubt_54 : decode cX2_tellDoubt 54 = .ok (.ireturn, 1) := by decide +kernel
theorem dX2_doubtsToldAs_0 : decode cX2_doubtsToldAs 0 = .ok (.iconst 0, 1) := by decide +kernel
theorem dX2_doubtsToldAs_1 : decode cX2_doubtsToldAs 1 = .ok (.istore_n 2, 1) := by decide +kernel
theorem dX2_doubtsToldAs_2 : decode cX2_doubtsToldAs 2 = .ok (.iconst 0, 1) := by decide +kernel
theorem dX2_doubtsToldAs_3 : decode cX2_doubtsToldAs 3 = .ok (.istore_n 3, 1) := by decide +kernel
theorem dX2_doubtsToldAs_4 : decode cX2_doubtsToldAs 4 = .ok (.iload_n 3, 1) := by decide +kernel
theorem dX2_doubtsToldAs_5 : decode cX2_doubtsToldAs 5 = .ok (.aload_n 0, 1) := by decide +kernel
theorem dX2_doubtsToldAs_6 : decode cX2_doubtsToldAs 6 = .ok (.getfield 59, 3) := by decide +kernel
theorem dX2_doubtsToldAs_9 : decode cX2_doubtsToldAs 9 = .ok (.if_icmp .ge 46, 3) := by decide +kernel
theorem dX2_doubtsToldAs_12 : decode cX2_doubtsToldAs 12 = .ok (.iconst 0, 1) := by decide +kernel
theorem dX2_doubtsToldAs_13 : decode cX2_doubtsToldAs 13 = .ok (.istore 4, 2) := by decide +kernel
theorem dX2_doubtsToldAs_15 : decode cX2_doubtsToldAs 15 = .ok (.iload 4, 2) := by decide +kernel
theorem dX2_doubtsToldAs_17 : decode cX2_doubtsToldAs 17 = .ok (.aload_n 0, 1) := by decide +kernel
theorem dX2_doubtsToldAs_18 : decode cX2_doubtsToldAs 18 = .ok (.iload_n 3, 1) := by decide +kernel
theorem dX2_doubtsToldAs_19 : decode cX2_doubtsToldAs 19 = .ok (.invokevirtual 74, 3) := by decide +kernel
theorem dX2_doubtsToldAs_22 : decode cX2_doubtsToldAs 22 = .ok (.if_icmp .ge 27, 3) := by decide +kernel
theorem dX2_doubtsToldAs_25 : decode cX2_doubtsToldAs 25 = .ok (.aload_n 0, 1) := by decide +kernel
theorem dX2_doubtsToldAs_26 : decode cX2_doubtsToldAs 26 = .ok (.getfield 45, 3) := by decide +kernel
theorem dX2_doubtsToldAs_29 : decode cX2_doubtsToldAs 29 = .ok (.iload_n 3, 1) := by decide +kernel
theorem dX2_doubtsToldAs_30 : decode cX2_doubtsToldAs 30 = .ok (.iconst 3, 1) := by decide +kernel
theorem dX2_doubtsToldAs_31 : decode cX2_doubtsToldAs 31 = .ok (.imul, 1) := by decide +kernel
theorem dX2_doubtsToldAs_32 : decode cX2_doubtsToldAs 32 = .ok (.iload 4, 2) := by decide +kernel
theorem dX2_doubtsToldAs_34 : decode cX2_doubtsToldAs 34 = .ok (.iadd, 1) := by decide +kernel
theorem dX2_doubtsToldAs_35 : decode cX2_doubtsToldAs 35 = .ok (.iaload, 1) := by decide +kernel
theorem dX2_doubtsToldAs_36 : decode cX2_doubtsToldAs 36 = .ok (.iload_n 1, 1) := by decide +kernel
theorem dX2_doubtsToldAs_37 : decode cX2_doubtsToldAs 37 = .ok (.if_icmp .ne 6, 3) := by decide +kernel
theorem dX2_doubtsToldAs_40 : decode cX2_doubtsToldAs 40 = .ok (.iinc 2 1, 3) := by decide +kernel
theorem dX2_doubtsToldAs_43 : decode cX2_doubtsToldAs 43 = .ok (.iinc 4 1, 3) := by decide +kernel
theorem dX2_doubtsToldAs_46 : decode cX2_doubtsToldAs 46 = .ok (.goto (-31), 3) := by decide +kernel
theorem dX2_doubtsToldAs_49 : decode cX2_doubtsToldAs 49 = .ok (.iinc 3 1, 3) := by decide +kernel
theorem dX2_doubtsToldAs_52 : decode cX2_doubtsToldAs 52 = .ok (.goto (-48), 3) := by decide +kernel
theorem dX2_doubtsToldAs_55 : decode cX2_doubtsToldAs 55 = .ok (.iload_n 2, 1) := by decide +kernel
theorem dX2_doubtsToldAs_56 : decode cX2_doubtsToldAs 56 = .ok (.ireturn, 1) := by decide +kernel
theorem dX2_stands_0 : decode cX2_stands 0 = .ok (.aload_n 0, 1) := by decide +kernel
theorem dX2_stands_1 : decode cX2_stands 1 = .ok (.getfield 24, 3) := by decide +kernel
theorem dX2_stands_4 : decode cX2_stands 4 = .ok (.iload_n 1, 1) := by decide +kernel
theorem dX2_stands_5 : decode cX2_stands 5 = .ok (.iaload, 1) := by decide +kernel
theorem dX2_stands_6 : decode cX2_stands 6 = .ok (.ifCond .ne 27, 3) := by decide +kernel
theorem dX2_stands_9 : decode cX2_stands 9 = .ok (.aload_n 0, 1) := by decide +kernel
theorem dX2_stands_10 : decode cX2_stands 10 = .ok (.getfield 78, 3) := by decide +kernel
theorem dX2_stands_13 : decode cX2_stands 13 = .ok (.aload_n 0, 1) := by decide +kernel
theorem dX2_stands_14 : decode cX2_stands 14 = .ok (.getfield 18, 3) := by decide +kernel
theorem dX2_stands_17 : decode cX2_stands 17 = .ok (.iload_n 1, 1) := by decide +kernel
theorem dX2_stands_18 : decode cX2_stands 18 = .ok (.iaload, 1) := by decide +kernel
theorem dX2_stands_19 : decode cX2_stands 19 = .ok (.aload_n 0, 1) := by decide +kernel
theorem dX2_stands_20 : decode cX2_stands 20 = .ok (.getfield 21, 3) := by decide +kernel
theorem dX2_stands_23 : decode cX2_stands 23 = .ok (.iload_n 1, 1) := by decide +kernel
theorem dX2_stands_24 : decode cX2_stands 24 = .ok (.iaload, 1) := by decide +kernel
theorem dX2_stands_25 : decode cX2_stands 25 = .ok (.iadd, 1) := by decide +kernel
theorem dX2_stands_26 : decode cX2_stands 26 = .ok (.if_icmp .gt 7, 3) := by decide +kernel
theorem dX2_stands_29 : decode cX2_stands 29 = .ok (.iconst 1, 1) := by decide +kernel
theorem dX2_stands_30 : decode cX2_stands 30 = .ok (.goto 4, 3) := by decide +kernel
theorem dX2_stands_33 : decode cX2_stands 33 = .ok (.iconst 0, 1) := by decide +kernel
theorem dX2_stands_34 : decode cX2_stands 34 = .ok (.ireturn, 1) := by decide +kernel
theorem dX2_claims_0 : decode cX2_claims 0 = .ok (.iconst 0, 1) := by decide +kernel
theorem dX2_claims_1 : decode cX2_claims 1 = .ok (.istore_n 1, 1) := by decide +kernel
theorem dX2_claims_2 : decode cX2_claims 2 = .ok (.iconst 0, 1) := by decide +kernel
theorem dX2_claims_3 : decode cX2_claims 3 = .ok (.istore_n 2, 1) := by decide +kernel
theorem dX2_claims_4 : decode cX2_claims 4 = .ok (.iload_n 2, 1) := by decide +kernel
theorem dX2_claims_5 : decode cX2_claims 5 = .ok (.aload_n 0, 1) := by decide +kernel
theorem dX2_claims_6 : decode cX2_claims 6 = .ok (.getfield 51, 3) := by decide +kernel
theorem dX2_claims_9 : decode cX2_claims 9 = .ok (.if_icmp .ge 25, 3) := by decide +kernel
theorem dX2_claims_12 : decode cX2_claims 12 = .ok (.aload_n 0, 1) := by decide +kernel
theorem dX2_claims_13 : decode cX2_claims 13 = .ok (.getfield 9, 3) := by decide +kernel
theorem dX2_claims_16 : decode cX2_claims 16 = .ok (.iload_n 2, 1) := by decide +kernel
theorem dX2_claims_17 : decode cX2_claims 17 = .ok (.iaload, 1) := by decide +kernel
theorem dX2_claims_18 : decode cX2_claims 18 = .ok (.iconst 2, 1) := by decide +kernel
theorem dX2_claims_19 : decode cX2_claims 19 = .ok (.if_icmp .ne 9, 3) := by decide +kernel
theorem dX2_claims_22 : decode cX2_claims 22 = .ok (.iload_n 1, 1) := by decide +kernel
theorem dX2_claims_23 : decode cX2_claims 23 = .ok (.iconst 1, 1) := by decide +kernel
theorem dX2_claims_24 : decode cX2_claims 24 = .ok (.iload_n 2, 1) := by decide +kernel
theorem dX2_claims_25 : decode cX2_claims 25 = .ok (.ishl, 1) := by decide +kernel
theorem dX2_claims_26 : decode cX2_claims 26 = .ok (.ior, 1) := by decide +kernel
theorem dX2_claims_27 : decode cX2_claims 27 = .ok (.istore_n 1, 1) := by decide +kernel
theorem dX2_claims_28 : decode cX2_claims 28 = .ok (.iinc 2 1, 3) := by decide +kernel
theorem dX2_claims_31 : decode cX2_claims 31 = .ok (.goto (-27), 3) := by decide +kernel
theorem dX2_claims_34 : decode cX2_claims 34 = .ok (.iload_n 1, 1) := by decide +kernel
theorem dX2_claims_35 : decode cX2_claims 35 = .ok (.ireturn, 1) := by decide +kernel
theorem dX2_grounds_0 : decode cX2_grounds 0 = .ok (.iconst 1, 1) := by decide +kernel
theorem dX2_grounds_1 : decode cX2_grounds 1 = .ok (.aload_n 0, 1) := by decide +kernel
theorem dX2_grounds_2 : decode cX2_grounds 2 = .ok (.getfield 51, 3) := by decide +kernel
theorem dX2_grounds_5 : decode cX2_grounds 5 = .ok (.ishl, 1) := by decide +kernel
theorem dX2_grounds_6 : decode cX2_grounds 6 = .ok (.iconst 1, 1) := by decide +kernel
theorem dX2_grounds_7 : decode cX2_grounds 7 = .ok (.isub, 1) := by decide +kernel
theorem dX2_grounds_8 : decode cX2_grounds 8 = .ok (.aload_n 0, 1) := by decide +kernel
theorem dX2_grounds_9 : decode cX2_grounds 9 = .ok (.invokevirtual 81, 3) := by decide +kernel
theorem dX2_grounds_12 : decode cX2_grounds 12 = .ok (.iconst (-1), 1) := by decide +kernel
theorem dX2_grounds_13 : decode cX2_grounds 13 = .ok (.ixor, 1) := by decide +kernel
theorem dX2_grounds_14 : decode cX2_grounds 14 = .ok (.iand, 1) := by decide +kernel
theorem dX2_grounds_15 : decode cX2_grounds 15 = .ok (.ireturn, 1) := by decide +kernel
theorem dX2_groundsOf_0 : decode cX2_groundsOf 0 = .ok (.iconst 0, 1) := by decide +kernel
theorem dX2_groundsOf_1 : decode cX2_groundsOf 1 = .ok (.istore_n 2, 1) := by decide +kernel
theorem dX2_groundsOf_2 : decode cX2_groundsOf 2 = .ok (.iconst 0, 1) := by decide +kernel
theorem dX2_groundsOf_3 : decode cX2_groundsOf 3 = .ok (.istore_n 3, 1) := by decide +kernel
theorem dX2_groundsOf_4 : decode cX2_groundsOf 4 = .ok (.iload_n 3, 1) := by decide +kernel
theorem dX2_groundsOf_5 : decode cX2_groundsOf 5 = .ok (.aload_n 0, 1) := by decide +kernel
theorem dX2_groundsOf_6 : decode cX2_groundsOf 6 = .ok (.getfield 51, 3) := by decide +kernel
theorem dX2_groundsOf_9 : decode cX2_groundsOf 9 = .ok (.if_icmp .ge 35, 3) := by decide +kernel
theorem dX2_groundsOf_12 : decode cX2_groundsOf 12 = .ok (.aload_n 0, 1) := by decide +kernel
theorem dX2_groundsOf_13 : decode cX2_groundsOf 13 = .ok (.getfield 9, 3) := by decide +kernel
theorem dX2_groundsOf_16 : decode cX2_groundsOf 16 = .ok (.iload_n 3, 1) := by decide +kernel
theorem dX2_groundsOf_17 : decode cX2_groundsOf 17 = .ok (.iaload, 1) := by decide +kernel
theorem dX2_groundsOf_18 : decode cX2_groundsOf 18 = .ok (.iconst 2, 1) := by decide +kernel
theorem dX2_groundsOf_19 : decode cX2_groundsOf 19 = .ok (.if_icmp .eq 19, 3) := by decide +kernel
theorem dX2_groundsOf_22 : decode cX2_groundsOf 22 = .ok (.aload_n 0, 1) := by decide +kernel
theorem dX2_groundsOf_23 : decode cX2_groundsOf 23 = .ok (.getfield 15, 3) := by decide +kernel
theorem dX2_groundsOf_26 : decode cX2_groundsOf 26 = .ok (.iload_n 3, 1) := by decide +kernel
theorem dX2_groundsOf_27 : decode cX2_groundsOf 27 = .ok (.iaload, 1) := by decide +kernel
theorem dX2_groundsOf_28 : decode cX2_groundsOf 28 = .ok (.iload_n 1, 1) := by decide +kernel
theorem dX2_groundsOf_29 : decode cX2_groundsOf 29 = .ok (.if_icmp .ne 9, 3) := by decide +kernel
theorem dX2_groundsOf_32 : decode cX2_groundsOf 32 = .ok (.iload_n 2, 1) := by decide +kernel
theorem dX2_groundsOf_33 : decode cX2_groundsOf 33 = .ok (.iconst 1, 1) := by decide +kernel
theorem dX2_groundsOf_34 : decode cX2_groundsOf 34 = .ok (.iload_n 3, 1) := by decide +kernel
theorem dX2_groundsOf_35 : decode cX2_groundsOf 35 = .ok (.ishl, 1) := by decide +kernel
theorem dX2_groundsOf_36 : decode cX2_groundsOf 36 = .ok (.ior, 1) := by decide +kernel
theorem dX2_groundsOf_37 : decode cX2_groundsOf 37 = .ok (.istore_n 2, 1) := by decide +kernel
theorem dX2_groundsOf_38 : decode cX2_groundsOf 38 = .ok (.iinc 3 1, 3) := by decide +kernel
theorem dX2_groundsOf_41 : decode cX2_groundsOf 41 = .ok (.goto (-37), 3) := by decide +kernel
theorem dX2_groundsOf_44 : decode cX2_groundsOf 44 = .ok (.iload_n 2, 1) := by decide +kernel
theorem dX2_groundsOf_45 : decode cX2_groundsOf 45 = .ok (.ireturn, 1) := by decide +kernel
theorem dX2_standing_0 : decode cX2_standing 0 = .ok (.iconst 0, 1) := by decide +kernel
theorem dX2_standing_1 : decode cX2_standing 1 = .ok (.istore_n 1, 1) := by decide +kernel
theorem dX2_standing_2 : decode cX2_standing 2 = .ok (.iconst 0, 1) := by decide +kernel
theorem dX2_standing_3 : decode cX2_standing 3 = .ok (.istore_n 2, 1) := by decide +kernel
theorem dX2_standing_4 : decode cX2_standing 4 = .ok (.iload_n 2, 1) := by decide +kernel
theorem dX2_standing_5 : decode cX2_standing 5 = .ok (.aload_n 0, 1) := by decide +kernel
theorem dX2_standing_6 : decode cX2_standing 6 = .ok (.getfield 51, 3) := by decide +kernel
theorem dX2_standing_9 : decode cX2_standing 9 = .ok (.if_icmp .ge 33, 3) := by decide +kernel
theorem dX2_standing_12 : decode cX2_standing 12 = .ok (.aload_n 0, 1) := by decide +kernel
theorem dX2_standing_13 : decode cX2_standing 13 = .ok (.getfield 9, 3) := by decide +kernel
theorem dX2_standing_16 : decode cX2_standing 16 = .ok (.iload_n 2, 1) := by decide +kernel
theorem dX2_standing_17 : decode cX2_standing 17 = .ok (.iaload, 1) := by decide +kernel
theorem dX2_standing_18 : decode cX2_standing 18 = .ok (.iconst 2, 1) := by decide +kernel
theorem dX2_standing_19 : decode cX2_standing 19 = .ok (.if_icmp .eq 17, 3) := by decide +kernel
theorem dX2_standing_22 : decode cX2_standing 22 = .ok (.aload_n 0, 1) := by decide +kernel
theorem dX2_standing_23 : decode cX2_standing 23 = .ok (.iload_n 2, 1) := by decide +kernel
theorem dX2_standing_24 : decode cX2_standing 24 = .ok (.invokevirtual 85, 3) := by decide +kernel
theorem dX2_standing_27 : decode cX2_standing 27 = .ok (.ifCond .eq 9, 3) := by decide +kernel
theorem dX2_standing_30 : decode cX2_standing 30 = .ok (.iload_n 1, 1) := by decide +kernel
theorem dX2_standing_31 : decode cX2_standing 31 = .ok (.iconst 1, 1) := by decide +kernel
theorem dX2_standing_32 : decode cX2_standing 32 = .ok (.iload_n 2, 1) := by decide +kernel
theorem dX2_standing_33 : decode cX2_standing 33 = .ok (.ishl, 1) := by decide +kernel
theorem dX2_standing_34 : decode cX2_standing 34 = .ok (.ior, 1) := by decide +kernel
theorem dX2_standing_35 : decode cX2_standing 35 = .ok (.istore_n 1, 1) := by decide +kernel
theorem dX2_standing_36 : decode cX2_standing 36 = .ok (.iinc 2 1, 3) := by decide +kernel
theorem dX2_standing_39 : decode cX2_standing 39 = .ok (.goto (-35), 3) := by decide +kernel
theorem dX2_standing_42 : decode cX2_standing 42 = .ok (.iload_n 1, 1) := by decide +kernel
theorem dX2_standing_43 : decode cX2_standing 43 = .ok (.ireturn, 1) := by decide +kernel
theorem dX2_isBorneUp_0 : decode cX2_isBorneUp 0 = .ok (.aload_n 0, 1) := by decide +kernel
theorem dX2_isBorneUp_1 : decode cX2_isBorneUp 1 = .ok (.getfield 36, 3) := by decide +kernel
theorem dX2_isBorneUp_4 : decode cX2_isBorneUp 4 = .ok (.iload_n 1, 1) := by decide +kernel
theorem dX2_isBorneUp_5 : decode cX2_isBorneUp 5 = .ok (.iaload, 1) := by decide +kernel
theorem dX2_isBorneUp_6 : decode cX2_isBorneUp 6 = .ok (.iload_n 2, 1) := by decide +kernel
theorem dX2_isBorneUp_7 : decode cX2_isBorneUp 7 = .ok (.iand, 1) := by decide +kernel
theorem dX2_isBorneUp_8 : decode cX2_isBorneUp 8 = .ok (.istore_n 3, 1) := by decide +kernel
theorem dX2_isBorneUp_9 : decode cX2_isBorneUp 9 = .ok (.aload_n 0, 1) := by decide +kernel
theorem dX2_isBorneUp_10 : decode cX2_isBorneUp 10 = .ok (.getfield 27, 3) := by decide +kernel
theorem dX2_isBorneUp_13 : decode cX2_isBorneUp 13 = .ok (.iload_n 1, 1) := by decide +kernel
theorem dX2_isBorneUp_14 : decode cX2_isBorneUp 14 = .ok (.iaload, 1) := by decide +kernel
theorem dX2_isBorneUp_15 : decode cX2_isBorneUp 15 = .ok (.tableswitch 72 0 2 #[25, 41, 51], 25) := by decide +kernel
theorem dX2_isBorneUp_40 : decode cX2_isBorneUp 40 = .ok (.iload_n 3, 1) := by decide +kernel
theorem dX2_isBorneUp_41 : decode cX2_isBorneUp 41 = .ok (.aload_n 0, 1) := by decide +kernel
theorem dX2_isBorneUp_42 : decode cX2_isBorneUp 42 = .ok (.getfield 36, 3) := by decide +kernel
theorem dX2_isBorneUp_45 : decode cX2_isBorneUp 45 = .ok (.iload_n 1, 1) := by decide +kernel
theorem dX2_isBorneUp_46 : decode cX2_isBorneUp 46 = .ok (.iaload, 1) := by decide +kernel
theorem dX2_isBorneUp_47 : decode cX2_isBorneUp 47 = .ok (.if_icmp .ne 7, 3) := by decide +kernel
theorem dX2_isBorneUp_50 : decode cX2_isBorneUp 50 = .ok (.iconst 1, 1) := by decide +kernel
theorem dX2_isBorneUp_51 : decode cX2_isBorneUp 51 = .ok (.goto 4, 3) := by decide +kernel
theorem dX2_isBorneUp_54 : decode cX2_isBorneUp 54 = .ok (.iconst 0, 1) := by decide +kernel
theorem dX2_isBorneUp_55 : decode cX2_isBorneUp 55 = .ok (.ireturn, 1) := by decide +kernel
theorem dX2_isBorneUp_56 : decode cX2_isBorneUp 56 = .ok (.iload_n 3, 1) := by decide +kernel
theorem dX2_isBorneUp_57 : decode cX2_isBorneUp 57 = .ok (.ifCond .eq 7, 3) := by decide +kernel
theorem dX2_isBorneUp_60 : decode cX2_isBorneUp 60 = .ok (.iconst 1, 1) := by decide +kernel
theorem dX2_isBorneUp_61 : decode cX2_isBorneUp 61 = .ok (.goto 4, 3) := by decide +kernel
theorem dX2_isBorneUp_64 : decode cX2_isBorneUp 64 = .ok (.iconst 0, 1) := by decide +kernel
theorem dX2_isBorneUp_65 : decode cX2_isBorneUp 65 = .ok (.ireturn, 1) := by decide +kernel
theorem dX2_isBorneUp_66 : decode cX2_isBorneUp 66 = .ok (.iconst 2, 1) := by decide +kernel
theorem dX2_isBorneUp_67 : decode cX2_isBorneUp 67 = .ok (.iload_n 3, 1) := by decide +kernel
theorem dX2_isBorneUp_68 : decode cX2_isBorneUp 68 = .ok (.invokestatic 88, 3) := by decide +kernel
theorem dX2_isBorneUp_71 : decode cX2_isBorneUp 71 = .ok (.imul, 1) := by decide +kernel
theorem dX2_isBorneUp_72 : decode cX2_isBorneUp 72 = .ok (.aload_n 0, 1) := by decide +kernel
theorem dX2_isBorneUp_73 : decode cX2_isBorneUp 73 = .ok (.getfield 33, 3) := by decide +kernel
theorem dX2_isBorneUp_76 : decode cX2_isBorneUp 76 = .ok (.iload_n 1, 1) := by decide +kernel
theorem dX2_isBorneUp_77 : decode cX2_isBorneUp 77 = .ok (.iaload, 1) := by decide +kernel
theorem dX2_isBorneUp_78 : decode cX2_isBorneUp 78 = .ok (.if_icmp .le 7, 3) := by decide +kernel
theorem dX2_isBorneUp_81 : decode cX2_isBorneUp 81 = .ok (.iconst 1, 1) := by decide +kernel
theorem dX2_isBorneUp_82 : decode cX2_isBorneUp 82 = .ok (.goto 4, 3) := by decide +kernel
theorem dX2_isBorneUp_85 : decode cX2_isBorneUp 85 = .ok (.iconst 0, 1) := by decide +kernel
theorem dX2_isBorneUp_86 : decode cX2_isBorneUp 86 = .ok (.ireturn, 1) := by decide +kernel
theorem dX2_isBorneUp_87 : decode cX2_isBorneUp 87 = .ok (.iload_n 2, 1) := by decide +kernel
theorem dX2_isBorneUp_88 : decode cX2_isBorneUp 88 = .ok (.aload_n 0, 1) := by decide +kernel
theorem dX2_isBorneUp_89 : decode cX2_isBorneUp 89 = .ok (.getfield 39, 3) := by decide +kernel
theorem dX2_isBorneUp_92 : decode cX2_isBorneUp 92 = .ok (.iload_n 1, 1) := by decide +kernel
theorem dX2_isBorneUp_93 : decode cX2_isBorneUp 93 = .ok (.bipush 6, 2) := by decide +kernel
theorem dX2_isBorneUp_95 : decode cX2_isBorneUp 95 = .ok (.imul, 1) := by decide +kernel
theorem dX2_isBorneUp_96 : decode cX2_isBorneUp 96 = .ok (.iaload, 1) := by decide +kernel
theorem dX2_isBorneUp_97 : decode cX2_isBorneUp 97 = .ok (.ishr, 1) := by decide +kernel
theorem dX2_isBorneUp_98 : decode cX2_isBorneUp 98 = .ok (.iconst 1, 1) := by decide +kernel
theorem dX2_isBorneUp_99 : decode cX2_isBorneUp 99 = .ok (.iand, 1) := by decide +kernel
theorem dX2_isBorneUp_100 : decode cX2_isBorneUp 100 = .ok (.iconst 1, 1) := by decide +kernel
theorem dX2_isBorneUp_101 : decode cX2_isBorneUp 101 = .ok (.if_icmp .ne 7, 3) := by decide +kernel
theorem dX2_isBorneUp_104 : decode cX2_isBorneUp 104 = .ok (.iconst 1, 1) := by decide +kernel
theorem dX2_isBorneUp_105 : decode cX2_isBorneUp 105 = .ok (.goto 4, 3) := by decide +kernel
theorem dX2_isBorneUp_108 : decode cX2_isBorneUp 108 = .ok (.iconst 0, 1) := by decide +kernel
theorem dX2_isBorneUp_109 : decode cX2_isBorneUp 109 = .ok (.ireturn, 1) := by decide +kernel
theorem dX2_nextRound_0 : decode cX2_nextRound 0 = .ok (.iload_n 1, 1) := by decide +kernel
theorem dX2_nextRound_1 : decode cX2_nextRound 1 = .ok (.istore_n 3, 1) := by decide +kernel
theorem dX2_nextRound_2 : decode cX2_nextRound 2 = .ok (.iconst 0, 1) := by decide +kernel
theorem dX2_nextRound_3 : decode cX2_nextRound 3 = .ok (.istore 4, 2) := by decide +kernel
theorem dX2_nextRound_5 : decode cX2_nextRound 5 = .ok (.iload 4, 2) := by decide +kernel
theorem dX2_nextRound_7 : decode cX2_nextRound 7 = .ok (.aload_n 0, 1) := by decide +kernel
theorem dX2_nextRound_8 : decode cX2_nextRound 8 = .ok (.getfield 59, 3) := by decide +kernel
theorem dX2_nextRound_11 : decode cX2_nextRound 11 = .ok (.if_icmp .ge 58, 3) := by decide +kernel
theorem dX2_nextRound_14 : decode cX2_nextRound 14 = .ok (.iconst 1, 1) := by decide +kernel
theorem dX2_nextRound_15 : decode cX2_nextRound 15 = .ok (.aload_n 0, 1) := by decide +kernel
theorem dX2_nextRound_16 : decode cX2_nextRound 16 = .ok (.getfield 30, 3) := by decide +kernel
theorem dX2_nextRound_19 : decode cX2_nextRound 19 = .ok (.iload 4, 2) := by decide +kernel
theorem dX2_nextRound_21 : decode cX2_nextRound 21 = .ok (.iaload, 1) := by decide +kernel
theorem dX2_nextRound_22 : decode cX2_nextRound 22 = .ok (.ishl, 1) := by decide +kernel
theorem dX2_nextRound_23 : decode cX2_nextRound 23 = .ok (.iload_n 2, 1) := by decide +kernel
theorem dX2_nextRound_24 : decode cX2_nextRound 24 = .ok (.iconst (-1), 1) := by decide +kernel
theorem dX2_nextRound_25 : decode cX2_nextRound 25 = .ok (.ixor, 1) := by decide +kernel
theorem dX2_nextRound_26 : decode cX2_nextRound 26 = .ok (.iand, 1) := by decide +kernel
theorem dX2_nextRound_27 : decode cX2_nextRound 27 = .ok (.iload_n 3, 1) := by decide +kernel
theorem dX2_nextRound_28 : decode cX2_nextRound 28 = .ok (.iconst (-1), 1) := by decide +kernel
theorem dX2_nextRound_29 : decode cX2_nextRound 29 = .ok (.ixor, 1) := by decide +kernel
theorem dX2_nextRound_30 : decode cX2_nextRound 30 = .ok (.iand, 1) := by decide +kernel
theorem dX2_nextRound_31 : decode cX2_nextRound 31 = .ok (.istore 5, 2) := by decide +kernel
theorem dX2_nextRound_33 : decode cX2_nextRound 33 = .ok (.iload 5, 2) := by decide +kernel
theorem dX2_nextRound_35 : decode cX2_nextRound 35 = .ok (.ifCond .eq 28, 3) := by decide +kernel
theorem dX2_nextRound_38 : decode cX2_nextRound 38 = .ok (.aload_n 0, 1) := by decide +kernel
theorem dX2_nextRound_39 : decode cX2_nextRound 39 = .ok (.getfield 42, 3) := by decide +kernel
theorem dX2_nextRound_42 : decode cX2_nextRound 42 = .ok (.iload 4, 2) := by decide +kernel
theorem dX2_nextRound_44 : decode cX2_nextRound 44 = .ok (.iaload, 1) := by decide +kernel
theorem dX2_nextRound_45 : decode cX2_nextRound 45 = .ok (.ifCond .ne 18, 3) := by decide +kernel
theorem dX2_nextRound_48 : decode cX2_nextRound 48 = .ok (.aload_n 0, 1) := by decide +kernel
theorem dX2_nextRound_49 : decode cX2_nextRound 49 = .ok (.iload 4, 2) := by decide +kernel
theorem dX2_nextRound_51 : decode cX2_nextRound 51 = .ok (.iload_n 1, 1) := by decide +kernel
theorem dX2_nextRound_52 : decode cX2_nextRound 52 = .ok (.invokevirtual 93, 3) := by decide +kernel
theorem dX2_nextRound_55 : decode cX2_nextRound 55 = .ok (.ifCond .eq 8, 3) := by decide +kernel
theorem dX2_nextRound_58 : decode cX2_nextRound 58 = .ok (.iload_n 3, 1) := by decide +kernel
theorem dX2_nextRound_59 : decode cX2_nextRound 59 = .ok (.iload 5, 2) := by decide +kernel
theorem dX2_nextRound_61 : decode cX2_nextRound 61 = .ok (.ior, 1) := by decide +kernel
theorem dX2_nextRound_62 : decode cX2_nextRound 62 = .ok (.istore_n 3, 1) := by decide +kernel
theorem dX2_nextRound_63 : decode cX2_nextRound 63 = .ok (.iinc 4 1, 3) := by decide +kernel
theorem dX2_nextRound_66 : decode cX2_nextRound 66 = .ok (.goto (-61), 3) := by decide +kernel
theorem dX2_nextRound_69 : decode cX2_nextRound 69 = .ok (.iload_n 3, 1) := by decide +kernel
theorem dX2_nextRound_70 : decode cX2_nextRound 70 = .ok (.ireturn, 1) := by decide +kernel
theorem dX2_spread_0 : decode cX2_spread 0 = .ok (.iload_n 1, 1) := by decide +kernel
theorem dX2_spread_1 : decode cX2_spread 1 = .ok (.istore_n 3, 1) := by decide +kernel
theorem dX2_spread_2 : decode cX2_spread 2 = .ok (.iconst 0, 1) := by decide +kernel
theorem dX2_spread_3 : decode cX2_spread 3 = .ok (.istore 4, 2) := by decide +kernel
theorem dX2_spread_5 : decode cX2_spread 5 = .ok (.iload 4, 2) := by decide +kernel
theorem dX2_spread_7 : decode cX2_spread 7 = .ok (.bipush 20, 2) := by decide +kernel
theorem dX2_spread_9 : decode cX2_spread 9 = .ok (.if_icmp .ge 29, 3) := by decide +kernel
theorem dX2_spread_12 : decode cX2_spread 12 = .ok (.aload_n 0, 1) := by decide +kernel
theorem dX2_spread_13 : decode cX2_spread 13 = .ok (.iload_n 3, 1) := by decide +kernel
theorem dX2_spread_14 : decode cX2_spread 14 = .ok (.iload_n 2, 1) := by decide +kernel
theorem dX2_spread_15 : decode cX2_spread 15 = .ok (.invokevirtual 97, 3) := by decide +kernel
theorem dX2_spread_18 : decode cX2_spread 18 = .ok (.istore 5, 2) := by decide +kernel
theorem dX2_spread_20 : decode cX2_spread 20 = .ok (.iload 5, 2) := by decide +kernel
theorem dX2_spread_22 : decode cX2_spread 22 = .ok (.iload_n 3, 1) := by decide +kernel
theorem dX2_spread_23 : decode cX2_spread 23 = .ok (.if_icmp .ne 6, 3) := by decide +kernel
theorem dX2_spread_26 : decode cX2_spread 26 = .ok (.goto 12, 3) := by decide +kernel
theorem dX2_spread_29 : decode cX2_spread 29 = .ok (.iload 5, 2) := by decide +kernel
theorem dX2_spread_31 : decode cX2_spread 31 = .ok (.istore_n 3, 1) := by decide +kernel
theorem dX2_spread_32 : decode cX2_spread 32 = .ok (.iinc 4 1, 3) := by decide +kernel
theorem dX2_spread_35 : decode cX2_spread 35 = .ok (.goto (-30), 3) := by decide +kernel
theorem dX2_spread_38 : decode cX2_spread 38 = .ok (.iload_n 3, 1) := by decide +kernel
theorem dX2_spread_39 : decode cX2_spread 39 = .ok (.ireturn, 1) := by decide +kernel
theorem dX2_shownNow_0 : decode cX2_shownNow 0 = .ok (.aload_n 0, 1) := by decide +kernel
theorem dX2_shownNow_1 : decode cX2_shownNow 1 = .ok (.aload_n 0, 1) := by decide +kernel
theorem dX2_shownNow_2 : decode cX2_shownNow 2 = .ok (.invokevirtual 100, 3) := by decide +kernel
theorem dX2_shownNow_5 : decode cX2_shownNow 5 = .ok (.iconst 0, 1) := by decide +kernel
theorem dX2_shownNow_6 : decode cX2_shownNow 6 = .ok (.invokevirtual 103, 3) := by decide +kernel
theorem dX2_shownNow_9 : decode cX2_shownNow 9 = .ok (.ireturn, 1) := by decide +kernel
theorem dX2_roundsNow_0 : decode cX2_roundsNow 0 = .ok (.iconst 0, 1) := by decide +kernel
theorem dX2_roundsNow_1 : decode cX2_roundsNow 1 = .ok (.istore_n 1, 1) := by decide +kernel
theorem dX2_roundsNow_2 : decode cX2_roundsNow 2 = .ok (.aload_n 0, 1) := by decide +kernel
theorem dX2_roundsNow_3 : decode cX2_roundsNow 3 = .ok (.invokevirtual 100, 3) := by decide +kernel
theorem dX2_roundsNow_6 : decode cX2_roundsNow 6 = .ok (.istore_n 2, 1) := by decide +kernel
theorem dX2_roundsNow_7 : decode cX2_roundsNow 7 = .ok (.iconst 0, 1) := by decide +kernel
theorem dX2_roundsNow_8 : decode cX2_roundsNow 8 = .ok (.istore_n 3, 1) := by decide +kernel
theorem dX2_roundsNow_9 : decode cX2_roundsNow 9 = .ok (.iload_n 3, 1) := by decide +kernel
theorem dX2_roundsNow_10 : decode cX2_roundsNow 10 = .ok (.bipush 20, 2) := by decide +kernel
theorem dX2_roundsNow_12 : decode cX2_roundsNow 12 = .ok (.if_icmp .ge 32, 3) := by decide +kernel
theorem dX2_roundsNow_15 : decode cX2_roundsNow 15 = .ok (.aload_n 0, 1) := by decide +kernel
theorem dX2_roundsNow_16 : decode cX2_roundsNow 16 = .ok (.iload_n 2, 1) := by decide +kernel
theorem dX2_roundsNow_17 : decode cX2_roundsNow 17 = .ok (.iconst 0, 1) := by decide +kernel
theorem dX2_roundsNow_18 : decode cX2_roundsNow 18 = .ok (.invokevirtual 97, 3) := by decide +kernel
theorem dX2_roundsNow_21 : decode cX2_roundsNow 21 = .ok (.istore 4, 2) := by decide +kernel
theorem dX2_roundsNow_23 : decode cX2_roundsNow 23 = .ok (.iload 4, 2) := by decide +kernel
theorem dX2_roundsNow_25 : decode cX2_roundsNow 25 = .ok (.iload_n 2, 1) := by decide +kernel
theorem dX2_roundsNow_26 : decode cX2_roundsNow 26 = .ok (.if_icmp .ne 6, 3) := by decide +kernel
theorem dX2_roundsNow_29 : decode cX2_roundsNow 29 = .ok (.goto 15, 3) := by decide +kernel
theorem dX2_roundsNow_32 : decode cX2_roundsNow 32 = .ok (.iload 4, 2) := by decide +kernel
theorem dX2_roundsNow_34 : decode cX2_roundsNow 34 = .ok (.istore_n 2, 1) := by decide +kernel
theorem dX2_roundsNow_35 : decode cX2_roundsNow 35 = .ok (.iinc 1 1, 3) := by decide +kernel
theorem dX2_roundsNow_38 : decode cX2_roundsNow 38 = .ok (.iinc 3 1, 3) := by decide +kernel
theorem dX2_roundsNow_41 : decode cX2_roundsNow 41 = .ok (.goto (-32), 3) := by decide +kernel
theorem dX2_roundsNow_44 : decode cX2_roundsNow 44 = .ok (.iload_n 1, 1) := by decide +kernel
theorem dX2_roundsNow_45 : decode cX2_roundsNow 45 = .ok (.ireturn, 1) := by decide +kernel
theorem dX2_circles_0 : decode cX2_circles 0 = .ok (.iconst 0, 1) := by decide +kernel
theorem dX2_circles_1 : decode cX2_circles 1 = .ok (.istore_n 1, 1) := by decide +kernel
theorem dX2_circles_2 : decode cX2_circles 2 = .ok (.iload_n 1, 1) := by decide +kernel
theorem dX2_circles_3 : decode cX2_circles 3 = .ok (.aload_n 0, 1) := by decide +kernel
theorem dX2_circles_4 : decode cX2_circles 4 = .ok (.getfield 51, 3) := by decide +kernel
theorem dX2_circles_7 : decode cX2_circles 7 = .ok (.if_icmp .ge 16, 3) := by decide +kernel
theorem dX2_circles_10 : decode cX2_circles 10 = .ok (.aload_n 0, 1) := by decide +kernel
theorem dX2_circles_11 : decode cX2_circles 11 = .ok (.getfield 48, 3) := by decide +kernel
theorem dX2_circles_14 : decode cX2_circles 14 = .ok (.iload_n 1, 1) := by decide +kernel
theorem dX2_circles_15 : decode cX2_circles 15 = .ok (.iconst 0, 1) := by decide +kernel
theorem dX2_circles_16 : decode cX2_circles 16 = .ok (.iastore, 1) := by decide +kernel
theorem dX2_circles_17 : decode cX2_circles 17 = .ok (.iinc 1 1, 3) := by decide +kernel
theorem dX2_circles_20 : decode cX2_circles 20 = .ok (.goto (-18), 3) := by decide +kernel
theorem dX2_circles_23 : decode cX2_circles 23 = .ok (.iconst 0, 1) := by decide +kernel
theorem dX2_circles_24 : decode cX2_circles 24 = .ok (.istore_n 1, 1) := by decide +kernel
theorem dX2_circles_25 : decode cX2_circles 25 = .ok (.iload_n 1, 1) := by decide +kernel
theorem dX2_circles_26 : decode cX2_circles 26 = .ok (.aload_n 0, 1) := by decide +kernel
theorem dX2_circles_27 : decode cX2_circles 27 = .ok (.getfield 59, 3) := by decide +kernel
theorem dX2_circles_30 : decode cX2_circles 30 = .ok (.if_icmp .ge 29, 3) := by decide +kernel
theorem dX2_circles_33 : decode cX2_circles 33 = .ok (.aload_n 0, 1) := by decide +kernel
theorem dX2_circles_34 : decode cX2_circles 34 = .ok (.getfield 48, 3) := by decide +kernel
theorem dX2_circles_37 : decode cX2_circles 37 = .ok (.aload_n 0, 1) := by decide +kernel
theorem dX2_circles_38 : decode cX2_circles 38 = .ok (.getfield 30, 3) := by decide +kernel
theorem dX2_circles_41 : decode cX2_circles 41 = .ok (.iload_n 1, 1) := by decide +kernel
theorem dX2_circles_42 : decode cX2_circles 42 = .ok (.iaload, 1) := by decide +kernel
theorem dX2_circles_43 : decode cX2_circles 43 = .ok (.dup2, 1) := by decide +kernel
theorem dX2_circles_44 : decode cX2_circles 44 = .ok (.iaload, 1) := by decide +kernel
theorem dX2_circles_45 : decode cX2_circles 45 = .ok (.aload_n 0, 1) := by decide +kernel
theorem dX2_circles_46 : decode cX2_circles 46 = .ok (.getfield 36, 3) := by decide +kernel
theorem dX2_circles_49 : decode cX2_circles 49 = .ok (.iload_n 1, 1) := by decide +kernel
theorem dX2_circles_50 : decode cX2_circles 50 = .ok (.iaload, 1) := by decide +kernel
theorem dX2_circles_51 : decode cX2_circles 51 = .ok (.ior, 1) := by decide +kernel
theorem dX2_circles_52 : decode cX2_circles 52 = .ok (.iastore, 1) := by decide +kernel
theorem dX2_circles_53 : decode cX2_circles 53 = .ok (.iinc 1 1, 3) := by decide +kernel
theorem dX2_circles_56 : decode cX2_circles 56 = .ok (.goto (-31), 3) := by decide +kernel
theorem dX2_circles_59 : decode cX2_circles 59 = .ok (.iconst 0, 1) := by decide +kernel
theorem dX2_circles_60 : decode cX2_circles 60 = .ok (.istore_n 1, 1) := by decide +kernel
theorem dX2_circles_61 : decode cX2_circles 61 = .ok (.iload_n 1, 1) := by decide +kernel
theorem dX2_circles_62 : decode cX2_circles 62 = .ok (.aload_n 0, 1) := by decide +kernel
theorem dX2_circles_63 : decode cX2_circles 63 = .ok (.getfield 51, 3) := by decide +kernel
theorem dX2_circles_66 : decode cX2_circles 66 = .ok (.if_icmp .ge 54, 3) := by decide +kernel
theorem dX2_circles_69 : decode cX2_circles 69 = .ok (.iconst 0, 1) := by decide +kernel
theorem dX2_circles_70 : decode cX2_circles 70 = .ok (.istore_n 2, 1) := by decide +kernel
theorem dX2_circles_71 : decode cX2_circles 71 = .ok (.iload_n 2, 1) := by decide +kernel
theorem dX2_circles_72 : decode cX2_circles 72 = .ok (.aload_n 0, 1) := by decide +kernel
theorem dX2_circles_73 : decode cX2_circles 73 = .ok (.getfield 51, 3) := by decide +kernel
theorem dX2_circles_76 : decode cX2_circles 76 = .ok (.if_icmp .ge 38, 3) := by decide +kernel
theorem dX2_circles_79 : decode cX2_circles 79 = .ok (.aload_n 0, 1) := by decide +kernel
theorem dX2_circles_80 : decode cX2_circles 80 = .ok (.getfield 48, 3) := by decide +kernel
theorem dX2_circles_83 : decode cX2_circles 83 = .ok (.iload_n 2, 1) := by decide +kernel
theorem dX2_circles_84 : decode cX2_circles 84 = .ok (.iaload, 1) := by decide +kernel
theorem dX2_circles_85 : decode cX2_circles 85 = .ok (.iload_n 1, 1) := by decide +kernel
theorem dX2_circles_86 : decode cX2_circles 86 = .ok (.invokestatic 62, 3) := by decide +kernel
theorem dX2_circles_89 : decode cX2_circles 89 = .ok (.iconst 1, 1) := by decide +kernel
theorem dX2_circles_90 : decode cX2_circles 90 = .ok (.if_icmp .ne 18, 3) := by decide +kernel
theorem dX2_circles_93 : decode cX2_circles 93 = .ok (.aload_n 0, 1) := by decide +kernel
theorem dX2_circles_94 : decode cX2_circles 94 = .ok (.getfield 48, 3) := by decide +kernel
theorem dX2_circles_97 : decode cX2_circles 97 = .ok (.iload_n 2, 1) := by decide +kernel
theorem dX2_circles_98 : decode cX2_circles 98 = .ok (.dup2, 1) := by decide +kernel
theorem dX2_circles_99 : decode cX2_circles 99 = .ok (.iaload, 1) := by decide +kernel
theorem dX2_circles_100 : decode cX2_circles 100 = .ok (.aload_n 0, 1) := by decide +kernel
theorem dX2_circles_101 : decode cX2_circles 101 = .ok (.getfield 48, 3) := by decide +kernel
theorem dX2_circles_104 : decode cX2_circles 104 = .ok (.iload_n 1, 1) := by decide +kernel
theorem dX2_circles_105 : decode cX2_circles 105 = .ok (.iaload, 1) := by decide +kernel
theorem dX2_circles_106 : decode cX2_circles 106 = .ok (.ior, 1) := by decide +kernel
theorem dX2_circles_107 : decode cX2_circles 107 = .ok (.iastore, 1) := by decide +kernel
theorem dX2_circles_108 : decode cX2_circles 108 = .ok (.iinc 2 1, 3) := by decide +kernel
theorem dX2_circles_111 : decode cX2_circles 111 = .ok (.goto (-40), 3) := by decide +kernel
theorem dX2_circles_114 : decode cX2_circles 114 = .ok (.iinc 1 1, 3) := by decide +kernel
theorem dX2_circles_117 : decode cX2_circles 117 = .ok (.goto (-56), 3) := by decide +kernel
theorem dX2_circles_120 : decode cX2_circles 120 = .ok (.iconst 0, 1) := by decide +kernel
theorem dX2_circles_121 : decode cX2_circles 121 = .ok (.istore_n 1, 1) := by decide +kernel
theorem dX2_circles_122 : decode cX2_circles 122 = .ok (.iconst 0, 1) := by decide +kernel
theorem dX2_circles_123 : decode cX2_circles 123 = .ok (.istore_n 2, 1) := by decide +kernel
theorem dX2_circles_124 : decode cX2_circles 124 = .ok (.iload_n 2, 1) := by decide +kernel
theorem dX2_circles_125 : decode cX2_circles 125 = .ok (.aload_n 0, 1) := by decide +kernel
theorem dX2_circles_126 : decode cX2_circles 126 = .ok (.getfield 51, 3) := by decide +kernel
theorem dX2_circles_129 : decode cX2_circles 129 = .ok (.if_icmp .ge 22, 3) := by decide +kernel
theorem dX2_circles_132 : decode cX2_circles 132 = .ok (.iload_n 1, 1) := by decide +kernel
theorem dX2_circles_133 : decode cX2_circles 133 = .ok (.aload_n 0, 1) := by decide +kernel
theorem dX2_circles_134 : decode cX2_circles 134 = .ok (.getfield 48, 3) := by decide +kernel
theorem dX2_circles_137 : decode cX2_circles 137 = .ok (.iload_n 2, 1) := by decide +kernel
theorem dX2_circles_138 : decode cX2_circles 138 = .ok (.iaload, 1) := by decide +kernel
theorem dX2_circles_139 : decode cX2_circles 139 = .ok (.iconst 1, 1) := by decide +kernel
theorem dX2_circles_140 : decode cX2_circles 140 = .ok (.iload_n 2, 1) := by decide +kernel
theorem dX2_circles_141 : decode cX2_circles 141 = .ok (.ishl, 1) := by decide +kernel
theorem dX2_circles_142 : decode cX2_circles 142 = .ok (.iand, 1) := by decide +kernel
theorem dX2_circles_143 : decode cX2_circles 143 = .ok (.ior, 1) := by decide +kernel
theorem dX2_circles_144 : decode cX2_circles 144 = .ok (.istore_n 1, 1) := by decide +kernel
theorem dX2_circles_145 : decode cX2_circles 145 = .ok (.iinc 2 1, 3) := by decide +kernel
theorem dX2_circles_148 : decode cX2_circles 148 = .ok (.goto (-24), 3) := by decide +kernel
theorem dX2_circles_151 : decode cX2_circles 151 = .ok (.iload_n 1, 1) := by decide +kernel
theorem dX2_circles_152 : decode cX2_circles 152 = .ok (.ireturn, 1) := by decide +kernel
theorem dX2_timesPart_0 : decode cX2_timesPart 0 = .ok (.iconst 0, 1) := by decide +kernel
theorem dX2_timesPart_1 : decode cX2_timesPart 1 = .ok (.istore_n 2, 1) := by decide +kernel
theorem dX2_timesPart_2 : decode cX2_timesPart 2 = .ok (.iconst 0, 1) := by decide +kernel
theorem dX2_timesPart_3 : decode cX2_timesPart 3 = .ok (.istore_n 3, 1) := by decide +kernel
theorem dX2_timesPart_4 : decode cX2_timesPart 4 = .ok (.iload_n 3, 1) := by decide +kernel
theorem dX2_timesPart_5 : decode cX2_timesPart 5 = .ok (.aload_n 0, 1) := by decide +kernel
theorem dX2_timesPart_6 : decode cX2_timesPart 6 = .ok (.getfield 59, 3) := by decide +kernel
theorem dX2_timesPart_9 : decode cX2_timesPart 9 = .ok (.if_icmp .ge 22, 3) := by decide +kernel
theorem dX2_timesPart_12 : decode cX2_timesPart 12 = .ok (.iload_n 2, 1) := by decide +kernel
theorem dX2_timesPart_13 : decode cX2_timesPart 13 = .ok (.aload_n 0, 1) := by decide +kernel
theorem dX2_timesPart_14 : decode cX2_timesPart 14 = .ok (.getfield 36, 3) := by decide +kernel
theorem dX2_timesPart_17 : decode cX2_timesPart 17 = .ok (.iload_n 3, 1) := by decide +kernel
theorem dX2_timesPart_18 : decode cX2_timesPart 18 = .ok (.iaload, 1) := by decide +kernel
theorem dX2_timesPart_19 : decode cX2_timesPart 19 = .ok (.iload_n 1, 1) := by decide +kernel
theorem dX2_timesPart_20 : decode cX2_timesPart 20 = .ok (.invokestatic 62, 3) := by decide +kernel
theorem dX2_timesPart_23 : decode cX2_timesPart 23 = .ok (.iadd, 1) := by decide +kernel
theorem dX2_timesPart_24 : decode cX2_timesPart 24 = .ok (.istore_n 2, 1) := by decide +kernel
theorem dX2_timesPart_25 : decode cX2_timesPart 25 = .ok (.iinc 3 1, 3) := by decide +kernel
theorem dX2_timesPart_28 : decode cX2_timesPart 28 = .ok (.goto (-24), 3) := by decide +kernel
theorem dX2_timesPart_31 : decode cX2_timesPart 31 = .ok (.iload_n 2, 1) := by decide +kernel
theorem dX2_timesPart_32 : decode cX2_timesPart 32 = .ok (.ireturn, 1) := by decide +kernel
theorem dX2_timesHeld_0 : decode cX2_timesHeld 0 = .ok (.iconst 0, 1) := by decide +kernel
theorem dX2_timesHeld_1 : decode cX2_timesHeld 1 = .ok (.istore_n 2, 1) := by decide +kernel
theorem dX2_timesHeld_2 : decode cX2_timesHeld 2 = .ok (.iconst 0, 1) := by decide +kernel
theorem dX2_timesHeld_3 : decode cX2_timesHeld 3 = .ok (.istore_n 3, 1) := by decide +kernel
theorem dX2_timesHeld_4 : decode cX2_timesHeld 4 = .ok (.iload_n 3, 1) := by decide +kernel
theorem dX2_timesHeld_5 : decode cX2_timesHeld 5 = .ok (.aload_n 0, 1) := by decide +kernel
theorem dX2_timesHeld_6 : decode cX2_timesHeld 6 = .ok (.getfield 59, 3) := by decide +kernel
theorem dX2_timesHeld_9 : decode cX2_timesHeld 9 = .ok (.if_icmp .ge 22, 3) := by decide +kernel
theorem dX2_timesHeld_12 : decode cX2_timesHeld 12 = .ok (.aload_n 0, 1) := by decide +kernel
theorem dX2_timesHeld_13 : decode cX2_timesHeld 13 = .ok (.getfield 30, 3) := by decide +kernel
theorem dX2_timesHeld_16 : decode cX2_timesHeld 16 = .ok (.iload_n 3, 1) := by decide +kernel
theorem dX2_timesHeld_17 : decode cX2_timesHeld 17 = .ok (.iaload, 1) := by decide +kernel
theorem dX2_timesHeld_18 : decode cX2_timesHeld 18 = .ok (.iload_n 1, 1) := by decide +kernel
theorem dX2_timesHeld_19 : decode cX2_timesHeld 19 = .ok (.if_icmp .ne 6, 3) := by decide +kernel
theorem dX2_timesHeld_22 : decode cX2_timesHeld 22 = .ok (.iinc 2 1, 3) := by decide +kernel
theorem dX2_timesHeld_25 : decode cX2_timesHeld 25 = .ok (.iinc 3 1, 3) := by decide +kernel
theorem dX2_timesHeld_28 : decode cX2_timesHeld 28 = .ok (.goto (-24), 3) := by decide +kernel
theorem dX2_timesHeld_31 : decode cX2_timesHeld 31 = .ok (.iload_n 2, 1) := by decide +kernel
theorem dX2_timesHeld_32 : decode cX2_timesHeld 32 = .ok (.ireturn, 1) := by decide +kernel
theorem dX2_kindOf_0 : decode cX2_kindOf 0 = .ok (.aload_n 0, 1) := by decide +kernel
theorem dX2_kindOf_1 : decode cX2_kindOf 1 = .ok (.getfield 9, 3) := by decide +kernel
theorem dX2_kindOf_4 : decode cX2_kindOf 4 = .ok (.iload_n 1, 1) := by decide +kernel
theorem dX2_kindOf_5 : decode cX2_kindOf 5 = .ok (.iaload, 1) := by decide +kernel
theorem dX2_kindOf_6 : decode cX2_kindOf 6 = .ok (.iconst 2, 1) := by decide +kernel
theorem dX2_kindOf_7 : decode cX2_kindOf 7 = .ok (.if_icmp .ne 17, 3) := by decide +kernel
theorem dX2_kindOf_10 : decode cX2_kindOf 10 = .ok (.aload_n 0, 1) := by decide +kernel
theorem dX2_kindOf_11 : decode cX2_kindOf 11 = .ok (.iload_n 1, 1) := by decide +kernel
theorem dX2_kindOf_12 : decode cX2_kindOf 12 = .ok (.invokevirtual 106, 3) := by decide +kernel
theorem dX2_kindOf_15 : decode cX2_kindOf 15 = .ok (.ifCond .ne 7, 3) := by decide +kernel
theorem dX2_kindOf_18 : decode cX2_kindOf 18 = .ok (.iconst 4, 1) := by decide +kernel
theorem dX2_kindOf_19 : decode cX2_kindOf 19 = .ok (.goto 4, 3) := by decide +kernel
theorem dX2_kindOf_22 : decode cX2_kindOf 22 = .ok (.iconst 3, 1) := by decide +kernel
theorem dX2_kindOf_23 : decode cX2_kindOf 23 = .ok (.ireturn, 1) := by decide +kernel
theorem dX2_kindOf_24 : decode cX2_kindOf 24 = .ok (.aload_n 0, 1) := by decide +kernel
theorem dX2_kindOf_25 : decode cX2_kindOf 25 = .ok (.iload_n 1, 1) := by decide +kernel
theorem dX2_kindOf_26 : decode cX2_kindOf 26 = .ok (.invokevirtual 85, 3) := by decide +kernel
theorem dX2_kindOf_29 : decode cX2_kindOf 29 = .ok (.ifCond .ne 5, 3) := by decide +kernel
theorem dX2_kindOf_32 : decode cX2_kindOf 32 = .ok (.iconst 5, 1) := by decide +kernel
theorem dX2_kindOf_33 : decode cX2_kindOf 33 = .ok (.ireturn, 1) := by decide +kernel
theorem dX2_kindOf_34 : decode cX2_kindOf 34 = .ok (.aload_n 0, 1) := by decide +kernel
theorem dX2_kindOf_35 : decode cX2_kindOf 35 = .ok (.getfield 9, 3) := by decide +kernel
theorem dX2_kindOf_38 : decode cX2_kindOf 38 = .ok (.iload_n 1, 1) := by decide +kernel
theorem dX2_kindOf_39 : decode cX2_kindOf 39 = .ok (.iaload, 1) := by decide +kernel
theorem dX2_kindOf_40 : decode cX2_kindOf 40 = .ok (.iconst 1, 1) := by decide +kernel
theorem dX2_kindOf_41 : decode cX2_kindOf 41 = .ok (.if_icmp .ne 7, 3) := by decide +kernel
theorem dX2_kindOf_44 : decode cX2_kindOf 44 = .ok (.iconst 2, 1) := by decide +kernel
theorem dX2_kindOf_45 : decode cX2_kindOf 45 = .ok (.goto 4, 3) := by decide +kernel
theorem dX2_kindOf_48 : decode cX2_kindOf 48 = .ok (.iconst 1, 1) := by decide +kernel
theorem dX2_kindOf_49 : decode cX2_kindOf 49 = .ok (.ireturn, 1) := by decide +kernel
theorem dX2_isTakenAs_0 : decode cX2_isTakenAs 0 = .ok (.getstatic 109, 3) := by decide +kernel
theorem dX2_isTakenAs_3 : decode cX2_isTakenAs 3 = .ok (.aload_n 0, 1) := by decide +kernel
theorem dX2_isTakenAs_4 : decode cX2_isTakenAs 4 = .ok (.iload_n 1, 1) := by decide +kernel
theorem dX2_isTakenAs_5 : decode cX2_isTakenAs 5 = .ok (.invokevirtual 112, 3) := by decide +kernel
theorem dX2_isTakenAs_8 : decode cX2_isTakenAs 8 = .ok (.iaload, 1) := by decide +kernel
theorem dX2_isTakenAs_9 : decode cX2_isTakenAs 9 = .ok (.iload_n 2, 1) := by decide +kernel
theorem dX2_isTakenAs_10 : decode cX2_isTakenAs 10 = .ok (.invokestatic 62, 3) := by decide +kernel
theorem dX2_isTakenAs_13 : decode cX2_isTakenAs 13 = .ok (.iconst 1, 1) := by decide +kernel
theorem dX2_isTakenAs_14 : decode cX2_isTakenAs 14 = .ok (.if_icmp .ne 7, 3) := by decide +kernel
theorem dX2_isTakenAs_17 : decode cX2_isTakenAs 17 = .ok (.iconst 1, 1) := by decide +kernel
theorem dX2_isTakenAs_18 : decode cX2_isTakenAs 18 = .ok (.goto 4, 3) := by decide +kernel
theorem dX2_isTakenAs_21 : decode cX2_isTakenAs 21 = .ok (.iconst 0, 1) := by decide +kernel
theorem dX2_isTakenAs_22 : decode cX2_isTakenAs 22 = .ok (.ireturn, 1) := by decide +kernel
theorem dX3_init_0 : decode cX3_init 0 = .ok (.aload_n 0, 1) := by decide +kernel
theorem dX3_init_1 : decode cX3_init 1 = .ok (.invokespecial 1, 3) := by decide +kernel
theorem dX3_init_4 : decode cX3_init 4 = .ok (.aload_n 0, 1) := by decide +kernel
theorem dX3_init_5 : decode cX3_init 5 = .ok (.sipush 320, 3) := by decide +kernel
theorem dX3_init_8 : decode cX3_init 8 = .ok (.newarray .int, 2) := by decide +kernel
theorem dX3_init_10 : decode cX3_init 10 = .ok (.putfield 9, 3) := by decide +kernel
theorem dX3_init_13 : decode cX3_init 13 = .ok (.aload_n 0, 1) := by decide +kernel
theorem dX3_init_14 : decode cX3_init 14 = .ok (.bipush 8, 2) := by decide +kernel
theorem dX3_init_16 : decode cX3_init 16 = .ok (.newarray .int, 2) := by decide +kernel
theorem dX3_init_18 : decode cX3_init 18 = .ok (.putfield 13, 3) := by decide +kernel
theorem dX3_init_21 : decode cX3_init 21 = .ok (.aload_n 0, 1) := by decide +kernel
theorem dX3_init_22 : decode cX3_init 22 = .ok (.bipush 8, 2) := by decide +kernel
theorem dX3_init_24 : decode cX3_init 24 = .ok (.newarray .int, 2) := by decide +kernel
theorem dX3_init_26 : decode cX3_init 26 = .ok (.putfield 16, 3) := by decide +kernel
theorem dX3_init_29 : decode cX3_init 29 = .ok (.iconst 0, 1) := by decide +kernel
theorem dX3_init_30 : decode cX3_init 30 = .ok (.istore_n 1, 1) := by decide +kernel
theorem dX3_init_31 : decode cX3_init 31 = .ok (.iload_n 1, 1) := by decide +kernel
theorem dX3_init_32 : decode cX3_init 32 = .ok (.bipush 8, 2) := by decide +kernel
theorem dX3_init_34 : decode cX3_init 34 = .ok (.if_icmp .ge 16, 3) := by decide +kernel
theorem dX3_init_37 : decode cX3_init 37 = .ok (.aload_n 0, 1) := by decide +kernel
theorem dX3_init_38 : decode cX3_init 38 = .ok (.getfield 16, 3) := by decide +kernel
theorem dX3_init_41 : decode cX3_init 41 = .ok (.iload_n 1, 1) := by decide +kernel
theorem dX3_init_42 : decode cX3_init 42 = .ok (.iconst (-1), 1) := by decide +kernel
theorem dX3_init_43 : decode cX3_init 43 = .ok (.iastore, 1) := by decide +kernel
theorem dX3_init_44 : decode cX3_init 44 = .ok (.iinc 1 1, 3) := by decide +kernel
theorem dX3_init_47 : decode cX3_init 47 = .ok (.goto (-16), 3) := by decide +kernel
theorem dX3_init_50 : decode cX3_init 50 = .ok (.return_, 1) := by decide +kernel
theorem dX3_isNumber_0 : decode cX3_isNumber 0 = .ok (.iload_n 1, 1) := by decide +kernel
theorem dX3_isNumber_1 : decode cX3_isNumber 1 = .ok (.ifCond .lt 13, 3) := by decide +kernel
theorem dX3_isNumber_4 : decode cX3_isNumber 4 = .ok (.iload_n 1, 1) := by decide +kernel
theorem dX3_isNumber_5 : decode cX3_isNumber 5 = .ok (.bipush 8, 2) := by decide +kernel
theorem dX3_isNumber_7 : decode cX3_isNumber 7 = .ok (.if_icmp .ge 7, 3) := by decide +kernel
theorem dX3_isNumber_10 : decode cX3_isNumber 10 = .ok (.iconst 1, 1) := by decide +kernel
theorem dX3_isNumber_11 : decode cX3_isNumber 11 = .ok (.goto 4, 3) := by decide +kernel
theorem dX3_isNumber_14 : decode cX3_isNumber 14 = .ok (.iconst 0, 1) := by decide +kernel
theorem dX3_isNumber_15 : decode cX3_isNumber 15 = .ok (.ireturn, 1) := by decide +kernel
theorem dX3_isMissing_0 : decode cX3_isMissing 0 = .ok (.aload_n 0, 1) := by decide +kernel
theorem dX3_isMissing_1 : decode cX3_isMissing 1 = .ok (.getfield 16, 3) := by decide +kernel
theorem dX3_isMissing_4 : decode cX3_isMissing 4 = .ok (.iload_n 1, 1) := by decide +kernel
theorem dX3_isMissing_5 : decode cX3_isMissing 5 = .ok (.iaload, 1) := by decide +kernel
theorem dX3_isMissing_6 : decode cX3_isMissing 6 = .ok (.iconst (-1), 1) := by decide +kernel
theorem dX3_isMissing_7 : decode cX3_isMissing 7 = .ok (.if_icmp .ne 7, 3) := by decide +kernel
theorem dX3_isMissing_10 : decode cX3_isMissing 10 = .ok (.iconst 1, 1) := by decide +kernel
theorem dX3_isMissing_11 : decode cX3_isMissing 11 = .ok (.goto 4, 3) := by decide +kernel
theorem dX3_isMissing_14 : decode cX3_isMissing 14 = .ok (.iconst 0, 1) := by decide +kernel
theorem dX3_isMissing_15 : decode cX3_isMissing 15 = .ok (.ireturn, 1) := by decide +kernel
theorem dX3_areOfOneLane_0 : decode cX3_areOfOneLane 0 = .ok (.aload_n 0, 1) := by decide +kernel
theorem dX3_areOfOneLane_1 : decode cX3_areOfOneLane 1 = .ok (.getfield 13, 3) := by decide +kernel
theorem dX3_areOfOneLane_4 : decode cX3_areOfOneLane 4 = .ok (.iload_n 1, 1) := by decide +kernel
theorem dX3_areOfOneLane_5 : decode cX3_areOfOneLane 5 = .ok (.iaload, 1) := by decide +kernel
theorem dX3_areOfOneLane_6 : decode cX3_areOfOneLane 6 = .ok (.aload_n 0, 1) := by decide +kernel
theorem dX3_areOfOneLane_7 : decode cX3_areOfOneLane 7 = .ok (.getfield 13, 3) := by decide +kernel
theorem dX3_areOfOneLane_10 : decode cX3_areOfOneLane 10 = .ok (.iload_n 2, 1) := by decide +kernel
theorem dX3_areOfOneLane_11 : decode cX3_areOfOneLane 11 = .ok (.iaload, 1) := by decide +kernel
theorem dX3_areOfOneLane_12 : decode cX3_areOfOneLane 12 = .ok (.if_icmp .ne 7, 3) := by decide +kernel
theorem dX3_areOfOneLane_15 : decode cX3_areOfOneLane 15 = .ok (.iconst 1, 1) := by decide +kernel
theorem dX3_areOfOneLane_16 : decode cX3_areOfOneLane 16 = .ok (.goto 4, 3) := by decide +kernel
theorem dX3_areOfOneLane_19 : decode cX3_areOfOneLane 19 = .ok (.iconst 0, 1) := by decide +kernel
theorem dX3_areOfOneLane_20 : decode cX3_areOfOneLane 20 = .ok (.ireturn, 1) := by decide +kernel
theorem dX3_hasPlaces_0 : decode cX3_hasPlaces 0 = .ok (.iload_n 2, 1) := by decide +kernel
theorem dX3_hasPlaces_1 : decode cX3_hasPlaces 1 = .ok (.ifCond .lt 23, 3) := by decide +kernel
theorem dX3_hasPlaces_4 : decode cX3_hasPlaces 4 = .ok (.iload_n 3, 1) := by decide +kernel
theorem dX3_hasPlaces_5 : decode cX3_hasPlaces 5 = .ok (.ifCond .lt 19, 3) := by decide +kernel
theorem dX3_hasPlaces_8 : decode cX3_hasPlaces 8 = .ok (.iload_n 3, 1) := by decide +kernel
theorem dX3_hasPlaces_9 : decode cX3_hasPlaces 9 = .ok (.aload_n 0, 1) := by decide +kernel
theorem dX3_hasPlaces_10 : decode cX3_hasPlaces 10 = .ok (.getfield 16, 3) := by decide +kernel
theorem dX3_hasPlaces_13 : decode cX3_hasPlaces 13 = .ok (.iload_n 1, 1) := by decide +kernel
theorem dX3_hasPlaces_14 : decode cX3_hasPlaces 14 = .ok (.iaload, 1) := by decide +kernel
theorem dX3_hasPlaces_15 : decode cX3_hasPlaces 15 = .ok (.iload_n 2, 1) := by decide +kernel
theorem dX3_hasPlaces_16 : decode cX3_hasPlaces 16 = .ok (.isub, 1) := by decide +kernel
theorem dX3_hasPlaces_17 : decode cX3_hasPlaces 17 = .ok (.if_icmp .gt 7, 3) := by decide +kernel
theorem dX3_hasPlaces_20 : decode cX3_hasPlaces 20 = .ok (.iconst 1, 1) := by decide +kernel
theorem dX3_hasPlaces_21 : decode cX3_hasPlaces 21 = .ok (.goto 4, 3) := by decide +kernel
theorem dX3_hasPlaces_24 : decode cX3_hasPlaces 24 = .ok (.iconst 0, 1) := by decide +kernel
theorem dX3_hasPlaces_25 : decode cX3_hasPlaces 25 = .ok (.ireturn, 1) := by decide +kernel
theorem dX3_laid_0 : decode cX3_laid 0 = .ok (.iconst 0, 1) := by decide +kernel
theorem dX3_laid_1 : decode cX3_laid 1 = .ok (.istore_n 1, 1) := by decide +kernel
theorem dX3_laid_2 : decode cX3_laid 2 = .ok (.iconst 0, 1) := by decide +kernel
theorem dX3_laid_3 : decode cX3_laid 3 = .ok (.istore_n 2, 1) := by decide +kernel
theorem dX3_laid_4 : decode cX3_laid 4 = .ok (.iload_n 2, 1) := by decide +kernel
theorem dX3_laid_5 : decode cX3_laid 5 = .ok (.bipush 8, 2) := by decide +kernel
theorem dX3_laid_7 : decode cX3_laid 7 = .ok (.if_icmp .ge 22, 3) := by decide +kernel
theorem dX3_laid_10 : decode cX3_laid 10 = .ok (.aload_n 0, 1) := by decide +kernel
theorem dX3_laid_11 : decode cX3_laid 11 = .ok (.getfield 16, 3) := by decide +kernel
theorem dX3_laid_14 : decode cX3_laid 14 = .ok (.iload_n 2, 1) := by decide +kernel
theorem dX3_laid_15 : decode cX3_laid 15 = .ok (.iaload, 1) := by decide +kernel
theorem dX3_laid_16 : decode cX3_laid 16 = .ok (.iconst (-1), 1) := by decide +kernel
theorem dX3_laid_17 : decode cX3_laid 17 = .ok (.if_icmp .eq 6, 3) := by decide +kernel
theorem dX3_laid_20 : decode cX3_laid 20 = .ok (.iinc 1 1, 3) := by decide +kernel
theorem dX3_laid_23 : decode cX3_laid 23 = .ok (.iinc 2 1, 3) := by decide +kernel
theorem dX3_laid_26 : decode cX3_laid 26 = .ok (.goto (-22), 3) := by decide +kernel
theorem dX3_laid_29 : decode cX3_laid 29 = .ok (.iload_n 1, 1) := by decide +kernel
theorem dX3_laid_30 : decode cX3_laid 30 = .ok (.ireturn, 1) := by decide +kernel
theorem dX3_lay_0 : decode cX3_lay 0 = .ok (.aload_n 0, 1) := by decide +kernel
theorem dX3_lay_1 : decode cX3_lay 1 = .ok (.getfield 13, 3) := by decide +kernel
theorem dX3_lay_4 : decode cX3_lay 4 = .ok (.iload_n 1, 1) := by decide +kernel
theorem dX3_lay_5 : decode cX3_lay 5 = .ok (.iload_n 2, 1) := by decide +kernel
theorem dX3_lay_6 : decode cX3_lay 6 = .ok (.iastore, 1) := by decide +kernel
theorem dX3_lay_7 : decode cX3_lay 7 = .ok (.aload_n 0, 1) := by decide +kernel
theorem dX3_lay_8 : decode cX3_lay 8 = .ok (.getfield 16, 3) := by decide +kernel
theorem dX3_lay_11 : decode cX3_lay 11 = .ok (.iload_n 1, 1) := by decide +kernel
theorem dX3_lay_12 : decode cX3_lay 12 = .ok (.iload_n 3, 1) := by decide +kernel
theorem dX3_lay_13 : decode cX3_lay 13 = .ok (.iastore, 1) := by decide +kernel
theorem dX3_lay_14 : decode cX3_lay 14 = .ok (.iconst 0, 1) := by decide +kernel
theorem dX3_lay_15 : decode cX3_lay 15 = .ok (.istore 4, 2) := by decide +kernel
theorem dX3_lay_17 : decode cX3_lay 17 = .ok (.iload 4, 2) := by decide +kernel
theorem dX3_lay_19 : decode cX3_lay 19 = .ok (.bipush 40, 2) := by decide +kernel
theorem dX3_lay_21 : decode cX3_lay 21 = .ok (.if_icmp .ge 22, 3) := by decide +kernel
theorem dX3_lay_24 : decode cX3_lay 24 = .ok (.aload_n 0, 1) := by decide +kernel
theorem dX3_lay_25 : decode cX3_lay 25 = .ok (.getfield 9, 3) := by decide +kernel
theorem dX3_lay_28 : decode cX3_lay 28 = .ok (.iload_n 1, 1) := by decide +kernel
theorem dX3_lay_29 : decode cX3_lay 29 = .ok (.bipush 40, 2) := by decide +kernel
theorem dX3_lay_31 : decode cX3_lay 31 = .ok (.imul, 1) := by decide +kernel
theorem dX3_lay_32 : decode cX3_lay 32 = .ok (.iload 4, 2) := by decide +kernel
theorem dX3_lay_34 : decode cX3_lay 34 = .ok (.iadd, 1) := by decide +kernel
theorem dX3_lay_35 : decode cX3_lay 35 = .ok (.iconst 0, 1) := by decide +kernel
theorem dX3_lay_36 : decode cX3_lay 36 = .ok (.iastore, 1) := by decide +kernel
theorem dX3_lay_37 : decode cX3_lay 37 = .ok (.iinc 4 1, 3) := by decide +kernel
theorem dX3_lay_40 : decode cX3_lay 40 = .ok (.goto (-23), 3) := by decide +kernel
theorem dX3_lay_43 : decode cX3_lay 43 = .ok (.return_, 1) := by decide +kernel
theorem dX3_takeAway_0 : decode cX3_takeAway 0 = .ok (.aload_n 0, 1) := by decide +kernel
theorem dX3_takeAway_1 : decode cX3_takeAway 1 = .ok (.getfield 16, 3) := by decide +kernel
theorem dX3_takeAway_4 : decode cX3_takeAway 4 = .ok (.iload_n 1, 1) := by decide +kernel
theorem dX3_takeAway_5 : decode cX3_takeAway 5 = .ok (.iaload, 1) := by decide +kernel
theorem dX3_takeAway_6 : decode cX3_takeAway 6 = .ok (.istore_n 2, 1) := by decide +kernel
theorem dX3_takeAway_7 : decode cX3_takeAway 7 = .ok (.aload_n 0, 1) := by decide +kernel
theorem dX3_takeAway_8 : decode cX3_takeAway 8 = .ok (.getfield 16, 3) := by decide +kernel
theorem dX3_takeAway_11 : decode cX3_takeAway 11 = .ok (.iload_n 1, 1) := by decide +kernel
theorem dX3_takeAway_12 : decode cX3_takeAway 12 = .ok (.iconst (-1), 1) := by decide +kernel
theorem dX3_takeAway_13 : decode cX3_takeAway 13 = .ok (.iastore, 1) := by decide +kernel
theorem dX3_takeAway_14 : decode cX3_takeAway 14 = .ok (.iload_n 2, 1) := by decide +kernel
theorem dX3_takeAway_15 : decode cX3_takeAway 15 = .ok (.ireturn, 1) := by decide +kernel
theorem dX3_itemAt_0 : decode cX3_itemAt 0 = .ok (.aload_n 0, 1) := by decide +kernel
theorem dX3_itemAt_1 : decode cX3_itemAt 1 = .ok (.getfield 9, 3) := by decide +kernel
theorem dX3_itemAt_4 : decode cX3_itemAt 4 = .ok (.iload_n 1, 1) := by decide +kernel
theorem dX3_itemAt_5 : decode cX3_itemAt 5 = .ok (.bipush 40, 2) := by decide +kernel
theorem dX3_itemAt_7 : decode cX3_itemAt 7 = .ok (.imul, 1) := by decide +kernel
theorem dX3_itemAt_8 : decode cX3_itemAt 8 = .ok (.iload_n 2, 1) := by decide +kernel
theorem dX3_itemAt_9 : decode cX3_itemAt 9 = .ok (.iadd, 1) := by decide +kernel
theorem dX3_itemAt_10 : decode cX3_itemAt 10 = .ok (.iaload, 1) := by decide +kernel
theorem dX3_itemAt_11 : decode cX3_itemAt 11 = .ok (.ireturn, 1) := by decide +kernel
theorem dX3_put_0 : decode cX3_put 0 = .ok (.iload_n 3, 1) := by decide +kernel
theorem dX3_put_1 : decode cX3_put 1 = .ok (.istore 4, 2) := by decide +kernel
theorem dX3_put_3 : decode cX3_put 3 = .ok (.aload_n 0, 1) := by decide +kernel
theorem dX3_put_4 : decode cX3_put 4 = .ok (.getfield 13, 3) := by decide +kernel
theorem dX3_put_7 : decode cX3_put 7 = .ok (.iload_n 1, 1) := by decide +kernel
theorem dX3_put_8 : decode cX3_put 8 = .ok (.iaload, 1) := by decide +kernel
theorem dX3_put_9 : decode cX3_put 9 = .ok (.ifCond .ne 7, 3) := by decide +kernel
theorem dX3_put_12 : decode cX3_put 12 = .ok (.iload_n 3, 1) := by decide +kernel
theorem dX3_put_13 : decode cX3_put 13 = .ok (.i2b, 1) := by decide +kernel
theorem dX3_put_14 : decode cX3_put 14 = .ok (.istore 4, 2) := by decide +kernel
theorem dX3_put_16 : decode cX3_put 16 = .ok (.aload_n 0, 1) := by decide +kernel
theorem dX3_put_17 : decode cX3_put 17 = .ok (.getfield 13, 3) := by decide +kernel
theorem dX3_put_20 : decode cX3_put 20 = .ok (.iload_n 1, 1) := by decide +kernel
theorem dX3_put_21 : decode cX3_put 21 = .ok (.iaload, 1) := by decide +kernel
theorem dX3_put_22 : decode cX3_put 22 = .ok (.iconst 1, 1) := by decide +kernel
theorem dX3_put_23 : decode cX3_put 23 = .ok (.if_icmp .ne 7, 3) := by decide +kernel
theorem dX3_put_26 : decode cX3_put 26 = .ok (.iload_n 3, 1) := by decide +kernel
theorem dX3_put_27 : decode cX3_put 27 = .ok (.i2s, 1) := by decide +kernel
theorem dX3_put_28 : decode cX3_put 28 = .ok (.istore 4, 2) := by decide +kernel
theorem dX3_put_30 : decode cX3_put 30 = .ok (.aload_n 0, 1) := by decide +kernel
theorem dX3_put_31 : decode cX3_put 31 = .ok (.getfield 9, 3) := by decide +kernel
theorem dX3_put_34 : decode cX3_put 34 = .ok (.iload_n 1, 1) := by decide +kernel
theorem dX3_put_35 : decode cX3_put 35 = .ok (.bipush 40, 2) := by decide +kernel
theorem dX3_put_37 : decode cX3_put 37 = .ok (.imul, 1) := by decide +kernel
theorem dX3_put_38 : decode cX3_put 38 = .ok (.iload_n 2, 1) := by decide +kernel
theorem dX3_put_39 : decode cX3_put 39 = .ok (.iadd, 1) := by decide +kernel
theorem dX3_put_40 : decode cX3_put 40 = .ok (.iload 4, 2) := by decide +kernel
theorem dX3_put_42 : decode cX3_put 42 = .ok (.iastore, 1) := by decide +kernel
theorem dX3_put_43 : decode cX3_put 43 = .ok (.iload 4, 2) := by decide +kernel
theorem dX3_put_45 : decode cX3_put 45 = .ok (.ireturn, 1) := by decide +kernel
theorem dX3_move_0 : decode cX3_move 0 = .ok (.aload_n 0, 1) := by decide +kernel
theorem dX3_move_1 : decode cX3_move 1 = .ok (.getfield 9, 3) := by decide +kernel
theorem dX3_move_4 : decode cX3_move 4 = .ok (.iload_n 1, 1) := by decide +kernel
theorem dX3_move_5 : decode cX3_move 5 = .ok (.bipush 40, 2) := by decide +kernel
theorem dX3_move_7 : decode cX3_move 7 = .ok (.imul, 1) := by decide +kernel
theorem dX3_move_8 : decode cX3_move 8 = .ok (.iload_n 2, 1) := by decide +kernel
theorem dX3_move_9 : decode cX3_move 9 = .ok (.iadd, 1) := by decide +kernel
theorem dX3_move_10 : decode cX3_move 10 = .ok (.aload_n 0, 1) := by decide +kernel
theorem dX3_move_11 : decode cX3_move 11 = .ok (.getfield 9, 3) := by decide +kernel
theorem dX3_move_14 : decode cX3_move 14 = .ok (.iload_n 3, 1) := by decide +kernel
theorem dX3_move_15 : decode cX3_move 15 = .ok (.bipush 40, 2) := by decide +kernel
theorem dX3_move_17 : decode cX3_move 17 = .ok (.imul, 1) := by decide +kernel
theorem dX3_move_18 : decode cX3_move 18 = .ok (.iload 4, 2) := by decide +kernel
theorem dX3_move_20 : decode cX3_move 20 = .ok (.iadd, 1) := by decide +kernel
theorem dX3_move_21 : decode cX3_move 21 = .ok (.iload 5, 2) := by decide +kernel
theorem dX3_move_23 : decode cX3_move 23 = .ok (.invokestatic 19, 3) := by decide +kernel
theorem dX3_move_26 : decode cX3_move 26 = .ok (.return_, 1) := by decide +kernel
theorem dX4_init_0 : decode cX4_init 0 = .ok (.aload_n 0, 1) := by decide +kernel
theorem dX4_init_1 : decode cX4_init 1 = .ok (.invokespecial 1, 3) := by decide +kernel
theorem dX4_init_4 : decode cX4_init 4 = .ok (.aload_n 0, 1) := by decide +kernel
theorem dX4_init_5 : decode cX4_init 5 = .ok (.bipush 15, 2) := by decide +kernel
theorem dX4_init_7 : decode cX4_init 7 = .ok (.bipush 9, 2) := by decide +kernel
theorem dX4_init_9 : decode cX4_init 9 = .ok (.multianewarray 9 2, 4) := by decide +kernel
theorem dX4_init_13 : decode cX4_init 13 = .ok (.putfield 11, 3) := by decide +kernel
theorem dX4_init_16 : decode cX4_init 16 = .ok (.aload_n 0, 1) := by decide +kernel
theorem dX4_init_17 : decode cX4_init 17 = .ok (.bipush 15, 2) := by decide +kernel
theorem dX4_init_19 : decode cX4_init 19 = .ok (.newarray .int, 2) := by decide +kernel
theorem dX4_init_21 : decode cX4_init 21 = .ok (.putfield 14, 3) := by decide +kernel
theorem dX4_init_24 : decode cX4_init 24 = .ok (.aload_n 0, 1) := by decide +kernel
theorem dX4_init_25 : decode cX4_init 25 = .ok (.bipush 8, 2) := by decide +kernel
theorem dX4_init_27 : decode cX4_init 27 = .ok (.newarray .int, 2) := by decide +kernel
theorem dX4_init_29 : decode cX4_init 29 = .ok (.putfield 18, 3) := by decide +kernel
theorem dX4_init_32 : decode cX4_init 32 = .ok (.return_, 1) := by decide +kernel
theorem dX4_begin_0 : decode cX4_begin 0 = .ok (.aload_n 0, 1) := by decide +kernel
theorem dX4_begin_1 : decode cX4_begin 1 = .ok (.iload_n 1, 1) := by decide +kernel
theorem dX4_begin_2 : decode cX4_begin 2 = .ok (.bipush 8, 2) := by decide +kernel
theorem dX4_begin_4 : decode cX4_begin 4 = .ok (.invokestatic 21, 3) := by decide +kernel
theorem dX4_begin_7 : decode cX4_begin 7 = .ok (.putfield 27, 3) := by decide +kernel
theorem dX4_begin_10 : decode cX4_begin 10 = .ok (.iconst 0, 1) := by decide +kernel
theorem dX4_begin_11 : decode cX4_begin 11 = .ok (.istore_n 3, 1) := by decide +kernel
theorem dX4_begin_12 : decode cX4_begin 12 = .ok (.iload_n 3, 1) := by decide +kernel
theorem dX4_begin_13 : decode cX4_begin 13 = .ok (.aload_n 0, 1) := by decide +kernel
theorem dX4_begin_14 : decode cX4_begin 14 = .ok (.getfield 27, 3) := by decide +kernel
theorem dX4_begin_17 : decode cX4_begin 17 = .ok (.if_icmp .ge 16, 3) := by decide +kernel
theorem dX4_begin_20 : decode cX4_begin 20 = .ok (.aload_n 0, 1) := by decide +kernel
theorem dX4_begin_21 : decode cX4_begin 21 = .ok (.getfield 18, 3) := by decide +kernel
theorem dX4_begin_24 : decode cX4_begin 24 = .ok (.iload_n 3, 1) := by decide +kernel
theorem dX4_begin_25 : decode cX4_begin 25 = .ok (.iload_n 3, 1) := by decide +kernel
theorem dX4_begin_26 : decode cX4_begin 26 = .ok (.iastore, 1) := by decide +kernel
theorem dX4_begin_27 : decode cX4_begin 27 = .ok (.iinc 3 1, 3) := by decide +kernel
theorem dX4_begin_30 : decode cX4_begin 30 = .ok (.goto (-18), 3) := by decide +kernel
theorem dX4_begin_33 : decode cX4_begin 33 = .ok (.aload_n 0, 1) := by decide +kernel
theorem dX4_begin_34 : decode cX4_begin 34 = .ok (.lconst 1, 1) := by decide +kernel
theorem dX4_begin_35 : decode cX4_begin 35 = .ok (.putfield 31, 3) := by decide +kernel
theorem dX4_begin_38 : decode cX4_begin 38 = .ok (.aload_n 0, 1) := by decide +kernel
theorem dX4_begin_39 : decode cX4_begin 39 = .ok (.iconst 0, 1) := by decide +kernel
theorem dX4_begin_40 : decode cX4_begin 40 = .ok (.putfield 35, 3) := by decide +kernel
theorem dX4_begin_43 : decode cX4_begin 43 = .ok (.aload_n 0, 1) := by decide +kernel
theorem dX4_begin_44 : decode cX4_begin 44 = .ok (.iload_n 2, 1) := by decide +kernel
theorem dX4_begin_45 : decode cX4_begin 45 = .ok (.iconst 1, 1) := by decide +kernel
theorem dX4_begin_46 : decode cX4_begin 46 = .ok (.iconst 0, 1) := by decide +kernel
theorem dX4_begin_47 : decode cX4_begin 47 = .ok (.invokevirtual 38, 3) := by decide +kernel
theorem dX4_begin_50 : decode cX4_begin 50 = .ok (.return_, 1) := by decide +kernel
theorem dX4_addRow_0 : decode cX4_addRow 0 = .ok (.aload_n 0, 1) := by decide +kernel
theorem dX4_addRow_1 : decode cX4_addRow 1 = .ok (.getfield 35, 3) := by decide +kernel
theorem dX4_addRow_4 : decode cX4_addRow 4 = .ok (.bipush 15, 2) := by decide +kernel
theorem dX4_addRow_6 : decode cX4_addRow 6 = .ok (.if_icmp .lt 4, 3) := by decide +kernel
theorem dX4_addRow_9 : decode cX4_addRow 9 = .ok (.return_, 1) := by decide +kernel
theorem dX4_addRow_10 : decode cX4_addRow 10 = .ok (.iconst 0, 1) := by decide +kernel
theorem dX4_addRow_11 : decode cX4_addRow 11 = .ok (.istore 4, 2) := by decide +kernel
theorem dX4_addRow_13 : decode cX4_addRow 13 = .ok (.iload 4, 2) := by decide +kernel
theorem dX4_addRow_15 : decode cX4_addRow 15 = .ok (.aload_n 0, 1) := by decide +kernel
theorem dX4_addRow_16 : decode cX4_addRow 16 = .ok (.getfield 27, 3) := by decide +kernel
theorem dX4_addRow_19 : decode cX4_addRow 19 = .ok (.if_icmp .ge 30, 3) := by decide +kernel
theorem dX4_addRow_22 : decode cX4_addRow 22 = .ok (.aload_n 0, 1) := by decide +kernel
theorem dX4_addRow_23 : decode cX4_addRow 23 = .ok (.getfield 11, 3) := by decide +kernel
theorem dX4_addRow_26 : decode cX4_addRow 26 = .ok (.aload_n 0, 1) := by decide +kernel
theorem dX4_addRow_27 : decode cX4_addRow 27 = .ok (.getfield 35, 3) := by decide +kernel
theorem dX4_addRow_30 : decode cX4_addRow 30 = .ok (.aaload, 1) := by decide +kernel
theorem dX4_addRow_31 : decode cX4_addRow 31 = .ok (.iload 4, 2) := by decide +kernel
theorem dX4_addRow_33 : decode cX4_addRow 33 = .ok (.iload_n 2, 1) := by decide +kernel
theorem dX4_addRow_34 : decode cX4_addRow 34 = .ok (.iload_n 1, 1) := by decide +kernel
theorem dX4_addRow_35 : decode cX4_addRow 35 = .ok (.iload 4, 2) := by decide +kernel
theorem dX4_addRow_37 : decode cX4_addRow 37 = .ok (.invokestatic 42, 3) := by decide +kernel
theorem dX4_addRow_40 : decode cX4_addRow 40 = .ok (.imul, 1) := by decide +kernel
theorem dX4_addRow_41 : decode cX4_addRow 41 = .ok (.i2l, 1) := by decide +kernel
theorem dX4_addRow_42 : decode cX4_addRow 42 = .ok (.lastore, 1) := by decide +kernel
theorem dX4_addRow_43 : decode cX4_addRow 43 = .ok (.iinc 4 1, 3) := by decide +kernel
theorem dX4_addRow_46 : decode cX4_addRow 46 = .ok (.goto (-33), 3) := by decide +kernel
theorem dX4_addRow_49 : decode cX4_addRow 49 = .ok (.aload_n 0, 1) := by decide +kernel
theorem dX4_addRow_50 : decode cX4_addRow 50 = .ok (.getfield 11, 3) := by decide +kernel
theorem dX4_addRow_53 : decode cX4_addRow 53 = .ok (.aload_n 0, 1) := by decide +kernel
theorem dX4_addRow_54 : decode cX4_addRow 54 = .ok (.getfield 35, 3) := by decide +kernel
theorem dX4_addRow_57 : decode cX4_addRow 57 = .ok (.aaload, 1) := by decide +kernel
theorem dX4_addRow_58 : decode cX4_addRow 58 = .ok (.aload_n 0, 1) := by decide +kernel
theorem dX4_addRow_59 : decode cX4_addRow 59 = .ok (.getfield 27, 3) := by decide +kernel
theorem dX4_addRow_62 : decode cX4_addRow 62 = .ok (.iload_n 3, 1) := by decide +kernel
theorem dX4_addRow_63 : decode cX4_addRow 63 = .ok (.i2l, 1) := by decide +kernel
theorem dX4_addRow_64 : decode cX4_addRow 64 = .ok (.lastore, 1) := by decide +kernel
theorem dX4_addRow_65 : decode cX4_addRow 65 = .ok (.aload_n 0, 1) := by decide +kernel
theorem dX4_addRow_66 : decode cX4_addRow 66 = .ok (.getfield 14, 3) := by decide +kernel
theorem dX4_addRow_69 : decode cX4_addRow 69 = .ok (.aload_n 0, 1) := by decide +kernel
theorem dX4_addRow_70 : decode cX4_addRow 70 = .ok (.getfield 35, 3) := by decide +kernel
theorem dX4_addRow_73 : decode cX4_addRow 73 = .ok (.bipush 8, 2) := by decide +kernel
theorem dX4_addRow_75 : decode cX4_addRow 75 = .ok (.aload_n 0, 1) := by decide +kernel
theorem dX4_addRow_76 : decode cX4_addRow 76 = .ok (.getfield 35, 3) := by decide +kernel
theorem dX4_addRow_79 : decode cX4_addRow 79 = .ok (.iadd, 1) := by decide +kernel
theorem dX4_addRow_80 : decode cX4_addRow 80 = .ok (.iastore, 1) := by decide +kernel
theorem dX4_addRow_81 : decode cX4_addRow 81 = .ok (.aload_n 0, 1) := by decide +kernel
theorem dX4_addRow_82 : decode cX4_addRow 82 = .ok (.dup, 1) := by decide +kernel
theorem dX4_addRow_83 : decode cX4_addRow 83 = .ok (.getfield 35, 3) := by decide +kernel
theorem dX4_addRow_86 : decode cX4_addRow 86 = .ok (.iconst 1, 1) := by decide +kernel
theorem dX4_addRow_87 : decode cX4_addRow 87 = .ok (.iadd, 1) := by decide +kernel
theorem dX4_addRow_88 : decode cX4_addRow 88 = .ok (.putfield 35, 3) := by decide +kernel
theorem dX4_addRow_91 : decode cX4_addRow 91 = .ok (.return_, 1) := by decide +kernel
theorem dX4_least_0 : decode cX4_least 0 = .ok (.aload_n 0, 1) := by decide +kernel
theorem dX4_least_1 : decode cX4_least 1 = .ok (.getfield 11, 3) := by decide +kernel
theorem dX4_least_4 : decode cX4_least 4 = .ok (.iconst 0, 1) := by decide +kernel
theorem dX4_least_5 : decode cX4_least 5 = .ok (.aaload, 1) := by decide +kernel
theorem dX4_least_6 : decode cX4_least 6 = .ok (.aload_n 0, 1) := by decide +kernel
theorem dX4_least_7 : decode cX4_least 7 = .ok (.getfield 27, 3) := by decide +kernel
theorem dX4_least_10 : decode cX4_least 10 = .ok (.laload, 1) := by decide +kernel
theorem dX4_least_11 : decode cX4_least 11 = .ok (.lneg, 1) := by decide +kernel
theorem dX4_least_12 : decode cX4_least 12 = .ok (.lreturn, 1) := by decide +kernel
theorem dX4_settle_0 : decode cX4_settle 0 = .ok (.iconst 0, 1) := by decide +kernel
theorem dX4_settle_1 : decode cX4_settle 1 = .ok (.istore_n 1, 1) := by decide +kernel
theorem dX4_settle_2 : decode cX4_settle 2 = .ok (.iload_n 1, 1) := by decide +kernel
theorem dX4_settle_3 : decode cX4_settle 3 = .ok (.ldc 47, 2) := by decide +kernel
theorem dX4_settle_5 : decode cX4_settle 5 = .ok (.if_icmp .ge 38, 3) := by decide +kernel
theorem dX4_settle_8 : decode cX4_settle 8 = .ok (.aload_n 0, 1) := by decide +kernel
theorem dX4_settle_9 : decode cX4_settle 9 = .ok (.invokevirtual 48, 3) := by decide +kernel
theorem dX4_settle_12 : decode cX4_settle 12 = .ok (.istore_n 2, 1) := by decide +kernel
theorem dX4_settle_13 : decode cX4_settle 13 = .ok (.iload_n 2, 1) := by decide +kernel
theorem dX4_settle_14 : decode cX4_settle 14 = .ok (.ifCond .ge 5, 3) := by decide +kernel
theorem dX4_settle_17 : decode cX4_settle 17 = .ok (.iconst 1, 1) := by decide +kernel
theorem dX4_settle_18 : decode cX4_settle 18 = .ok (.ireturn, 1) := by decide +kernel
theorem dX4_settle_19 : decode cX4_settle 19 = .ok (.aload_n 0, 1) := by decide +kernel
theorem dX4_settle_20 : decode cX4_settle 20 = .ok (.iload_n 2, 1) := by decide +kernel
theorem dX4_settle_21 : decode cX4_settle 21 = .ok (.invokevirtual 52, 3) := by decide +kernel
theorem dX4_settle_24 : decode cX4_settle 24 = .ok (.istore_n 3, 1) := by decide +kernel
theorem dX4_settle_25 : decode cX4_settle 25 = .ok (.iload_n 3, 1) := by decide +kernel
theorem dX4_settle_26 : decode cX4_settle 26 = .ok (.ifCond .ge 5, 3) := by decide +kernel
theorem dX4_settle_29 : decode cX4_settle 29 = .ok (.iconst 0, 1) := by decide +kernel
theorem dX4_settle_30 : decode cX4_settle 30 = .ok (.ireturn, 1) := by decide +kernel
theorem dX4_settle_31 : decode cX4_settle 31 = .ok (.aload_n 0, 1) := by decide +kernel
theorem dX4_settle_32 : decode cX4_settle 32 = .ok (.iload_n 2, 1) := by decide +kernel
theorem dX4_settle_33 : decode cX4_settle 33 = .ok (.iload_n 3, 1) := by decide +kernel
theorem dX4_settle_34 : decode cX4_settle 34 = .ok (.invokevirtual 56, 3) := by decide +kernel
theorem dX4_settle_37 : decode cX4_settle 37 = .ok (.iinc 1 1, 3) := by decide +kernel
theorem dX4_settle_40 : decode cX4_settle 40 = .ok (.goto (-38), 3) := by decide +kernel
theorem dX4_settle_43 : decode cX4_settle 43 = .ok (.iconst 0, 1) := by decide +kernel
theorem dX4_settle_44 : decode cX4_settle 44 = .ok (.ireturn, 1) := by decide +kernel
theorem dX4_brokenRow_0 : decode cX4_brokenRow 0 = .ok (.iconst (-1), 1) := by decide +kernel
theorem dX4_brokenRow_1 : decode cX4_brokenRow 1 = .ok (.istore_n 1, 1) := by decide +kernel
theorem dX4_brokenRow_2 : decode cX4_brokenRow 2 = .ok (.iconst 1, 1) := by decide +kernel
theorem dX4_brokenRow_3 : decode cX4_brokenRow 3 = .ok (.istore_n 2, 1) := by decide +kernel
theorem dX4_brokenRow_4 : decode cX4_brokenRow 4 = .ok (.iload_n 2, 1) := by decide +kernel
theorem dX4_brokenRow_5 : decode cX4_brokenRow 5 = .ok (.aload_n 0, 1) := by decide +kernel
theorem dX4_brokenRow_6 : decode cX4_brokenRow 6 = .ok (.getfield 35, 3) := by decide +kernel
theorem dX4_brokenRow_9 : decode cX4_brokenRow 9 = .ok (.if_icmp .ge 46, 3) := by decide +kernel
theorem dX4_brokenRow_12 : decode cX4_brokenRow 12 = .ok (.aload_n 0, 1) := by decide +kernel
theorem dX4_brokenRow_13 : decode cX4_brokenRow 13 = .ok (.getfield 11, 3) := by decide +kernel
theorem dX4_brokenRow_16 : decode cX4_brokenRow 16 = .ok (.iload_n 2, 1) := by decide +kernel
theorem dX4_brokenRow_17 : decode cX4_brokenRow 17 = .ok (.aaload, 1) := by decide +kernel
theorem dX4_brokenRow_18 : decode cX4_brokenRow 18 = .ok (.aload_n 0, 1) := by decide +kernel
theorem dX4_brokenRow_19 : decode cX4_brokenRow 19 = .ok (.getfield 27, 3) := by decide +kernel
theorem dX4_brokenRow_22 : decode cX4_brokenRow 22 = .ok (.laload, 1) := by decide +kernel
theorem dX4_brokenRow_23 : decode cX4_brokenRow 23 = .ok (.lconst 0, 1) := by decide +kernel
theorem dX4_brokenRow_24 : decode cX4_brokenRow 24 = .ok (.lcmp, 1) := by decide +kernel
theorem dX4_brokenRow_25 : decode cX4_brokenRow 25 = .ok (.ifCond .ge 24, 3) := by decide +kernel
theorem dX4_brokenRow_28 : decode cX4_brokenRow 28 = .ok (.iload_n 1, 1) := by decide +kernel
theorem dX4_brokenRow_29 : decode cX4_brokenRow 29 = .ok (.ifCond .lt 18, 3) := by decide +kernel
theorem dX4_brokenRow_32 : decode cX4_brokenRow 32 = .ok (.aload_n 0, 1) := by decide +kernel
theorem dX4_brokenRow_33 : decode cX4_brokenRow 33 = .ok (.getfield 14, 3) := by decide +kernel
theorem dX4_brokenRow_36 : decode cX4_brokenRow 36 = .ok (.iload_n 2, 1) := by decide +kernel
theorem dX4_brokenRow_37 : decode cX4_brokenRow 37 = .ok (.iaload, 1) := by decide +kernel
theorem dX4_brokenRow_38 : decode cX4_brokenRow 38 = .ok (.aload_n 0, 1) := by decide +kernel
theorem dX4_brokenRow_39 : decode cX4_brokenRow 39 = .ok (.getfield 14, 3) := by decide +kernel
theorem dX4_brokenRow_42 : decode cX4_brokenRow 42 = .ok (.iload_n 1, 1) := by decide +kernel
theorem dX4_brokenRow_43 : decode cX4_brokenRow 43 = .ok (.iaload, 1) := by decide +kernel
theorem dX4_brokenRow_44 : decode cX4_brokenRow 44 = .ok (.if_icmp .ge 5, 3) := by decide +kernel
theorem dX4_brokenRow_47 : decode cX4_brokenRow 47 = .ok (.iload_n 2, 1) := by decide +kernel
theorem dX4_brokenRow_48 : decode cX4_brokenRow 48 = .ok (.istore_n 1, 1) := by decide +kernel
theorem dX4_brokenRow_49 : decode cX4_brokenRow 49 = .ok (.iinc 2 1, 3) := by decide +kernel
theorem dX4_brokenRow_52 : decode cX4_brokenRow 52 = .ok (.goto (-48), 3) := by decide +kernel
theorem dX4_brokenRow_55 : decode cX4_brokenRow 55 = .ok (.iload_n 1, 1) := by decide +kernel
theorem dX4_brokenRow_56 : decode cX4_brokenRow 56 = .ok (.ireturn, 1) := by decide +kernel
theorem dX4_mendingColumn_0 : decode cX4_mendingColumn 0 = .ok (.iconst (-1), 1) := by decide +kernel
theorem dX4_mendingColumn_1 : decode cX4_mendingColumn 1 = .ok (.istore_n 2, 1) := by decide +kernel
theorem dX4_mendingColumn_2 : decode cX4_mendingColumn 2 = .ok (.iconst 0, 1) := by decide +kernel
theorem dX4_mendingColumn_3 : decode cX4_mendingColumn 3 = .ok (.istore_n 3, 1) := by decide +kernel
theorem dX4_mendingColumn_4 : decode cX4_mendingColumn 4 = .ok (.iload_n 3, 1) := by decide +kernel
theorem dX4_mendingColumn_5 : decode cX4_mendingColumn 5 = .ok (.aload_n 0, 1) := by decide +kernel
theorem dX4_mendingColumn_6 : decode cX4_mendingColumn 6 = .ok (.getfield 27, 3) := by decide +kernel
theorem dX4_mendingColumn_9 : decode cX4_mendingColumn 9 = .ok (.if_icmp .ge 38, 3) := by decide +kernel
theorem dX4_mendingColumn_12 : decode cX4_mendingColumn 12 = .ok (.aload_n 0, 1) := by decide +kernel
theorem dX4_mendingColumn_13 : decode cX4_mendingColumn 13 = .ok (.getfield 11, 3) := by decide +kernel
theorem dX4_mendingColumn_16 : decode cX4_mendingColumn 16 = .ok (.iload_n 1, 1) := by decide +kernel
theorem dX4_mendingColumn_17 : decode cX4_mendingColumn 17 = .ok (.aaload, 1) := by decide +kernel
theorem dX4_mendingColumn_18 : decode cX4_mendingColumn 18 = .ok (.iload_n 3, 1) := by decide +kernel
theorem dX4_mendingColumn_19 : decode cX4_mendingColumn 19 = .ok (.laload, 1) := by decide +kernel
theorem dX4_mendingColumn_20 : decode cX4_mendingColumn 20 = .ok (.lconst 0, 1) := by decide +kernel
theorem dX4_mendingColumn_21 : decode cX4_mendingColumn 21 = .ok (.lcmp, 1) := by decide +kernel
theorem dX4_mendingColumn_22 : decode cX4_mendingColumn 22 = .ok (.ifCond .ge 19, 3) := by decide +kernel
theorem dX4_mendingColumn_25 : decode cX4_mendingColumn 25 = .ok (.iload_n 2, 1) := by decide +kernel
theorem dX4_mendingColumn_26 : decode cX4_mendingColumn 26 = .ok (.ifCond .lt 13, 3) := by decide +kernel
theorem dX4_mendingColumn_29 : decode cX4_mendingColumn 29 = .ok (.aload_n 0, 1) := by decide +kernel
theorem dX4_mendingColumn_30 : decode cX4_mendingColumn 30 = .ok (.iload_n 1, 1) := by decide +kernel
theorem dX4_mendingColumn_31 : decode cX4_mendingColumn 31 = .ok (.iload_n 3, 1) := by decide +kernel
theorem dX4_mendingColumn_32 : decode cX4_mendingColumn 32 = .ok (.iload_n 2, 1) := by decide +kernel
theorem dX4_mendingColumn_33 : decode cX4_mendingColumn 33 = .ok (.invokevirtual 60, 3) := by decide +kernel
theorem dX4_mendingColumn_36 : decode cX4_mendingColumn 36 = .ok (.ifCond .eq 5, 3) := by decide +kernel
theorem dX4_mendingColumn_39 : decode cX4_mendingColumn 39 = .ok (.iload_n 3, 1) := by decide +kernel
theorem dX4_mendingColumn_40 : decode cX4_mendingColumn 40 = .ok (.istore_n 2, 1) := by decide +kernel
theorem dX4_mendingColumn_41 : decode cX4_mendingColumn 41 = .ok (.iinc 3 1, 3) := by decide +kernel
theorem dX4_mendingColumn_44 : decode cX4_mendingColumn 44 = .ok (.goto (-40), 3) := by decide +kernel
theorem dX4_mendingColumn_47 : decode cX4_mendingColumn 47 = .ok (.iload_n 2, 1) := by decide +kernel
theorem dX4_mendingColumn_48 : decode cX4_mendingColumn 48 = .ok (.ireturn, 1) := by decide +kernel
theorem dX4_isCheaper_0 : decode cX4_isCheaper 0 = .ok (.aload_n 0, 1) := by decide +kernel
theorem dX4_isCheaper_1 : decode cX4_isCheaper 1 = .ok (.getfield 11, 3) := by decide +kernel
theorem dX4_isCheaper_4 : decode cX4_isCheaper 4 = .ok (.iconst 0, 1) := by decide +kernel
theorem dX4_isCheaper_5 : decode cX4_isCheaper 5 = .ok (.aaload, 1) := by decide +kernel
theorem dX4_isCheaper_6 : decode cX4_isCheaper 6 = .ok (.iload_n 2, 1) := by decide +kernel
theorem dX4_isCheaper_7 : decode cX4_isCheaper 7 = .ok (.laload, 1) := by decide +kernel
theorem dX4_isCheaper_8 : decode cX4_isCheaper 8 = .ok (.aload_n 0, 1) := by decide +kernel
theorem dX4_isCheaper_9 : decode cX4_isCheaper 9 = .ok (.getfield 11, 3) := by decide +kernel
theorem dX4_isCheaper_12 : decode cX4_isCheaper 12 = .ok (.iload_n 1, 1) := by decide +kernel
theorem dX4_isCheaper_13 : decode cX4_isCheaper 13 = .ok (.aaload, 1) := by decide +kernel
theorem dX4_isCheaper_14 : decode cX4_isCheaper 14 = .ok (.iload_n 3, 1) := by decide +kernel
theorem dX4_isCheaper_15 : decode cX4_isCheaper 15 = .ok (.laload, 1) := by decide +kernel
theorem dX4_isCheaper_16 : decode cX4_isCheaper 16 = .ok (.lneg, 1) := by decide +kernel
theorem dX4_isCheaper_17 : decode cX4_isCheaper 17 = .ok (.lmul, 1) := by decide +kernel
theorem dX4_isCheaper_18 : decode cX4_isCheaper 18 = .ok (.lstore 4, 2) := by decide +kernel
theorem dX4_isCheaper_20 : decode cX4_isCheaper 20 = .ok (.aload_n 0, 1) := by decide +kernel
theorem dX4_isCheaper_21 : decode cX4_isCheaper 21 = .ok (.getfield 11, 3) := by decide +kernel
theorem dX4_isCheaper_24 : decode cX4_isCheaper 24 = .ok (.iconst 0, 1) := by decide +kernel
theorem dX4_isCheaper_25 : decode cX4_isCheaper 25 = .ok (.aaload, 1) := by decide +kernel
theorem dX4_isCheaper_26 : decode cX4_isCheaper 26 = .ok (.iload_n 3, 1) := by decide +kernel
theorem dX4_isCheaper_27 : decode cX4_isCheaper 27 = .ok (.laload, 1) := by decide +kernel
theorem dX4_isCheaper_28 : decode cX4_isCheaper 28 = .ok (.aload_n 0, 1) := by decide +kernel
theorem dX4_isCheaper_29 : decode cX4_isCheaper 29 = .ok (.getfield 11, 3) := by decide +kernel
theorem dX4_isCheaper_32 : decode cX4_isCheaper 32 = .ok (.iload_n 1, 1) := by decide +kernel
theorem dX4_isCheaper_33 : decode cX4_isCheaper 33 = .ok (.aaload, 1) := by decide +kernel
theorem dX4_isCheaper_34 : decode cX4_isCheaper 34 = .ok (.iload_n 2, 1) := by decide +kernel
theorem dX4_isCheaper_35 : decode cX4_isCheaper 35 = .ok (.laload, 1) := by decide +kernel
theorem dX4_isCheaper_36 : decode cX4_isCheaper 36 = .ok (.lneg, 1) := by decide +kernel
theorem dX4_isCheaper_37 : decode cX4_isCheaper 37 = .ok (.lmul, 1) := by decide +kernel
theorem dX4_isCheaper_38 : decode cX4_isCheaper 38 = .ok (.lstore 6, 2) := by decide +kernel
theorem dX4_isCheaper_40 : decode cX4_isCheaper 40 = .ok (.lload 4, 2) := by decide +kernel
theorem dX4_isCheaper_42 : decode cX4_isCheaper 42 = .ok (.lload 6, 2) := by decide +kernel
theorem dX4_isCheaper_44 : decode cX4_isCheaper 44 = .ok (.lcmp, 1) := by decide +kernel
theorem dX4_isCheaper_45 : decode cX4_isCheaper 45 = .ok (.ifCond .lt 26, 3) := by decide +kernel
theorem dX4_isCheaper_48 : decode cX4_isCheaper 48 = .ok (.lload 4, 2) := by decide +kernel
theorem dX4_isCheaper_50 : decode cX4_isCheaper 50 = .ok (.lload 6, 2) := by decide +kernel
theorem dX4_isCheaper_52 : decode cX4_isCheaper 52 = .ok (.lcmp, 1) := by decide +kernel
theorem dX4_isCheaper_53 : decode cX4_isCheaper 53 = .ok (.ifCond .ne 22, 3) := by decide +kernel
theorem dX4_isCheaper_56 : decode cX4_isCheaper 56 = .ok (.aload_n 0, 1) := by decide +kernel
theorem dX4_isCheaper_57 : decode cX4_isCheaper 57 = .ok (.getfield 18, 3) := by decide +kernel
theorem dX4_isCheaper_60 : decode cX4_isCheaper 60 = .ok (.iload_n 2, 1) := by decide +kernel
theorem dX4_isCheaper_61 : decode cX4_isCheaper 61 = .ok (.iaload, 1) := by decide +kernel
theorem dX4_isCheaper_62 : decode cX4_isCheaper 62 = .ok (.aload_n 0, 1) := by decide +kernel
theorem dX4_isCheaper_63 : decode cX4_isCheaper 63 = .ok (.getfield 18, 3) := by decide +kernel
theorem dX4_isCheaper_66 : decode cX4_isCheaper 66 = .ok (.iload_n 3, 1) := by decide +kernel
theorem dX4_isCheaper_67 : decode cX4_isCheaper 67 = .ok (.iaload, 1) := by decide +kernel
theorem dX4_isCheaper_68 : decode cX4_isCheaper 68 = .ok (.if_icmp .ge 7, 3) := by decide +kernel
theorem dX4_isCheaper_71 : decode cX4_isCheaper 71 = .ok (.iconst 1, 1) := by decide +kernel
theorem dX4_isCheaper_72 : decode cX4_isCheaper 72 = .ok (.goto 4, 3) := by decide +kernel
theorem dX4_isCheaper_75 : decode cX4_isCheaper 75 = .ok (.iconst 0, 1) := by decide +kernel
theorem dX4_isCheaper_76 : decode cX4_isCheaper 76 = .ok (.ireturn, 1) := by decide +kernel
theorem dX4_exchange_0 : decode cX4_exchange 0 = .ok (.aload_n 0, 1) := by decide +kernel
theorem dX4_exchange_1 : decode cX4_exchange 1 = .ok (.getfield 11, 3) := by decide +kernel
theorem dX4_exchange_4 : decode cX4_exchange 4 = .ok (.iload_n 1, 1) := by decide +kernel
theorem dX4_exchange_5 : decode cX4_exchange 5 = .ok (.aaload, 1) := by decide +kernel
theorem dX4_exchange_6 : decode cX4_exchange 6 = .ok (.iload_n 2, 1) := by decide +kernel
theorem dX4_exchange_7 : decode cX4_exchange 7 = .ok (.laload, 1) := by decide +kernel
theorem dX4_exchange_8 : decode cX4_exchange 8 = .ok (.lneg, 1) := by decide +kernel
theorem dX4_exchange_9 : decode cX4_exchange 9 = .ok (.lstore_n 3, 1) := by decide +kernel
theorem dX4_exchange_10 : decode cX4_exchange 10 = .ok (.iconst 0, 1) := by decide +kernel
theorem dX4_exchange_11 : decode cX4_exchange 11 = .ok (.istore 5, 2) := by decide +kernel
theorem dX4_exchange_13 : decode cX4_exchange 13 = .ok (.iload 5, 2) := by decide +kernel
theorem dX4_exchange_15 : decode cX4_exchange 15 = .ok (.aload_n 0, 1) := by decide +kernel
theorem dX4_exchange_16 : decode cX4_exchange 16 = .ok (.getfield 35, 3) := by decide +kernel
theorem dX4_exchange_19 : decode cX4_exchange 19 = .ok (.if_icmp .ge 23, 3) := by decide +kernel
theorem dX4_exchange_22 : decode cX4_exchange 22 = .ok (.iload 5, 2) := by decide +kernel
theorem dX4_exchange_24 : decode cX4_exchange 24 = .ok (.iload_n 1, 1) := by decide +kernel
theorem dX4_exchange_25 : decode cX4_exchange 25 = .ok (.if_icmp .eq 11, 3) := by decide +kernel
theorem dX4_exchange_28 : decode cX4_exchange 28 = .ok (.aload_n 0, 1) := by decide +kernel
theorem dX4_exchange_29 : decode cX4_exchange 29 = .ok (.iload 5, 2) := by decide +kernel
theorem dX4_exchange_31 : decode cX4_exchange 31 = .ok (.iload_n 1, 1) := by decide +kernel
theorem dX4_exchange_32 : decode cX4_exchange 32 = .ok (.iload_n 2, 1) := by decide +kernel
theorem dX4_exchange_33 : decode cX4_exchange 33 = .ok (.invokevirtual 64, 3) := by decide +kernel
theorem dX4_exchange_36 : decode cX4_exchange 36 = .ok (.iinc 5 1, 3) := by decide +kernel
theorem dX4_exchange_39 : decode cX4_exchange 39 = .ok (.goto (-26), 3) := by decide +kernel
theorem dX4_exchange_42 : decode cX4_exchange 42 = .ok (.iconst 0, 1) := by decide +kernel
theorem dX4_exchange_43 : decode cX4_exchange 43 = .ok (.istore 5, 2) := by decide +kernel
theorem dX4_exchange_45 : decode cX4_exchange 45 = .ok (.iload 5, 2) := by decide +kernel
theorem dX4_exchange_47 : decode cX4_exchange 47 = .ok (.aload_n 0, 1) := by decide +kernel
theorem dX4_exchange_48 : decode cX4_exchange 48 = .ok (.getfield 27, 3) := by decide +kernel
theorem dX4_exchange_51 : decode cX4_exchange 51 = .ok (.if_icmp .gt 28, 3) := by decide +kernel
theorem dX4_exchange_54 : decode cX4_exchange 54 = .ok (.aload_n 0, 1) := by decide +kernel
theorem dX4_exchange_55 : decode cX4_exchange 55 = .ok (.getfield 11, 3) := by decide +kernel
theorem dX4_exchange_58 : decode cX4_exchange 58 = .ok (.iload_n 1, 1) := by decide +kernel
theorem dX4_exchange_59 : decode cX4_exchange 59 = .ok (.aaload, 1) := by decide +kernel
theorem dX4_exchange_60 : decode cX4_exchange 60 = .ok (.iload 5, 2) := by decide +kernel
theorem dX4_exchange_62 : decode cX4_exchange 62 = .ok (.aload_n 0, 1) := by decide +kernel
theorem dX4_exchange_63 : decode cX4_exchange 63 = .ok (.getfield 11, 3) := by decide +kernel
theorem dX4_exchange_66 : decode cX4_exchange 66 = .ok (.iload_n 1, 1) := by decide +kernel
theorem dX4_exchange_67 : decode cX4_exchange 67 = .ok (.aaload, 1) := by decide +kernel
theorem dX4_exchange_68 : decode cX4_exchange 68 = .ok (.iload 5, 2) := by decide +kernel
theorem dX4_exchange_70 : decode cX4_exchange 70 = .ok (.laload, 1) := by decide +kernel
theorem dX4_exchange_71 : decode cX4_exchange 71 = .ok (.lneg, 1) := by decide +kernel
theorem dX4_exchange_72 : decode cX4_exchange 72 = .ok (.lastore, 1) := by decide +kernel
theorem dX4_exchange_73 : decode cX4_exchange 73 = .ok (.iinc 5 1, 3) := by decide +kernel
theorem dX4_exchange_76 : decode cX4_exchange 76 = .ok (.goto (-31), 3) := by decide +kernel
theorem dX4_exchange_79 : decode cX4_exchange 79 = .ok (.aload_n 0, 1) := by decide +kernel
theorem dX4_exchange_80 : decode cX4_exchange 80 = .ok (.getfield 11, 3) := by decide +kernel
theorem dX4_exchange_83 : decode cX4_exchange 83 = .ok (.iload_n 1, 1) := by decide +kernel
theorem dX4_exchange_84 : decode cX4_exchange 84 = .ok (.aaload, 1) := by decide +kernel
theorem dX4_exchange_85 : decode cX4_exchange 85 = .ok (.iload_n 2, 1) := by decide +kernel
theorem dX4_exchange_86 : decode cX4_exchange 86 = .ok (.aload_n 0, 1) := by decide +kernel
theorem dX4_exchange_87 : decode cX4_exchange 87 = .ok (.getfield 31, 3) := by decide +kernel
theorem dX4_exchange_90 : decode cX4_exchange 90 = .ok (.lneg, 1) := by decide +kernel
theorem dX4_exchange_91 : decode cX4_exchange 91 = .ok (.lastore, 1) := by decide +kernel
theorem dX4_exchange_92 : decode cX4_exchange 92 = .ok (.aload_n 0, 1) := by decide +kernel
theorem dX4_exchange_93 : decode cX4_exchange 93 = .ok (.lload_n 3, 1) := by decide +kernel
theorem dX4_exchange_94 : decode cX4_exchange 94 = .ok (.putfield 31, 3) := by decide +kernel
theorem dX4_exchange_97 : decode cX4_exchange 97 = .ok (.aload_n 0, 1) := by decide +kernel
theorem dX4_exchange_98 : decode cX4_exchange 98 = .ok (.getfield 14, 3) := by decide +kernel
theorem dX4_exchange_101 : decode cX4_exchange 101 = .ok (.iload_n 1, 1) := by decide +kernel
theorem dX4_exchange_102 : decode cX4_exchange 102 = .ok (.iaload, 1) := by decide +kernel
theorem dX4_exchange_103 : decode cX4_exchange 103 = .ok (.istore 5, 2) := by decide +kernel
theorem dX4_exchange_105 : decode cX4_exchange 105 = .ok (.aload_n 0, 1) := by decide +kernel
theorem dX4_exchange_106 : decode cX4_exchange 106 = .ok (.getfield 14, 3) := by decide +kernel
theorem dX4_exchange_109 : decode cX4_exchange 109 = .ok (.iload_n 1, 1) := by decide +kernel
theorem dX4_exchange_110 : decode cX4_exchange 110 = .ok (.aload_n 0, 1) := by decide +kernel
theorem dX4_exchange_111 : decode cX4_exchange 111 = .ok (.getfield 18, 3) := by decide +kernel
theorem dX4_exchange_114 : decode cX4_exchange 114 = .ok (.iload_n 2, 1) := by decide +kernel
theorem dX4_exchange_115 : decode cX4_exchange 115 = .ok (.iaload, 1) := by decide +kernel
theorem dX4_exchange_116 : decode cX4_exchange 116 = .ok (.iastore, 1) := by decide +kernel
theorem dX4_exchange_117 : decode cX4_exchange 117 = .ok (.aload_n 0, 1) := by decide +kernel
theorem dX4_exchange_118 : decode cX4_exchange 118 = .ok (.getfield 18, 3) := by decide +kernel
theorem dX4_exchange_121 : decode cX4_exchange 121 = .ok (.iload_n 2, 1) := by decide +kernel
theorem dX4_exchange_122 : decode cX4_exchange 122 = .ok (.iload 5, 2) := by decide +kernel
theorem dX4_exchange_124 : decode cX4_exchange 124 = .ok (.iastore, 1) := by decide +kernel
theorem dX4_exchange_125 : decode cX4_exchange 125 = .ok (.return_, 1) := by decide +kernel
theorem dX4_clearOf_0 : decode cX4_clearOf 0 = .ok (.aload_n 0, 1) := by decide +kernel
theorem dX4_clearOf_1 : decode cX4_clearOf 1 = .ok (.getfield 11, 3) := by decide +kernel
theorem dX4_clearOf_4 : decode cX4_clearOf 4 = .ok (.iload_n 2, 1) := by decide +kernel
theorem dX4_clearOf_5 : decode cX4_clearOf 5 = .ok (.aaload, 1) := by decide +kernel
theorem dX4_clearOf_6 : decode cX4_clearOf 6 = .ok (.iload_n 3, 1) := by decide +kernel
theorem dX4_clearOf_7 : decode cX4_clearOf 7 = .ok (.laload, 1) := by decide +kernel
theorem dX4_clearOf_8 : decode cX4_clearOf 8 = .ok (.lneg, 1) := by decide +kernel
theorem dX4_clearOf_9 : decode cX4_clearOf 9 = .ok (.lstore 4, 2) := by decide +kernel
theorem dX4_clearOf_11 : decode cX4_clearOf 11 = .ok (.aload_n 0, 1) := by decide +kernel
theorem dX4_clearOf_12 : decode cX4_clearOf 12 = .ok (.getfield 11, 3) := by decide +kernel
theorem dX4_clearOf_15 : decode cX4_clearOf 15 = .ok (.iload_n 1, 1) := by decide +kernel
theorem dX4_clearOf_16 : decode cX4_clearOf 16 = .ok (.aaload, 1) := by decide +kernel
theorem dX4_clearOf_17 : decode cX4_clearOf 17 = .ok (.iload_n 3, 1) := by decide +kernel
theorem dX4_clearOf_18 : decode cX4_clearOf 18 = .ok (.laload, 1) := by decide +kernel
theorem dX4_clearOf_19 : decode cX4_clearOf 19 = .ok (.lstore 6, 2) := by decide +kernel
theorem dX4_clearOf_21 : decode cX4_clearOf 21 = .ok (.iconst 0, 1) := by decide +kernel
theorem dX4_clearOf_22 : decode cX4_clearOf 22 = .ok (.istore 8, 2) := by decide +kernel
theorem dX4_clearOf_24 : decode cX4_clearOf 24 = .ok (.iload 8, 2) := by decide +kernel
theorem dX4_clearOf_26 : decode cX4_clearOf 26 = .ok (.aload_n 0, 1) := by decide +kernel
theorem dX4_clearOf_27 : decode cX4_clearOf 27 = .ok (.getfield 27, 3) := by decide +kernel
theorem dX4_clearOf_30 : decode cX4_clearOf 30 = .ok (.if_icmp .gt 56, 3) := by decide +kernel
theorem dX4_clearOf_33 : decode cX4_clearOf 33 = .ok (.iload 8, 2) := by decide +kernel
theorem dX4_clearOf_35 : decode cX4_clearOf 35 = .ok (.iload_n 3, 1) := by decide +kernel
theorem dX4_clearOf_36 : decode cX4_clearOf 36 = .ok (.if_icmp .eq 44, 3) := by decide +kernel
theorem dX4_clearOf_39 : decode cX4_clearOf 39 = .ok (.aload_n 0, 1) := by decide +kernel
theorem dX4_clearOf_40 : decode cX4_clearOf 40 = .ok (.getfield 11, 3) := by decide +kernel
theorem dX4_clearOf_43 : decode cX4_clearOf 43 = .ok (.iload_n 1, 1) := by decide +kernel
theorem dX4_clearOf_44 : decode cX4_clearOf 44 = .ok (.aaload, 1) := by decide +kernel
theorem dX4_clearOf_45 : decode cX4_clearOf 45 = .ok (.iload 8, 2) := by decide +kernel
theorem dX4_clearOf_47 : decode cX4_clearOf 47 = .ok (.lload 4, 2) := by decide +kernel
theorem dX4_clearOf_49 : decode cX4_clearOf 49 = .ok (.aload_n 0, 1) := by decide +kernel
theorem dX4_clearOf_50 : decode cX4_clearOf 50 = .ok (.getfield 11, 3) := by decide +kernel
theorem dX4_clearOf_53 : decode cX4_clearOf 53 = .ok (.iload_n 1, 1) := by decide +kernel
theorem dX4_clearOf_54 : decode cX4_clearOf 54 = .ok (.aaload, 1) := by decide +kernel
theorem dX4_clearOf_55 : decode cX4_clearOf 55 = .ok (.iload 8, 2) := by decide +kernel
theorem dX4_clearOf_57 : decode cX4_clearOf 57 = .ok (.laload, 1) := by decide +kernel
theorem dX4_clearOf_58 : decode cX4_clearOf 58 = .ok (.lmul, 1) := by decide +kernel
theorem dX4_clearOf_59 : decode cX4_clearOf 59 = .ok (.lload 6, 2) := by decide +kernel
theorem dX4_clearOf_61 : decode cX4_clearOf 61 = .ok (.aload_n 0, 1) := by decide +kernel
theorem dX4_clearOf_62 : decode cX4_clearOf 62 = .ok (.getfield 11, 3) := by decide +kernel
theorem dX4_clearOf_65 : decode cX4_clearOf 65 = .ok (.iload_n 2, 1) := by decide +kernel
theorem dX4_clearOf_66 : decode cX4_clearOf 66 = .ok (.aaload, 1) := by decide +kernel
theorem dX4_clearOf_67 : decode cX4_clearOf 67 = .ok (.iload 8, 2) := by decide +kernel
theorem dX4_clearOf_69 : decode cX4_clearOf 69 = .ok (.laload, 1) := by decide +kernel
theorem dX4_clearOf_70 : decode cX4_clearOf 70 = .ok (.lmul, 1) := by decide +kernel
theorem dX4_clearOf_71 : decode cX4_clearOf 71 = .ok (.ladd, 1) := by decide +kernel
theorem dX4_clearOf_72 : decode cX4_clearOf 72 = .ok (.aload_n 0, 1) := by decide +kernel
theorem dX4_clearOf_73 : decode cX4_clearOf 73 = .ok (.getfield 31, 3) := by decide +kernel
theorem dX4_clearOf_76 : decode cX4_clearOf 76 = .ok (.invokestatic 67, 3) := by decide +kernel
theorem dX4_clearOf_79 : decode cX4_clearOf 79 = .ok (.lastore, 1) := by decide +kernel
theorem dX4_clearOf_80 : decode cX4_clearOf 80 = .ok (.iinc 8 1, 3) := by decide +kernel
theorem dX4_clearOf_83 : decode cX4_clearOf 83 = .ok (.goto (-59), 3) := by decide +kernel
theorem dX4_clearOf_86 : decode cX4_clearOf 86 = .ok (.return_, 1) := by decide +kernel
theorem dX4_divide_0 : decode cX4_divide 0 = .ok (.lload_n 2, 1) := by decide +kernel
theorem dX4_divide_1 : decode cX4_divide 1 = .ok (.lconst 0, 1) := by decide +kernel
theorem dX4_divide_2 : decode cX4_divide 2 = .ok (.lcmp, 1) := by decide +kernel
theorem dX4_divide_3 : decode cX4_divide 3 = .ok (.ifCond .ne 7, 3) := by decide +kernel
theorem dX4_divide_6 : decode cX4_divide 6 = .ok (.lconst 0, 1) := by decide +kernel
theorem dX4_divide_7 : decode cX4_divide 7 = .ok (.goto 6, 3) := by decide +kernel
theorem dX4_divide_10 : decode cX4_divide 10 = .ok (.lload_n 0, 1) := by decide +kernel
theorem dX4_divide_11 : decode cX4_divide 11 = .ok (.lload_n 2, 1) := by decide +kernel
theorem dX4_divide_12 : decode cX4_divide 12 = .ok (.ldiv, 1) := by decide +kernel
theorem dX4_divide_13 : decode cX4_divide 13 = .ok (.lreturn, 1) := by decide +kernel
theorem dX5_init_0 : decode cX5_init 0 = .ok (.aload_n 0, 1) := by decide +kernel
theorem dX5_init_1 : decode cX5_init 1 = .ok (.invokespecial 3, 3) := by decide +kernel
theorem dX5_init_4 : decode cX5_init 4 = .ok (.aload_n 0, 1) := by decide +kernel
theorem dX5_init_5 : decode cX5_init 5 = .ok (.sipush 400, 3) := by decide +kernel
theorem dX5_init_8 : decode cX5_init 8 = .ok (.newarray .byte, 2) := by decide +kernel
theorem dX5_init_10 : decode cX5_init 10 = .ok (.putfield 11, 3) := by decide +kernel
theorem dX5_init_13 : decode cX5_init 13 = .ok (.return_, 1) := by decide +kernel
theorem dX5_hasRoom_0 : decode cX5_hasRoom 0 = .ok (.iload_n 1, 1) := by decide +kernel
theorem dX5_hasRoom_1 : decode cX5_hasRoom 1 = .ok (.sipush 400, 3) := by decide +kernel
theorem dX5_hasRoom_4 : decode cX5_hasRoom 4 = .ok (.aload_n 0, 1) := by decide +kernel
theorem dX5_hasRoom_5 : decode cX5_hasRoom 5 = .ok (.getfield 15, 3) := by decide +kernel
theorem dX5_hasRoom_8 : decode cX5_hasRoom 8 = .ok (.isub, 1) := by decide +kernel
theorem dX5_hasRoom_9 : decode cX5_hasRoom 9 = .ok (.if_icmp .gt 7, 3) := by decide +kernel
theorem dX5_hasRoom_12 : decode cX5_hasRoom 12 = .ok (.iconst 1, 1) := by decide +kernel
theorem dX5_hasRoom_13 : decode cX5_hasRoom 13 = .ok (.goto 4, 3) := by decide +kernel
theorem dX5_hasRoom_16 : decode cX5_hasRoom 16 = .ok (.iconst 0, 1) := by decide +kernel
theorem dX5_hasRoom_17 : decode cX5_hasRoom 17 = .ok (.ireturn, 1) := by decide +kernel
theorem dX5_append_0 : decode cX5_append 0 = .ok (.iload_n 3, 1) := by decide +kernel
theorem dX5_append_1 : decode cX5_append 1 = .ok (.iconst 1, 1) := by decide +kernel
theorem dX5_append_2 : decode cX5_append 2 = .ok (.isub, 1) := by decide +kernel
theorem dX5_append_3 : decode cX5_append 3 = .ok (.istore 4, 2) := by decide +kernel
theorem dX5_append_5 : decode cX5_append 5 = .ok (.iload 4, 2) := by decide +kernel
theorem dX5_append_7 : decode cX5_append 7 = .ok (.ifCond .lt 47, 3) := by decide +kernel
theorem dX5_append_10 : decode cX5_append 10 = .ok (.aload_n 0, 1) := by decide +kernel
theorem dX5_append_11 : decode cX5_append 11 = .ok (.getfield 15, 3) := by decide +kernel
theorem dX5_append_14 : decode cX5_append 14 = .ok (.sipush 400, 3) := by decide +kernel
theorem dX5_append_17 : decode cX5_append 17 = .ok (.if_icmp .ge 37, 3) := by decide +kernel
theorem dX5_append_20 : decode cX5_append 20 = .ok (.aload_n 0, 1) := by decide +kernel
theorem dX5_append_21 : decode cX5_append 21 = .ok (.getfield 11, 3) := by decide +kernel
theorem dX5_append_24 : decode cX5_append 24 = .ok (.aload_n 0, 1) := by decide +kernel
theorem dX5_append_25 : decode cX5_append 25 = .ok (.getfield 15, 3) := by decide +kernel
theorem dX5_append_28 : decode cX5_append 28 = .ok (.lload_n 1, 1) := by decide +kernel
theorem dX5_append_29 : decode cX5_append 29 = .ok (.bipush 8, 2) := by decide +kernel
theorem dX5_append_31 : decode cX5_append 31 = .ok (.iload 4, 2) := by decide +kernel
theorem dX5_append_33 : decode cX5_append 33 = .ok (.imul, 1) := by decide +kernel
theorem dX5_append_34 : decode cX5_append 34 = .ok (.lshr, 1) := by decide +kernel
theorem dX5_append_35 : decode cX5_append 35 = .ok (.l2i, 1) := by decide +kernel
theorem dX5_append_36 : decode cX5_append 36 = .ok (.i2b, 1) := by decide +kernel
theorem dX5_append_37 : decode cX5_append 37 = .ok (.bastore, 1) := by decide +kernel
theorem dX5_append_38 : decode cX5_append 38 = .ok (.aload_n 0, 1) := by decide +kernel
theorem dX5_append_39 : decode cX5_append 39 = .ok (.dup, 1) := by decide +kernel
theorem dX5_append_40 : decode cX5_append 40 = .ok (.getfield 15, 3) := by decide +kernel
theorem dX5_append_43 : decode cX5_append 43 = .ok (.iconst 1, 1) := by decide +kernel
theorem dX5_append_44 : decode cX5_append 44 = .ok (.iadd, 1) := by decide +kernel
theorem dX5_append_45 : decode cX5_append 45 = .ok (.putfield 15, 3) := by decide +kernel
theorem dX5_append_48 : decode cX5_append 48 = .ok (.iinc 4 (-1), 3) := by decide +kernel
theorem dX5_append_51 : decode cX5_append 51 = .ok (.goto (-46), 3) := by decide +kernel
theorem dX5_append_54 : decode cX5_append 54 = .ok (.aload_n 0, 1) := by decide +kernel
theorem dX5_append_55 : decode cX5_append 55 = .ok (.getfield 15, 3) := by decide +kernel
theorem dX5_append_58 : decode cX5_append 58 = .ok (.ireturn, 1) := by decide +kernel
theorem dX5_read_0 : decode cX5_read 0 = .ok (.aload_n 0, 1) := by decide +kernel
theorem dX5_read_1 : decode cX5_read 1 = .ok (.iconst 0, 1) := by decide +kernel
theorem dX5_read_2 : decode cX5_read 2 = .ok (.putfield 19, 3) := by decide +kernel
theorem dX5_read_5 : decode cX5_read 5 = .ok (.aload_n 0, 1) := by decide +kernel
theorem dX5_read_6 : decode cX5_read 6 = .ok (.invokevirtual 22, 3) := by decide +kernel
theorem dX5_read_9 : decode cX5_read 9 = .ok (.iconst 0, 1) := by decide +kernel
theorem dX5_read_10 : decode cX5_read 10 = .ok (.istore_n 2, 1) := by decide +kernel
theorem dX5_read_11 : decode cX5_read 11 = .ok (.iconst 0, 1) := by decide +kernel
theorem dX5_read_12 : decode cX5_read 12 = .ok (.istore_n 3, 1) := by decide +kernel
theorem dX5_read_13 : decode cX5_read 13 = .ok (.iload_n 3, 1) := by decide +kernel
theorem dX5_read_14 : decode cX5_read 14 = .ok (.sipush 400, 3) := by decide +kernel
theorem dX5_read_17 : decode cX5_read 17 = .ok (.if_icmp .ge 26, 3) := by decide +kernel
theorem dX5_read_20 : decode cX5_read 20 = .ok (.aload_n 0, 1) := by decide +kernel
theorem dX5_read_21 : decode cX5_read 21 = .ok (.getfield 25, 3) := by decide +kernel
theorem dX5_read_24 : decode cX5_read 24 = .ok (.ifCond .eq 19, 3) := by decide +kernel
theorem dX5_read_27 : decode cX5_read 27 = .ok (.iload_n 2, 1) := by decide +kernel
theorem dX5_read_28 : decode cX5_read 28 = .ok (.ifCond .ne 15, 3) := by decide +kernel
theorem dX5_read_31 : decode cX5_read 31 = .ok (.aload_n 0, 1) := by decide +kernel
theorem dX5_read_32 : decode cX5_read 32 = .ok (.aload_n 1, 1) := by decide +kernel
theorem dX5_read_33 : decode cX5_read 33 = .ok (.invokevirtual 28, 3) := by decide +kernel
theorem dX5_read_36 : decode cX5_read 36 = .ok (.istore_n 2, 1) := by decide +kernel
theorem dX5_read_37 : decode cX5_read 37 = .ok (.iinc 3 1, 3) := by decide +kernel
theorem dX5_read_40 : decode cX5_read 40 = .ok (.goto (-27), 3) := by decide +kernel
theorem dX5_read_43 : decode cX5_read 43 = .ok (.aload_n 0, 1) := by decide +kernel
theorem dX5_read_44 : decode cX5_read 44 = .ok (.iconst 0, 1) := by decide +kernel
theorem dX5_read_45 : decode cX5_read 45 = .ok (.putfield 15, 3) := by decide +kernel
theorem dX5_read_48 : decode cX5_read 48 = .ok (.iload_n 2, 1) := by decide +kernel
theorem dX5_read_49 : decode cX5_read 49 = .ok (.ireturn, 1) := by decide +kernel
theorem dX5_readSentence_0 : decode cX5_readSentence 0 = .ok (.aload_n 0, 1) := by decide +kernel
theorem dX5_readSentence_1 : decode cX5_readSentence 1 = .ok (.ldc 32, 2) := by decide +kernel
theorem dX5_readSentence_3 : decode cX5_readSentence 3 = .ok (.invokevirtual 34, 3) := by decide +kernel
theorem dX5_readSentence_6 : decode cX5_readSentence 6 = .ok (.ifCond .eq 10, 3) := by decide +kernel
theorem dX5_readSentence_9 : decode cX5_readSentence 9 = .ok (.aload_n 0, 1) := by decide +kernel
theorem dX5_readSentence_10 : decode cX5_readSentence 10 = .ok (.aload_n 1, 1) := by decide +kernel
theorem dX5_readSentence_11 : decode cX5_readSentence 11 = .ok (.iconst 0, 1) := by decide +kernel
theorem dX5_readSentence_12 : decode cX5_readSentence 12 = .ok (.invokevirtual 38, 3) := by decide +kernel
theorem dX5_readSentence_15 : decode cX5_readSentence 15 = .ok (.ireturn, 1) := by decide +kernel
theorem dX5_readSentence_16 : decode cX5_readSentence 16 = .ok (.aload_n 0, 1) := by decide +kernel
theorem dX5_readSentence_17 : decode cX5_readSentence 17 = .ok (.ldc 42, 2) := by decide +kernel
theorem dX5_readSentence_19 : decode cX5_readSentence 19 = .ok (.invokevirtual 34, 3) := by decide +kernel
theorem dX5_readSentence_22 : decode cX5_readSentence 22 = .ok (.ifCond .eq 10, 3) := by decide +kernel
theorem dX5_readSentence_25 : decode cX5_readSentence 25 = .ok (.aload_n 0, 1) := by decide +kernel
theorem dX5_readSentence_26 : decode cX5_readSentence 26 = .ok (.aload_n 1, 1) := by decide +kernel
theorem dX5_readSentence_27 : decode cX5_readSentence 27 = .ok (.iconst 1, 1) := by decide +kernel
theorem dX5_readSentence_28 : decode cX5_readSentence 28 = .ok (.invokevirtual 38, 3) := by decide +kernel
theorem dX5_readSentence_31 : decode cX5_readSentence 31 = .ok (.ireturn, 1) := by decide +kernel
theorem dX5_readSentence_32 : decode cX5_readSentence 32 = .ok (.aload_n 0, 1) := by decide +kernel
theorem dX5_readSentence_33 : decode cX5_readSentence 33 = .ok (.ldc 44, 2) := by decide +kernel
theorem dX5_readSentence_35 : decode cX5_readSentence 35 = .ok (.invokevirtual 34, 3) := by decide +kernel
theorem dX5_readSentence_38 : decode cX5_readSentence 38 = .ok (.ifCond .eq 9, 3) := by decide +kernel
theorem dX5_readSentence_41 : decode cX5_readSentence 41 = .ok (.aload_n 0, 1) := by decide +kernel
theorem dX5_readSentence_42 : decode cX5_readSentence 42 = .ok (.aload_n 1, 1) := by decide +kernel
theorem dX5_readSentence_43 : decode cX5_readSentence 43 = .ok (.invokevirtual 46, 3) := by decide +kernel
theorem dX5_readSentence_46 : decode cX5_readSentence 46 = .ok (.ireturn, 1) := by decide +kernel
theorem dX5_readSentence_47 : decode cX5_readSentence 47 = .ok (.aload_n 0, 1) := by decide +kernel
theorem dX5_readSentence_48 : decode cX5_readSentence 48 = .ok (.ldc 49, 2) := by decide +kernel
theorem dX5_readSentence_50 : decode cX5_readSentence 50 = .ok (.invokevirtual 34, 3) := by decide +kernel
theorem dX5_readSentence_53 : decode cX5_readSentence 53 = .ok (.ifCond .eq 9, 3) := by decide +kernel
theorem dX5_readSentence_56 : decode cX5_readSentence 56 = .ok (.aload_n 0, 1) := by decide +kernel
theorem dX5_readSentence_57 : decode cX5_readSentence 57 = .ok (.aload_n 1, 1) := by decide +kernel
theorem dX5_readSentence_58 : decode cX5_readSentence 58 = .ok (.invokevirtual 51, 3) := by decide +kernel
theorem dX5_readSentence_61 : decode cX5_readSentence 61 = .ok (.ireturn, 1) := by decide +kernel
theorem dX5_readSentence_62 : decode cX5_readSentence 62 = .ok (.iconst 1, 1) := by decide +kernel
theorem dX5_readSentence_63 : decode cX5_readSentence 63 = .ok (.ireturn, 1) := by decide +kernel
theorem dX5_readGround_0 : decode cX5_readGround 0 = .ok (.aload_n 1, 1) := by decide +kernel
theorem dX5_readGround_1 : decode cX5_readGround 1 = .ok (.getfield 54, 3) := by decide +kernel
theorem dX5_readGround_4 : decode cX5_readGround 4 = .ok (.bipush 20, 2) := by decide +kernel
theorem dX5_readGround_6 : decode cX5_readGround 6 = .ok (.if_icmp .lt 5, 3) := by decide +kernel
theorem dX5_readGround_9 : decode cX5_readGround 9 = .ok (.iconst 3, 1) := by decide +kernel
theorem dX5_readGround_10 : decode cX5_readGround 10 = .ok (.ireturn, 1) := by decide +kernel
theorem dX5_readGround_11 : decode cX5_readGround 11 = .ok (.aload_n 0, 1) := by decide +kernel
theorem dX5_readGround_12 : decode cX5_readGround 12 = .ok (.invokevirtual 22, 3) := by decide +kernel
theorem dX5_readGround_15 : decode cX5_readGround 15 = .ok (.aload_n 0, 1) := by decide +kernel
theorem dX5_readGround_16 : decode cX5_readGround 16 = .ok (.getfield 25, 3) := by decide +kernel
theorem dX5_readGround_19 : decode cX5_readGround 19 = .ok (.iconst 2, 1) := by decide +kernel
theorem dX5_readGround_20 : decode cX5_readGround 20 = .ok (.if_icmp .eq 5, 3) := by decide +kernel
theorem dX5_readGround_23 : decode cX5_readGround 23 = .ok (.iconst 1, 1) := by decide +kernel
theorem dX5_readGround_24 : decode cX5_readGround 24 = .ok (.ireturn, 1) := by decide +kernel
theorem dX5_readGround_25 : decode cX5_readGround 25 = .ok (.aload_n 0, 1) := by decide +kernel
theorem dX5_readGround_26 : decode cX5_readGround 26 = .ok (.getfield 59, 3) := by decide +kernel
theorem dX5_readGround_29 : decode cX5_readGround 29 = .ok (.bipush 9, 2) := by decide +kernel
theorem dX5_readGround_31 : decode cX5_readGround 31 = .ok (.if_icmp .le 5, 3) := by decide +kernel
theorem dX5_readGround_34 : decode cX5_readGround 34 = .ok (.iconst 2, 1) := by decide +kernel
theorem dX5_readGround_35 : decode cX5_readGround 35 = .ok (.ireturn, 1) := by decide +kernel
theorem dX5_readGround_36 : decode cX5_readGround 36 = .ok (.aload_n 1, 1) := by decide +kernel
theorem dX5_readGround_37 : decode cX5_readGround 37 = .ok (.iload_n 2, 1) := by decide +kernel
theorem dX5_readGround_38 : decode cX5_readGround 38 = .ok (.aload_n 0, 1) := by decide +kernel
theorem dX5_readGround_39 : decode cX5_readGround 39 = .ok (.getfield 59, 3) := by decide +kernel
theorem dX5_readGround_42 : decode cX5_readGround 42 = .ok (.invokevirtual 62, 3) := by decide +kernel
theorem dX5_readGround_45 : decode cX5_readGround 45 = .ok (.aload_n 0, 1) := by decide +kernel
theorem dX5_readGround_46 : decode cX5_readGround 46 = .ok (.invokevirtual 22, 3) := by decide +kernel
theorem dX5_readGround_49 : decode cX5_readGround 49 = .ok (.aload_n 0, 1) := by decide +kernel
theorem dX5_readGround_50 : decode cX5_readGround 50 = .ok (.invokevirtual 66, 3) := by decide +kernel
theorem dX5_readGround_53 : decode cX5_readGround 53 = .ok (.ireturn, 1) := by decide +kernel
theorem dX5_readClaim_0 : decode cX5_readClaim 0 = .ok (.aload_n 1, 1) := by decide +kernel
theorem dX5_readClaim_1 : decode cX5_readClaim 1 = .ok (.getfield 54, 3) := by decide +kernel
theorem dX5_readClaim_4 : decode cX5_readClaim 4 = .ok (.bipush 20, 2) := by decide +kernel
theorem dX5_readClaim_6 : decode cX5_readClaim 6 = .ok (.if_icmp .lt 5, 3) := by decide +kernel
theorem dX5_readClaim_9 : decode cX5_readClaim 9 = .ok (.iconst 3, 1) := by decide +kernel
theorem dX5_readClaim_10 : decode cX5_readClaim 10 = .ok (.ireturn, 1) := by decide +kernel
theorem dX5_readClaim_11 : decode cX5_readClaim 11 = .ok (.aload_n 1, 1) := by decide +kernel
theorem dX5_readClaim_12 : decode cX5_readClaim 12 = .ok (.iconst 2, 1) := by decide +kernel
theorem dX5_readClaim_13 : decode cX5_readClaim 13 = .ok (.iconst 0, 1) := by decide +kernel
theorem dX5_readClaim_14 : decode cX5_readClaim 14 = .ok (.invokevirtual 62, 3) := by decide +kernel
theorem dX5_readClaim_17 : decode cX5_readClaim 17 = .ok (.aload_n 0, 1) := by decide +kernel
theorem dX5_readClaim_18 : decode cX5_readClaim 18 = .ok (.invokevirtual 22, 3) := by decide +kernel
theorem dX5_readClaim_21 : decode cX5_readClaim 21 = .ok (.aload_n 0, 1) := by decide +kernel
theorem dX5_readClaim_22 : decode cX5_readClaim 22 = .ok (.invokevirtual 66, 3) := by decide +kernel
theorem dX5_readClaim_25 : decode cX5_readClaim 25 = .ok (.ireturn, 1) := by decide +kernel
theorem dX5_readStep_0 : decode cX5_readStep 0 = .ok (.aload_n 1, 1) := by decide +kernel
theorem dX5_readStep_1 : decode cX5_readStep 1 = .ok (.getfield 70, 3) := by decide +kernel
theorem dX5_readStep_4 : decode cX5_readStep 4 = .ok (.bipush 16, 2) := by decide +kernel
theorem dX5_readStep_6 : decode cX5_readStep 6 = .ok (.if_icmp .lt 5, 3) := by decide +kernel
theorem dX5_readStep_9 : decode cX5_readStep 9 = .ok (.iconst 3, 1) := by decide +kernel
theorem dX5_readStep_10 : decode cX5_readStep 10 = .ok (.ireturn, 1) := by decide +kernel
theorem dX5_readStep_11 : decode cX5_readStep 11 = .ok (.aload_n 0, 1) := by decide +kernel
theorem dX5_readStep_12 : decode cX5_readStep 12 = .ok (.invokevirtual 22, 3) := by decide +kernel
theorem dX5_readStep_15 : decode cX5_readStep 15 = .ok (.aload_n 0, 1) := by decide +kernel
theorem dX5_readStep_16 : decode cX5_readStep 16 = .ok (.invokevirtual 73, 3) := by decide +kernel
theorem dX5_readStep_19 : decode cX5_readStep 19 = .ok (.istore_n 2, 1) := by decide +kernel
theorem dX5_readStep_20 : decode cX5_readStep 20 = .ok (.iload_n 2, 1) := by decide +kernel
theorem dX5_readStep_21 : decode cX5_readStep 21 = .ok (.ifCond .ge 5, 3) := by decide +kernel
theorem dX5_readStep_24 : decode cX5_readStep 24 = .ok (.iconst 1, 1) := by decide +kernel
theorem dX5_readStep_25 : decode cX5_readStep 25 = .ok (.ireturn, 1) := by decide +kernel
theorem dX5_readStep_26 : decode cX5_readStep 26 = .ok (.aload_n 0, 1) := by decide +kernel
theorem dX5_readStep_27 : decode cX5_readStep 27 = .ok (.invokevirtual 22, 3) := by decide +kernel
theorem dX5_readStep_30 : decode cX5_readStep 30 = .ok (.aload_n 0, 1) := by decide +kernel
theorem dX5_readStep_31 : decode cX5_readStep 31 = .ok (.getfield 25, 3) := by decide +kernel
theorem dX5_readStep_34 : decode cX5_readStep 34 = .ok (.iconst 2, 1) := by decide +kernel
theorem dX5_readStep_35 : decode cX5_readStep 35 = .ok (.if_icmp .eq 5, 3) := by decide +kernel
theorem dX5_readStep_38 : decode cX5_readStep 38 = .ok (.iconst 1, 1) := by decide +kernel
theorem dX5_readStep_39 : decode cX5_readStep 39 = .ok (.ireturn, 1) := by decide +kernel
theorem dX5_readStep_40 : decode cX5_readStep 40 = .ok (.aload_n 1, 1) := by decide +kernel
theorem dX5_readStep_41 : decode cX5_readStep 41 = .ok (.aload_n 0, 1) := by decide +kernel
theorem dX5_readStep_42 : decode cX5_readStep 42 = .ok (.getfield 59, 3) := by decide +kernel
theorem dX5_readStep_45 : decode cX5_readStep 45 = .ok (.invokevirtual 76, 3) := by decide +kernel
theorem dX5_readStep_48 : decode cX5_readStep 48 = .ok (.ifCond .ne 5, 3) := by decide +kernel
theorem dX5_readStep_51 : decode cX5_readStep 51 = .ok (.iconst 2, 1) := by decide +kernel
theorem dX5_readStep_52 : decode cX5_readStep 52 = .ok (.ireturn, 1) := by decide +kernel
theorem dX5_readStep_53 : decode cX5_readStep 53 = .ok (.aload_n 1, 1) := by decide +kernel
theorem dX5_readStep_54 : decode cX5_readStep 54 = .ok (.iload_n 2, 1) := by decide +kernel
theorem dX5_readStep_55 : decode cX5_readStep 55 = .ok (.aload_n 0, 1) := by decide +kernel
theorem dX5_readStep_56 : decode cX5_readStep 56 = .ok (.getfield 59, 3) := by decide +kernel
theorem dX5_readStep_59 : decode cX5_readStep 59 = .ok (.invokevirtual 80, 3) := by decide +kernel
theorem dX5_readStep_62 : decode cX5_readStep 62 = .ok (.istore_n 3, 1) := by decide +kernel
theorem dX5_readStep_63 : decode cX5_readStep 63 = .ok (.aload_n 0, 1) := by decide +kernel
theorem dX5_readStep_64 : decode cX5_readStep 64 = .ok (.invokevirtual 22, 3) := by decide +kernel
theorem dX5_readStep_67 : decode cX5_readStep 67 = .ok (.aload_n 0, 1) := by decide +kernel
theorem dX5_readStep_68 : decode cX5_readStep 68 = .ok (.aload_n 1, 1) := by decide +kernel
theorem dX5_readStep_69 : decode cX5_readStep 69 = .ok (.iload_n 3, 1) := by decide +kernel
theorem dX5_readStep_70 : decode cX5_readStep 70 = .ok (.invokevirtual 84, 3) := by decide +kernel
theorem dX5_readStep_73 : decode cX5_readStep 73 = .ok (.istore 4, 2) := by decide +kernel
theorem dX5_readStep_75 : decode cX5_readStep 75 = .ok (.iconst 0, 1) := by decide +kernel
theorem dX5_readStep_76 : decode cX5_readStep 76 = .ok (.istore 5, 2) := by decide +kernel
theorem dX5_readStep_78 : decode cX5_readStep 78 = .ok (.iload 5, 2) := by decide +kernel
theorem dX5_readStep_80 : decode cX5_readStep 80 = .ok (.bipush 6, 2) := by decide +kernel
theorem dX5_readStep_82 : decode cX5_readStep 82 = .ok (.if_icmp .ge 30, 3) := by decide +kernel
theorem dX5_readStep_85 : decode cX5_readStep 85 = .ok (.iload 4, 2) := by decide +kernel
theorem dX5_readStep_87 : decode cX5_readStep 87 = .ok (.ifCond .ne 25, 3) := by decide +kernel
theorem dX5_readStep_90 : decode cX5_readStep 90 = .ok (.aload_n 0, 1) := by decide +kernel
theorem dX5_readStep_91 : decode cX5_readStep 91 = .ok (.getfield 25, 3) := by decide +kernel
theorem dX5_readStep_94 : decode cX5_readStep 94 = .ok (.iconst 2, 1) := by decide +kernel
theorem dX5_readStep_95 : decode cX5_readStep 95 = .ok (.if_icmp .ne 17, 3) := by decide +kernel
theorem dX5_readStep_98 : decode cX5_readStep 98 = .ok (.aload_n 0, 1) := by decide +kernel
theorem dX5_readStep_99 : decode cX5_readStep 99 = .ok (.aload_n 1, 1) := by decide +kernel
theorem dX5_readStep_100 : decode cX5_readStep 100 = .ok (.iload_n 3, 1) := by decide +kernel
theorem dX5_readStep_101 : decode cX5_readStep 101 = .ok (.invokevirtual 84, 3) := by decide +kernel
theorem dX5_readStep_104 : decode cX5_readStep 104 = .ok (.istore 4, 2) := by decide +kernel
theorem dX5_readStep_106 : decode cX5_readStep 106 = .ok (.iinc 5 1, 3) := by decide +kernel
theorem dX5_readStep_109 : decode cX5_readStep 109 = .ok (.goto (-31), 3) := by decide +kernel
theorem dX5_readStep_112 : decode cX5_readStep 112 = .ok (.iload 4, 2) := by decide +kernel
theorem dX5_readStep_114 : decode cX5_readStep 114 = .ok (.ifCond .eq 8, 3) := by decide +kernel
theorem dX5_readStep_117 : decode cX5_readStep 117 = .ok (.iload 4, 2) := by decide +kernel
theorem dX5_readStep_119 : decode cX5_readStep 119 = .ok (.goto 7, 3) := by decide +kernel
theorem dX5_readStep_122 : decode cX5_readStep 122 = .ok (.aload_n 0, 1) := by decide +kernel
theorem dX5_readStep_123 : decode cX5_readStep 123 = .ok (.invokevirtual 66, 3) := by decide +kernel
theorem dX5_readStep_126 : decode cX5_readStep 126 = .ok (.ireturn, 1) := by decide +kernel
theorem dX5_readPart_0 : decode cX5_readPart 0 = .ok (.aload_n 0, 1) := by decide +kernel
theorem dX5_readPart_1 : decode cX5_readPart 1 = .ok (.getfield 25, 3) := by decide +kernel
theorem dX5_readPart_4 : decode cX5_readPart 4 = .ok (.iconst 2, 1) := by decide +kernel
theorem dX5_readPart_5 : decode cX5_readPart 5 = .ok (.if_icmp .eq 5, 3) := by decide +kernel
theorem dX5_readPart_8 : decode cX5_readPart 8 = .ok (.iconst 1, 1) := by decide +kernel
theorem dX5_readPart_9 : decode cX5_readPart 9 = .ok (.ireturn, 1) := by decide +kernel
theorem dX5_readPart_10 : decode cX5_readPart 10 = .ok (.aload_n 1, 1) := by decide +kernel
theorem dX5_readPart_11 : decode cX5_readPart 11 = .ok (.aload_n 0, 1) := by decide +kernel
theorem dX5_readPart_12 : decode cX5_readPart 12 = .ok (.getfield 59, 3) := by decide +kernel
theorem dX5_readPart_15 : decode cX5_readPart 15 = .ok (.invokevirtual 87, 3) := by decide +kernel
theorem dX5_readPart_18 : decode cX5_readPart 18 = .ok (.ifCond .eq 15, 3) := by decide +kernel
theorem dX5_readPart_21 : decode cX5_readPart 21 = .ok (.aload_n 1, 1) := by decide +kernel
theorem dX5_readPart_22 : decode cX5_readPart 22 = .ok (.iload_n 2, 1) := by decide +kernel
theorem dX5_readPart_23 : decode cX5_readPart 23 = .ok (.aload_n 0, 1) := by decide +kernel
theorem dX5_readPart_24 : decode cX5_readPart 24 = .ok (.getfield 59, 3) := by decide +kernel
theorem dX5_readPart_27 : decode cX5_readPart 27 = .ok (.invokevirtual 90, 3) := by decide +kernel
theorem dX5_readPart_30 : decode cX5_readPart 30 = .ok (.ifCond .eq 5, 3) := by decide +kernel
theorem dX5_readPart_33 : decode cX5_readPart 33 = .ok (.iconst 2, 1) := by decide +kernel
theorem dX5_readPart_34 : decode cX5_readPart 34 = .ok (.ireturn, 1) := by decide +kernel
theorem dX5_readPart_35 : decode cX5_readPart 35 = .ok (.aload_n 1, 1) := by decide +kernel
theorem dX5_readPart_36 : decode cX5_readPart 36 = .ok (.getfield 94, 3) := by decide +kernel
theorem dX5_readPart_39 : decode cX5_readPart 39 = .ok (.iload_n 2, 1) := by decide +kernel
theorem dX5_readPart_40 : decode cX5_readPart 40 = .ok (.iaload, 1) := by decide +kernel
theorem dX5_readPart_41 : decode cX5_readPart 41 = .ok (.bipush 6, 2) := by decide +kernel
theorem dX5_readPart_43 : decode cX5_readPart 43 = .ok (.if_icmp .lt 5, 3) := by decide +kernel
theorem dX5_readPart_46 : decode cX5_readPart 46 = .ok (.iconst 3, 1) := by decide +kernel
theorem dX5_readPart_47 : decode cX5_readPart 47 = .ok (.ireturn, 1) := by decide +kernel
theorem dX5_readPart_48 : decode cX5_readPart 48 = .ok (.aload_n 1, 1) := by decide +kernel
theorem dX5_readPart_49 : decode cX5_readPart 49 = .ok (.iload_n 2, 1) := by decide +kernel
theorem dX5_readPart_50 : decode cX5_readPart 50 = .ok (.aload_n 0, 1) := by decide +kernel
theorem dX5_readPart_51 : decode cX5_readPart 51 = .ok (.getfield 59, 3) := by decide +kernel
theorem dX5_readPart_54 : decode cX5_readPart 54 = .ok (.invokevirtual 98, 3) := by decide +kernel
theorem dX5_readPart_57 : decode cX5_readPart 57 = .ok (.aload_n 0, 1) := by decide +kernel
theorem dX5_readPart_58 : decode cX5_readPart 58 = .ok (.invokevirtual 22, 3) := by decide +kernel
theorem dX5_readPart_61 : decode cX5_readPart 61 = .ok (.iconst 0, 1) := by decide +kernel
theorem dX5_readPart_62 : decode cX5_readPart 62 = .ok (.ireturn, 1) := by decide +kernel
theorem dX5_readSign_0 : decode cX5_readSign 0 = .ok (.aload_n 0, 1) := by decide +kernel
theorem dX5_readSign_1 : decode cX5_readSign 1 = .ok (.getfield 25, 3) := by decide +kernel
theorem dX5_readSign_4 : decode cX5_readSign 4 = .ok (.iconst 3, 1) := by decide +kernel
theorem dX5_readSign_5 : decode cX5_readSign 5 = .ok (.if_icmp .eq 5, 3) := by decide +kernel
theorem dX5_readSign_8 : decode cX5_readSign 8 = .ok (.iconst 1, 1) := by decide +kernel
theorem dX5_readSign_9 : decode cX5_readSign 9 = .ok (.ireturn, 1) := by decide +kernel
theorem dX5_readSign_10 : decode cX5_readSign 10 = .ok (.aload_n 0, 1) := by decide +kernel
theorem dX5_readSign_11 : decode cX5_readSign 11 = .ok (.invokevirtual 22, 3) := by decide +kernel
theorem dX5_readSign_14 : decode cX5_readSign 14 = .ok (.iconst 0, 1) := by decide +kernel
theorem dX5_readSign_15 : decode cX5_readSign 15 = .ok (.ireturn, 1) := by decide +kernel
theorem dX5_formTold_0 : decode cX5_formTold 0 = .ok (.aload_n 0, 1) := by decide +kernel
theorem dX5_formTold_1 : decode cX5_formTold 1 = .ok (.ldc 101, 2) := by decide +kernel
theorem dX5_formTold_3 : decode cX5_formTold 3 = .ok (.invokevirtual 34, 3) := by decide +kernel
theorem dX5_formTold_6 : decode cX5_formTold 6 = .ok (.ifCond .eq 5, 3) := by decide +kernel
theorem dX5_formTold_9 : decode cX5_formTold 9 = .ok (.iconst 0, 1) := by decide +kernel
theorem dX5_formTold_10 : decode cX5_formTold 10 = .ok (.ireturn, 1) := by decide +kernel
theorem dX5_formTold_11 : decode cX5_formTold 11 = .ok (.aload_n 0, 1) := by decide +kernel
theorem dX5_formTold_12 : decode cX5_formTold 12 = .ok (.ldc 103, 2) := by decide +kernel
theorem dX5_formTold_14 : decode cX5_formTold 14 = .ok (.invokevirtual 34, 3) := by decide +kernel
theorem dX5_formTold_17 : decode cX5_formTold 17 = .ok (.ifCond .eq 5, 3) := by decide +kernel
theorem dX5_formTold_20 : decode cX5_formTold 20 = .ok (.iconst 1, 1) := by decide +kernel
theorem dX5_formTold_21 : decode cX5_formTold 21 = .ok (.ireturn, 1) := by decide +kernel
theorem dX5_formTold_22 : decode cX5_formTold 22 = .ok (.aload_n 0, 1) := by decide +kernel
theorem dX5_formTold_23 : decode cX5_formTold 23 = .ok (.ldc 105, 2) := by decide +kernel
theorem dX5_formTold_25 : decode cX5_formTold 25 = .ok (.invokevirtual 34, 3) := by decide +kernel
theorem dX5_formTold_28 : decode cX5_formTold 28 = .ok (.ifCond .eq 5, 3) := by decide +kernel
theorem dX5_formTold_31 : decode cX5_formTold 31 = .ok (.iconst 2, 1) := by decide +kernel
theorem dX5_formTold_32 : decode cX5_formTold 32 = .ok (.ireturn, 1) := by decide +kernel
theorem dX5_formTold_33 : decode cX5_formTold 33 = .ok (.aload_n 0, 1) := by decide +kernel
theorem dX5_formTold_34 : decode cX5_formTold 34 = .ok (.ldc 107, 2) := by decide +kernel
theorem dX5_formTold_36 : decode cX5_formTold 36 = .ok (.invokevirtual 34, 3) := by decide +kernel
theorem dX5_formTold_39 : decode cX5_formTold 39 = .ok (.ifCond .eq 7, 3) := by decide +kernel
theorem dX5_formTold_42 : decode cX5_formTold 42 = .ok (.iconst 3, 1) := by decide +kernel
theorem dX5_formTold_43 : decode cX5_formTold 43 = .ok (.goto 4, 3) := by decide +kernel
theorem dX5_formTold_46 : decode cX5_formTold 46 = .ok (.iconst (-1), 1) := by decide +kernel
theorem dX5_formTold_47 : decode cX5_formTold 47 = .ok (.ireturn, 1) := by decide +kernel
theorem dX5_take_0 : decode cX5_take 0 = .ok (.aload_n 0, 1) := by decide +kernel
theorem dX5_take_1 : decode cX5_take 1 = .ok (.aload_n 0, 1) := by decide +kernel
theorem dX5_take_2 : decode cX5_take 2 = .ok (.getfield 19, 3) := by decide +kernel
theorem dX5_take_5 : decode cX5_take 5 = .ok (.putfield 109, 3) := by decide +kernel
theorem dX5_take_8 : decode cX5_take 8 = .ok (.aload_n 0, 1) := by decide +kernel
theorem dX5_take_9 : decode cX5_take 9 = .ok (.getfield 109, 3) := by decide +kernel
theorem dX5_take_12 : decode cX5_take 12 = .ok (.aload_n 0, 1) := by decide +kernel
theorem dX5_take_13 : decode cX5_take 13 = .ok (.getfield 15, 3) := by decide +kernel
theorem dX5_take_16 : decode cX5_take 16 = .ok (.if_icmp .ge 28, 3) := by decide +kernel
theorem dX5_take_19 : decode cX5_take 19 = .ok (.aload_n 0, 1) := by decide +kernel
theorem dX5_take_20 : decode cX5_take 20 = .ok (.aload_n 0, 1) := by decide +kernel
theorem dX5_take_21 : decode cX5_take 21 = .ok (.getfield 109, 3) := by decide +kernel
theorem dX5_take_24 : decode cX5_take 24 = .ok (.invokevirtual 112, 3) := by decide +kernel
theorem dX5_take_27 : decode cX5_take 27 = .ok (.iconst 4, 1) := by decide +kernel
theorem dX5_take_28 : decode cX5_take 28 = .ok (.if_icmp .ne 16, 3) := by decide +kernel
theorem dX5_take_31 : decode cX5_take 31 = .ok (.aload_n 0, 1) := by decide +kernel
theorem dX5_take_32 : decode cX5_take 32 = .ok (.dup, 1) := by decide +kernel
theorem dX5_take_33 : decode cX5_take 33 = .ok (.getfield 109, 3) := by decide +kernel
theorem dX5_take_36 : decode cX5_take 36 = .ok (.iconst 1, 1) := by decide +kernel
theorem dX5_take_37 : decode cX5_take 37 = .ok (.iadd, 1) := by decide +kernel
theorem dX5_take_38 : decode cX5_take 38 = .ok (.putfield 109, 3) := by decide +kernel
theorem dX5_take_41 : decode cX5_take 41 = .ok (.goto (-33), 3) := by decide +kernel
theorem dX5_take_44 : decode cX5_take 44 = .ok (.aload_n 0, 1) := by decide +kernel
theorem dX5_take_45 : decode cX5_take 45 = .ok (.aload_n 0, 1) := by decide +kernel
theorem dX5_take_46 : decode cX5_take 46 = .ok (.aload_n 0, 1) := by decide +kernel
theorem dX5_take_47 : decode cX5_take 47 = .ok (.getfield 109, 3) := by decide +kernel
theorem dX5_take_50 : decode cX5_take 50 = .ok (.invokevirtual 112, 3) := by decide +kernel
theorem dX5_take_53 : decode cX5_take 53 = .ok (.putfield 25, 3) := by decide +kernel
theorem dX5_take_56 : decode cX5_take 56 = .ok (.aload_n 0, 1) := by decide +kernel
theorem dX5_take_57 : decode cX5_take 57 = .ok (.aload_n 0, 1) := by decide +kernel
theorem dX5_take_58 : decode cX5_take 58 = .ok (.getfield 109, 3) := by decide +kernel
theorem dX5_take_61 : decode cX5_take 61 = .ok (.iconst 1, 1) := by decide +kernel
theorem dX5_take_62 : decode cX5_take 62 = .ok (.iadd, 1) := by decide +kernel
theorem dX5_take_63 : decode cX5_take 63 = .ok (.aload_n 0, 1) := by decide +kernel
theorem dX5_take_64 : decode cX5_take 64 = .ok (.getfield 15, 3) := by decide +kernel
theorem dX5_take_67 : decode cX5_take 67 = .ok (.invokestatic 116, 3) := by decide +kernel
theorem dX5_take_70 : decode cX5_take 70 = .ok (.putfield 19, 3) := by decide +kernel
theorem dX5_take_73 : decode cX5_take 73 = .ok (.aload_n 0, 1) := by decide +kernel
theorem dX5_take_74 : decode cX5_take 74 = .ok (.getfield 25, 3) := by decide +kernel
theorem dX5_take_77 : decode cX5_take 77 = .ok (.iconst 1, 1) := by decide +kernel
theorem dX5_take_78 : decode cX5_take 78 = .ok (.if_icmp .eq 11, 3) := by decide +kernel
theorem dX5_take_81 : decode cX5_take 81 = .ok (.aload_n 0, 1) := by decide +kernel
theorem dX5_take_82 : decode cX5_take 82 = .ok (.getfield 25, 3) := by decide +kernel
theorem dX5_take_85 : decode cX5_take 85 = .ok (.iconst 2, 1) := by decide +kernel
theorem dX5_take_86 : decode cX5_take 86 = .ok (.if_icmp .ne 7, 3) := by decide +kernel
theorem dX5_take_89 : decode cX5_take 89 = .ok (.iconst 1, 1) := by decide +kernel
theorem dX5_take_90 : decode cX5_take 90 = .ok (.goto 4, 3) := by decide +kernel
theorem dX5_take_93 : decode cX5_take 93 = .ok (.iconst 0, 1) := by decide +kernel
theorem dX5_take_94 : decode cX5_take 94 = .ok (.istore_n 1, 1) := by decide +kernel
theorem dX5_take_95 : decode cX5_take 95 = .ok (.iload_n 1, 1) := by decide +kernel
theorem dX5_take_96 : decode cX5_take 96 = .ok (.ifCond .eq 42, 3) := by decide +kernel
theorem dX5_take_99 : decode cX5_take 99 = .ok (.aload_n 0, 1) := by decide +kernel
theorem dX5_take_100 : decode cX5_take 100 = .ok (.getfield 19, 3) := by decide +kernel
theorem dX5_take_103 : decode cX5_take 103 = .ok (.aload_n 0, 1) := by decide +kernel
theorem dX5_take_104 : decode cX5_take 104 = .ok (.getfield 15, 3) := by decide +kernel
theorem dX5_take_107 : decode cX5_take 107 = .ok (.if_icmp .ge 31, 3) := by decide +kernel
theorem dX5_take_110 : decode cX5_take 110 = .ok (.aload_n 0, 1) := by decide +kernel
theorem dX5_take_111 : decode cX5_take 111 = .ok (.aload_n 0, 1) := by decide +kernel
theorem dX5_take_112 : decode cX5_take 112 = .ok (.getfield 19, 3) := by decide +kernel
theorem dX5_take_115 : decode cX5_take 115 = .ok (.invokevirtual 112, 3) := by decide +kernel
theorem dX5_take_118 : decode cX5_take 118 = .ok (.aload_n 0, 1) := by decide +kernel
theorem dX5_take_119 : decode cX5_take 119 = .ok (.getfield 25, 3) := by decide +kernel
theorem dX5_take_122 : decode cX5_take 122 = .ok (.if_icmp .ne 16, 3) := by decide +kernel
theorem dX5_take_125 : decode cX5_take 125 = .ok (.aload_n 0, 1) := by decide +kernel
theorem dX5_take_126 : decode cX5_take 126 = .ok (.dup, 1) := by decide +kernel
theorem dX5_take_127 : decode cX5_take 127 = .ok (.getfield 19, 3) := by decide +kernel
theorem dX5_take_130 : decode cX5_take 130 = .ok (.iconst 1, 1) := by decide +kernel
theorem dX5_take_131 : decode cX5_take 131 = .ok (.iadd, 1) := by decide +kernel
theorem dX5_take_132 : decode cX5_take 132 = .ok (.putfield 19, 3) := by decide +kernel
theorem dX5_take_135 : decode cX5_take 135 = .ok (.goto (-40), 3) := by decide +kernel
theorem dX5_take_138 : decode cX5_take 138 = .ok (.aload_n 0, 1) := by decide +kernel
theorem dX5_take_139 : decode cX5_take 139 = .ok (.getfield 25, 3) := by decide +kernel
theorem dX5_take_142 : decode cX5_take 142 = .ok (.iconst 2, 1) := by decide +kernel
theorem dX5_take_143 : decode cX5_take 143 = .ok (.if_icmp .ne 7, 3) := by decide +kernel
theorem dX5_take_146 : decode cX5_take 146 = .ok (.aload_n 0, 1) := by decide +kernel
theorem dX5_take_147 : decode cX5_take 147 = .ok (.invokevirtual 121, 3) := by decide +kernel
theorem dX5_take_150 : decode cX5_take 150 = .ok (.return_, 1) := by decide +kernel
theorem dX5_takeWorth_0 : decode cX5_takeWorth 0 = .ok (.aload_n 0, 1) := by decide +kernel
theorem dX5_takeWorth_1 : decode cX5_takeWorth 1 = .ok (.iconst 0, 1) := by decide +kernel
theorem dX5_takeWorth_2 : decode cX5_takeWorth 2 = .ok (.putfield 59, 3) := by decide +kernel
theorem dX5_takeWorth_5 : decode cX5_takeWorth 5 = .ok (.aload_n 0, 1) := by decide +kernel
theorem dX5_takeWorth_6 : decode cX5_takeWorth 6 = .ok (.getfield 109, 3) := by decide +kernel
theorem dX5_takeWorth_9 : decode cX5_takeWorth 9 = .ok (.istore_n 1, 1) := by decide +kernel
theorem dX5_takeWorth_10 : decode cX5_takeWorth 10 = .ok (.iload_n 1, 1) := by decide +kernel
theorem dX5_takeWorth_11 : decode cX5_takeWorth 11 = .ok (.aload_n 0, 1) := by decide +kernel
theorem dX5_takeWorth_12 : decode cX5_takeWorth 12 = .ok (.getfield 19, 3) := by decide +kernel
theorem dX5_takeWorth_15 : decode cX5_takeWorth 15 = .ok (.if_icmp .ge 40, 3) := by decide +kernel
theorem dX5_takeWorth_18 : decode cX5_takeWorth 18 = .ok (.iload_n 1, 1) := by decide +kernel
theorem dX5_takeWorth_19 : decode cX5_takeWorth 19 = .ok (.aload_n 0, 1) := by decide +kernel
theorem dX5_takeWorth_20 : decode cX5_takeWorth 20 = .ok (.getfield 109, 3) := by decide +kernel
theorem dX5_takeWorth_23 : decode cX5_takeWorth 23 = .ok (.iconst 4, 1) := by decide +kernel
theorem dX5_takeWorth_24 : decode cX5_takeWorth 24 = .ok (.iadd, 1) := by decide +kernel
theorem dX5_takeWorth_25 : decode cX5_takeWorth 25 = .ok (.if_icmp .ge 30, 3) := by decide +kernel
theorem dX5_takeWorth_28 : decode cX5_takeWorth 28 = .ok (.aload_n 0, 1) := by decide +kernel
theorem dX5_takeWorth_29 : decode cX5_takeWorth 29 = .ok (.bipush 10, 2) := by decide +kernel
theorem dX5_takeWorth_31 : decode cX5_takeWorth 31 = .ok (.aload_n 0, 1) := by decide +kernel
theorem dX5_takeWorth_32 : decode cX5_takeWorth 32 = .ok (.getfield 59, 3) := by decide +kernel
theorem dX5_takeWorth_35 : decode cX5_takeWorth 35 = .ok (.imul, 1) := by decide +kernel
theorem dX5_takeWorth_36 : decode cX5_takeWorth 36 = .ok (.aload_n 0, 1) := by decide +kernel
theorem dX5_takeWorth_37 : decode cX5_takeWorth 37 = .ok (.getfield 11, 3) := by decide +kernel
theorem dX5_takeWorth_40 : decode cX5_takeWorth 40 = .ok (.iload_n 1, 1) := by decide +kernel
theorem dX5_takeWorth_41 : decode cX5_takeWorth 41 = .ok (.baload, 1) := by decide +kernel
theorem dX5_takeWorth_42 : decode cX5_takeWorth 42 = .ok (.iadd, 1) := by decide +kernel
theorem dX5_takeWorth_43 : decode cX5_takeWorth 43 = .ok (.bipush 48, 2) := by decide +kernel
theorem dX5_takeWorth_45 : decode cX5_takeWorth 45 = .ok (.isub, 1) := by decide +kernel
theorem dX5_takeWorth_46 : decode cX5_takeWorth 46 = .ok (.putfield 59, 3) := by decide +kernel
theorem dX5_takeWorth_49 : decode cX5_takeWorth 49 = .ok (.iinc 1 1, 3) := by decide +kernel
theorem dX5_takeWorth_52 : decode cX5_takeWorth 52 = .ok (.goto (-42), 3) := by decide +kernel
theorem dX5_takeWorth_55 : decode cX5_takeWorth 55 = .ok (.aload_n 0, 1) := by decide +kernel
theorem dX5_takeWorth_56 : decode cX5_takeWorth 56 = .ok (.getfield 19, 3) := by decide +kernel
theorem dX5_takeWorth_59 : decode cX5_takeWorth 59 = .ok (.aload_n 0, 1) := by decide +kernel
theorem dX5_takeWorth_60 : decode cX5_takeWorth 60 = .ok (.getfield 109, 3) := by decide +kernel
theorem dX5_takeWorth_63 : decode cX5_takeWorth 63 = .ok (.isub, 1) := by decide +kernel
theorem dX5_takeWorth_64 : decode cX5_takeWorth 64 = .ok (.iconst 4, 1) := by decide +kernel
theorem dX5_takeWorth_65 : decode cX5_takeWorth 65 = .ok (.if_icmp .le 8, 3) := by decide +kernel
theorem dX5_takeWorth_68 : decode cX5_takeWorth 68 = .ok (.aload_n 0, 1) := by decide +kernel
theorem dX5_takeWorth_69 : decode cX5_takeWorth 69 = .ok (.iconst 5, 1) := by decide +kernel
theorem dX5_takeWorth_70 : decode cX5_takeWorth 70 = .ok (.putfield 25, 3) := by decide +kernel
theorem dX5_takeWorth_73 : decode cX5_takeWorth 73 = .ok (.return_, 1) := by decide +kernel
theorem dX5_sortAt_0 : decode cX5_sortAt 0 = .ok (.iload_n 1, 1) := by decide +kernel
theorem dX5_sortAt_1 : decode cX5_sortAt 1 = .ok (.ifCond .lt 11, 3) := by decide +kernel
theorem dX5_sortAt_4 : decode cX5_sortAt 4 = .ok (.iload_n 1, 1) := by decide +kernel
theorem dX5_sortAt_5 : decode cX5_sortAt 5 = .ok (.aload_n 0, 1) := by decide +kernel
theorem dX5_sortAt_6 : decode cX5_sortAt 6 = .ok (.getfield 15, 3) := by decide +kernel
theorem dX5_sortAt_9 : decode cX5_sortAt 9 = .ok (.if_icmp .lt 5, 3) := by decide +kernel
theorem dX5_sortAt_12 : decode cX5_sortAt 12 = .ok (.iconst 0, 1) := by decide +kernel
theorem dX5_sortAt_13 : decode cX5_sortAt 13 = .ok (.ireturn, 1) := by decide +kernel
theorem dX5_sortAt_14 : decode cX5_sortAt 14 = .ok (.aload_n 0, 1) := by decide +kernel
theorem dX5_sortAt_15 : decode cX5_sortAt 15 = .ok (.getfield 11, 3) := by decide +kernel
theorem dX5_sortAt_18 : decode cX5_sortAt 18 = .ok (.iload_n 1, 1) := by decide +kernel
theorem dX5_sortAt_19 : decode cX5_sortAt 19 = .ok (.baload, 1) := by decide +kernel
theorem dX5_sortAt_20 : decode cX5_sortAt 20 = .ok (.istore_n 2, 1) := by decide +kernel
theorem dX5_sortAt_21 : decode cX5_sortAt 21 = .ok (.iload_n 2, 1) := by decide +kernel
theorem dX5_sortAt_22 : decode cX5_sortAt 22 = .ok (.bipush 32, 2) := by decide +kernel
theorem dX5_sortAt_24 : decode cX5_sortAt 24 = .ok (.if_icmp .eq 9, 3) := by decide +kernel
theorem dX5_sortAt_27 : decode cX5_sortAt 27 = .ok (.iload_n 2, 1) := by decide +kernel
theorem dX5_sortAt_28 : decode cX5_sortAt 28 = .ok (.bipush 10, 2) := by decide +kernel
theorem dX5_sortAt_30 : decode cX5_sortAt 30 = .ok (.if_icmp .ne 5, 3) := by decide +kernel
theorem dX5_sortAt_33 : decode cX5_sortAt 33 = .ok (.iconst 4, 1) := by decide +kernel
theorem dX5_sortAt_34 : decode cX5_sortAt 34 = .ok (.ireturn, 1) := by decide +kernel
theorem dX5_sortAt_35 : decode cX5_sortAt 35 = .ok (.iload_n 2, 1) := by decide +kernel
theorem dX5_sortAt_36 : decode cX5_sortAt 36 = .ok (.bipush 97, 2) := by decide +kernel
theorem dX5_sortAt_38 : decode cX5_sortAt 38 = .ok (.if_icmp .lt 11, 3) := by decide +kernel
theorem dX5_sortAt_41 : decode cX5_sortAt 41 = .ok (.iload_n 2, 1) := by decide +kernel
theorem dX5_sortAt_42 : decode cX5_sortAt 42 = .ok (.bipush 122, 2) := by decide +kernel
theorem dX5_sortAt_44 : decode cX5_sortAt 44 = .ok (.if_icmp .gt 5, 3) := by decide +kernel
theorem dX5_sortAt_47 : decode cX5_sortAt 47 = .ok (.iconst 1, 1) := by decide +kernel
theorem dX5_sortAt_48 : decode cX5_sortAt 48 = .ok (.ireturn, 1) := by decide +kernel
theorem dX5_sortAt_49 : decode cX5_sortAt 49 = .ok (.iload_n 2, 1) := by decide +kernel
theorem dX5_sortAt_50 : decode cX5_sortAt 50 = .ok (.bipush 48, 2) := by decide +kernel
theorem dX5_sortAt_52 : decode cX5_sortAt 52 = .ok (.if_icmp .lt 11, 3) := by decide +kernel
theorem dX5_sortAt_55 : decode cX5_sortAt 55 = .ok (.iload_n 2, 1) := by decide +kernel
theorem dX5_sortAt_56 : decode cX5_sortAt 56 = .ok (.bipush 57, 2) := by decide +kernel
theorem dX5_sortAt_58 : decode cX5_sortAt 58 = .ok (.if_icmp .gt 5, 3) := by decide +kernel
theorem dX5_sortAt_61 : decode cX5_sortAt 61 = .ok (.iconst 2, 1) := by decide +kernel
theorem dX5_sortAt_62 : decode cX5_sortAt 62 = .ok (.ireturn, 1) := by decide +kernel
theorem dX5_sortAt_63 : decode cX5_sortAt 63 = .ok (.iload_n 2, 1) := by decide +kernel
theorem dX5_sortAt_64 : decode cX5_sortAt 64 = .ok (.bipush 59, 2) := by decide +kernel
theorem dX5_sortAt_66 : decode cX5_sortAt 66 = .ok (.if_icmp .ne 7, 3) := by decide +kernel
theorem dX5_sortAt_69 : decode cX5_sortAt 69 = .ok (.iconst 3, 1) := by decide +kernel
theorem dX5_sortAt_70 : decode cX5_sortAt 70 = .ok (.goto 4, 3) := by decide +kernel
theorem dX5_sortAt_73 : decode cX5_sortAt 73 = .ok (.iconst 5, 1) := by decide +kernel
theorem dX5_sortAt_74 : decode cX5_sortAt 74 = .ok (.ireturn, 1) := by decide +kernel
theorem dX5_isWord_0 : decode cX5_isWord 0 = .ok (.aload_n 0, 1) := by decide +kernel
theorem dX5_isWord_1 : decode cX5_isWord 1 = .ok (.getfield 25, 3) := by decide +kernel
theorem dX5_isWord_4 : decode cX5_isWord 4 = .ok (.iconst 1, 1) := by decide +kernel
theorem dX5_isWord_5 : decode cX5_isWord 5 = .ok (.if_icmp .ne 19, 3) := by decide +kernel
theorem dX5_isWord_8 : decode cX5_isWord 8 = .ok (.aload_n 0, 1) := by decide +kernel
theorem dX5_isWord_9 : decode cX5_isWord 9 = .ok (.getfield 19, 3) := by decide +kernel
theorem dX5_isWord_12 : decode cX5_isWord 12 = .ok (.aload_n 0, 1) := by decide +kernel
theorem dX5_isWord_13 : decode cX5_isWord 13 = .ok (.getfield 109, 3) := by decide +kernel
theorem dX5_isWord_16 : decode cX5_isWord 16 = .ok (.isub, 1) := by decide +kernel
theorem dX5_isWord_17 : decode cX5_isWord 17 = .ok (.aload_n 1, 1) := by decide +kernel
theorem dX5_isWord_18 : decode cX5_isWord 18 = .ok (.invokevirtual 124, 3) := by decide +kernel
theorem dX5_isWord_21 : decode cX5_isWord 21 = .ok (.if_icmp .eq 5, 3) := by decide +kernel
theorem dX5_isWord_24 : decode cX5_isWord 24 = .ok (.iconst 0, 1) := by decide +kernel
theorem dX5_isWord_25 : decode cX5_isWord 25 = .ok (.ireturn, 1) := by decide +kernel
theorem dX5_isWord_26 : decode cX5_isWord 26 = .ok (.iconst 0, 1) := by decide +kernel
theorem dX5_isWord_27 : decode cX5_isWord 27 = .ok (.istore_n 2, 1) := by decide +kernel
theorem dX5_isWord_28 : decode cX5_isWord 28 = .ok (.iload_n 2, 1) := by decide +kernel
theorem dX5_isWord_29 : decode cX5_isWord 29 = .ok (.aload_n 1, 1) := by decide +kernel
theorem dX5_isWord_30 : decode cX5_isWord 30 = .ok (.invokevirtual 124, 3) := by decide +kernel
theorem dX5_isWord_33 : decode cX5_isWord 33 = .ok (.if_icmp .ge 30, 3) := by decide +kernel
theorem dX5_isWord_36 : decode cX5_isWord 36 = .ok (.aload_n 0, 1) := by decide +kernel
theorem dX5_isWord_37 : decode cX5_isWord 37 = .ok (.getfield 11, 3) := by decide +kernel
theorem dX5_isWord_40 : decode cX5_isWord 40 = .ok (.aload_n 0, 1) := by decide +kernel
theorem dX5_isWord_41 : decode cX5_isWord 41 = .ok (.getfield 109, 3) := by decide +kernel
theorem dX5_isWord_44 : decode cX5_isWord 44 = .ok (.iload_n 2, 1) := by decide +kernel
theorem dX5_isWord_45 : decode cX5_isWord 45 = .ok (.iadd, 1) := by decide +kernel
theorem dX5_isWord_46 : decode cX5_isWord 46 = .ok (.baload, 1) := by decide +kernel
theorem dX5_isWord_47 : decode cX5_isWord 47 = .ok (.aload_n 1, 1) := by decide +kernel
theorem dX5_isWord_48 : decode cX5_isWord 48 = .ok (.iload_n 2, 1) := by decide +kernel
theorem dX5_isWord_49 : decode cX5_isWord 49 = .ok (.invokevirtual 128, 3) := by decide +kernel
theorem dX5_isWord_52 : decode cX5_isWord 52 = .ok (.if_icmp .eq 5, 3) := by decide +kernel
theorem dX5_isWord_55 : decode cX5_isWord 55 = .ok (.iconst 0, 1) := by decide +kernel
theorem dX5_isWord_56 : decode cX5_isWord 56 = .ok (.ireturn, 1) := by decide +kernel
theorem dX5_isWord_57 : decode cX5_isWord 57 = .ok (.iinc 2 1, 3) := by decide +kernel
theorem dX5_isWord_60 : decode cX5_isWord 60 = .ok (.goto (-32), 3) := by decide +kernel
theorem dX5_isWord_63 : decode cX5_isWord 63 = .ok (.iconst 1, 1) := by decide +kernel
theorem dX5_isWord_64 : decode cX5_isWord 64 = .ok (.ireturn, 1) := by decide +kernel
theorem dX6_init_0 : decode cX6_init 0 = .ok (.aload_n 0, 1) := by decide +kernel
theorem dX6_init_1 : decode cX6_init 1 = .ok (.invokespecial 3, 3) := by decide +kernel
theorem dX6_init_4 : decode cX6_init 4 = .ok (.aload_n 0, 1) := by decide +kernel
theorem dX6_init_5 : decode cX6_init 5 = .ok (.iconst 3, 1) := by decide +kernel
theorem dX6_init_6 : decode cX6_init 6 = .ok (.newarray .int, 2) := by decide +kernel
theorem dX6_init_8 : decode cX6_init 8 = .ok (.putfield 11, 3) := by decide +kernel
theorem dX6_init_11 : decode cX6_init 11 = .ok (.aload_n 0, 1) := by decide +kernel
theorem dX6_init_12 : decode cX6_init 12 = .ok (.iconst 3, 1) := by decide +kernel
theorem dX6_init_13 : decode cX6_init 13 = .ok (.newarray .int, 2) := by decide +kernel
theorem dX6_init_15 : decode cX6_init 15 = .ok (.putfield 15, 3) := by decide +kernel
theorem dX6_init_18 : decode cX6_init 18 = .ok (.aload_n 0, 1) := by decide +kernel
theorem dX6_init_19 : decode cX6_init 19 = .ok (.iconst 3, 1) := by decide +kernel
theorem dX6_init_20 : decode cX6_init 20 = .ok (.newarray .int, 2) := by decide +kernel
theorem dX6_init_22 : decode cX6_init 22 = .ok (.putfield 18, 3) := by decide +kernel
theorem dX6_init_25 : decode cX6_init 25 = .ok (.aload_n 0, 1) := by decide +kernel
theorem dX6_init_26 : decode cX6_init 26 = .ok (.iconst 3, 1) := by decide +kernel
theorem dX6_init_27 : decode cX6_init 27 = .ok (.newarray .int, 2) := by decide +kernel
theorem dX6_init_29 : decode cX6_init 29 = .ok (.putfield 21, 3) := by decide +kernel
theorem dX6_init_32 : decode cX6_init 32 = .ok (.aload_n 0, 1) := by decide +kernel
theorem dX6_init_33 : decode cX6_init 33 = .ok (.iconst 3, 1) := by decide +kernel
theorem dX6_init_34 : decode cX6_init 34 = .ok (.newarray .int, 2) := by decide +kernel
theorem dX6_init_36 : decode cX6_init 36 = .ok (.putfield 24, 3) := by decide +kernel
theorem dX6_init_39 : decode cX6_init 39 = .ok (.aload_n 0, 1) := by decide +kernel
theorem dX6_init_40 : decode cX6_init 40 = .ok (.new 27, 3) := by decide +kernel
theorem dX6_init_43 : decode cX6_init 43 = .ok (.dup, 1) := by decide +kernel
theorem dX6_init_44 : decode cX6_init 44 = .ok (.invokespecial 29, 3) := by decide +kernel
theorem dX6_init_47 : decode cX6_init 47 = .ok (.putfield 30, 3) := by decide +kernel
theorem dX6_init_50 : decode cX6_init 50 = .ok (.iconst 0, 1) := by decide +kernel
theorem dX6_init_51 : decode cX6_init 51 = .ok (.istore_n 1, 1) := by decide +kernel
theorem dX6_init_52 : decode cX6_init 52 = .ok (.iload_n 1, 1) := by decide +kernel
theorem dX6_init_53 : decode cX6_init 53 = .ok (.iconst 3, 1) := by decide +kernel
theorem dX6_init_54 : decode cX6_init 54 = .ok (.if_icmp .ge 17, 3) := by decide +kernel
theorem dX6_init_57 : decode cX6_init 57 = .ok (.aload_n 0, 1) := by decide +kernel
theorem dX6_init_58 : decode cX6_init 58 = .ok (.getfield 24, 3) := by decide +kernel
theorem dX6_init_61 : decode cX6_init 61 = .ok (.iload_n 1, 1) := by decide +kernel
theorem dX6_init_62 : decode cX6_init 62 = .ok (.bipush 100, 2) := by decide +kernel
theorem dX6_init_64 : decode cX6_init 64 = .ok (.iastore, 1) := by decide +kernel
theorem dX6_init_65 : decode cX6_init 65 = .ok (.iinc 1 1, 3) := by decide +kernel
theorem dX6_init_68 : decode cX6_init 68 = .ok (.goto (-16), 3) := by decide +kernel
theorem dX6_init_71 : decode cX6_init 71 = .ok (.return_, 1) := by decide +kernel
theorem dX6_isPlace_0 : decode cX6_isPlace 0 = .ok (.iload_n 1, 1) := by decide +kernel
theorem dX6_isPlace_1 : decode cX6_isPlace 1 = .ok (.ifCond .lt 15, 3) := by decide +kernel
theorem dX6_isPlace_4 : decode cX6_isPlace 4 = .ok (.iload_n 1, 1) := by decide +kernel
theorem dX6_isPlace_5 : decode cX6_isPlace 5 = .ok (.aload_n 0, 1) := by decide +kernel
theorem dX6_isPlace_6 : decode cX6_isPlace 6 = .ok (.getfield 34, 3) := by decide +kernel
theorem dX6_isPlace_9 : decode cX6_isPlace 9 = .ok (.if_icmp .ge 7, 3) := by decide +kernel
theorem dX6_isPlace_12 : decode cX6_isPlace 12 = .ok (.iconst 1, 1) := by decide +kernel
theorem dX6_isPlace_13 : decode cX6_isPlace 13 = .ok (.goto 4, 3) := by decide +kernel
theorem dX6_isPlace_16 : decode cX6_isPlace 16 = .ok (.iconst 0, 1) := by decide +kernel
theorem dX6_isPlace_17 : decode cX6_isPlace 17 = .ok (.ireturn, 1) := by decide +kernel
theorem dX6_isFull_0 : decode cX6_isFull 0 = .ok (.aload_n 0, 1) := by decide +kernel
theorem dX6_isFull_1 : decode cX6_isFull 1 = .ok (.getfield 34, 3) := by decide +kernel
theorem dX6_isFull_4 : decode cX6_isFull 4 = .ok (.iconst 3, 1) := by decide +kernel
theorem dX6_isFull_5 : decode cX6_isFull 5 = .ok (.if_icmp .lt 7, 3) := by decide +kernel
theorem dX6_isFull_8 : decode cX6_isFull 8 = .ok (.iconst 1, 1) := by decide +kernel
theorem dX6_isFull_9 : decode cX6_isFull 9 = .ok (.goto 4, 3) := by decide +kernel
theorem dX6_isFull_12 : decode cX6_isFull 12 = .ok (.iconst 0, 1) := by decide +kernel
theorem dX6_isFull_13 : decode cX6_isFull 13 = .ok (.ireturn, 1) := by decide +kernel
theorem dX6_has_0 : decode cX6_has 0 = .ok (.iconst 0, 1) := by decide +kernel
theorem dX6_has_1 : decode cX6_has 1 = .ok (.istore_n 2, 1) := by decide +kernel
theorem dX6_has_2 : decode cX6_has 2 = .ok (.iload_n 2, 1) := by decide +kernel
theorem dX6_has_3 : decode cX6_has 3 = .ok (.aload_n 0, 1) := by decide +kernel
theorem dX6_has_4 : decode cX6_has 4 = .ok (.getfield 34, 3) := by decide +kernel
theorem dX6_has_7 : decode cX6_has 7 = .ok (.if_icmp .ge 21, 3) := by decide +kernel
theorem dX6_has_10 : decode cX6_has 10 = .ok (.aload_n 0, 1) := by decide +kernel
theorem dX6_has_11 : decode cX6_has 11 = .ok (.getfield 11, 3) := by decide +kernel
theorem dX6_has_14 : decode cX6_has 14 = .ok (.iload_n 2, 1) := by decide +kernel
theorem dX6_has_15 : decode cX6_has 15 = .ok (.iaload, 1) := by decide +kernel
theorem dX6_has_16 : decode cX6_has 16 = .ok (.iload_n 1, 1) := by decide +kernel
theorem dX6_has_17 : decode cX6_has 17 = .ok (.if_icmp .ne 5, 3) := by decide +kernel
theorem dX6_has_20 : decode cX6_has 20 = .ok (.iconst 1, 1) := by decide +kernel
theorem dX6_has_21 : decode cX6_has 21 = .ok (.ireturn, 1) := by decide +kernel
theorem dX6_has_22 : decode cX6_has 22 = .ok (.iinc 2 1, 3) := by decide +kernel
theorem dX6_has_25 : decode cX6_has 25 = .ok (.goto (-23), 3) := by decide +kernel
theorem dX6_has_28 : decode cX6_has 28 = .ok (.iconst 0, 1) := by decide +kernel
theorem dX6_has_29 : decode cX6_has 29 = .ok (.ireturn, 1) := by decide +kernel
theorem dX6_add_0 : decode cX6_add 0 = .ok (.aload_n 0, 1) := by decide +kernel
theorem dX6_add_1 : decode cX6_add 1 = .ok (.getfield 34, 3) := by decide +kernel
theorem dX6_add_4 : decode cX6_add 4 = .ok (.iconst 3, 1) := by decide +kernel
theorem dX6_add_5 : decode cX6_add 5 = .ok (.if_icmp .lt 8, 3) := by decide +kernel
theorem dX6_add_8 : decode cX6_add 8 = .ok (.aload_n 0, 1) := by decide +kernel
theorem dX6_add_9 : decode cX6_add 9 = .ok (.getfield 34, 3) := by decide +kernel
theorem dX6_add_12 : decode cX6_add 12 = .ok (.ireturn, 1) := by decide +kernel
theorem dX6_add_13 : decode cX6_add 13 = .ok (.aload_n 0, 1) := by decide +kernel
theorem dX6_add_14 : decode cX6_add 14 = .ok (.getfield 11, 3) := by decide +kernel
theorem dX6_add_17 : decode cX6_add 17 = .ok (.aload_n 0, 1) := by decide +kernel
theorem dX6_add_18 : decode cX6_add 18 = .ok (.getfield 34, 3) := by decide +kernel
theorem dX6_add_21 : decode cX6_add 21 = .ok (.iload_n 1, 1) := by decide +kernel
theorem dX6_add_22 : decode cX6_add 22 = .ok (.iastore, 1) := by decide +kernel
theorem dX6_add_23 : decode cX6_add 23 = .ok (.aload_n 0, 1) := by decide +kernel
theorem dX6_add_24 : decode cX6_add 24 = .ok (.getfield 15, 3) := by decide +kernel
theorem dX6_add_27 : decode cX6_add 27 = .ok (.aload_n 0, 1) := by decide +kernel
theorem dX6_add_28 : decode cX6_add 28 = .ok (.getfield 34, 3) := by decide +kernel
theorem dX6_add_31 : decode cX6_add 31 = .ok (.iload_n 2, 1) := by decide +kernel
theorem dX6_add_32 : decode cX6_add 32 = .ok (.iastore, 1) := by decide +kernel
theorem dX6_add_33 : decode cX6_add 33 = .ok (.aload_n 0, 1) := by decide +kernel
theorem dX6_add_34 : decode cX6_add 34 = .ok (.getfield 18, 3) := by decide +kernel
theorem dX6_add_37 : decode cX6_add 37 = .ok (.aload_n 0, 1) := by decide +kernel
theorem dX6_add_38 : decode cX6_add 38 = .ok (.getfield 34, 3) := by decide +kernel
theorem dX6_add_41 : decode cX6_add 41 = .ok (.iload_n 3, 1) := by decide +kernel
theorem dX6_add_42 : decode cX6_add 42 = .ok (.iastore, 1) := by decide +kernel
theorem dX6_add_43 : decode cX6_add 43 = .ok (.aload_n 0, 1) := by decide +kernel
theorem dX6_add_44 : decode cX6_add 44 = .ok (.dup, 1) := by decide +kernel
theorem dX6_add_45 : decode cX6_add 45 = .ok (.getfield 34, 3) := by decide +kernel
theorem dX6_add_48 : decode cX6_add 48 = .ok (.iconst 1, 1) := by decide +kernel
theorem dX6_add_49 : decode cX6_add 49 = .ok (.iadd, 1) := by decide +kernel
theorem dX6_add_50 : decode cX6_add 50 = .ok (.putfield 34, 3) := by decide +kernel
theorem dX6_add_53 : decode cX6_add 53 = .ok (.aload_n 0, 1) := by decide +kernel
theorem dX6_add_54 : decode cX6_add 54 = .ok (.getfield 34, 3) := by decide +kernel
theorem dX6_add_57 : decode cX6_add 57 = .ok (.ireturn, 1) := by decide +kernel
theorem dX6_tellPair_0 : decode cX6_tellPair 0 = .ok (.aload_n 0, 1) := by decide +kernel
theorem dX6_tellPair_1 : decode cX6_tellPair 1 = .ok (.getfield 21, 3) := by decide +kernel
theorem dX6_tellPair_4 : decode cX6_tellPair 4 = .ok (.iload_n 1, 1) := by decide +kernel
theorem dX6_tellPair_5 : decode cX6_tellPair 5 = .ok (.iload_n 2, 1) := by decide +kernel
theorem dX6_tellPair_6 : decode cX6_tellPair 6 = .ok (.iadd, 1) := by decide +kernel
theorem dX6_tellPair_7 : decode cX6_tellPair 7 = .ok (.iconst 1, 1) := by decide +kernel
theorem dX6_tellPair_8 : decode cX6_tellPair 8 = .ok (.isub, 1) := by decide +kernel
theorem dX6_tellPair_9 : decode cX6_tellPair 9 = .ok (.iload_n 3, 1) := by decide +kernel
theorem dX6_tellPair_10 : decode cX6_tellPair 10 = .ok (.iastore, 1) := by decide +kernel
theorem dX6_tellPair_11 : decode cX6_tellPair 11 = .ok (.aload_n 0, 1) := by decide +kernel
theorem dX6_tellPair_12 : decode cX6_tellPair 12 = .ok (.getfield 24, 3) := by decide +kernel
theorem dX6_tellPair_15 : decode cX6_tellPair 15 = .ok (.iload_n 1, 1) := by decide +kernel
theorem dX6_tellPair_16 : decode cX6_tellPair 16 = .ok (.iload_n 2, 1) := by decide +kernel
theorem dX6_tellPair_17 : decode cX6_tellPair 17 = .ok (.iadd, 1) := by decide +kernel
theorem dX6_tellPair_18 : decode cX6_tellPair 18 = .ok (.iconst 1, 1) := by decide +kernel
theorem dX6_tellPair_19 : decode cX6_tellPair 19 = .ok (.isub, 1) := by decide +kernel
theorem dX6_tellPair_20 : decode cX6_tellPair 20 = .ok (.iload 4, 2) := by decide +kernel
theorem dX6_tellPair_22 : decode cX6_tellPair 22 = .ok (.iastore, 1) := by decide +kernel
theorem dX6_tellPair_23 : decode cX6_tellPair 23 = .ok (.return_, 1) := by decide +kernel
theorem dX6_clear_0 : decode cX6_clear 0 = .ok (.aload_n 0, 1) := by decide +kernel
theorem dX6_clear_1 : decode cX6_clear 1 = .ok (.getfield 34, 3) := by decide +kernel
theorem dX6_clear_4 : decode cX6_clear 4 = .ok (.istore_n 1, 1) := by decide +kernel
theorem dX6_clear_5 : decode cX6_clear 5 = .ok (.aload_n 0, 1) := by decide +kernel
theorem dX6_clear_6 : decode cX6_clear 6 = .ok (.iconst 0, 1) := by decide +kernel
theorem dX6_clear_7 : decode cX6_clear 7 = .ok (.putfield 34, 3) := by decide +kernel
theorem dX6_clear_10 : decode cX6_clear 10 = .ok (.iconst 0, 1) := by decide +kernel
theorem dX6_clear_11 : decode cX6_clear 11 = .ok (.istore_n 2, 1) := by decide +kernel
theorem dX6_clear_12 : decode cX6_clear 12 = .ok (.iload_n 2, 1) := by decide +kernel
theorem dX6_clear_13 : decode cX6_clear 13 = .ok (.iconst 3, 1) := by decide +kernel
theorem dX6_clear_14 : decode cX6_clear 14 = .ok (.if_icmp .ge 24, 3) := by decide +kernel
theorem dX6_clear_17 : decode cX6_clear 17 = .ok (.aload_n 0, 1) := by decide +kernel
theorem dX6_clear_18 : decode cX6_clear 18 = .ok (.getfield 21, 3) := by decide +kernel
theorem dX6_clear_21 : decode cX6_clear 21 = .ok (.iload_n 2, 1) := by decide +kernel
theorem dX6_clear_22 : decode cX6_clear 22 = .ok (.iconst 0, 1) := by decide +kernel
theorem dX6_clear_23 : decode cX6_clear 23 = .ok (.iastore, 1) := by decide +kernel
theorem dX6_clear_24 : decode cX6_clear 24 = .ok (.aload_n 0, 1) := by decide +kernel
theorem dX6_clear_25 : decode cX6_clear 25 = .ok (.getfield 24, 3) := by decide +kernel
theorem dX6_clear_28 : decode cX6_clear 28 = .ok (.iload_n 2, 1) := by decide +kernel
theorem dX6_clear_29 : decode cX6_clear 29 = .ok (.bipush 100, 2) := by decide +kernel
theorem dX6_clear_31 : decode cX6_clear 31 = .ok (.iastore, 1) := by decide +kernel
theorem dX6_clear_32 : decode cX6_clear 32 = .ok (.iinc 2 1, 3) := by decide +kernel
theorem dX6_clear_35 : decode cX6_clear 35 = .ok (.goto (-23), 3) := by decide +kernel
theorem dX6_clear_38 : decode cX6_clear 38 = .ok (.iload_n 1, 1) := by decide +kernel
theorem dX6_clear_39 : decode cX6_clear 39 = .ok (.ireturn, 1) := by decide +kernel
theorem dX6_allWorlds_0 : decode cX6_allWorlds 0 = .ok (.iconst 1, 1) := by decide +kernel
theorem dX6_allWorlds_1 : decode cX6_allWorlds 1 = .ok (.iconst 1, 1) := by decide +kernel
theorem dX6_allWorlds_2 : decode cX6_allWorlds 2 = .ok (.aload_n 0, 1) := by decide +kernel
theorem dX6_allWorlds_3 : decode cX6_allWorlds 3 = .ok (.getfield 34, 3) := by decide +kernel
theorem dX6_allWorlds_6 : decode cX6_allWorlds 6 = .ok (.ishl, 1) := by decide +kernel
theorem dX6_allWorlds_7 : decode cX6_allWorlds 7 = .ok (.ishl, 1) := by decide +kernel
theorem dX6_allWorlds_8 : decode cX6_allWorlds 8 = .ok (.iconst 1, 1) := by decide +kernel
theorem dX6_allWorlds_9 : decode cX6_allWorlds 9 = .ok (.isub, 1) := by decide +kernel
theorem dX6_allWorlds_10 : decode cX6_allWorlds 10 = .ok (.ireturn, 1) := by decide +kernel
theorem dX6_worldsShowing_0 : decode cX6_worldsShowing 0 = .ok (.aload_n 1, 1) := by decide +kernel
theorem dX6_worldsShowing_1 : decode cX6_worldsShowing 1 = .ok (.invokevirtual 38, 3) := by decide +kernel
theorem dX6_worldsShowing_4 : decode cX6_worldsShowing 4 = .ok (.istore_n 3, 1) := by decide +kernel
theorem dX6_worldsShowing_5 : decode cX6_worldsShowing 5 = .ok (.iconst 0, 1) := by decide +kernel
theorem dX6_worldsShowing_6 : decode cX6_worldsShowing 6 = .ok (.istore 4, 2) := by decide +kernel
theorem dX6_worldsShowing_8 : decode cX6_worldsShowing 8 = .ok (.iload 4, 2) := by decide +kernel
theorem dX6_worldsShowing_10 : decode cX6_worldsShowing 10 = .ok (.aload_n 0, 1) := by decide +kernel
theorem dX6_worldsShowing_11 : decode cX6_worldsShowing 11 = .ok (.getfield 34, 3) := by decide +kernel
theorem dX6_worldsShowing_14 : decode cX6_worldsShowing 14 = .ok (.if_icmp .ge 23, 3) := by decide +kernel
theorem dX6_worldsShowing_17 : decode cX6_worldsShowing 17 = .ok (.iload_n 3, 1) := by decide +kernel
theorem dX6_worldsShowing_18 : decode cX6_worldsShowing 18 = .ok (.iconst 1, 1) := by decide +kernel
theorem dX6_worldsShowing_19 : decode cX6_worldsShowing 19 = .ok (.aload_n 0, 1) := by decide +kernel
theorem dX6_worldsShowing_20 : decode cX6_worldsShowing 20 = .ok (.getfield 11, 3) := by decide +kernel
theorem dX6_worldsShowing_23 : decode cX6_worldsShowing 23 = .ok (.iload 4, 2) := by decide +kernel
theorem dX6_worldsShowing_25 : decode cX6_worldsShowing 25 = .ok (.iaload, 1) := by decide +kernel
theorem dX6_worldsShowing_26 : decode cX6_worldsShowing 26 = .ok (.ishl, 1) := by decide +kernel
theorem dX6_worldsShowing_27 : decode cX6_worldsShowing 27 = .ok (.iconst (-1), 1) := by decide +kernel
theorem dX6_worldsShowing_28 : decode cX6_worldsShowing 28 = .ok (.ixor, 1) := by decide +kernel
theorem dX6_worldsShowing_29 : decode cX6_worldsShowing 29 = .ok (.iand, 1) := by decide +kernel
theorem dX6_worldsShowing_30 : decode cX6_worldsShowing 30 = .ok (.istore_n 3, 1) := by decide +kernel
theorem dX6_worldsShowing_31 : decode cX6_worldsShowing 31 = .ok (.iinc 4 1, 3) := by decide +kernel
theorem dX6_worldsShowing_34 : decode cX6_worldsShowing 34 = .ok (.goto (-26), 3) := by decide +kernel
theorem dX6_worldsShowing_37 : decode cX6_worldsShowing 37 = .ok (.iconst 0, 1) := by decide +kernel
theorem dX6_worldsShowing_38 : decode cX6_worldsShowing 38 = .ok (.istore 4, 2) := by decide +kernel
theorem dX6_worldsShowing_40 : decode cX6_worldsShowing 40 = .ok (.iconst 0, 1) := by decide +kernel
theorem dX6_worldsShowing_41 : decode cX6_worldsShowing 41 = .ok (.istore 5, 2) := by decide +kernel
theorem dX6_worldsShowing_43 : decode cX6_worldsShowing 43 = .ok (.iload 5, 2) := by decide +kernel
theorem dX6_worldsShowing_45 : decode cX6_worldsShowing 45 = .ok (.iconst 1, 1) := by decide +kernel
theorem dX6_worldsShowing_46 : decode cX6_worldsShowing 46 = .ok (.aload_n 0, 1) := by decide +kernel
theorem dX6_worldsShowing_47 : decode cX6_worldsShowing 47 = .ok (.getfield 34, 3) := by decide +kernel
theorem dX6_worldsShowing_50 : decode cX6_worldsShowing 50 = .ok (.ishl, 1) := by decide +kernel
theorem dX6_worldsShowing_51 : decode cX6_worldsShowing 51 = .ok (.if_icmp .ge 69, 3) := by decide +kernel
theorem dX6_worldsShowing_54 : decode cX6_worldsShowing 54 = .ok (.iload_n 3, 1) := by decide +kernel
theorem dX6_worldsShowing_55 : decode cX6_worldsShowing 55 = .ok (.istore 6, 2) := by decide +kernel
theorem dX6_worldsShowing_57 : decode cX6_worldsShowing 57 = .ok (.iconst 0, 1) := by decide +kernel
theorem dX6_worldsShowing_58 : decode cX6_worldsShowing 58 = .ok (.istore 7, 2) := by decide +kernel
theorem dX6_worldsShowing_60 : decode cX6_worldsShowing 60 = .ok (.iload 7, 2) := by decide +kernel
theorem dX6_worldsShowing_62 : decode cX6_worldsShowing 62 = .ok (.aload_n 0, 1) := by decide +kernel
theorem dX6_worldsShowing_63 : decode cX6_worldsShowing 63 = .ok (.getfield 34, 3) := by decide +kernel
theorem dX6_worldsShowing_66 : decode cX6_worldsShowing 66 = .ok (.if_icmp .ge 29, 3) := by decide +kernel
theorem dX6_worldsShowing_69 : decode cX6_worldsShowing 69 = .ok (.iload 6, 2) := by decide +kernel
theorem dX6_worldsShowing_71 : decode cX6_worldsShowing 71 = .ok (.iload 5, 2) := by decide +kernel
theorem dX6_worldsShowing_73 : decode cX6_worldsShowing 73 = .ok (.iload 7, 2) := by decide +kernel
theorem dX6_worldsShowing_75 : decode cX6_worldsShowing 75 = .ok (.invokestatic 44, 3) := by decide +kernel
theorem dX6_worldsShowing_78 : decode cX6_worldsShowing 78 = .ok (.aload_n 0, 1) := by decide +kernel
theorem dX6_worldsShowing_79 : decode cX6_worldsShowing 79 = .ok (.getfield 11, 3) := by decide +kernel
theorem dX6_worldsShowing_82 : decode cX6_worldsShowing 82 = .ok (.iload 7, 2) := by decide +kernel
theorem dX6_worldsShowing_84 : decode cX6_worldsShowing 84 = .ok (.iaload, 1) := by decide +kernel
theorem dX6_worldsShowing_85 : decode cX6_worldsShowing 85 = .ok (.ishl, 1) := by decide +kernel
theorem dX6_worldsShowing_86 : decode cX6_worldsShowing 86 = .ok (.ior, 1) := by decide +kernel
theorem dX6_worldsShowing_87 : decode cX6_worldsShowing 87 = .ok (.istore 6, 2) := by decide +kernel
theorem dX6_worldsShowing_89 : decode cX6_worldsShowing 89 = .ok (.iinc 7 1, 3) := by decide +kernel
theorem dX6_worldsShowing_92 : decode cX6_worldsShowing 92 = .ok (.goto (-32), 3) := by decide +kernel
theorem dX6_worldsShowing_95 : decode cX6_worldsShowing 95 = .ok (.iload 4, 2) := by decide +kernel
theorem dX6_worldsShowing_97 : decode cX6_worldsShowing 97 = .ok (.aload_n 1, 1) := by decide +kernel
theorem dX6_worldsShowing_98 : decode cX6_worldsShowing 98 = .ok (.iload 6, 2) := by decide +kernel
theorem dX6_worldsShowing_100 : decode cX6_worldsShowing 100 = .ok (.iconst 0, 1) := by decide +kernel
theorem dX6_worldsShowing_101 : decode cX6_worldsShowing 101 = .ok (.invokevirtual 48, 3) := by decide +kernel
theorem dX6_worldsShowing_104 : decode cX6_worldsShowing 104 = .ok (.iload_n 2, 1) := by decide +kernel
theorem dX6_worldsShowing_105 : decode cX6_worldsShowing 105 = .ok (.invokestatic 44, 3) := by decide +kernel
theorem dX6_worldsShowing_108 : decode cX6_worldsShowing 108 = .ok (.iload 5, 2) := by decide +kernel
theorem dX6_worldsShowing_110 : decode cX6_worldsShowing 110 = .ok (.ishl, 1) := by decide +kernel
theorem dX6_worldsShowing_111 : decode cX6_worldsShowing 111 = .ok (.ior, 1) := by decide +kernel
theorem dX6_worldsShowing_112 : decode cX6_worldsShowing 112 = .ok (.istore 4, 2) := by decide +kernel
theorem dX6_worldsShowing_114 : decode cX6_worldsShowing 114 = .ok (.iinc 5 1, 3) := by decide +kernel
theorem dX6_worldsShowing_117 : decode cX6_worldsShowing 117 = .ok (.goto (-74), 3) := by decide +kernel
theorem dX6_worldsShowing_120 : decode cX6_worldsShowing 120 = .ok (.iload 4, 2) := by decide +kernel
theorem dX6_worldsShowing_122 : decode cX6_worldsShowing 122 = .ok (.ireturn, 1) := by decide +kernel
theorem dX6_findLeast_0 : decode cX6_findLeast 0 = .ok (.aload_n 0, 1) := by decide +kernel
theorem dX6_findLeast_1 : decode cX6_findLeast 1 = .ok (.getfield 30, 3) := by decide +kernel
theorem dX6_findLeast_4 : decode cX6_findLeast 4 = .ok (.iconst 1, 1) := by decide +kernel
theorem dX6_findLeast_5 : decode cX6_findLeast 5 = .ok (.aload_n 0, 1) := by decide +kernel
theorem dX6_findLeast_6 : decode cX6_findLeast 6 = .ok (.getfield 34, 3) := by decide +kernel
theorem dX6_findLeast_9 : decode cX6_findLeast 9 = .ok (.ishl, 1) := by decide +kernel
theorem dX6_findLeast_10 : decode cX6_findLeast 10 = .ok (.iload_n 1, 1) := by decide +kernel
theorem dX6_findLeast_11 : decode cX6_findLeast 11 = .ok (.invokevirtual 51, 3) := by decide +kernel
theorem dX6_findLeast_14 : decode cX6_findLeast 14 = .ok (.aload_n 0, 1) := by decide +kernel
theorem dX6_findLeast_15 : decode cX6_findLeast 15 = .ok (.getfield 30, 3) := by decide +kernel
theorem dX6_findLeast_18 : decode cX6_findLeast 18 = .ok (.aload_n 0, 1) := by decide +kernel
theorem dX6_findLeast_19 : decode cX6_findLeast 19 = .ok (.invokevirtual 55, 3) := by decide +kernel
theorem dX6_findLeast_22 : decode cX6_findLeast 22 = .ok (.iconst 1, 1) := by decide +kernel
theorem dX6_findLeast_23 : decode cX6_findLeast 23 = .ok (.bipush 100, 2) := by decide +kernel
theorem dX6_findLeast_25 : decode cX6_findLeast 25 = .ok (.invokevirtual 58, 3) := by decide +kernel
theorem dX6_findLeast_28 : decode cX6_findLeast 28 = .ok (.aload_n 0, 1) := by decide +kernel
theorem dX6_findLeast_29 : decode cX6_findLeast 29 = .ok (.getfield 30, 3) := by decide +kernel
theorem dX6_findLeast_32 : decode cX6_findLeast 32 = .ok (.aload_n 0, 1) := by decide +kernel
theorem dX6_findLeast_33 : decode cX6_findLeast 33 = .ok (.invokevirtual 55, 3) := by decide +kernel
theorem dX6_findLeast_36 : decode cX6_findLeast 36 = .ok (.iconst (-1), 1) := by decide +kernel
theorem dX6_findLeast_37 : decode cX6_findLeast 37 = .ok (.bipush (-100), 2) := by decide +kernel
theorem dX6_findLeast_39 : decode cX6_findLeast 39 = .ok (.invokevirtual 58, 3) := by decide +kernel
theorem dX6_findLeast_42 : decode cX6_findLeast 42 = .ok (.iconst 0, 1) := by decide +kernel
theorem dX6_findLeast_43 : decode cX6_findLeast 43 = .ok (.istore_n 2, 1) := by decide +kernel
theorem dX6_findLeast_44 : decode cX6_findLeast 44 = .ok (.iload_n 2, 1) := by decide +kernel
theorem dX6_findLeast_45 : decode cX6_findLeast 45 = .ok (.aload_n 0, 1) := by decide +kernel
theorem dX6_findLeast_46 : decode cX6_findLeast 46 = .ok (.getfield 34, 3) := by decide +kernel
theorem dX6_findLeast_49 : decode cX6_findLeast 49 = .ok (.if_icmp .ge 78, 3) := by decide +kernel
theorem dX6_findLeast_52 : decode cX6_findLeast 52 = .ok (.aload_n 0, 1) := by decide +kernel
theorem dX6_findLeast_53 : decode cX6_findLeast 53 = .ok (.getstatic 62, 3) := by decide +kernel
theorem dX6_findLeast_56 : decode cX6_findLeast 56 = .ok (.iload_n 2, 1) := by decide +kernel
theorem dX6_findLeast_57 : decode cX6_findLeast 57 = .ok (.iaload, 1) := by decide +kernel
theorem dX6_findLeast_58 : decode cX6_findLeast 58 = .ok (.aload_n 0, 1) := by decide +kernel
theorem dX6_findLeast_59 : decode cX6_findLeast 59 = .ok (.getfield 15, 3) := by decide +kernel
theorem dX6_findLeast_62 : decode cX6_findLeast 62 = .ok (.iload_n 2, 1) := by decide +kernel
theorem dX6_findLeast_63 : decode cX6_findLeast 63 = .ok (.iaload, 1) := by decide +kernel
theorem dX6_findLeast_64 : decode cX6_findLeast 64 = .ok (.aload_n 0, 1) := by decide +kernel
theorem dX6_findLeast_65 : decode cX6_findLeast 65 = .ok (.getfield 18, 3) := by decide +kernel
theorem dX6_findLeast_68 : decode cX6_findLeast 68 = .ok (.iload_n 2, 1) := by decide +kernel
theorem dX6_findLeast_69 : decode cX6_findLeast 69 = .ok (.iaload, 1) := by decide +kernel
theorem dX6_findLeast_70 : decode cX6_findLeast 70 = .ok (.invokevirtual 65, 3) := by decide +kernel
theorem dX6_findLeast_73 : decode cX6_findLeast 73 = .ok (.iconst 0, 1) := by decide +kernel
theorem dX6_findLeast_74 : decode cX6_findLeast 74 = .ok (.istore_n 3, 1) := by decide +kernel
theorem dX6_findLeast_75 : decode cX6_findLeast 75 = .ok (.iload_n 3, 1) := by decide +kernel
theorem dX6_findLeast_76 : decode cX6_findLeast 76 = .ok (.iload_n 2, 1) := by decide +kernel
theorem dX6_findLeast_77 : decode cX6_findLeast 77 = .ok (.if_icmp .ge 44, 3) := by decide +kernel
theorem dX6_findLeast_80 : decode cX6_findLeast 80 = .ok (.aload_n 0, 1) := by decide +kernel
theorem dX6_findLeast_81 : decode cX6_findLeast 81 = .ok (.getstatic 62, 3) := by decide +kernel
theorem dX6_findLeast_84 : decode cX6_findLeast 84 = .ok (.iload_n 2, 1) := by decide +kernel
theorem dX6_findLeast_85 : decode cX6_findLeast 85 = .ok (.iaload, 1) := by decide +kernel
theorem dX6_findLeast_86 : decode cX6_findLeast 86 = .ok (.getstatic 62, 3) := by decide +kernel
theorem dX6_findLeast_89 : decode cX6_findLeast 89 = .ok (.iload_n 3, 1) := by decide +kernel
theorem dX6_findLeast_90 : decode cX6_findLeast 90 = .ok (.iaload, 1) := by decide +kernel
theorem dX6_findLeast_91 : decode cX6_findLeast 91 = .ok (.iand, 1) := by decide +kernel
theorem dX6_findLeast_92 : decode cX6_findLeast 92 = .ok (.aload_n 0, 1) := by decide +kernel
theorem dX6_findLeast_93 : decode cX6_findLeast 93 = .ok (.getfield 21, 3) := by decide +kernel
theorem dX6_findLeast_96 : decode cX6_findLeast 96 = .ok (.iload_n 2, 1) := by decide +kernel
theorem dX6_findLeast_97 : decode cX6_findLeast 97 = .ok (.iload_n 3, 1) := by decide +kernel
theorem dX6_findLeast_98 : decode cX6_findLeast 98 = .ok (.iadd, 1) := by decide +kernel
theorem dX6_findLeast_99 : decode cX6_findLeast 99 = .ok (.iconst 1, 1) := by decide +kernel
theorem dX6_findLeast_100 : decode cX6_findLeast 100 = .ok (.isub, 1) := by decide +kernel
theorem dX6_findLeast_101 : decode cX6_findLeast 101 = .ok (.iaload, 1) := by decide +kernel
theorem dX6_findLeast_102 : decode cX6_findLeast 102 = .ok (.aload_n 0, 1) := by decide +kernel
theorem dX6_findLeast_103 : decode cX6_findLeast 103 = .ok (.getfield 24, 3) := by decide +kernel
theorem dX6_findLeast_106 : decode cX6_findLeast 106 = .ok (.iload_n 2, 1) := by decide +kernel
theorem dX6_findLeast_107 : decode cX6_findLeast 107 = .ok (.iload_n 3, 1) := by decide +kernel
theorem dX6_findLeast_108 : decode cX6_findLeast 108 = .ok (.iadd, 1) := by decide +kernel
theorem dX6_findLeast_109 : decode cX6_findLeast 109 = .ok (.iconst 1, 1) := by decide +kernel
theorem dX6_findLeast_110 : decode cX6_findLeast 110 = .ok (.isub, 1) := by decide +kernel
theorem dX6_findLeast_111 : decode cX6_findLeast 111 = .ok (.iaload, 1) := by decide +kernel
theorem dX6_findLeast_112 : decode cX6_findLeast 112 = .ok (.invokevirtual 65, 3) := by decide +kernel
theorem dX6_findLeast_115 : decode cX6_findLeast 115 = .ok (.iinc 3 1, 3) := by decide +kernel
theorem dX6_findLeast_118 : decode cX6_findLeast 118 = .ok (.goto (-43), 3) := by decide +kernel
theorem dX6_findLeast_121 : decode cX6_findLeast 121 = .ok (.iinc 2 1, 3) := by decide +kernel
theorem dX6_findLeast_124 : decode cX6_findLeast 124 = .ok (.goto (-80), 3) := by decide +kernel
theorem dX6_findLeast_127 : decode cX6_findLeast 127 = .ok (.aload_n 0, 1) := by decide +kernel
theorem dX6_findLeast_128 : decode cX6_findLeast 128 = .ok (.getfield 30, 3) := by decide +kernel
theorem dX6_findLeast_131 : decode cX6_findLeast 131 = .ok (.invokevirtual 68, 3) := by decide +kernel
theorem dX6_findLeast_134 : decode cX6_findLeast 134 = .ok (.ifCond .ne 5, 3) := by decide +kernel
theorem dX6_findLeast_137 : decode cX6_findLeast 137 = .ok (.iconst 0, 1) := by decide +kernel
theorem dX6_findLeast_138 : decode cX6_findLeast 138 = .ok (.ireturn, 1) := by decide +kernel
theorem dX6_findLeast_139 : decode cX6_findLeast 139 = .ok (.aload_n 0, 1) := by decide +kernel
theorem dX6_findLeast_140 : decode cX6_findLeast 140 = .ok (.aload_n 0, 1) := by decide +kernel
theorem dX6_findLeast_141 : decode cX6_findLeast 141 = .ok (.getfield 30, 3) := by decide +kernel
theorem dX6_findLeast_144 : decode cX6_findLeast 144 = .ok (.invokevirtual 72, 3) := by decide +kernel
theorem dX6_findLeast_147 : decode cX6_findLeast 147 = .ok (.ldc2_w 76, 3) := by decide +kernel
theorem dX6_findLeast_150 : decode cX6_findLeast 150 = .ok (.aload_n 0, 1) := by decide +kernel
theorem dX6_findLeast_151 : decode cX6_findLeast 151 = .ok (.getfield 30, 3) := by decide +kernel
theorem dX6_findLeast_154 : decode cX6_findLeast 154 = .ok (.getfield 78, 3) := by decide +kernel
theorem dX6_findLeast_157 : decode cX6_findLeast 157 = .ok (.lmul, 1) := by decide +kernel
theorem dX6_findLeast_158 : decode cX6_findLeast 158 = .ok (.invokevirtual 82, 3) := by decide +kernel
theorem dX6_findLeast_161 : decode cX6_findLeast 161 = .ok (.iconst 1, 1) := by decide +kernel
theorem dX6_findLeast_162 : decode cX6_findLeast 162 = .ok (.ireturn, 1) := by decide +kernel
theorem dX6_findMost_0 : decode cX6_findMost 0 = .ok (.aload_n 0, 1) := by decide +kernel
theorem dX6_findMost_1 : decode cX6_findMost 1 = .ok (.aload_n 0, 1) := by decide +kernel
theorem dX6_findMost_2 : decode cX6_findMost 2 = .ok (.invokevirtual 55, 3) := by decide +kernel
theorem dX6_findMost_5 : decode cX6_findMost 5 = .ok (.iload_n 1, 1) := by decide +kernel
theorem dX6_findMost_6 : decode cX6_findMost 6 = .ok (.iconst (-1), 1) := by decide +kernel
theorem dX6_findMost_7 : decode cX6_findMost 7 = .ok (.ixor, 1) := by decide +kernel
theorem dX6_findMost_8 : decode cX6_findMost 8 = .ok (.iand, 1) := by decide +kernel
theorem dX6_findMost_9 : decode cX6_findMost 9 = .ok (.invokevirtual 86, 3) := by decide +kernel
theorem dX6_findMost_12 : decode cX6_findMost 12 = .ok (.ifCond .ne 5, 3) := by decide +kernel
theorem dX6_findMost_15 : decode cX6_findMost 15 = .ok (.iconst 0, 1) := by decide +kernel
theorem dX6_findMost_16 : decode cX6_findMost 16 = .ok (.ireturn, 1) := by decide +kernel
theorem dX6_findMost_17 : decode cX6_findMost 17 = .ok (.aload_n 0, 1) := by decide +kernel
theorem dX6_findMost_18 : decode cX6_findMost 18 = .ok (.aload_n 0, 1) := by decide +kernel
theorem dX6_findMost_19 : decode cX6_findMost 19 = .ok (.getfield 90, 3) := by decide +kernel
theorem dX6_findMost_22 : decode cX6_findMost 22 = .ok (.aload_n 0, 1) := by decide +kernel
theorem dX6_findMost_23 : decode cX6_findMost 23 = .ok (.getfield 93, 3) := by decide +kernel
theorem dX6_findMost_26 : decode cX6_findMost 26 = .ok (.lsub, 1) := by decide +kernel
theorem dX6_findMost_27 : decode cX6_findMost 27 = .ok (.putfield 93, 3) := by decide +kernel
theorem dX6_findMost_30 : decode cX6_findMost 30 = .ok (.iconst 1, 1) := by decide +kernel
theorem dX6_findMost_31 : decode cX6_findMost 31 = .ok (.ireturn, 1) := by decide +kernel
theorem dX6_addSpan_0 : decode cX6_addSpan 0 = .ok (.iload_n 3, 1) := by decide +kernel
theorem dX6_addSpan_1 : decode cX6_addSpan 1 = .ok (.bipush 100, 2) := by decide +kernel
theorem dX6_addSpan_3 : decode cX6_addSpan 3 = .ok (.if_icmp .ge 13, 3) := by decide +kernel
theorem dX6_addSpan_6 : decode cX6_addSpan 6 = .ok (.aload_n 0, 1) := by decide +kernel
theorem dX6_addSpan_7 : decode cX6_addSpan 7 = .ok (.getfield 30, 3) := by decide +kernel
theorem dX6_addSpan_10 : decode cX6_addSpan 10 = .ok (.iload_n 1, 1) := by decide +kernel
theorem dX6_addSpan_11 : decode cX6_addSpan 11 = .ok (.iconst 1, 1) := by decide +kernel
theorem dX6_addSpan_12 : decode cX6_addSpan 12 = .ok (.iload_n 3, 1) := by decide +kernel
theorem dX6_addSpan_13 : decode cX6_addSpan 13 = .ok (.invokevirtual 58, 3) := by decide +kernel
theorem dX6_addSpan_16 : decode cX6_addSpan 16 = .ok (.iload_n 2, 1) := by decide +kernel
theorem dX6_addSpan_17 : decode cX6_addSpan 17 = .ok (.ifCond .le 14, 3) := by decide +kernel
theorem dX6_addSpan_20 : decode cX6_addSpan 20 = .ok (.aload_n 0, 1) := by decide +kernel
theorem dX6_addSpan_21 : decode cX6_addSpan 21 = .ok (.getfield 30, 3) := by decide +kernel
theorem dX6_addSpan_24 : decode cX6_addSpan 24 = .ok (.iload_n 1, 1) := by decide +kernel
theorem dX6_addSpan_25 : decode cX6_addSpan 25 = .ok (.iconst (-1), 1) := by decide +kernel
theorem dX6_addSpan_26 : decode cX6_addSpan 26 = .ok (.iload_n 2, 1) := by decide +kernel
theorem dX6_addSpan_27 : decode cX6_addSpan 27 = .ok (.ineg, 1) := by decide +kernel
theorem dX6_addSpan_28 : decode cX6_addSpan 28 = .ok (.invokevirtual 58, 3) := by decide +kernel
theorem dX6_addSpan_31 : decode cX6_addSpan 31 = .ok (.return_, 1) := by decide +kernel
theorem dX6_bestRaise_0 : decode cX6_bestRaise 0 = .ok (.iconst (-1), 1) := by decide +kernel
theorem dX6_bestRaise_1 : decode cX6_bestRaise 1 = .ok (.istore_n 2, 1) := by decide +kernel
theorem dX6_bestRaise_2 : decode cX6_bestRaise 2 = .ok (.aload_n 0, 1) := by decide +kernel
theorem dX6_bestRaise_3 : decode cX6_bestRaise 3 = .ok (.getfield 93, 3) := by decide +kernel
theorem dX6_bestRaise_6 : decode cX6_bestRaise 6 = .ok (.lstore_n 3, 1) := by decide +kernel
theorem dX6_bestRaise_7 : decode cX6_bestRaise 7 = .ok (.aload_n 0, 1) := by decide +kernel
theorem dX6_bestRaise_8 : decode cX6_bestRaise 8 = .ok (.getfield 90, 3) := by decide +kernel
theorem dX6_bestRaise_11 : decode cX6_bestRaise 11 = .ok (.lstore 5, 2) := by decide +kernel
theorem dX6_bestRaise_13 : decode cX6_bestRaise 13 = .ok (.iconst 0, 1) := by decide +kernel
theorem dX6_bestRaise_14 : decode cX6_bestRaise 14 = .ok (.istore 7, 2) := by decide +kernel
theorem dX6_bestRaise_16 : decode cX6_bestRaise 16 = .ok (.iload 7, 2) := by decide +kernel
theorem dX6_bestRaise_18 : decode cX6_bestRaise 18 = .ok (.aload_n 0, 1) := by decide +kernel
theorem dX6_bestRaise_19 : decode cX6_bestRaise 19 = .ok (.getfield 34, 3) := by decide +kernel
theorem dX6_bestRaise_22 : decode cX6_bestRaise 22 = .ok (.if_icmp .ge 50, 3) := by decide +kernel
theorem dX6_bestRaise_25 : decode cX6_bestRaise 25 = .ok (.aload_n 0, 1) := by decide +kernel
theorem dX6_bestRaise_26 : decode cX6_bestRaise 26 = .ok (.iload_n 1, 1) := by decide +kernel
theorem dX6_bestRaise_27 : decode cX6_bestRaise 27 = .ok (.iload 7, 2) := by decide +kernel
theorem dX6_bestRaise_29 : decode cX6_bestRaise 29 = .ok (.invokevirtual 96, 3) := by decide +kernel
theorem dX6_bestRaise_32 : decode cX6_bestRaise 32 = .ok (.ifCond .eq 34, 3) := by decide +kernel
theorem dX6_bestRaise_35 : decode cX6_bestRaise 35 = .ok (.aload_n 0, 1) := by decide +kernel
theorem dX6_bestRaise_36 : decode cX6_bestRaise 36 = .ok (.getfield 93, 3) := by decide +kernel
theorem dX6_bestRaise_39 : decode cX6_bestRaise 39 = .ok (.lload 5, 2) := by decide +kernel
theorem dX6_bestRaise_41 : decode cX6_bestRaise 41 = .ok (.lmul, 1) := by decide +kernel
theorem dX6_bestRaise_42 : decode cX6_bestRaise 42 = .ok (.lload_n 3, 1) := by decide +kernel
theorem dX6_bestRaise_43 : decode cX6_bestRaise 43 = .ok (.aload_n 0, 1) := by decide +kernel
theorem dX6_bestRaise_44 : decode cX6_bestRaise 44 = .ok (.getfield 90, 3) := by decide +kernel
theorem dX6_bestRaise_47 : decode cX6_bestRaise 47 = .ok (.lmul, 1) := by decide +kernel
theorem dX6_bestRaise_48 : decode cX6_bestRaise 48 = .ok (.lcmp, 1) := by decide +kernel
theorem dX6_bestRaise_49 : decode cX6_bestRaise 49 = .ok (.ifCond .le 17, 3) := by decide +kernel
theorem dX6_bestRaise_52 : decode cX6_bestRaise 52 = .ok (.iload 7, 2) := by decide +kernel
theorem dX6_bestRaise_54 : decode cX6_bestRaise 54 = .ok (.istore_n 2, 1) := by decide +kernel
theorem dX6_bestRaise_55 : decode cX6_bestRaise 55 = .ok (.aload_n 0, 1) := by decide +kernel
theorem dX6_bestRaise_56 : decode cX6_bestRaise 56 = .ok (.getfield 93, 3) := by decide +kernel
theorem dX6_bestRaise_59 : decode cX6_bestRaise 59 = .ok (.lstore_n 3, 1) := by decide +kernel
theorem dX6_bestRaise_60 : decode cX6_bestRaise 60 = .ok (.aload_n 0, 1) := by decide +kernel
theorem dX6_bestRaise_61 : decode cX6_bestRaise 61 = .ok (.getfield 90, 3) := by decide +kernel
theorem dX6_bestRaise_64 : decode cX6_bestRaise 64 = .ok (.lstore 5, 2) := by decide +kernel
theorem dX6_bestRaise_66 : decode cX6_bestRaise 66 = .ok (.iinc 7 1, 3) := by decide +kernel
theorem dX6_bestRaise_69 : decode cX6_bestRaise 69 = .ok (.goto (-53), 3) := by decide +kernel
theorem dX6_bestRaise_72 : decode cX6_bestRaise 72 = .ok (.iload_n 2, 1) := by decide +kernel
theorem dX6_bestRaise_73 : decode cX6_bestRaise 73 = .ok (.ireturn, 1) := by decide +kernel
theorem dX6_findLeastRaised_0 : decode cX6_findLeastRaised 0 = .ok (.aload_n 0, 1) := by decide +kernel
theorem dX6_findLeastRaised_1 : decode cX6_findLeastRaised 1 = .ok (.getfield 15, 3) := by decide +kernel
theorem dX6_findLeastRaised_4 : decode cX6_findLeastRaised 4 = .ok (.iload_n 2, 1) := by decide +kernel
theorem dX6_findLeastRaised_5 : decode cX6_findLeastRaised 5 = .ok (.iaload, 1) := by decide +kernel
theorem dX6_findLeastRaised_6 : decode cX6_findLeastRaised 6 = .ok (.istore_n 3, 1) := by decide +kernel
theorem dX6_findLeastRaised_7 : decode cX6_findLeastRaised 7 = .ok (.aload_n 0, 1) := by decide +kernel
theorem dX6_findLeastRaised_8 : decode cX6_findLeastRaised 8 = .ok (.getfield 15, 3) := by decide +kernel
theorem dX6_findLeastRaised_11 : decode cX6_findLeastRaised 11 = .ok (.iload_n 2, 1) := by decide +kernel
theorem dX6_findLeastRaised_12 : decode cX6_findLeastRaised 12 = .ok (.aload_n 0, 1) := by decide +kernel
theorem dX6_findLeastRaised_13 : decode cX6_findLeastRaised 13 = .ok (.getfield 18, 3) := by decide +kernel
theorem dX6_findLeastRaised_16 : decode cX6_findLeastRaised 16 = .ok (.iload_n 2, 1) := by decide +kernel
theorem dX6_findLeastRaised_17 : decode cX6_findLeastRaised 17 = .ok (.iaload, 1) := by decide +kernel
theorem dX6_findLeastRaised_18 : decode cX6_findLeastRaised 18 = .ok (.iastore, 1) := by decide +kernel
theorem dX6_findLeastRaised_19 : decode cX6_findLeastRaised 19 = .ok (.aload_n 0, 1) := by decide +kernel
theorem dX6_findLeastRaised_20 : decode cX6_findLeastRaised 20 = .ok (.iload_n 1, 1) := by decide +kernel
theorem dX6_findLeastRaised_21 : decode cX6_findLeastRaised 21 = .ok (.invokevirtual 86, 3) := by decide +kernel
theorem dX6_findLeastRaised_24 : decode cX6_findLeastRaised 24 = .ok (.istore 4, 2) := by decide +kernel
theorem dX6_findLeastRaised_26 : decode cX6_findLeastRaised 26 = .ok (.aload_n 0, 1) := by decide +kernel
theorem dX6_findLeastRaised_27 : decode cX6_findLeastRaised 27 = .ok (.getfield 15, 3) := by decide +kernel
theorem dX6_findLeastRaised_30 : decode cX6_findLeastRaised 30 = .ok (.iload_n 2, 1) := by decide +kernel
theorem dX6_findLeastRaised_31 : decode cX6_findLeastRaised 31 = .ok (.iload_n 3, 1) := by decide +kernel
theorem dX6_findLeastRaised_32 : decode cX6_findLeastRaised 32 = .ok (.iastore, 1) := by decide +kernel
theorem dX6_findLeastRaised_33 : decode cX6_findLeastRaised 33 = .ok (.iload 4, 2) := by decide +kernel
theorem dX6_findLeastRaised_35 : decode cX6_findLeastRaised 35 = .ok (.ireturn, 1) := by decide +kernel
theorem dX6_reduce_0 : decode cX6_reduce 0 = .ok (.lload_n 3, 1) := by decide +kernel
theorem dX6_reduce_1 : decode cX6_reduce 1 = .ok (.lstore 5, 2) := by decide +kernel
theorem dX6_reduce_3 : decode cX6_reduce 3 = .ok (.lload_n 1, 1) := by decide +kernel
theorem dX6_reduce_4 : decode cX6_reduce 4 = .ok (.lstore 7, 2) := by decide +kernel
theorem dX6_reduce_6 : decode cX6_reduce 6 = .ok (.iconst 0, 1) := by decide +kernel
theorem dX6_reduce_7 : decode cX6_reduce 7 = .ok (.istore 9, 2) := by decide +kernel
theorem dX6_reduce_9 : decode cX6_reduce 9 = .ok (.iload 9, 2) := by decide +kernel
theorem dX6_reduce_11 : decode cX6_reduce 11 = .ok (.bipush 100, 2) := by decide +kernel
theorem dX6_reduce_13 : decode cX6_reduce 13 = .ok (.if_icmp .ge 31, 3) := by decide +kernel
theorem dX6_reduce_16 : decode cX6_reduce 16 = .ok (.lload 7, 2) := by decide +kernel
theorem dX6_reduce_18 : decode cX6_reduce 18 = .ok (.lconst 0, 1) := by decide +kernel
theorem dX6_reduce_19 : decode cX6_reduce 19 = .ok (.lcmp, 1) := by decide +kernel
theorem dX6_reduce_20 : decode cX6_reduce 20 = .ok (.ifCond .eq 24, 3) := by decide +kernel
theorem dX6_reduce_23 : decode cX6_reduce 23 = .ok (.lload 5, 2) := by decide +kernel
theorem dX6_reduce_25 : decode cX6_reduce 25 = .ok (.lload 7, 2) := by decide +kernel
theorem dX6_reduce_27 : decode cX6_reduce 27 = .ok (.lrem, 1) := by decide +kernel
theorem dX6_reduce_28 : decode cX6_reduce 28 = .ok (.lstore 10, 2) := by decide +kernel
theorem dX6_reduce_30 : decode cX6_reduce 30 = .ok (.lload 7, 2) := by decide +kernel
theorem dX6_reduce_32 : decode cX6_reduce 32 = .ok (.lstore 5, 2) := by decide +kernel
theorem dX6_reduce_34 : decode cX6_reduce 34 = .ok (.lload 10, 2) := by decide +kernel
theorem dX6_reduce_36 : decode cX6_reduce 36 = .ok (.lstore 7, 2) := by decide +kernel
theorem dX6_reduce_38 : decode cX6_reduce 38 = .ok (.iinc 9 1, 3) := by decide +kernel
theorem dX6_reduce_41 : decode cX6_reduce 41 = .ok (.goto (-32), 3) := by decide +kernel
theorem dX6_reduce_44 : decode cX6_reduce 44 = .ok (.aload_n 0, 1) := by decide +kernel
theorem dX6_reduce_45 : decode cX6_reduce 45 = .ok (.lload_n 1, 1) := by decide +kernel
theorem dX6_reduce_46 : decode cX6_reduce 46 = .ok (.lload 5, 2) := by decide +kernel
theorem dX6_reduce_48 : decode cX6_reduce 48 = .ok (.invokestatic 100, 3) := by decide +kernel
theorem dX6_reduce_51 : decode cX6_reduce 51 = .ok (.putfield 93, 3) := by decide +kernel
theorem dX6_reduce_54 : decode cX6_reduce 54 = .ok (.aload_n 0, 1) := by decide +kernel
theorem dX6_reduce_55 : decode cX6_reduce 55 = .ok (.lload_n 3, 1) := by decide +kernel
theorem dX6_reduce_56 : decode cX6_reduce 56 = .ok (.lload 5, 2) := by decide +kernel
theorem dX6_reduce_58 : decode cX6_reduce 58 = .ok (.invokestatic 100, 3) := by decide +kernel
theorem dX6_reduce_61 : decode cX6_reduce 61 = .ok (.putfield 90, 3) := by decide +kernel
theorem dX6_reduce_64 : decode cX6_reduce 64 = .ok (.return_, 1) := by decide +kernel
theorem dX7_init_0 : decode cX7_init 0 = .ok (.aload_n 0, 1) := by decide +kernel
theorem dX7_init_1 : decode cX7_init 1 = .ok (.invokespecial 1, 3) := by decide +kernel
theorem dX7_init_4 : decode cX7_init 4 = .ok (.aload_n 0, 1) := by decide +kernel
theorem dX7_init_5 : decode cX7_init 5 = .ok (.new 7, 3) := by decide +kernel
theorem dX7_init_8 : decode cX7_init 8 = .ok (.dup, 1) := by decide +kernel
theorem dX7_init_9 : decode cX7_init 9 = .ok (.invokespecial 9, 3) := by decide +kernel
theorem dX7_init_12 : decode cX7_init 12 = .ok (.putfield 10, 3) := by decide +kernel
theorem dX7_init_15 : decode cX7_init 15 = .ok (.aload_n 0, 1) := by decide +kernel
theorem dX7_init_16 : decode cX7_init 16 = .ok (.new 16, 3) := by decide +kernel
theorem dX7_init_19 : decode cX7_init 19 = .ok (.dup, 1) := by decide +kernel
theorem dX7_init_20 : decode cX7_init 20 = .ok (.invokespecial 18, 3) := by decide +kernel
theorem dX7_init_23 : decode cX7_init 23 = .ok (.putfield 19, 3) := by decide +kernel
theorem dX7_init_26 : decode cX7_init 26 = .ok (.aload_n 0, 1) := by decide +kernel
theorem dX7_init_27 : decode cX7_init 27 = .ok (.new 23, 3) := by decide +kernel
theorem dX7_init_30 : decode cX7_init 30 = .ok (.dup, 1) := by decide +kernel
theorem dX7_init_31 : decode cX7_init 31 = .ok (.invokespecial 25, 3) := by decide +kernel
theorem dX7_init_34 : decode cX7_init 34 = .ok (.putfield 26, 3) := by decide +kernel
theorem dX7_init_37 : decode cX7_init 37 = .ok (.aload_n 0, 1) := by decide +kernel
theorem dX7_init_38 : decode cX7_init 38 = .ok (.new 30, 3) := by decide +kernel
theorem dX7_init_41 : decode cX7_init 41 = .ok (.dup, 1) := by decide +kernel
theorem dX7_init_42 : decode cX7_init 42 = .ok (.invokespecial 32, 3) := by decide +kernel
theorem dX7_init_45 : decode cX7_init 45 = .ok (.putfield 33, 3) := by decide +kernel
theorem dX7_init_48 : decode cX7_init 48 = .ok (.aload_n 0, 1) := by decide +kernel
theorem dX7_init_49 : decode cX7_init 49 = .ok (.new 37, 3) := by decide +kernel
theorem dX7_init_52 : decode cX7_init 52 = .ok (.dup, 1) := by decide +kernel
theorem dX7_init_53 : decode cX7_init 53 = .ok (.invokespecial 39, 3) := by decide +kernel
theorem dX7_init_56 : decode cX7_init 56 = .ok (.putfield 40, 3) := by decide +kernel
theorem dX7_init_59 : decode cX7_init 59 = .ok (.aload_n 0, 1) := by decide +kernel
theorem dX7_init_60 : decode cX7_init 60 = .ok (.new 44, 3) := by decide +kernel
theorem dX7_init_63 : decode cX7_init 63 = .ok (.dup, 1) := by decide +kernel
theorem dX7_init_64 : decode cX7_init 64 = .ok (.invokespecial 46, 3) := by decide +kernel
theorem dX7_init_67 : decode cX7_init 67 = .ok (.putfield 47, 3) := by decide +kernel
theorem dX7_init_70 : decode cX7_init 70 = .ok (.aload_n 0, 1) := by decide +kernel
theorem dX7_init_71 : decode cX7_init 71 = .ok (.iconst 0, 1) := by decide +kernel
theorem dX7_init_72 : decode cX7_init 72 = .ok (.putfield 51, 3) := by decide +kernel
theorem dX7_init_75 : decode cX7_init 75 = .ok (.aload_n 0, 1) := by decide +kernel
theorem dX7_init_76 : decode cX7_init 76 = .ok (.iconst 0, 1) := by decide +kernel
theorem dX7_init_77 : decode cX7_init 77 = .ok (.putfield 55, 3) := by decide +kernel
theorem dX7_init_80 : decode cX7_init 80 = .ok (.return_, 1) := by decide +kernel
theorem dX7_sheet_0 : decode cX7_sheet 0 = .ok (.aload_n 0, 1) := by decide +kernel
theorem dX7_sheet_1 : decode cX7_sheet 1 = .ok (.getfield 10, 3) := by decide +kernel
theorem dX7_sheet_4 : decode cX7_sheet 4 = .ok (.iload_n 1, 1) := by decide +kernel
theorem dX7_sheet_5 : decode cX7_sheet 5 = .ok (.invokevirtual 58, 3) := by decide +kernel
theorem dX7_sheet_8 : decode cX7_sheet 8 = .ok (.ifCond .eq 18, 3) := by decide +kernel
theorem dX7_sheet_11 : decode cX7_sheet 11 = .ok (.iload_n 2, 1) := by decide +kernel
theorem dX7_sheet_12 : decode cX7_sheet 12 = .ok (.iconst 0, 1) := by decide +kernel
theorem dX7_sheet_13 : decode cX7_sheet 13 = .ok (.iconst 2, 1) := by decide +kernel
theorem dX7_sheet_14 : decode cX7_sheet 14 = .ok (.invokestatic 62, 3) := by decide +kernel
theorem dX7_sheet_17 : decode cX7_sheet 17 = .ok (.ifCond .eq 9, 3) := by decide +kernel
theorem dX7_sheet_20 : decode cX7_sheet 20 = .ok (.iload_n 3, 1) := by decide +kernel
theorem dX7_sheet_21 : decode cX7_sheet 21 = .ok (.bipush 40, 2) := by decide +kernel
theorem dX7_sheet_23 : decode cX7_sheet 23 = .ok (.if_icmp .le 6, 3) := by decide +kernel
theorem dX7_sheet_26 : decode cX7_sheet 26 = .ok (.ldc 66, 2) := by decide +kernel
theorem dX7_sheet_28 : decode cX7_sheet 28 = .ok (.ireturn, 1) := by decide +kernel
theorem dX7_sheet_29 : decode cX7_sheet 29 = .ok (.iload_n 3, 1) := by decide +kernel
theorem dX7_sheet_30 : decode cX7_sheet 30 = .ok (.ifCond .ge 9, 3) := by decide +kernel
theorem dX7_sheet_33 : decode cX7_sheet 33 = .ok (.aload_n 0, 1) := by decide +kernel
theorem dX7_sheet_34 : decode cX7_sheet 34 = .ok (.iconst 4, 1) := by decide +kernel
theorem dX7_sheet_35 : decode cX7_sheet 35 = .ok (.invokevirtual 67, 3) := by decide +kernel
theorem dX7_sheet_38 : decode cX7_sheet 38 = .ok (.ireturn, 1) := by decide +kernel
theorem dX7_sheet_39 : decode cX7_sheet 39 = .ok (.aload_n 0, 1) := by decide +kernel
theorem dX7_sheet_40 : decode cX7_sheet 40 = .ok (.getfield 10, 3) := by decide +kernel
theorem dX7_sheet_43 : decode cX7_sheet 43 = .ok (.iload_n 1, 1) := by decide +kernel
theorem dX7_sheet_44 : decode cX7_sheet 44 = .ok (.iload_n 2, 1) := by decide +kernel
theorem dX7_sheet_45 : decode cX7_sheet 45 = .ok (.iload_n 3, 1) := by decide +kernel
theorem dX7_sheet_46 : decode cX7_sheet 46 = .ok (.invokevirtual 71, 3) := by decide +kernel
theorem dX7_sheet_49 : decode cX7_sheet 49 = .ok (.aload_n 0, 1) := by decide +kernel
theorem dX7_sheet_50 : decode cX7_sheet 50 = .ok (.iload_n 3, 1) := by decide +kernel
theorem dX7_sheet_51 : decode cX7_sheet 51 = .ok (.invokevirtual 75, 3) := by decide +kernel
theorem dX7_sheet_54 : decode cX7_sheet 54 = .ok (.ireturn, 1) := by decide +kernel
theorem dX7_set_0 : decode cX7_set 0 = .ok (.aload_n 0, 1) := by decide +kernel
theorem dX7_set_1 : decode cX7_set 1 = .ok (.getfield 10, 3) := by decide +kernel
theorem dX7_set_4 : decode cX7_set 4 = .ok (.iload_n 1, 1) := by decide +kernel
theorem dX7_set_5 : decode cX7_set 5 = .ok (.invokevirtual 58, 3) := by decide +kernel
theorem dX7_set_8 : decode cX7_set 8 = .ok (.ifCond .ne 6, 3) := by decide +kernel
theorem dX7_set_11 : decode cX7_set 11 = .ok (.ldc 66, 2) := by decide +kernel
theorem dX7_set_13 : decode cX7_set 13 = .ok (.ireturn, 1) := by decide +kernel
theorem dX7_set_14 : decode cX7_set 14 = .ok (.aload_n 0, 1) := by decide +kernel
theorem dX7_set_15 : decode cX7_set 15 = .ok (.getfield 10, 3) := by decide +kernel
theorem dX7_set_18 : decode cX7_set 18 = .ok (.iload_n 1, 1) := by decide +kernel
theorem dX7_set_19 : decode cX7_set 19 = .ok (.invokevirtual 78, 3) := by decide +kernel
theorem dX7_set_22 : decode cX7_set 22 = .ok (.ifCond .eq 9, 3) := by decide +kernel
theorem dX7_set_25 : decode cX7_set 25 = .ok (.aload_n 0, 1) := by decide +kernel
theorem dX7_set_26 : decode cX7_set 26 = .ok (.iconst 1, 1) := by decide +kernel
theorem dX7_set_27 : decode cX7_set 27 = .ok (.invokevirtual 67, 3) := by decide +kernel
theorem dX7_set_30 : decode cX7_set 30 = .ok (.ireturn, 1) := by decide +kernel
theorem dX7_set_31 : decode cX7_set 31 = .ok (.aload_n 0, 1) := by decide +kernel
theorem dX7_set_32 : decode cX7_set 32 = .ok (.getfield 10, 3) := by decide +kernel
theorem dX7_set_35 : decode cX7_set 35 = .ok (.iload_n 1, 1) := by decide +kernel
theorem dX7_set_36 : decode cX7_set 36 = .ok (.iload_n 2, 1) := by decide +kernel
theorem dX7_set_37 : decode cX7_set 37 = .ok (.iconst 1, 1) := by decide +kernel
theorem dX7_set_38 : decode cX7_set 38 = .ok (.invokevirtual 81, 3) := by decide +kernel
theorem dX7_set_41 : decode cX7_set 41 = .ok (.ifCond .ne 9, 3) := by decide +kernel
theorem dX7_set_44 : decode cX7_set 44 = .ok (.aload_n 0, 1) := by decide +kernel
theorem dX7_set_45 : decode cX7_set 45 = .ok (.iconst 2, 1) := by decide +kernel
