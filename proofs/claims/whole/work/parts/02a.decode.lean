theorem dX0_init_0 : decode cX0_init 0 = .ok (.aload_n 0, 1) := by decide +kernel
theorem dX0_init_1 : decode cX0_init 1 = .ok (.invokespecial 3, 3) := by decide +kernel
theorem dX0_init_4 : decode cX0_init 4 = .ok (.aload_n 0, 1) := by decide +kernel
theorem dX0_init_5 : decode cX0_init 5 = .ok (.sipush 700, 3) := by decide +kernel
theorem dX0_init_8 : decode cX0_init 8 = .ok (.newarray .int, 2) := by decide +kernel
theorem dX0_init_10 : decode cX0_init 10 = .ok (.putfield 11, 3) := by decide +kernel
theorem dX0_init_13 : decode cX0_init 13 = .ok (.aload_n 0, 1) := by decide +kernel
theorem dX0_init_14 : decode cX0_init 14 = .ok (.aload_n 1, 1) := by decide +kernel
theorem dX0_init_15 : decode cX0_init 15 = .ok (.putfield 15, 3) := by decide +kernel
theorem dX0_init_18 : decode cX0_init 18 = .ok (.aload_n 0, 1) := by decide +kernel
theorem dX0_init_19 : decode cX0_init 19 = .ok (.aload_n 2, 1) := by decide +kernel
theorem dX0_init_20 : decode cX0_init 20 = .ok (.putfield 19, 3) := by decide +kernel
theorem dX0_init_23 : decode cX0_init 23 = .ok (.aload_n 0, 1) := by decide +kernel
theorem dX0_init_24 : decode cX0_init 24 = .ok (.aload_n 3, 1) := by decide +kernel
theorem dX0_init_25 : decode cX0_init 25 = .ok (.putfield 23, 3) := by decide +kernel
theorem dX0_init_28 : decode cX0_init 28 = .ok (.aload_n 0, 1) := by decide +kernel
theorem dX0_init_29 : decode cX0_init 29 = .ok (.aload 4, 2) := by decide +kernel
theorem dX0_init_31 : decode cX0_init 31 = .ok (.putfield 27, 3) := by decide +kernel
theorem dX0_init_34 : decode cX0_init 34 = .ok (.aload_n 0, 1) := by decide +kernel
theorem dX0_init_35 : decode cX0_init 35 = .ok (.new 31, 3) := by decide +kernel
theorem dX0_init_38 : decode cX0_init 38 = .ok (.dup, 1) := by decide +kernel
theorem dX0_init_39 : decode cX0_init 39 = .ok (.aload_n 2, 1) := by decide +kernel
theorem dX0_init_40 : decode cX0_init 40 = .ok (.invokespecial 33, 3) := by decide +kernel
theorem dX0_init_43 : decode cX0_init 43 = .ok (.putfield 36, 3) := by decide +kernel
theorem dX0_init_46 : decode cX0_init 46 = .ok (.return_, 1) := by decide +kernel
theorem dX0_closeLatest_0 : decode cX0_closeLatest 0 = .ok (.aload_n 0, 1) := by decide +kernel
theorem dX0_closeLatest_1 : decode cX0_closeLatest 1 = .ok (.iconst 0, 1) := by decide +kernel
theorem dX0_closeLatest_2 : decode cX0_closeLatest 2 = .ok (.putfield 39, 3) := by decide +kernel
theorem dX0_closeLatest_5 : decode cX0_closeLatest 5 = .ok (.return_, 1) := by decide +kernel
theorem dX0_rowField_0 : decode cX0_rowField 0 = .ok (.aload_n 0, 1) := by decide +kernel
theorem dX0_rowField_1 : decode cX0_rowField 1 = .ok (.getfield 11, 3) := by decide +kernel
theorem dX0_rowField_4 : decode cX0_rowField 4 = .ok (.iload_n 1, 1) := by decide +kernel
theorem dX0_rowField_5 : decode cX0_rowField 5 = .ok (.bipush 7, 2) := by decide +kernel
theorem dX0_rowField_7 : decode cX0_rowField 7 = .ok (.imul, 1) := by decide +kernel
theorem dX0_rowField_8 : decode cX0_rowField 8 = .ok (.iload_n 2, 1) := by decide +kernel
theorem dX0_rowField_9 : decode cX0_rowField 9 = .ok (.iadd, 1) := by decide +kernel
theorem dX0_rowField_10 : decode cX0_rowField 10 = .ok (.invokestatic 43, 3) := by decide +kernel
theorem dX0_rowField_13 : decode cX0_rowField 13 = .ok (.ireturn, 1) := by decide +kernel
theorem dX0_decideNow_0 : decode cX0_decideNow 0 = .ok (.aload_n 0, 1) := by decide +kernel
theorem dX0_decideNow_1 : decode cX0_decideNow 1 = .ok (.getfield 23, 3) := by decide +kernel
theorem dX0_decideNow_4 : decode cX0_decideNow 4 = .ok (.iload_n 1, 1) := by decide +kernel
theorem dX0_decideNow_5 : decode cX0_decideNow 5 = .ok (.invokevirtual 47, 3) := by decide +kernel
theorem dX0_decideNow_8 : decode cX0_decideNow 8 = .ok (.ifCond .ne 12, 3) := by decide +kernel
theorem dX0_decideNow_11 : decode cX0_decideNow 11 = .ok (.aload_n 0, 1) := by decide +kernel
theorem dX0_decideNow_12 : decode cX0_decideNow 12 = .ok (.getfield 51, 3) := by decide +kernel
theorem dX0_decideNow_15 : decode cX0_decideNow 15 = .ok (.bipush 100, 2) := by decide +kernel
theorem dX0_decideNow_17 : decode cX0_decideNow 17 = .ok (.if_icmp .lt 5, 3) := by decide +kernel
theorem dX0_decideNow_20 : decode cX0_decideNow 20 = .ok (.iconst (-1), 1) := by decide +kernel
theorem dX0_decideNow_21 : decode cX0_decideNow 21 = .ok (.ireturn, 1) := by decide +kernel
theorem dX0_decideNow_22 : decode cX0_decideNow 22 = .ok (.aload_n 0, 1) := by decide +kernel
theorem dX0_decideNow_23 : decode cX0_decideNow 23 = .ok (.getfield 36, 3) := by decide +kernel
theorem dX0_decideNow_26 : decode cX0_decideNow 26 = .ok (.aload_n 0, 1) := by decide +kernel
theorem dX0_decideNow_27 : decode cX0_decideNow 27 = .ok (.getfield 23, 3) := by decide +kernel
theorem dX0_decideNow_30 : decode cX0_decideNow 30 = .ok (.invokevirtual 55, 3) := by decide +kernel
theorem dX0_decideNow_33 : decode cX0_decideNow 33 = .ok (.aload_n 0, 1) := by decide +kernel
theorem dX0_decideNow_34 : decode cX0_decideNow 34 = .ok (.iconst 1, 1) := by decide +kernel
theorem dX0_decideNow_35 : decode cX0_decideNow 35 = .ok (.putfield 39, 3) := by decide +kernel
theorem dX0_decideNow_38 : decode cX0_decideNow 38 = .ok (.aload_n 0, 1) := by decide +kernel
theorem dX0_decideNow_39 : decode cX0_decideNow 39 = .ok (.iconst 0, 1) := by decide +kernel
theorem dX0_decideNow_40 : decode cX0_decideNow 40 = .ok (.putfield 59, 3) := by decide +kernel
theorem dX0_decideNow_43 : decode cX0_decideNow 43 = .ok (.aload_n 0, 1) := by decide +kernel
theorem dX0_decideNow_44 : decode cX0_decideNow 44 = .ok (.dup, 1) := by decide +kernel
theorem dX0_decideNow_45 : decode cX0_decideNow 45 = .ok (.getfield 51, 3) := by decide +kernel
theorem dX0_decideNow_48 : decode cX0_decideNow 48 = .ok (.iconst 1, 1) := by decide +kernel
theorem dX0_decideNow_49 : decode cX0_decideNow 49 = .ok (.iadd, 1) := by decide +kernel
theorem dX0_decideNow_50 : decode cX0_decideNow 50 = .ok (.putfield 51, 3) := by decide +kernel
theorem dX0_decideNow_53 : decode cX0_decideNow 53 = .ok (.aload_n 0, 1) := by decide +kernel
theorem dX0_decideNow_54 : decode cX0_decideNow 54 = .ok (.iload_n 1, 1) := by decide +kernel
theorem dX0_decideNow_55 : decode cX0_decideNow 55 = .ok (.aload_n 0, 1) := by decide +kernel
theorem dX0_decideNow_56 : decode cX0_decideNow 56 = .ok (.getfield 15, 3) := by decide +kernel
theorem dX0_decideNow_59 : decode cX0_decideNow 59 = .ok (.getfield 62, 3) := by decide +kernel
theorem dX0_decideNow_62 : decode cX0_decideNow 62 = .ok (.invokevirtual 67, 3) := by decide +kernel
theorem dX0_decideNow_65 : decode cX0_decideNow 65 = .ok (.ireturn, 1) := by decide +kernel
theorem dX0_decideWithout_0 : decode cX0_decideWithout 0 = .ok (.aload_n 0, 1) := by decide +kernel
theorem dX0_decideWithout_1 : decode cX0_decideWithout 1 = .ok (.getfield 39, 3) := by decide +kernel
theorem dX0_decideWithout_4 : decode cX0_decideWithout 4 = .ok (.ifCond .eq 25, 3) := by decide +kernel
theorem dX0_decideWithout_7 : decode cX0_decideWithout 7 = .ok (.aload_n 0, 1) := by decide +kernel
theorem dX0_decideWithout_8 : decode cX0_decideWithout 8 = .ok (.getfield 15, 3) := by decide +kernel
theorem dX0_decideWithout_11 : decode cX0_decideWithout 11 = .ok (.iload_n 1, 1) := by decide +kernel
theorem dX0_decideWithout_12 : decode cX0_decideWithout 12 = .ok (.invokevirtual 71, 3) := by decide +kernel
theorem dX0_decideWithout_15 : decode cX0_decideWithout 15 = .ok (.ifCond .eq 14, 3) := by decide +kernel
theorem dX0_decideWithout_18 : decode cX0_decideWithout 18 = .ok (.aload_n 0, 1) := by decide +kernel
theorem dX0_decideWithout_19 : decode cX0_decideWithout 19 = .ok (.getfield 59, 3) := by decide +kernel
theorem dX0_decideWithout_22 : decode cX0_decideWithout 22 = .ok (.iload_n 1, 1) := by decide +kernel
theorem dX0_decideWithout_23 : decode cX0_decideWithout 23 = .ok (.iushr, 1) := by decide +kernel
theorem dX0_decideWithout_24 : decode cX0_decideWithout 24 = .ok (.iconst 1, 1) := by decide +kernel
theorem dX0_decideWithout_25 : decode cX0_decideWithout 25 = .ok (.iand, 1) := by decide +kernel
theorem dX0_decideWithout_26 : decode cX0_decideWithout 26 = .ok (.ifCond .eq 5, 3) := by decide +kernel
theorem dX0_decideWithout_29 : decode cX0_decideWithout 29 = .ok (.iconst (-1), 1) := by decide +kernel
theorem dX0_decideWithout_30 : decode cX0_decideWithout 30 = .ok (.ireturn, 1) := by decide +kernel
theorem dX0_decideWithout_31 : decode cX0_decideWithout 31 = .ok (.aload_n 0, 1) := by decide +kernel
theorem dX0_decideWithout_32 : decode cX0_decideWithout 32 = .ok (.aload_n 0, 1) := by decide +kernel
theorem dX0_decideWithout_33 : decode cX0_decideWithout 33 = .ok (.getfield 51, 3) := by decide +kernel
theorem dX0_decideWithout_36 : decode cX0_decideWithout 36 = .ok (.iconst 1, 1) := by decide +kernel
theorem dX0_decideWithout_37 : decode cX0_decideWithout 37 = .ok (.isub, 1) := by decide +kernel
theorem dX0_decideWithout_38 : decode cX0_decideWithout 38 = .ok (.iconst 0, 1) := by decide +kernel
theorem dX0_decideWithout_39 : decode cX0_decideWithout 39 = .ok (.invokevirtual 75, 3) := by decide +kernel
theorem dX0_decideWithout_42 : decode cX0_decideWithout 42 = .ok (.istore_n 2, 1) := by decide +kernel
theorem dX0_decideWithout_43 : decode cX0_decideWithout 43 = .ok (.aload_n 0, 1) := by decide +kernel
theorem dX0_decideWithout_44 : decode cX0_decideWithout 44 = .ok (.aload_n 0, 1) := by decide +kernel
theorem dX0_decideWithout_45 : decode cX0_decideWithout 45 = .ok (.getfield 51, 3) := by decide +kernel
theorem dX0_decideWithout_48 : decode cX0_decideWithout 48 = .ok (.iconst 1, 1) := by decide +kernel
theorem dX0_decideWithout_49 : decode cX0_decideWithout 49 = .ok (.isub, 1) := by decide +kernel
theorem dX0_decideWithout_50 : decode cX0_decideWithout 50 = .ok (.iconst 1, 1) := by decide +kernel
theorem dX0_decideWithout_51 : decode cX0_decideWithout 51 = .ok (.invokevirtual 75, 3) := by decide +kernel
theorem dX0_decideWithout_54 : decode cX0_decideWithout 54 = .ok (.istore_n 3, 1) := by decide +kernel
theorem dX0_decideWithout_55 : decode cX0_decideWithout 55 = .ok (.aload_n 0, 1) := by decide +kernel
theorem dX0_decideWithout_56 : decode cX0_decideWithout 56 = .ok (.getfield 27, 3) := by decide +kernel
theorem dX0_decideWithout_59 : decode cX0_decideWithout 59 = .ok (.iload_n 2, 1) := by decide +kernel
theorem dX0_decideWithout_60 : decode cX0_decideWithout 60 = .ok (.iload_n 3, 1) := by decide +kernel
theorem dX0_decideWithout_61 : decode cX0_decideWithout 61 = .ok (.invokevirtual 78, 3) := by decide +kernel
theorem dX0_decideWithout_64 : decode cX0_decideWithout 64 = .ok (.aload_n 0, 1) := by decide +kernel
theorem dX0_decideWithout_65 : decode cX0_decideWithout 65 = .ok (.getfield 27, 3) := by decide +kernel
theorem dX0_decideWithout_68 : decode cX0_decideWithout 68 = .ok (.iload_n 1, 1) := by decide +kernel
theorem dX0_decideWithout_69 : decode cX0_decideWithout 69 = .ok (.invokevirtual 84, 3) := by decide +kernel
theorem dX0_decideWithout_72 : decode cX0_decideWithout 72 = .ok (.iconst 2, 1) := by decide +kernel
theorem dX0_decideWithout_73 : decode cX0_decideWithout 73 = .ok (.if_icmp .ne 5, 3) := by decide +kernel
theorem dX0_decideWithout_76 : decode cX0_decideWithout 76 = .ok (.iconst (-1), 1) := by decide +kernel
theorem dX0_decideWithout_77 : decode cX0_decideWithout 77 = .ok (.ireturn, 1) := by decide +kernel
theorem dX0_decideWithout_78 : decode cX0_decideWithout 78 = .ok (.aload_n 0, 1) := by decide +kernel
theorem dX0_decideWithout_79 : decode cX0_decideWithout 79 = .ok (.dup, 1) := by decide +kernel
theorem dX0_decideWithout_80 : decode cX0_decideWithout 80 = .ok (.getfield 59, 3) := by decide +kernel
theorem dX0_decideWithout_83 : decode cX0_decideWithout 83 = .ok (.iconst 1, 1) := by decide +kernel
theorem dX0_decideWithout_84 : decode cX0_decideWithout 84 = .ok (.iload_n 1, 1) := by decide +kernel
theorem dX0_decideWithout_85 : decode cX0_decideWithout 85 = .ok (.ishl, 1) := by decide +kernel
theorem dX0_decideWithout_86 : decode cX0_decideWithout 86 = .ok (.ior, 1) := by decide +kernel
theorem dX0_decideWithout_87 : decode cX0_decideWithout 87 = .ok (.putfield 59, 3) := by decide +kernel
theorem dX0_decideWithout_90 : decode cX0_decideWithout 90 = .ok (.aload_n 0, 1) := by decide +kernel
theorem dX0_decideWithout_91 : decode cX0_decideWithout 91 = .ok (.getfield 23, 3) := by decide +kernel
theorem dX0_decideWithout_94 : decode cX0_decideWithout 94 = .ok (.aload_n 0, 1) := by decide +kernel
theorem dX0_decideWithout_95 : decode cX0_decideWithout 95 = .ok (.getfield 36, 3) := by decide +kernel
theorem dX0_decideWithout_98 : decode cX0_decideWithout 98 = .ok (.invokevirtual 55, 3) := by decide +kernel
theorem dX0_decideWithout_101 : decode cX0_decideWithout 101 = .ok (.aload_n 0, 1) := by decide +kernel
theorem dX0_decideWithout_102 : decode cX0_decideWithout 102 = .ok (.iload_n 2, 1) := by decide +kernel
theorem dX0_decideWithout_103 : decode cX0_decideWithout 103 = .ok (.iload_n 3, 1) := by decide +kernel
theorem dX0_decideWithout_104 : decode cX0_decideWithout 104 = .ok (.invokevirtual 67, 3) := by decide +kernel
theorem dX0_decideWithout_107 : decode cX0_decideWithout 107 = .ok (.ireturn, 1) := by decide +kernel
theorem dX0_decideOn_0 : decode cX0_decideOn 0 = .ok (.aload_n 0, 1) := by decide +kernel
theorem dX0_decideOn_1 : decode cX0_decideOn 1 = .ok (.getfield 19, 3) := by decide +kernel
theorem dX0_decideOn_4 : decode cX0_decideOn 4 = .ok (.aload_n 0, 1) := by decide +kernel
theorem dX0_decideOn_5 : decode cX0_decideOn 5 = .ok (.getfield 23, 3) := by decide +kernel
theorem dX0_decideOn_8 : decode cX0_decideOn 8 = .ok (.getfield 87, 3) := by decide +kernel
theorem dX0_decideOn_11 : decode cX0_decideOn 11 = .ok (.invokevirtual 90, 3) := by decide +kernel
theorem dX0_decideOn_14 : decode cX0_decideOn 14 = .ok (.astore_n 3, 1) := by decide +kernel
theorem dX0_decideOn_15 : decode cX0_decideOn 15 = .ok (.aload_n 0, 1) := by decide +kernel
theorem dX0_decideOn_16 : decode cX0_decideOn 16 = .ok (.getfield 27, 3) := by decide +kernel
theorem dX0_decideOn_19 : decode cX0_decideOn 19 = .ok (.iload_n 1, 1) := by decide +kernel
theorem dX0_decideOn_20 : decode cX0_decideOn 20 = .ok (.iload_n 2, 1) := by decide +kernel
theorem dX0_decideOn_21 : decode cX0_decideOn 21 = .ok (.invokevirtual 78, 3) := by decide +kernel
theorem dX0_decideOn_24 : decode cX0_decideOn 24 = .ok (.aload_n 0, 1) := by decide +kernel
theorem dX0_decideOn_25 : decode cX0_decideOn 25 = .ok (.getfield 27, 3) := by decide +kernel
theorem dX0_decideOn_28 : decode cX0_decideOn 28 = .ok (.aload_n 3, 1) := by decide +kernel
theorem dX0_decideOn_29 : decode cX0_decideOn 29 = .ok (.iconst 0, 1) := by decide +kernel
theorem dX0_decideOn_30 : decode cX0_decideOn 30 = .ok (.invokevirtual 96, 3) := by decide +kernel
theorem dX0_decideOn_33 : decode cX0_decideOn 33 = .ok (.aload_n 0, 1) := by decide +kernel
theorem dX0_decideOn_34 : decode cX0_decideOn 34 = .ok (.getfield 27, 3) := by decide +kernel
theorem dX0_decideOn_37 : decode cX0_decideOn 37 = .ok (.aload_n 0, 1) := by decide +kernel
theorem dX0_decideOn_38 : decode cX0_decideOn 38 = .ok (.getfield 59, 3) := by decide +kernel
theorem dX0_decideOn_41 : decode cX0_decideOn 41 = .ok (.invokevirtual 100, 3) := by decide +kernel
theorem dX0_decideOn_44 : decode cX0_decideOn 44 = .ok (.aload_n 0, 1) := by decide +kernel
theorem dX0_decideOn_45 : decode cX0_decideOn 45 = .ok (.getfield 27, 3) := by decide +kernel
theorem dX0_decideOn_48 : decode cX0_decideOn 48 = .ok (.iconst (-1), 1) := by decide +kernel
theorem dX0_decideOn_49 : decode cX0_decideOn 49 = .ok (.invokevirtual 104, 3) := by decide +kernel
theorem dX0_decideOn_52 : decode cX0_decideOn 52 = .ok (.aload_n 0, 1) := by decide +kernel
theorem dX0_decideOn_53 : decode cX0_decideOn 53 = .ok (.getfield 27, 3) := by decide +kernel
theorem dX0_decideOn_56 : decode cX0_decideOn 56 = .ok (.aload_n 3, 1) := by decide +kernel
theorem dX0_decideOn_57 : decode cX0_decideOn 57 = .ok (.iload_n 1, 1) := by decide +kernel
theorem dX0_decideOn_58 : decode cX0_decideOn 58 = .ok (.invokestatic 107, 3) := by decide +kernel
theorem dX0_decideOn_61 : decode cX0_decideOn 61 = .ok (.aload_n 0, 1) := by decide +kernel
theorem dX0_decideOn_62 : decode cX0_decideOn 62 = .ok (.getfield 23, 3) := by decide +kernel
theorem dX0_decideOn_65 : decode cX0_decideOn 65 = .ok (.iload_n 1, 1) := by decide +kernel
theorem dX0_decideOn_66 : decode cX0_decideOn 66 = .ok (.invokevirtual 110, 3) := by decide +kernel
theorem dX0_decideOn_69 : decode cX0_decideOn 69 = .ok (.iload_n 2, 1) := by decide +kernel
theorem dX0_decideOn_70 : decode cX0_decideOn 70 = .ok (.invokevirtual 113, 3) := by decide +kernel
theorem dX0_decideOn_73 : decode cX0_decideOn 73 = .ok (.istore 4, 2) := by decide +kernel
theorem dX0_decideOn_75 : decode cX0_decideOn 75 = .ok (.aload_n 0, 1) := by decide +kernel
theorem dX0_decideOn_76 : decode cX0_decideOn 76 = .ok (.iload_n 1, 1) := by decide +kernel
theorem dX0_decideOn_77 : decode cX0_decideOn 77 = .ok (.iload_n 2, 1) := by decide +kernel
theorem dX0_decideOn_78 : decode cX0_decideOn 78 = .ok (.iload 4, 2) := by decide +kernel
theorem dX0_decideOn_80 : decode cX0_decideOn 80 = .ok (.invokevirtual 117, 3) := by decide +kernel
theorem dX0_decideOn_83 : decode cX0_decideOn 83 = .ok (.aload_n 0, 1) := by decide +kernel
theorem dX0_decideOn_84 : decode cX0_decideOn 84 = .ok (.iload_n 1, 1) := by decide +kernel
theorem dX0_decideOn_85 : decode cX0_decideOn 85 = .ok (.iload 4, 2) := by decide +kernel
theorem dX0_decideOn_87 : decode cX0_decideOn 87 = .ok (.invokevirtual 121, 3) := by decide +kernel
theorem dX0_decideOn_90 : decode cX0_decideOn 90 = .ok (.iload 4, 2) := by decide +kernel
theorem dX0_decideOn_92 : decode cX0_decideOn 92 = .ok (.ifCond .eq 7, 3) := by decide +kernel
theorem dX0_decideOn_95 : decode cX0_decideOn 95 = .ok (.iconst 1, 1) := by decide +kernel
theorem dX0_decideOn_96 : decode cX0_decideOn 96 = .ok (.goto 4, 3) := by decide +kernel
theorem dX0_decideOn_99 : decode cX0_decideOn 99 = .ok (.iconst 0, 1) := by decide +kernel
theorem dX0_decideOn_100 : decode cX0_decideOn 100 = .ok (.ireturn, 1) := by decide +kernel
theorem dX0_writeRow_0 : decode cX0_writeRow 0 = .ok (.aload_n 0, 1) := by decide +kernel
theorem dX0_writeRow_1 : decode cX0_writeRow 1 = .ok (.getfield 51, 3) := by decide +kernel
theorem dX0_writeRow_4 : decode cX0_writeRow 4 = .ok (.iconst 1, 1) := by decide +kernel
theorem dX0_writeRow_5 : decode cX0_writeRow 5 = .ok (.isub, 1) := by decide +kernel
theorem dX0_writeRow_6 : decode cX0_writeRow 6 = .ok (.bipush 7, 2) := by decide +kernel
theorem dX0_writeRow_8 : decode cX0_writeRow 8 = .ok (.imul, 1) := by decide +kernel
theorem dX0_writeRow_9 : decode cX0_writeRow 9 = .ok (.istore 4, 2) := by decide +kernel
theorem dX0_writeRow_11 : decode cX0_writeRow 11 = .ok (.aload_n 0, 1) := by decide +kernel
theorem dX0_writeRow_12 : decode cX0_writeRow 12 = .ok (.getfield 11, 3) := by decide +kernel
theorem dX0_writeRow_15 : decode cX0_writeRow 15 = .ok (.iload 4, 2) := by decide +kernel
theorem dX0_writeRow_17 : decode cX0_writeRow 17 = .ok (.iload_n 1, 1) := by decide +kernel
theorem dX0_writeRow_18 : decode cX0_writeRow 18 = .ok (.invokestatic 125, 3) := by decide +kernel
theorem dX0_writeRow_21 : decode cX0_writeRow 21 = .ok (.aload_n 0, 1) := by decide +kernel
theorem dX0_writeRow_22 : decode cX0_writeRow 22 = .ok (.getfield 11, 3) := by decide +kernel
theorem dX0_writeRow_25 : decode cX0_writeRow 25 = .ok (.iload 4, 2) := by decide +kernel
theorem dX0_writeRow_27 : decode cX0_writeRow 27 = .ok (.iconst 1, 1) := by decide +kernel
theorem dX0_writeRow_28 : decode cX0_writeRow 28 = .ok (.iadd, 1) := by decide +kernel
theorem dX0_writeRow_29 : decode cX0_writeRow 29 = .ok (.iload_n 2, 1) := by decide +kernel
theorem dX0_writeRow_30 : decode cX0_writeRow 30 = .ok (.invokestatic 125, 3) := by decide +kernel
theorem dX0_writeRow_33 : decode cX0_writeRow 33 = .ok (.aload_n 0, 1) := by decide +kernel
theorem dX0_writeRow_34 : decode cX0_writeRow 34 = .ok (.getfield 11, 3) := by decide +kernel
theorem dX0_writeRow_37 : decode cX0_writeRow 37 = .ok (.iload 4, 2) := by decide +kernel
theorem dX0_writeRow_39 : decode cX0_writeRow 39 = .ok (.iconst 2, 1) := by decide +kernel
theorem dX0_writeRow_40 : decode cX0_writeRow 40 = .ok (.iadd, 1) := by decide +kernel
theorem dX0_writeRow_41 : decode cX0_writeRow 41 = .ok (.aload_n 0, 1) := by decide +kernel
theorem dX0_writeRow_42 : decode cX0_writeRow 42 = .ok (.getfield 27, 3) := by decide +kernel
theorem dX0_writeRow_45 : decode cX0_writeRow 45 = .ok (.getfield 129, 3) := by decide +kernel
theorem dX0_writeRow_48 : decode cX0_writeRow 48 = .ok (.invokestatic 125, 3) := by decide +kernel
theorem dX0_writeRow_51 : decode cX0_writeRow 51 = .ok (.aload_n 0, 1) := by decide +kernel
theorem dX0_writeRow_52 : decode cX0_writeRow 52 = .ok (.getfield 11, 3) := by decide +kernel
theorem dX0_writeRow_55 : decode cX0_writeRow 55 = .ok (.iload 4, 2) := by decide +kernel
theorem dX0_writeRow_57 : decode cX0_writeRow 57 = .ok (.iconst 3, 1) := by decide +kernel
theorem dX0_writeRow_58 : decode cX0_writeRow 58 = .ok (.iadd, 1) := by decide +kernel
theorem dX0_writeRow_59 : decode cX0_writeRow 59 = .ok (.aload_n 0, 1) := by decide +kernel
theorem dX0_writeRow_60 : decode cX0_writeRow 60 = .ok (.getfield 27, 3) := by decide +kernel
theorem dX0_writeRow_63 : decode cX0_writeRow 63 = .ok (.getfield 132, 3) := by decide +kernel
theorem dX0_writeRow_66 : decode cX0_writeRow 66 = .ok (.invokestatic 125, 3) := by decide +kernel
theorem dX0_writeRow_69 : decode cX0_writeRow 69 = .ok (.aload_n 0, 1) := by decide +kernel
theorem dX0_writeRow_70 : decode cX0_writeRow 70 = .ok (.getfield 11, 3) := by decide +kernel
theorem dX0_writeRow_73 : decode cX0_writeRow 73 = .ok (.iload 4, 2) := by decide +kernel
theorem dX0_writeRow_75 : decode cX0_writeRow 75 = .ok (.iconst 4, 1) := by decide +kernel
theorem dX0_writeRow_76 : decode cX0_writeRow 76 = .ok (.iadd, 1) := by decide +kernel
theorem dX0_writeRow_77 : decode cX0_writeRow 77 = .ok (.aload_n 0, 1) := by decide +kernel
theorem dX0_writeRow_78 : decode cX0_writeRow 78 = .ok (.getfield 27, 3) := by decide +kernel
theorem dX0_writeRow_81 : decode cX0_writeRow 81 = .ok (.getfield 135, 3) := by decide +kernel
theorem dX0_writeRow_84 : decode cX0_writeRow 84 = .ok (.invokestatic 125, 3) := by decide +kernel
theorem dX0_writeRow_87 : decode cX0_writeRow 87 = .ok (.aload_n 0, 1) := by decide +kernel
theorem dX0_writeRow_88 : decode cX0_writeRow 88 = .ok (.getfield 11, 3) := by decide +kernel
theorem dX0_writeRow_91 : decode cX0_writeRow 91 = .ok (.iload 4, 2) := by decide +kernel
theorem dX0_writeRow_93 : decode cX0_writeRow 93 = .ok (.iconst 5, 1) := by decide +kernel
theorem dX0_writeRow_94 : decode cX0_writeRow 94 = .ok (.iadd, 1) := by decide +kernel
theorem dX0_writeRow_95 : decode cX0_writeRow 95 = .ok (.iload_n 3, 1) := by decide +kernel
theorem dX0_writeRow_96 : decode cX0_writeRow 96 = .ok (.ifCond .eq 7, 3) := by decide +kernel
theorem dX0_writeRow_99 : decode cX0_writeRow 99 = .ok (.iconst 1, 1) := by decide +kernel
theorem dX0_writeRow_100 : decode cX0_writeRow 100 = .ok (.goto 4, 3) := by decide +kernel
theorem dX0_writeRow_103 : decode cX0_writeRow 103 = .ok (.iconst 0, 1) := by decide +kernel
theorem dX0_writeRow_104 : decode cX0_writeRow 104 = .ok (.invokestatic 125, 3) := by decide +kernel
theorem dX0_writeRow_107 : decode cX0_writeRow 107 = .ok (.aload_n 0, 1) := by decide +kernel
theorem dX0_writeRow_108 : decode cX0_writeRow 108 = .ok (.getfield 11, 3) := by decide +kernel
theorem dX0_writeRow_111 : decode cX0_writeRow 111 = .ok (.iload 4, 2) := by decide +kernel
theorem dX0_writeRow_113 : decode cX0_writeRow 113 = .ok (.bipush 6, 2) := by decide +kernel
theorem dX0_writeRow_115 : decode cX0_writeRow 115 = .ok (.iadd, 1) := by decide +kernel
theorem dX0_writeRow_116 : decode cX0_writeRow 116 = .ok (.aload_n 0, 1) := by decide +kernel
theorem dX0_writeRow_117 : decode cX0_writeRow 117 = .ok (.getfield 59, 3) := by decide +kernel
theorem dX0_writeRow_120 : decode cX0_writeRow 120 = .ok (.invokestatic 138, 3) := by decide +kernel
theorem dX0_writeRow_123 : decode cX0_writeRow 123 = .ok (.invokestatic 125, 3) := by decide +kernel
theorem dX0_writeRow_126 : decode cX0_writeRow 126 = .ok (.return_, 1) := by decide +kernel
theorem dX0_carryOut_0 : decode cX0_carryOut 0 = .ok (.iload_n 1, 1) := by decide +kernel
theorem dX0_carryOut_1 : decode cX0_carryOut 1 = .ok (.invokestatic 107, 3) := by decide +kernel
theorem dX0_carryOut_4 : decode cX0_carryOut 4 = .ok (.istore_n 3, 1) := by decide +kernel
theorem dX0_carryOut_5 : decode cX0_carryOut 5 = .ok (.iload_n 3, 1) := by decide +kernel
theorem dX0_carryOut_6 : decode cX0_carryOut 6 = .ok (.ifCond .ne 18, 3) := by decide +kernel
theorem dX0_carryOut_9 : decode cX0_carryOut 9 = .ok (.iload_n 2, 1) := by decide +kernel
theorem dX0_carryOut_10 : decode cX0_carryOut 10 = .ok (.ifCond .eq 14, 3) := by decide +kernel
theorem dX0_carryOut_13 : decode cX0_carryOut 13 = .ok (.aload_n 0, 1) := by decide +kernel
theorem dX0_carryOut_14 : decode cX0_carryOut 14 = .ok (.getfield 23, 3) := by decide +kernel
theorem dX0_carryOut_17 : decode cX0_carryOut 17 = .ok (.iload_n 1, 1) := by decide +kernel
theorem dX0_carryOut_18 : decode cX0_carryOut 18 = .ok (.invokevirtual 143, 3) := by decide +kernel
theorem dX0_carryOut_21 : decode cX0_carryOut 21 = .ok (.goto 66, 3) := by decide +kernel
theorem dX0_carryOut_24 : decode cX0_carryOut 24 = .ok (.iload_n 3, 1) := by decide +kernel
theorem dX0_carryOut_25 : decode cX0_carryOut 25 = .ok (.ifCond .ne 15, 3) := by decide +kernel
theorem dX0_carryOut_28 : decode cX0_carryOut 28 = .ok (.aload_n 0, 1) := by decide +kernel
theorem dX0_carryOut_29 : decode cX0_carryOut 29 = .ok (.getfield 23, 3) := by decide +kernel
theorem dX0_carryOut_32 : decode cX0_carryOut 32 = .ok (.iload_n 1, 1) := by decide +kernel
theorem dX0_carryOut_33 : decode cX0_carryOut 33 = .ok (.iconst 2, 1) := by decide +kernel
theorem dX0_carryOut_34 : decode cX0_carryOut 34 = .ok (.invokevirtual 146, 3) := by decide +kernel
theorem dX0_carryOut_37 : decode cX0_carryOut 37 = .ok (.goto 50, 3) := by decide +kernel
theorem dX0_carryOut_40 : decode cX0_carryOut 40 = .ok (.iload_n 2, 1) := by decide +kernel
theorem dX0_carryOut_41 : decode cX0_carryOut 41 = .ok (.ifCond .ne 15, 3) := by decide +kernel
theorem dX0_carryOut_44 : decode cX0_carryOut 44 = .ok (.aload_n 0, 1) := by decide +kernel
theorem dX0_carryOut_45 : decode cX0_carryOut 45 = .ok (.getfield 23, 3) := by decide +kernel
theorem dX0_carryOut_48 : decode cX0_carryOut 48 = .ok (.iload_n 1, 1) := by decide +kernel
theorem dX0_carryOut_49 : decode cX0_carryOut 49 = .ok (.iconst 2, 1) := by decide +kernel
theorem dX0_carryOut_50 : decode cX0_carryOut 50 = .ok (.invokevirtual 149, 3) := by decide +kernel
theorem dX0_carryOut_53 : decode cX0_carryOut 53 = .ok (.goto 34, 3) := by decide +kernel
theorem dX0_carryOut_56 : decode cX0_carryOut 56 = .ok (.iload_n 3, 1) := by decide +kernel
theorem dX0_carryOut_57 : decode cX0_carryOut 57 = .ok (.iconst 1, 1) := by decide +kernel
theorem dX0_carryOut_58 : decode cX0_carryOut 58 = .ok (.if_icmp .ne 17, 3) := by decide +kernel
theorem dX0_carryOut_61 : decode cX0_carryOut 61 = .ok (.aload_n 0, 1) := by decide +kernel
theorem dX0_carryOut_62 : decode cX0_carryOut 62 = .ok (.getfield 23, 3) := by decide +kernel
theorem dX0_carryOut_65 : decode cX0_carryOut 65 = .ok (.iload_n 1, 1) := by decide +kernel
theorem dX0_carryOut_66 : decode cX0_carryOut 66 = .ok (.bipush 100, 2) := by decide +kernel
theorem dX0_carryOut_68 : decode cX0_carryOut 68 = .ok (.isub, 1) := by decide +kernel
theorem dX0_carryOut_69 : decode cX0_carryOut 69 = .ok (.invokevirtual 152, 3) := by decide +kernel
theorem dX0_carryOut_72 : decode cX0_carryOut 72 = .ok (.goto 15, 3) := by decide +kernel
theorem dX0_carryOut_75 : decode cX0_carryOut 75 = .ok (.aload_n 0, 1) := by decide +kernel
theorem dX0_carryOut_76 : decode cX0_carryOut 76 = .ok (.getfield 23, 3) := by decide +kernel
theorem dX0_carryOut_79 : decode cX0_carryOut 79 = .ok (.iload_n 1, 1) := by decide +kernel
theorem dX0_carryOut_80 : decode cX0_carryOut 80 = .ok (.sipush 200, 3) := by decide +kernel
theorem dX0_carryOut_83 : decode cX0_carryOut 83 = .ok (.isub, 1) := by decide +kernel
theorem dX0_carryOut_84 : decode cX0_carryOut 84 = .ok (.invokevirtual 155, 3) := by decide +kernel
theorem dX0_carryOut_87 : decode cX0_carryOut 87 = .ok (.return_, 1) := by decide +kernel
theorem dX0_wouldPass_0 : decode cX0_wouldPass 0 = .ok (.aload_n 0, 1) := by decide +kernel
theorem dX0_wouldPass_1 : decode cX0_wouldPass 1 = .ok (.getfield 19, 3) := by decide +kernel
theorem dX0_wouldPass_4 : decode cX0_wouldPass 4 = .ok (.aload_n 0, 1) := by decide +kernel
theorem dX0_wouldPass_5 : decode cX0_wouldPass 5 = .ok (.getfield 23, 3) := by decide +kernel
theorem dX0_wouldPass_8 : decode cX0_wouldPass 8 = .ok (.getfield 87, 3) := by decide +kernel
theorem dX0_wouldPass_11 : decode cX0_wouldPass 11 = .ok (.invokevirtual 90, 3) := by decide +kernel
theorem dX0_wouldPass_14 : decode cX0_wouldPass 14 = .ok (.astore_n 3, 1) := by decide +kernel
theorem dX0_wouldPass_15 : decode cX0_wouldPass 15 = .ok (.aload_n 0, 1) := by decide +kernel
theorem dX0_wouldPass_16 : decode cX0_wouldPass 16 = .ok (.getfield 27, 3) := by decide +kernel
theorem dX0_wouldPass_19 : decode cX0_wouldPass 19 = .ok (.iload_n 1, 1) := by decide +kernel
theorem dX0_wouldPass_20 : decode cX0_wouldPass 20 = .ok (.aload_n 0, 1) := by decide +kernel
theorem dX0_wouldPass_21 : decode cX0_wouldPass 21 = .ok (.getfield 15, 3) := by decide +kernel
theorem dX0_wouldPass_24 : decode cX0_wouldPass 24 = .ok (.getfield 62, 3) := by decide +kernel
theorem dX0_wouldPass_27 : decode cX0_wouldPass 27 = .ok (.invokevirtual 78, 3) := by decide +kernel
theorem dX0_wouldPass_30 : decode cX0_wouldPass 30 = .ok (.iload_n 2, 1) := by decide +kernel
theorem dX0_wouldPass_31 : decode cX0_wouldPass 31 = .ok (.iconst 3, 1) := by decide +kernel
theorem dX0_wouldPass_32 : decode cX0_wouldPass 32 = .ok (.if_icmp .ne 13, 3) := by decide +kernel
theorem dX0_wouldPass_35 : decode cX0_wouldPass 35 = .ok (.aload_n 0, 1) := by decide +kernel
theorem dX0_wouldPass_36 : decode cX0_wouldPass 36 = .ok (.getfield 27, 3) := by decide +kernel
theorem dX0_wouldPass_39 : decode cX0_wouldPass 39 = .ok (.invokevirtual 158, 3) := by decide +kernel
theorem dX0_wouldPass_42 : decode cX0_wouldPass 42 = .ok (.goto 20, 3) := by decide +kernel
theorem dX0_wouldPass_45 : decode cX0_wouldPass 45 = .ok (.aload_n 0, 1) := by decide +kernel
theorem dX0_wouldPass_46 : decode cX0_wouldPass 46 = .ok (.getfield 27, 3) := by decide +kernel
theorem dX0_wouldPass_49 : decode cX0_wouldPass 49 = .ok (.aload_n 3, 1) := by decide +kernel
theorem dX0_wouldPass_50 : decode cX0_wouldPass 50 = .ok (.iload_n 2, 1) := by decide +kernel
theorem dX0_wouldPass_51 : decode cX0_wouldPass 51 = .ok (.invokevirtual 96, 3) := by decide +kernel
theorem dX0_wouldPass_54 : decode cX0_wouldPass 54 = .ok (.aload_n 0, 1) := by decide +kernel
theorem dX0_wouldPass_55 : decode cX0_wouldPass 55 = .ok (.getfield 27, 3) := by decide +kernel
theorem dX0_wouldPass_58 : decode cX0_wouldPass 58 = .ok (.iconst (-1), 1) := by decide +kernel
theorem dX0_wouldPass_59 : decode cX0_wouldPass 59 = .ok (.invokevirtual 104, 3) := by decide +kernel
theorem dX0_wouldPass_62 : decode cX0_wouldPass 62 = .ok (.aload_n 0, 1) := by decide +kernel
theorem dX0_wouldPass_63 : decode cX0_wouldPass 63 = .ok (.getfield 27, 3) := by decide +kernel
theorem dX0_wouldPass_66 : decode cX0_wouldPass 66 = .ok (.aload_n 3, 1) := by decide +kernel
theorem dX0_wouldPass_67 : decode cX0_wouldPass 67 = .ok (.iload_n 1, 1) := by decide +kernel
theorem dX0_wouldPass_68 : decode cX0_wouldPass 68 = .ok (.invokestatic 107, 3) := by decide +kernel
theorem dX0_wouldPass_71 : decode cX0_wouldPass 71 = .ok (.aload_n 0, 1) := by decide +kernel
theorem dX0_wouldPass_72 : decode cX0_wouldPass 72 = .ok (.getfield 23, 3) := by decide +kernel
theorem dX0_wouldPass_75 : decode cX0_wouldPass 75 = .ok (.iload_n 1, 1) := by decide +kernel
theorem dX0_wouldPass_76 : decode cX0_wouldPass 76 = .ok (.invokevirtual 110, 3) := by decide +kernel
theorem dX0_wouldPass_79 : decode cX0_wouldPass 79 = .ok (.aload_n 0, 1) := by decide +kernel
theorem dX0_wouldPass_80 : decode cX0_wouldPass 80 = .ok (.getfield 15, 3) := by decide +kernel
theorem dX0_wouldPass_83 : decode cX0_wouldPass 83 = .ok (.getfield 62, 3) := by decide +kernel
theorem dX0_wouldPass_86 : decode cX0_wouldPass 86 = .ok (.invokevirtual 113, 3) := by decide +kernel
theorem dX0_wouldPass_89 : decode cX0_wouldPass 89 = .ok (.ireturn, 1) := by decide +kernel
theorem dX1_init_0 : decode cX1_init 0 = .ok (.aload_n 0, 1) := by decide +kernel
theorem dX1_init_1 : decode cX1_init 1 = .ok (.invokespecial 3, 3) := by decide +kernel
theorem dX1_init_4 : decode cX1_init 4 = .ok (.aload_n 0, 1) := by decide +kernel
theorem dX1_init_5 : decode cX1_init 5 = .ok (.bipush 8, 2) := by decide +kernel
theorem dX1_init_7 : decode cX1_init 7 = .ok (.newarray .int, 2) := by decide +kernel
theorem dX1_init_9 : decode cX1_init 9 = .ok (.putfield 9, 3) := by decide +kernel
theorem dX1_init_12 : decode cX1_init 12 = .ok (.aload_n 0, 1) := by decide +kernel
theorem dX1_init_13 : decode cX1_init 13 = .ok (.bipush 8, 2) := by decide +kernel
theorem dX1_init_15 : decode cX1_init 15 = .ok (.newarray .long, 2) := by decide +kernel
theorem dX1_init_17 : decode cX1_init 17 = .ok (.putfield 15, 3) := by decide +kernel
theorem dX1_init_20 : decode cX1_init 20 = .ok (.aload_n 0, 1) := by decide +kernel
theorem dX1_init_21 : decode cX1_init 21 = .ok (.bipush 8, 2) := by decide +kernel
theorem dX1_init_23 : decode cX1_init 23 = .ok (.newarray .long, 2) := by decide +kernel
theorem dX1_init_25 : decode cX1_init 25 = .ok (.putfield 19, 3) := by decide +kernel
theorem dX1_init_28 : decode cX1_init 28 = .ok (.aload_n 0, 1) := by decide +kernel
theorem dX1_init_29 : decode cX1_init 29 = .ok (.bipush 8, 2) := by decide +kernel
theorem dX1_init_31 : decode cX1_init 31 = .ok (.newarray .long, 2) := by decide +kernel
theorem dX1_init_33 : decode cX1_init 33 = .ok (.putfield 22, 3) := by decide +kernel
theorem dX1_init_36 : decode cX1_init 36 = .ok (.aload_n 0, 1) := by decide +kernel
theorem dX1_init_37 : decode cX1_init 37 = .ok (.bipush 9, 2) := by decide +kernel
theorem dX1_init_39 : decode cX1_init 39 = .ok (.newarray .long, 2) := by decide +kernel
theorem dX1_init_41 : decode cX1_init 41 = .ok (.putfield 25, 3) := by decide +kernel
theorem dX1_init_44 : decode cX1_init 44 = .ok (.aload_n 0, 1) := by decide +kernel
theorem dX1_init_45 : decode cX1_init 45 = .ok (.sipush 256, 3) := by decide +kernel
theorem dX1_init_48 : decode cX1_init 48 = .ok (.newarray .int, 2) := by decide +kernel
theorem dX1_init_50 : decode cX1_init 50 = .ok (.putfield 28, 3) := by decide +kernel
theorem dX1_init_53 : decode cX1_init 53 = .ok (.aload_n 0, 1) := by decide +kernel
theorem dX1_init_54 : decode cX1_init 54 = .ok (.bipush 8, 2) := by decide +kernel
theorem dX1_init_56 : decode cX1_init 56 = .ok (.newarray .int, 2) := by decide +kernel
theorem dX1_init_58 : decode cX1_init 58 = .ok (.putfield 31, 3) := by decide +kernel
theorem dX1_init_61 : decode cX1_init 61 = .ok (.aload_n 0, 1) := by decide +kernel
theorem dX1_init_62 : decode cX1_init 62 = .ok (.bipush 8, 2) := by decide +kernel
theorem dX1_init_64 : decode cX1_init 64 = .ok (.newarray .int, 2) := by decide +kernel
theorem dX1_init_66 : decode cX1_init 66 = .ok (.putfield 34, 3) := by decide +kernel
theorem dX1_init_69 : decode cX1_init 69 = .ok (.aload_n 0, 1) := by decide +kernel
theorem dX1_init_70 : decode cX1_init 70 = .ok (.bipush 8, 2) := by decide +kernel
theorem dX1_init_72 : decode cX1_init 72 = .ok (.newarray .int, 2) := by decide +kernel
theorem dX1_init_74 : decode cX1_init 74 = .ok (.putfield 37, 3) := by decide +kernel
theorem dX1_init_77 : decode cX1_init 77 = .ok (.aload_n 0, 1) := by decide +kernel
theorem dX1_init_78 : decode cX1_init 78 = .ok (.aload_n 1, 1) := by decide +kernel
theorem dX1_init_79 : decode cX1_init 79 = .ok (.putfield 40, 3) := by decide +kernel
theorem dX1_init_82 : decode cX1_init 82 = .ok (.aload_n 0, 1) := by decide +kernel
theorem dX1_init_83 : decode cX1_init 83 = .ok (.aload_n 2, 1) := by decide +kernel
theorem dX1_init_84 : decode cX1_init 84 = .ok (.putfield 44, 3) := by decide +kernel
theorem dX1_init_87 : decode cX1_init 87 = .ok (.return_, 1) := by decide +kernel
theorem dX1_choose_0 : decode cX1_choose 0 = .ok (.aload_n 0, 1) := by decide +kernel
theorem dX1_choose_1 : decode cX1_choose 1 = .ok (.aload_n 0, 1) := by decide +kernel
theorem dX1_choose_2 : decode cX1_choose 2 = .ok (.getfield 44, 3) := by decide +kernel
theorem dX1_choose_5 : decode cX1_choose 5 = .ok (.iload_n 1, 1) := by decide +kernel
theorem dX1_choose_6 : decode cX1_choose 6 = .ok (.aload_n 0, 1) := by decide +kernel
theorem dX1_choose_7 : decode cX1_choose 7 = .ok (.getfield 9, 3) := by decide +kernel
theorem dX1_choose_10 : decode cX1_choose 10 = .ok (.invokevirtual 48, 3) := by decide +kernel
theorem dX1_choose_13 : decode cX1_choose 13 = .ok (.putfield 54, 3) := by decide +kernel
theorem dX1_choose_16 : decode cX1_choose 16 = .ok (.iconst 0, 1) := by decide +kernel
theorem dX1_choose_17 : decode cX1_choose 17 = .ok (.istore_n 2, 1) := by decide +kernel
theorem dX1_choose_18 : decode cX1_choose 18 = .ok (.iload_n 2, 1) := by decide +kernel
theorem dX1_choose_19 : decode cX1_choose 19 = .ok (.aload_n 0, 1) := by decide +kernel
theorem dX1_choose_20 : decode cX1_choose 20 = .ok (.getfield 54, 3) := by decide +kernel
theorem dX1_choose_23 : decode cX1_choose 23 = .ok (.if_icmp .ge 68, 3) := by decide +kernel
theorem dX1_choose_26 : decode cX1_choose 26 = .ok (.aload_n 0, 1) := by decide +kernel
theorem dX1_choose_27 : decode cX1_choose 27 = .ok (.getfield 9, 3) := by decide +kernel
theorem dX1_choose_30 : decode cX1_choose 30 = .ok (.iload_n 2, 1) := by decide +kernel
theorem dX1_choose_31 : decode cX1_choose 31 = .ok (.invokestatic 58, 3) := by decide +kernel
theorem dX1_choose_34 : decode cX1_choose 34 = .ok (.istore_n 3, 1) := by decide +kernel
theorem dX1_choose_35 : decode cX1_choose 35 = .ok (.aload_n 0, 1) := by decide +kernel
theorem dX1_choose_36 : decode cX1_choose 36 = .ok (.getfield 15, 3) := by decide +kernel
theorem dX1_choose_39 : decode cX1_choose 39 = .ok (.iload_n 2, 1) := by decide +kernel
theorem dX1_choose_40 : decode cX1_choose 40 = .ok (.aload_n 0, 1) := by decide +kernel
theorem dX1_choose_41 : decode cX1_choose 41 = .ok (.getfield 44, 3) := by decide +kernel
theorem dX1_choose_44 : decode cX1_choose 44 = .ok (.iload_n 3, 1) := by decide +kernel
theorem dX1_choose_45 : decode cX1_choose 45 = .ok (.iconst 1, 1) := by decide +kernel
theorem dX1_choose_46 : decode cX1_choose 46 = .ok (.invokevirtual 62, 3) := by decide +kernel
theorem dX1_choose_49 : decode cX1_choose 49 = .ok (.invokestatic 66, 3) := by decide +kernel
theorem dX1_choose_52 : decode cX1_choose 52 = .ok (.aload_n 0, 1) := by decide +kernel
theorem dX1_choose_53 : decode cX1_choose 53 = .ok (.getfield 19, 3) := by decide +kernel
theorem dX1_choose_56 : decode cX1_choose 56 = .ok (.iload_n 2, 1) := by decide +kernel
theorem dX1_choose_57 : decode cX1_choose 57 = .ok (.aload_n 0, 1) := by decide +kernel
theorem dX1_choose_58 : decode cX1_choose 58 = .ok (.getfield 44, 3) := by decide +kernel
theorem dX1_choose_61 : decode cX1_choose 61 = .ok (.iload_n 3, 1) := by decide +kernel
theorem dX1_choose_62 : decode cX1_choose 62 = .ok (.iconst (-1), 1) := by decide +kernel
theorem dX1_choose_63 : decode cX1_choose 63 = .ok (.invokevirtual 62, 3) := by decide +kernel
theorem dX1_choose_66 : decode cX1_choose 66 = .ok (.invokestatic 66, 3) := by decide +kernel
theorem dX1_choose_69 : decode cX1_choose 69 = .ok (.aload_n 0, 1) := by decide +kernel
theorem dX1_choose_70 : decode cX1_choose 70 = .ok (.getfield 22, 3) := by decide +kernel
theorem dX1_choose_73 : decode cX1_choose 73 = .ok (.iload_n 2, 1) := by decide +kernel
theorem dX1_choose_74 : decode cX1_choose 74 = .ok (.aload_n 0, 1) := by decide +kernel
theorem dX1_choose_75 : decode cX1_choose 75 = .ok (.getfield 44, 3) := by decide +kernel
theorem dX1_choose_78 : decode cX1_choose 78 = .ok (.iload_n 3, 1) := by decide +kernel
theorem dX1_choose_79 : decode cX1_choose 79 = .ok (.invokevirtual 70, 3) := by decide +kernel
theorem dX1_choose_82 : decode cX1_choose 82 = .ok (.invokestatic 66, 3) := by decide +kernel
theorem dX1_choose_85 : decode cX1_choose 85 = .ok (.iinc 2 1, 3) := by decide +kernel
theorem dX1_choose_88 : decode cX1_choose 88 = .ok (.goto (-70), 3) := by decide +kernel
theorem dX1_choose_91 : decode cX1_choose 91 = .ok (.return_, 1) := by decide +kernel
theorem dX1_lostByAll_0 : decode cX1_lostByAll 0 = .ok (.aload_n 0, 1) := by decide +kernel
theorem dX1_lostByAll_1 : decode cX1_lostByAll 1 = .ok (.iload_n 1, 1) := by decide +kernel
theorem dX1_lostByAll_2 : decode cX1_lostByAll 2 = .ok (.invokevirtual 74, 3) := by decide +kernel
theorem dX1_lostByAll_5 : decode cX1_lostByAll 5 = .ok (.aload_n 0, 1) := by decide +kernel
theorem dX1_lostByAll_6 : decode cX1_lostByAll 6 = .ok (.getfield 54, 3) := by decide +kernel
theorem dX1_lostByAll_9 : decode cX1_lostByAll 9 = .ok (.iconst 2, 1) := by decide +kernel
theorem dX1_lostByAll_10 : decode cX1_lostByAll 10 = .ok (.if_icmp .ge 7, 3) := by decide +kernel
theorem dX1_lostByAll_13 : decode cX1_lostByAll 13 = .ok (.iconst (-1), 1) := by decide +kernel
theorem dX1_lostByAll_14 : decode cX1_lostByAll 14 = .ok (.goto 15, 3) := by decide +kernel
theorem dX1_lostByAll_17 : decode cX1_lostByAll 17 = .ok (.aload_n 0, 1) := by decide +kernel
theorem dX1_lostByAll_18 : decode cX1_lostByAll 18 = .ok (.iconst 1, 1) := by decide +kernel
theorem dX1_lostByAll_19 : decode cX1_lostByAll 19 = .ok (.aload_n 0, 1) := by decide +kernel
theorem dX1_lostByAll_20 : decode cX1_lostByAll 20 = .ok (.getfield 54, 3) := by decide +kernel
theorem dX1_lostByAll_23 : decode cX1_lostByAll 23 = .ok (.ishl, 1) := by decide +kernel
theorem dX1_lostByAll_24 : decode cX1_lostByAll 24 = .ok (.iconst 1, 1) := by decide +kernel
theorem dX1_lostByAll_25 : decode cX1_lostByAll 25 = .ok (.isub, 1) := by decide +kernel
theorem dX1_lostByAll_26 : decode cX1_lostByAll 26 = .ok (.invokevirtual 78, 3) := by decide +kernel
theorem dX1_lostByAll_29 : decode cX1_lostByAll 29 = .ok (.ireturn, 1) := by decide +kernel
theorem dX1_compose_0 : decode cX1_compose 0 = .ok (.aload_n 0, 1) := by decide +kernel
theorem dX1_compose_1 : decode cX1_compose 1 = .ok (.iload_n 1, 1) := by decide +kernel
theorem dX1_compose_2 : decode cX1_compose 2 = .ok (.invokevirtual 82, 3) := by decide +kernel
theorem dX1_compose_5 : decode cX1_compose 5 = .ok (.ifCond .ne 5, 3) := by decide +kernel
theorem dX1_compose_8 : decode cX1_compose 8 = .ok (.iconst (-1), 1) := by decide +kernel
theorem dX1_compose_9 : decode cX1_compose 9 = .ok (.ireturn, 1) := by decide +kernel
theorem dX1_compose_10 : decode cX1_compose 10 = .ok (.iconst 0, 1) := by decide +kernel
theorem dX1_compose_11 : decode cX1_compose 11 = .ok (.istore_n 2, 1) := by decide +kernel
theorem dX1_compose_12 : decode cX1_compose 12 = .ok (.iconst 0, 1) := by decide +kernel
theorem dX1_compose_13 : decode cX1_compose 13 = .ok (.istore_n 3, 1) := by decide +kernel
theorem dX1_compose_14 : decode cX1_compose 14 = .ok (.iconst 0, 1) := by decide +kernel
theorem dX1_compose_15 : decode cX1_compose 15 = .ok (.istore 4, 2) := by decide +kernel
theorem dX1_compose_17 : decode cX1_compose 17 = .ok (.iload 4, 2) := by decide +kernel
theorem dX1_compose_19 : decode cX1_compose 19 = .ok (.aload_n 0, 1) := by decide +kernel
theorem dX1_compose_20 : decode cX1_compose 20 = .ok (.getfield 54, 3) := by decide +kernel
theorem dX1_compose_23 : decode cX1_compose 23 = .ok (.if_icmp .ge 60, 3) := by decide +kernel
theorem dX1_compose_26 : decode cX1_compose 26 = .ok (.iload_n 1, 1) := by decide +kernel
theorem dX1_compose_27 : decode cX1_compose 27 = .ok (.iload 4, 2) := by decide +kernel
theorem dX1_compose_29 : decode cX1_compose 29 = .ok (.iushr, 1) := by decide +kernel
theorem dX1_compose_30 : decode cX1_compose 30 = .ok (.iconst 1, 1) := by decide +kernel
theorem dX1_compose_31 : decode cX1_compose 31 = .ok (.iand, 1) := by decide +kernel
theorem dX1_compose_32 : decode cX1_compose 32 = .ok (.ifCond .eq 45, 3) := by decide +kernel
theorem dX1_compose_35 : decode cX1_compose 35 = .ok (.aload_n 0, 1) := by decide +kernel
theorem dX1_compose_36 : decode cX1_compose 36 = .ok (.getfield 15, 3) := by decide +kernel
theorem dX1_compose_39 : decode cX1_compose 39 = .ok (.iload 4, 2) := by decide +kernel
theorem dX1_compose_41 : decode cX1_compose 41 = .ok (.invokestatic 86, 3) := by decide +kernel
theorem dX1_compose_44 : decode cX1_compose 44 = .ok (.aload_n 0, 1) := by decide +kernel
theorem dX1_compose_45 : decode cX1_compose 45 = .ok (.getfield 19, 3) := by decide +kernel
theorem dX1_compose_48 : decode cX1_compose 48 = .ok (.iload 4, 2) := by decide +kernel
theorem dX1_compose_50 : decode cX1_compose 50 = .ok (.invokestatic 86, 3) := by decide +kernel
theorem dX1_compose_53 : decode cX1_compose 53 = .ok (.lor, 1) := by decide +kernel
theorem dX1_compose_54 : decode cX1_compose 54 = .ok (.lstore 5, 2) := by decide +kernel
theorem dX1_compose_56 : decode cX1_compose 56 = .ok (.iload_n 2, 1) := by decide +kernel
theorem dX1_compose_57 : decode cX1_compose 57 = .ok (.lload 5, 2) := by decide +kernel
theorem dX1_compose_59 : decode cX1_compose 59 = .ok (.invokestatic 89, 3) := by decide +kernel
theorem dX1_compose_62 : decode cX1_compose 62 = .ok (.iadd, 1) := by decide +kernel
theorem dX1_compose_63 : decode cX1_compose 63 = .ok (.istore_n 2, 1) := by decide +kernel
theorem dX1_compose_64 : decode cX1_compose 64 = .ok (.iload_n 3, 1) := by decide +kernel
theorem dX1_compose_65 : decode cX1_compose 65 = .ok (.lload 5, 2) := by decide +kernel
theorem dX1_compose_67 : decode cX1_compose 67 = .ok (.aload_n 0, 1) := by decide +kernel
theorem dX1_compose_68 : decode cX1_compose 68 = .ok (.getfield 95, 3) := by decide +kernel
theorem dX1_compose_71 : decode cX1_compose 71 = .ok (.land, 1) := by decide +kernel
theorem dX1_compose_72 : decode cX1_compose 72 = .ok (.invokestatic 89, 3) := by decide +kernel
theorem dX1_compose_75 : decode cX1_compose 75 = .ok (.iadd, 1) := by decide +kernel
theorem dX1_compose_76 : decode cX1_compose 76 = .ok (.istore_n 3, 1) := by decide +kernel
theorem dX1_compose_77 : decode cX1_compose 77 = .ok (.iinc 4 1, 3) := by decide +kernel
theorem dX1_compose_80 : decode cX1_compose 80 = .ok (.goto (-63), 3) := by decide +kernel
theorem dX1_compose_83 : decode cX1_compose 83 = .ok (.iload_n 2, 1) := by decide +kernel
theorem dX1_compose_84 : decode cX1_compose 84 = .ok (.iload_n 3, 1) := by decide +kernel
theorem dX1_compose_85 : decode cX1_compose 85 = .ok (.isub, 1) := by decide +kernel
theorem dX1_compose_86 : decode cX1_compose 86 = .ok (.ireturn, 1) := by decide +kernel
theorem dX1_gather_0 : decode cX1_gather 0 = .ok (.aload_n 0, 1) := by decide +kernel
theorem dX1_gather_1 : decode cX1_gather 1 = .ok (.getfield 40, 3) := by decide +kernel
theorem dX1_gather_4 : decode cX1_gather 4 = .ok (.aload_n 0, 1) := by decide +kernel
theorem dX1_gather_5 : decode cX1_gather 5 = .ok (.getfield 44, 3) := by decide +kernel
theorem dX1_gather_8 : decode cX1_gather 8 = .ok (.getfield 99, 3) := by decide +kernel
theorem dX1_gather_11 : decode cX1_gather 11 = .ok (.invokevirtual 102, 3) := by decide +kernel
theorem dX1_gather_14 : decode cX1_gather 14 = .ok (.getfield 108, 3) := by decide +kernel
theorem dX1_gather_17 : decode cX1_gather 17 = .ok (.istore_n 2, 1) := by decide +kernel
theorem dX1_gather_18 : decode cX1_gather 18 = .ok (.lconst 0, 1) := by decide +kernel
theorem dX1_gather_19 : decode cX1_gather 19 = .ok (.lstore_n 3, 1) := by decide +kernel
theorem dX1_gather_20 : decode cX1_gather 20 = .ok (.aload_n 0, 1) := by decide +kernel
theorem dX1_gather_21 : decode cX1_gather 21 = .ok (.lconst 0, 1) := by decide +kernel
theorem dX1_gather_22 : decode cX1_gather 22 = .ok (.putfield 113, 3) := by decide +kernel
theorem dX1_gather_25 : decode cX1_gather 25 = .ok (.aload_n 0, 1) := by decide +kernel
theorem dX1_gather_26 : decode cX1_gather 26 = .ok (.lconst 0, 1) := by decide +kernel
theorem dX1_gather_27 : decode cX1_gather 27 = .ok (.putfield 116, 3) := by decide +kernel
theorem dX1_gather_30 : decode cX1_gather 30 = .ok (.iconst 0, 1) := by decide +kernel
theorem dX1_gather_31 : decode cX1_gather 31 = .ok (.istore 5, 2) := by decide +kernel
theorem dX1_gather_33 : decode cX1_gather 33 = .ok (.iload 5, 2) := by decide +kernel
theorem dX1_gather_35 : decode cX1_gather 35 = .ok (.aload_n 0, 1) := by decide +kernel
theorem dX1_gather_36 : decode cX1_gather 36 = .ok (.getfield 25, 3) := by decide +kernel
theorem dX1_gather_39 : decode cX1_gather 39 = .ok (.arraylength, 1) := by decide +kernel
theorem dX1_gather_40 : decode cX1_gather 40 = .ok (.if_icmp .ge 17, 3) := by decide +kernel
theorem dX1_gather_43 : decode cX1_gather 43 = .ok (.aload_n 0, 1) := by decide +kernel
theorem dX1_gather_44 : decode cX1_gather 44 = .ok (.getfield 25, 3) := by decide +kernel
theorem dX1_gather_47 : decode cX1_gather 47 = .ok (.iload 5, 2) := by decide +kernel
theorem dX1_gather_49 : decode cX1_gather 49 = .ok (.lconst 0, 1) := by decide +kernel
theorem dX1_gather_50 : decode cX1_gather 50 = .ok (.lastore, 1) := by decide +kernel
theorem dX1_gather_51 : decode cX1_gather 51 = .ok (.iinc 5 1, 3) := by decide +kernel
theorem dX1_gather_54 : decode cX1_gather 54 = .ok (.goto (-21), 3) := by decide +kernel
theorem dX1_gather_57 : decode cX1_gather 57 = .ok (.iconst 0, 1) := by decide +kernel
theorem dX1_gather_58 : decode cX1_gather 58 = .ok (.istore 5, 2) := by decide +kernel
theorem dX1_gather_60 : decode cX1_gather 60 = .ok (.iload 5, 2) := by decide +kernel
theorem dX1_gather_62 : decode cX1_gather 62 = .ok (.aload_n 0, 1) := by decide +kernel
theorem dX1_gather_63 : decode cX1_gather 63 = .ok (.getfield 54, 3) := by decide +kernel
theorem dX1_gather_66 : decode cX1_gather 66 = .ok (.if_icmp .ge 89, 3) := by decide +kernel
theorem dX1_gather_69 : decode cX1_gather 69 = .ok (.iload_n 1, 1) := by decide +kernel
theorem dX1_gather_70 : decode cX1_gather 70 = .ok (.iload 5, 2) := by decide +kernel
theorem dX1_gather_72 : decode cX1_gather 72 = .ok (.iushr, 1) := by decide +kernel
theorem dX1_gather_73 : decode cX1_gather 73 = .ok (.iconst 1, 1) := by decide +kernel
theorem dX1_gather_74 : decode cX1_gather 74 = .ok (.iand, 1) := by decide +kernel
theorem dX1_gather_75 : decode cX1_gather 75 = .ok (.ifCond .eq 74, 3) := by decide +kernel
theorem dX1_gather_78 : decode cX1_gather 78 = .ok (.aload_n 0, 1) := by decide +kernel
theorem dX1_gather_79 : decode cX1_gather 79 = .ok (.dup, 1) := by decide +kernel
theorem dX1_gather_80 : decode cX1_gather 80 = .ok (.getfield 113, 3) := by decide +kernel
theorem dX1_gather_83 : decode cX1_gather 83 = .ok (.aload_n 0, 1) := by decide +kernel
theorem dX1_gather_84 : decode cX1_gather 84 = .ok (.getfield 15, 3) := by decide +kernel
theorem dX1_gather_87 : decode cX1_gather 87 = .ok (.iload 5, 2) := by decide +kernel
theorem dX1_gather_89 : decode cX1_gather 89 = .ok (.invokestatic 86, 3) := by decide +kernel
theorem dX1_gather_92 : decode cX1_gather 92 = .ok (.lor, 1) := by decide +kernel
theorem dX1_gather_93 : decode cX1_gather 93 = .ok (.putfield 113, 3) := by decide +kernel
theorem dX1_gather_96 : decode cX1_gather 96 = .ok (.lload_n 3, 1) := by decide +kernel
theorem dX1_gather_97 : decode cX1_gather 97 = .ok (.aload_n 0, 1) := by decide +kernel
theorem dX1_gather_98 : decode cX1_gather 98 = .ok (.getfield 19, 3) := by decide +kernel
theorem dX1_gather_101 : decode cX1_gather 101 = .ok (.iload 5, 2) := by decide +kernel
theorem dX1_gather_103 : decode cX1_gather 103 = .ok (.invokestatic 86, 3) := by decide +kernel
theorem dX1_gather_106 : decode cX1_gather 106 = .ok (.lor, 1) := by decide +kernel
theorem dX1_gather_107 : decode cX1_gather 107 = .ok (.lstore_n 3, 1) := by decide +kernel
theorem dX1_gather_108 : decode cX1_gather 108 = .ok (.aload_n 0, 1) := by decide +kernel
theorem dX1_gather_109 : decode cX1_gather 109 = .ok (.dup, 1) := by decide +kernel
theorem dX1_gather_110 : decode cX1_gather 110 = .ok (.getfield 116, 3) := by decide +kernel
theorem dX1_gather_113 : decode cX1_gather 113 = .ok (.aload_n 0, 1) := by decide +kernel
theorem dX1_gather_114 : decode cX1_gather 114 = .ok (.getfield 22, 3) := by decide +kernel
theorem dX1_gather_117 : decode cX1_gather 117 = .ok (.iload 5, 2) := by decide +kernel
theorem dX1_gather_119 : decode cX1_gather 119 = .ok (.invokestatic 86, 3) := by decide +kernel
theorem dX1_gather_122 : decode cX1_gather 122 = .ok (.lor, 1) := by decide +kernel
theorem dX1_gather_123 : decode cX1_gather 123 = .ok (.putfield 116, 3) := by decide +kernel
theorem dX1_gather_126 : decode cX1_gather 126 = .ok (.aload_n 0, 1) := by decide +kernel
theorem dX1_gather_127 : decode cX1_gather 127 = .ok (.aload_n 0, 1) := by decide +kernel
theorem dX1_gather_128 : decode cX1_gather 128 = .ok (.getfield 15, 3) := by decide +kernel
theorem dX1_gather_131 : decode cX1_gather 131 = .ok (.iload 5, 2) := by decide +kernel
theorem dX1_gather_133 : decode cX1_gather 133 = .ok (.invokestatic 86, 3) := by decide +kernel
theorem dX1_gather_136 : decode cX1_gather 136 = .ok (.aload_n 0, 1) := by decide +kernel
theorem dX1_gather_137 : decode cX1_gather 137 = .ok (.getfield 19, 3) := by decide +kernel
theorem dX1_gather_140 : decode cX1_gather 140 = .ok (.iload 5, 2) := by decide +kernel
theorem dX1_gather_142 : decode cX1_gather 142 = .ok (.invokestatic 86, 3) := by decide +kernel
theorem dX1_gather_145 : decode cX1_gather 145 = .ok (.lor, 1) := by decide +kernel
theorem dX1_gather_146 : decode cX1_gather 146 = .ok (.invokevirtual 119, 3) := by decide +kernel
theorem dX1_gather_149 : decode cX1_gather 149 = .ok (.iinc 5 1, 3) := by decide +kernel
theorem dX1_gather_152 : decode cX1_gather 152 = .ok (.goto (-92), 3) := by decide +kernel
theorem dX1_gather_155 : decode cX1_gather 155 = .ok (.aload_n 0, 1) := by decide +kernel
theorem dX1_gather_156 : decode cX1_gather 156 = .ok (.getfield 113, 3) := by decide +kernel
theorem dX1_gather_159 : decode cX1_gather 159 = .ok (.lload_n 3, 1) := by decide +kernel
theorem dX1_gather_160 : decode cX1_gather 160 = .ok (.land, 1) := by decide +kernel
theorem dX1_gather_161 : decode cX1_gather 161 = .ok (.lconst 0, 1) := by decide +kernel
theorem dX1_gather_162 : decode cX1_gather 162 = .ok (.lcmp, 1) := by decide +kernel
theorem dX1_gather_163 : decode cX1_gather 163 = .ok (.ifCond .ne 14, 3) := by decide +kernel
theorem dX1_gather_166 : decode cX1_gather 166 = .ok (.aload_n 0, 1) := by decide +kernel
theorem dX1_gather_167 : decode cX1_gather 167 = .ok (.getfield 116, 3) := by decide +kernel
theorem dX1_gather_170 : decode cX1_gather 170 = .ok (.invokestatic 89, 3) := by decide +kernel
theorem dX1_gather_173 : decode cX1_gather 173 = .ok (.iload_n 2, 1) := by decide +kernel
theorem dX1_gather_174 : decode cX1_gather 174 = .ok (.if_icmp .le 5, 3) := by decide +kernel
theorem dX1_gather_177 : decode cX1_gather 177 = .ok (.iconst 0, 1) := by decide +kernel
theorem dX1_gather_178 : decode cX1_gather 178 = .ok (.ireturn, 1) := by decide +kernel
theorem dX1_gather_179 : decode cX1_gather 179 = .ok (.aload_n 0, 1) := by decide +kernel
theorem dX1_gather_180 : decode cX1_gather 180 = .ok (.iload_n 2, 1) := by decide +kernel
theorem dX1_gather_181 : decode cX1_gather 181 = .ok (.invokevirtual 123, 3) := by decide +kernel
theorem dX1_gather_184 : decode cX1_gather 184 = .ok (.iconst 1, 1) := by decide +kernel
theorem dX1_gather_185 : decode cX1_gather 185 = .ok (.ireturn, 1) := by decide +kernel
theorem dX1_share_0 : decode cX1_share 0 = .ok (.aload_n 0, 1) := by decide +kernel
theorem dX1_share_1 : decode cX1_share 1 = .ok (.getfield 25, 3) := by decide +kernel
theorem dX1_share_4 : decode cX1_share 4 = .ok (.arraylength, 1) := by decide +kernel
theorem dX1_share_5 : decode cX1_share 5 = .ok (.iconst 1, 1) := by decide +kernel
theorem dX1_share_6 : decode cX1_share 6 = .ok (.isub, 1) := by decide +kernel
theorem dX1_share_7 : decode cX1_share 7 = .ok (.istore_n 3, 1) := by decide +kernel
theorem dX1_share_8 : decode cX1_share 8 = .ok (.iload_n 3, 1) := by decide +kernel
theorem dX1_share_9 : decode cX1_share 9 = .ok (.iconst 1, 1) := by decide +kernel
theorem dX1_share_10 : decode cX1_share 10 = .ok (.if_icmp .le 28, 3) := by decide +kernel
theorem dX1_share_13 : decode cX1_share 13 = .ok (.aload_n 0, 1) := by decide +kernel
theorem dX1_share_14 : decode cX1_share 14 = .ok (.getfield 25, 3) := by decide +kernel
theorem dX1_share_17 : decode cX1_share 17 = .ok (.iload_n 3, 1) := by decide +kernel
theorem dX1_share_18 : decode cX1_share 18 = .ok (.dup2, 1) := by decide +kernel
theorem dX1_share_19 : decode cX1_share 19 = .ok (.laload, 1) := by decide +kernel
theorem dX1_share_20 : decode cX1_share 20 = .ok (.aload_n 0, 1) := by decide +kernel
theorem dX1_share_21 : decode cX1_share 21 = .ok (.getfield 25, 3) := by decide +kernel
theorem dX1_share_24 : decode cX1_share 24 = .ok (.iload_n 3, 1) := by decide +kernel
theorem dX1_share_25 : decode cX1_share 25 = .ok (.iconst 1, 1) := by decide +kernel
theorem dX1_share_26 : decode cX1_share 26 = .ok (.isub, 1) := by decide +kernel
theorem dX1_share_27 : decode cX1_share 27 = .ok (.laload, 1) := by decide +kernel
theorem dX1_share_28 : decode cX1_share 28 = .ok (.lload_n 1, 1) := by decide +kernel
theorem dX1_share_29 : decode cX1_share 29 = .ok (.land, 1) := by decide +kernel
theorem dX1_share_30 : decode cX1_share 30 = .ok (.lor, 1) := by decide +kernel
theorem dX1_share_31 : decode cX1_share 31 = .ok (.lastore, 1) := by decide +kernel
theorem dX1_share_32 : decode cX1_share 32 = .ok (.iinc 3 (-1), 3) := by decide +kernel
theorem dX1_share_35 : decode cX1_share 35 = .ok (.goto (-27), 3) := by decide +kernel
theorem dX1_share_38 : decode cX1_share 38 = .ok (.aload_n 0, 1) := by decide +kernel
theorem dX1_share_39 : decode cX1_share 39 = .ok (.getfield 25, 3) := by decide +kernel
theorem dX1_share_42 : decode cX1_share 42 = .ok (.iconst 1, 1) := by decide +kernel
theorem dX1_share_43 : decode cX1_share 43 = .ok (.dup2, 1) := by decide +kernel
theorem dX1_share_44 : decode cX1_share 44 = .ok (.laload, 1) := by decide +kernel
theorem dX1_share_45 : decode cX1_share 45 = .ok (.lload_n 1, 1) := by decide +kernel
theorem dX1_share_46 : decode cX1_share 46 = .ok (.lor, 1) := by decide +kernel
theorem dX1_share_47 : decode cX1_share 47 = .ok (.lastore, 1) := by decide +kernel
theorem dX1_share_48 : decode cX1_share 48 = .ok (.return_, 1) := by decide +kernel
theorem dX1_keepUpTo_0 : decode cX1_keepUpTo 0 = .ok (.aload_n 0, 1) := by decide +kernel
theorem dX1_keepUpTo_1 : decode cX1_keepUpTo 1 = .ok (.aload_n 0, 1) := by decide +kernel
theorem dX1_keepUpTo_2 : decode cX1_keepUpTo 2 = .ok (.getfield 116, 3) := by decide +kernel
theorem dX1_keepUpTo_5 : decode cX1_keepUpTo 5 = .ok (.putfield 95, 3) := by decide +kernel
theorem dX1_keepUpTo_8 : decode cX1_keepUpTo 8 = .ok (.iload_n 1, 1) := by decide +kernel
theorem dX1_keepUpTo_9 : decode cX1_keepUpTo 9 = .ok (.aload_n 0, 1) := by decide +kernel
theorem dX1_keepUpTo_10 : decode cX1_keepUpTo 10 = .ok (.getfield 116, 3) := by decide +kernel
theorem dX1_keepUpTo_13 : decode cX1_keepUpTo 13 = .ok (.invokestatic 89, 3) := by decide +kernel
theorem dX1_keepUpTo_16 : decode cX1_keepUpTo 16 = .ok (.isub, 1) := by decide +kernel
theorem dX1_keepUpTo_17 : decode cX1_keepUpTo 17 = .ok (.istore_n 2, 1) := by decide +kernel
theorem dX1_keepUpTo_18 : decode cX1_keepUpTo 18 = .ok (.aload_n 0, 1) := by decide +kernel
theorem dX1_keepUpTo_19 : decode cX1_keepUpTo 19 = .ok (.getfield 25, 3) := by decide +kernel
theorem dX1_keepUpTo_22 : decode cX1_keepUpTo 22 = .ok (.arraylength, 1) := by decide +kernel
theorem dX1_keepUpTo_23 : decode cX1_keepUpTo 23 = .ok (.iconst 1, 1) := by decide +kernel
theorem dX1_keepUpTo_24 : decode cX1_keepUpTo 24 = .ok (.isub, 1) := by decide +kernel
theorem dX1_keepUpTo_25 : decode cX1_keepUpTo 25 = .ok (.istore_n 3, 1) := by decide +kernel
theorem dX1_keepUpTo_26 : decode cX1_keepUpTo 26 = .ok (.iload_n 3, 1) := by decide +kernel
theorem dX1_keepUpTo_27 : decode cX1_keepUpTo 27 = .ok (.ifCond .le 69, 3) := by decide +kernel
theorem dX1_keepUpTo_30 : decode cX1_keepUpTo 30 = .ok (.aload_n 0, 1) := by decide +kernel
theorem dX1_keepUpTo_31 : decode cX1_keepUpTo 31 = .ok (.getfield 25, 3) := by decide +kernel
theorem dX1_keepUpTo_34 : decode cX1_keepUpTo 34 = .ok (.iload_n 3, 1) := by decide +kernel
theorem dX1_keepUpTo_35 : decode cX1_keepUpTo 35 = .ok (.laload, 1) := by decide +kernel
theorem dX1_keepUpTo_36 : decode cX1_keepUpTo 36 = .ok (.aload_n 0, 1) := by decide +kernel
theorem dX1_keepUpTo_37 : decode cX1_keepUpTo 37 = .ok (.getfield 95, 3) := by decide +kernel
theorem dX1_keepUpTo_40 : decode cX1_keepUpTo 40 = .ok (.ldc2_w 126, 3) := by decide +kernel
theorem dX1_keepUpTo_43 : decode cX1_keepUpTo 43 = .ok (.lxor, 1) := by decide +kernel
theorem dX1_keepUpTo_44 : decode cX1_keepUpTo 44 = .ok (.land, 1) := by decide +kernel
theorem dX1_keepUpTo_45 : decode cX1_keepUpTo 45 = .ok (.lstore 4, 2) := by decide +kernel
theorem dX1_keepUpTo_47 : decode cX1_keepUpTo 47 = .ok (.iload_n 2, 1) := by decide +kernel
theorem dX1_keepUpTo_48 : decode cX1_keepUpTo 48 = .ok (.ifCond .le 42, 3) := by decide +kernel
theorem dX1_keepUpTo_51 : decode cX1_keepUpTo 51 = .ok (.lload 4, 2) := by decide +kernel
theorem dX1_keepUpTo_53 : decode cX1_keepUpTo 53 = .ok (.lconst 0, 1) := by decide +kernel
theorem dX1_keepUpTo_54 : decode cX1_keepUpTo 54 = .ok (.lcmp, 1) := by decide +kernel
theorem dX1_keepUpTo_55 : decode cX1_keepUpTo 55 = .ok (.ifCond .eq 35, 3) := by decide +kernel
theorem dX1_keepUpTo_58 : decode cX1_keepUpTo 58 = .ok (.lload 4, 2) := by decide +kernel
theorem dX1_keepUpTo_60 : decode cX1_keepUpTo 60 = .ok (.lload 4, 2) := by decide +kernel
theorem dX1_keepUpTo_62 : decode cX1_keepUpTo 62 = .ok (.lneg, 1) := by decide +kernel
theorem dX1_keepUpTo_63 : decode cX1_keepUpTo 63 = .ok (.land, 1) := by decide +kernel
theorem dX1_keepUpTo_64 : decode cX1_keepUpTo 64 = .ok (.lstore 6, 2) := by decide +kernel
theorem dX1_keepUpTo_66 : decode cX1_keepUpTo 66 = .ok (.aload_n 0, 1) := by decide +kernel
theorem dX1_keepUpTo_67 : decode cX1_keepUpTo 67 = .ok (.dup, 1) := by decide +kernel
theorem dX1_keepUpTo_68 : decode cX1_keepUpTo 68 = .ok (.getfield 95, 3) := by decide +kernel
theorem dX1_keepUpTo_71 : decode cX1_keepUpTo 71 = .ok (.lload 6, 2) := by decide +kernel
theorem dX1_keepUpTo_73 : decode cX1_keepUpTo 73 = .ok (.lor, 1) := by decide +kernel
theorem dX1_keepUpTo_74 : decode cX1_keepUpTo 74 = .ok (.putfield 95, 3) := by decide +kernel
theorem dX1_keepUpTo_77 : decode cX1_keepUpTo 77 = .ok (.lload 4, 2) := by decide +kernel
theorem dX1_keepUpTo_79 : decode cX1_keepUpTo 79 = .ok (.lload 6, 2) := by decide +kernel
theorem dX1_keepUpTo_81 : decode cX1_keepUpTo 81 = .ok (.lxor, 1) := by decide +kernel
theorem dX1_keepUpTo_82 : decode cX1_keepUpTo 82 = .ok (.lstore 4, 2) := by decide +kernel
theorem dX1_keepUpTo_84 : decode cX1_keepUpTo 84 = .ok (.iinc 2 (-1), 3) := by decide +kernel
theorem dX1_keepUpTo_87 : decode cX1_keepUpTo 87 = .ok (.goto (-40), 3) := by decide +kernel
theorem dX1_keepUpTo_90 : decode cX1_keepUpTo 90 = .ok (.iinc 3 (-1), 3) := by decide +kernel
theorem dX1_keepUpTo_93 : decode cX1_keepUpTo 93 = .ok (.goto (-67), 3) := by decide +kernel
theorem dX1_keepUpTo_96 : decode cX1_keepUpTo 96 = .ok (.return_, 1) := by decide +kernel
theorem dX1_make_0 : decode cX1_make 0 = .ok (.aload_n 0, 1) := by decide +kernel
theorem dX1_make_1 : decode cX1_make 1 = .ok (.getfield 40, 3) := by decide +kernel
theorem dX1_make_4 : decode cX1_make 4 = .ok (.aload_n 0, 1) := by decide +kernel
theorem dX1_make_5 : decode cX1_make 5 = .ok (.getfield 40, 3) := by decide +kernel
theorem dX1_make_8 : decode cX1_make 8 = .ok (.getfield 128, 3) := by decide +kernel
theorem dX1_make_11 : decode cX1_make 11 = .ok (.aload_n 0, 1) := by decide +kernel
theorem dX1_make_12 : decode cX1_make 12 = .ok (.getfield 9, 3) := by decide +kernel
theorem dX1_make_15 : decode cX1_make 15 = .ok (.iconst 0, 1) := by decide +kernel
theorem dX1_make_16 : decode cX1_make 16 = .ok (.invokestatic 58, 3) := by decide +kernel
theorem dX1_make_19 : decode cX1_make 19 = .ok (.invokestatic 58, 3) := by decide +kernel
theorem dX1_make_22 : decode cX1_make 22 = .ok (.invokevirtual 131, 3) := by decide +kernel
theorem dX1_make_25 : decode cX1_make 25 = .ok (.istore_n 1, 1) := by decide +kernel
theorem dX1_make_26 : decode cX1_make 26 = .ok (.aload_n 0, 1) := by decide +kernel
theorem dX1_make_27 : decode cX1_make 27 = .ok (.getfield 44, 3) := by decide +kernel
theorem dX1_make_30 : decode cX1_make 30 = .ok (.iload_n 1, 1) := by decide +kernel
theorem dX1_make_31 : decode cX1_make 31 = .ok (.invokevirtual 134, 3) := by decide +kernel
theorem dX1_make_34 : decode cX1_make 34 = .ok (.iconst 1, 1) := by decide +kernel
theorem dX1_make_35 : decode cX1_make 35 = .ok (.istore_n 2, 1) := by decide +kernel
theorem dX1_make_36 : decode cX1_make 36 = .ok (.iload_n 2, 1) := by decide +kernel
theorem dX1_make_37 : decode cX1_make 37 = .ok (.bipush 60, 2) := by decide +kernel
theorem dX1_make_39 : decode cX1_make 39 = .ok (.if_icmp .gt 59, 3) := by decide +kernel
theorem dX1_make_42 : decode cX1_make 42 = .ok (.aload_n 0, 1) := by decide +kernel
theorem dX1_make_43 : decode cX1_make 43 = .ok (.getfield 95, 3) := by decide +kernel
theorem dX1_make_46 : decode cX1_make 46 = .ok (.iload_n 2, 1) := by decide +kernel
theorem dX1_make_47 : decode cX1_make 47 = .ok (.lushr, 1) := by decide +kernel
theorem dX1_make_48 : decode cX1_make 48 = .ok (.lconst 1, 1) := by decide +kernel
theorem dX1_make_49 : decode cX1_make 49 = .ok (.land, 1) := by decide +kernel
theorem dX1_make_50 : decode cX1_make 50 = .ok (.lconst 0, 1) := by decide +kernel
theorem dX1_make_51 : decode cX1_make 51 = .ok (.lcmp, 1) := by decide +kernel
theorem dX1_make_52 : decode cX1_make 52 = .ok (.ifCond .eq 40, 3) := by decide +kernel
theorem dX1_make_55 : decode cX1_make 55 = .ok (.aload_n 0, 1) := by decide +kernel
theorem dX1_make_56 : decode cX1_make 56 = .ok (.getfield 44, 3) := by decide +kernel
theorem dX1_make_59 : decode cX1_make 59 = .ok (.iload_n 1, 1) := by decide +kernel
theorem dX1_make_60 : decode cX1_make 60 = .ok (.aload_n 0, 1) := by decide +kernel
theorem dX1_make_61 : decode cX1_make 61 = .ok (.getfield 113, 3) := by decide +kernel
theorem dX1_make_64 : decode cX1_make 64 = .ok (.iload_n 2, 1) := by decide +kernel
theorem dX1_make_65 : decode cX1_make 65 = .ok (.lushr, 1) := by decide +kernel
theorem dX1_make_66 : decode cX1_make 66 = .ok (.lconst 1, 1) := by decide +kernel
theorem dX1_make_67 : decode cX1_make 67 = .ok (.land, 1) := by decide +kernel
theorem dX1_make_68 : decode cX1_make 68 = .ok (.lconst 0, 1) := by decide +kernel
theorem dX1_make_69 : decode cX1_make 69 = .ok (.lcmp, 1) := by decide +kernel
theorem dX1_make_70 : decode cX1_make 70 = .ok (.ifCond .eq 7, 3) := by decide +kernel
theorem dX1_make_73 : decode cX1_make 73 = .ok (.iload_n 2, 1) := by decide +kernel
theorem dX1_make_74 : decode cX1_make 74 = .ok (.goto 5, 3) := by decide +kernel
theorem dX1_make_77 : decode cX1_make 77 = .ok (.iload_n 2, 1) := by decide +kernel
theorem dX1_make_78 : decode cX1_make 78 = .ok (.ineg, 1) := by decide +kernel
theorem dX1_make_79 : decode cX1_make 79 = .ok (.aload_n 0, 1) := by decide +kernel
theorem dX1_make_80 : decode cX1_make 80 = .ok (.getfield 116, 3) := by decide +kernel
theorem dX1_make_83 : decode cX1_make 83 = .ok (.iload_n 2, 1) := by decide +kernel
theorem dX1_make_84 : decode cX1_make 84 = .ok (.lushr, 1) := by decide +kernel
theorem dX1_make_85 : decode cX1_make 85 = .ok (.lconst 1, 1) := by decide +kernel
theorem dX1_make_86 : decode cX1_make 86 = .ok (.land, 1) := by decide +kernel
theorem dX1_make_87 : decode cX1_make 87 = .ok (.l2i, 1) := by decide +kernel
theorem dX1_make_88 : decode cX1_make 88 = .ok (.iconst (-1), 1) := by decide +kernel
theorem dX1_make_89 : decode cX1_make 89 = .ok (.invokevirtual 137, 3) := by decide +kernel
theorem dX1_make_92 : decode cX1_make 92 = .ok (.iinc 2 1, 3) := by decide +kernel
theorem dX1_make_95 : decode cX1_make 95 = .ok (.goto (-59), 3) := by decide +kernel
theorem dX1_make_98 : decode cX1_make 98 = .ok (.iconst 0, 1) := by decide +kernel
theorem dX1_make_99 : decode cX1_make 99 = .ok (.istore_n 2, 1) := by decide +kernel
theorem dX1_make_100 : decode cX1_make 100 = .ok (.iload_n 2, 1) := by decide +kernel
theorem dX1_make_101 : decode cX1_make 101 = .ok (.aload_n 0, 1) := by decide +kernel
theorem dX1_make_102 : decode cX1_make 102 = .ok (.getfield 54, 3) := by decide +kernel
theorem dX1_make_105 : decode cX1_make 105 = .ok (.if_icmp .ge 25, 3) := by decide +kernel
theorem dX1_make_108 : decode cX1_make 108 = .ok (.aload_n 0, 1) := by decide +kernel
theorem dX1_make_109 : decode cX1_make 109 = .ok (.getfield 44, 3) := by decide +kernel
theorem dX1_make_112 : decode cX1_make 112 = .ok (.aload_n 0, 1) := by decide +kernel
theorem dX1_make_113 : decode cX1_make 113 = .ok (.getfield 9, 3) := by decide +kernel
theorem dX1_make_116 : decode cX1_make 116 = .ok (.iload_n 2, 1) := by decide +kernel
theorem dX1_make_117 : decode cX1_make 117 = .ok (.invokestatic 58, 3) := by decide +kernel
theorem dX1_make_120 : decode cX1_make 120 = .ok (.iconst 4, 1) := by decide +kernel
theorem dX1_make_121 : decode cX1_make 121 = .ok (.invokevirtual 141, 3) := by decide +kernel
theorem dX1_make_124 : decode cX1_make 124 = .ok (.iinc 2 1, 3) := by decide +kernel
theorem dX1_make_127 : decode cX1_make 127 = .ok (.goto (-27), 3) := by decide +kernel
theorem dX1_make_130 : decode cX1_make 130 = .ok (.iload_n 1, 1) := by decide +kernel
theorem dX1_make_131 : decode cX1_make 131 = .ok (.ireturn, 1) := by decide +kernel
theorem dX1_groupUp_0 : decode cX1_groupUp 0 = .ok (.iload_n 2, 1) := by decide +kernel
theorem dX1_groupUp_1 : decode cX1_groupUp 1 = .ok (.iconst 1, 1) := by decide +kernel
theorem dX1_groupUp_2 : decode cX1_groupUp 2 = .ok (.if_icmp .lt 9, 3) := by decide +kernel
theorem dX1_groupUp_5 : decode cX1_groupUp 5 = .ok (.iload_n 2, 1) := by decide +kernel
theorem dX1_groupUp_6 : decode cX1_groupUp 6 = .ok (.bipush 8, 2) := by decide +kernel
theorem dX1_groupUp_8 : decode cX1_groupUp 8 = .ok (.if_icmp .le 5, 3) := by decide +kernel
theorem dX1_groupUp_11 : decode cX1_groupUp 11 = .ok (.iconst (-1), 1) := by decide +kernel
theorem dX1_groupUp_12 : decode cX1_groupUp 12 = .ok (.ireturn, 1) := by decide +kernel
theorem dX1_groupUp_13 : decode cX1_groupUp 13 = .ok (.aload_n 0, 1) := by decide +kernel
theorem dX1_groupUp_14 : decode cX1_groupUp 14 = .ok (.iload_n 1, 1) := by decide +kernel
theorem dX1_groupUp_15 : decode cX1_groupUp 15 = .ok (.invokevirtual 74, 3) := by decide +kernel
theorem dX1_groupUp_18 : decode cX1_groupUp 18 = .ok (.aload_n 0, 1) := by decide +kernel
theorem dX1_groupUp_19 : decode cX1_groupUp 19 = .ok (.getfield 54, 3) := by decide +kernel
theorem dX1_groupUp_22 : decode cX1_groupUp 22 = .ok (.ifCond .ne 5, 3) := by decide +kernel
theorem dX1_groupUp_25 : decode cX1_groupUp 25 = .ok (.iconst (-1), 1) := by decide +kernel
theorem dX1_groupUp_26 : decode cX1_groupUp 26 = .ok (.ireturn, 1) := by decide +kernel
theorem dX1_groupUp_27 : decode cX1_groupUp 27 = .ok (.iconst 1, 1) := by decide +kernel
theorem dX1_groupUp_28 : decode cX1_groupUp 28 = .ok (.istore_n 3, 1) := by decide +kernel
theorem dX1_groupUp_29 : decode cX1_groupUp 29 = .ok (.iload_n 3, 1) := by decide +kernel
theorem dX1_groupUp_30 : decode cX1_groupUp 30 = .ok (.iconst 1, 1) := by decide +kernel
theorem dX1_groupUp_31 : decode cX1_groupUp 31 = .ok (.aload_n 0, 1) := by decide +kernel
theorem dX1_groupUp_32 : decode cX1_groupUp 32 = .ok (.getfield 54, 3) := by decide +kernel
theorem dX1_groupUp_35 : decode cX1_groupUp 35 = .ok (.ishl, 1) := by decide +kernel
theorem dX1_groupUp_36 : decode cX1_groupUp 36 = .ok (.if_icmp .ge 34, 3) := by decide +kernel
theorem dX1_groupUp_39 : decode cX1_groupUp 39 = .ok (.aload_n 0, 1) := by decide +kernel
theorem dX1_groupUp_40 : decode cX1_groupUp 40 = .ok (.getfield 28, 3) := by decide +kernel
theorem dX1_groupUp_43 : decode cX1_groupUp 43 = .ok (.iload_n 3, 1) := by decide +kernel
theorem dX1_groupUp_44 : decode cX1_groupUp 44 = .ok (.iload_n 3, 1) := by decide +kernel
theorem dX1_groupUp_45 : decode cX1_groupUp 45 = .ok (.invokestatic 145, 3) := by decide +kernel
theorem dX1_groupUp_48 : decode cX1_groupUp 48 = .ok (.iconst 1, 1) := by decide +kernel
theorem dX1_groupUp_49 : decode cX1_groupUp 49 = .ok (.if_icmp .ne 7, 3) := by decide +kernel
theorem dX1_groupUp_52 : decode cX1_groupUp 52 = .ok (.iconst 0, 1) := by decide +kernel
theorem dX1_groupUp_53 : decode cX1_groupUp 53 = .ok (.goto 8, 3) := by decide +kernel
theorem dX1_groupUp_56 : decode cX1_groupUp 56 = .ok (.aload_n 0, 1) := by decide +kernel
theorem dX1_groupUp_57 : decode cX1_groupUp 57 = .ok (.iload_n 3, 1) := by decide +kernel
theorem dX1_groupUp_58 : decode cX1_groupUp 58 = .ok (.invokevirtual 78, 3) := by decide +kernel
theorem dX1_groupUp_61 : decode cX1_groupUp 61 = .ok (.invokestatic 149, 3) := by decide +kernel
theorem dX1_groupUp_64 : decode cX1_groupUp 64 = .ok (.iinc 3 1, 3) := by decide +kernel
theorem dX1_groupUp_67 : decode cX1_groupUp 67 = .ok (.goto (-38), 3) := by decide +kernel
theorem dX1_groupUp_70 : decode cX1_groupUp 70 = .ok (.aload_n 0, 1) := by decide +kernel
theorem dX1_groupUp_71 : decode cX1_groupUp 71 = .ok (.iload_n 2, 1) := by decide +kernel
theorem dX1_groupUp_72 : decode cX1_groupUp 72 = .ok (.putfield 152, 3) := by decide +kernel
theorem dX1_groupUp_75 : decode cX1_groupUp 75 = .ok (.aload_n 0, 1) := by decide +kernel
theorem dX1_groupUp_76 : decode cX1_groupUp 76 = .ok (.iconst (-1), 1) := by decide +kernel
theorem dX1_groupUp_77 : decode cX1_groupUp 77 = .ok (.putfield 155, 3) := by decide +kernel
theorem dX1_groupUp_80 : decode cX1_groupUp 80 = .ok (.aload_n 0, 1) := by decide +kernel
theorem dX1_groupUp_81 : decode cX1_groupUp 81 = .ok (.getfield 34, 3) := by decide +kernel
theorem dX1_groupUp_84 : decode cX1_groupUp 84 = .ok (.iconst 0, 1) := by decide +kernel
theorem dX1_groupUp_85 : decode cX1_groupUp 85 = .ok (.invokestatic 158, 3) := by decide +kernel
theorem dX1_groupUp_88 : decode cX1_groupUp 88 = .ok (.iconst 1, 1) := by decide +kernel
theorem dX1_groupUp_89 : decode cX1_groupUp 89 = .ok (.istore_n 3, 1) := by decide +kernel
theorem dX1_groupUp_90 : decode cX1_groupUp 90 = .ok (.iconst 0, 1) := by decide +kernel
theorem dX1_groupUp_91 : decode cX1_groupUp 91 = .ok (.istore 4, 2) := by decide +kernel
theorem dX1_groupUp_93 : decode cX1_groupUp 93 = .ok (.iload 4, 2) := by decide +kernel
theorem dX1_groupUp_95 : decode cX1_groupUp 95 = .ok (.sipush 4140, 3) := by decide +kernel
theorem dX1_groupUp_98 : decode cX1_groupUp 98 = .ok (.if_icmp .ge 22, 3) := by decide +kernel
theorem dX1_groupUp_101 : decode cX1_groupUp 101 = .ok (.iload_n 3, 1) := by decide +kernel
theorem dX1_groupUp_102 : decode cX1_groupUp 102 = .ok (.ifCond .eq 18, 3) := by decide +kernel
theorem dX1_groupUp_105 : decode cX1_groupUp 105 = .ok (.aload_n 0, 1) := by decide +kernel
theorem dX1_groupUp_106 : decode cX1_groupUp 106 = .ok (.invokevirtual 162, 3) := by decide +kernel
theorem dX1_groupUp_109 : decode cX1_groupUp 109 = .ok (.aload_n 0, 1) := by decide +kernel
theorem dX1_groupUp_110 : decode cX1_groupUp 110 = .ok (.invokevirtual 165, 3) := by decide +kernel
theorem dX1_groupUp_113 : decode cX1_groupUp 113 = .ok (.istore_n 3, 1) := by decide +kernel
theorem dX1_groupUp_114 : decode cX1_groupUp 114 = .ok (.iinc 4 1, 3) := by decide +kernel
theorem dX1_groupUp_117 : decode cX1_groupUp 117 = .ok (.goto (-24), 3) := by decide +kernel
theorem dX1_groupUp_120 : decode cX1_groupUp 120 = .ok (.aload_n 0, 1) := by decide +kernel
theorem dX1_groupUp_121 : decode cX1_groupUp 121 = .ok (.getfield 155, 3) := by decide +kernel
theorem dX1_groupUp_124 : decode cX1_groupUp 124 = .ok (.ireturn, 1) := by decide +kernel
theorem dX1_nextGrouping_0 : decode cX1_nextGrouping 0 = .ok (.aload_n 0, 1) := by decide +kernel
theorem dX1_nextGrouping_1 : decode cX1_nextGrouping 1 = .ok (.getfield 54, 3) := by decide +kernel
theorem dX1_nextGrouping_4 : decode cX1_nextGrouping 4 = .ok (.iconst 1, 1) := by decide +kernel
theorem dX1_nextGrouping_5 : decode cX1_nextGrouping 5 = .ok (.isub, 1) := by decide +kernel
theorem dX1_nextGrouping_6 : decode cX1_nextGrouping 6 = .ok (.istore_n 1, 1) := by decide +kernel
theorem dX1_nextGrouping_7 : decode cX1_nextGrouping 7 = .ok (.iload_n 1, 1) := by decide +kernel
theorem dX1_nextGrouping_8 : decode cX1_nextGrouping 8 = .ok (.ifCond .le 75, 3) := by decide +kernel
theorem dX1_nextGrouping_11 : decode cX1_nextGrouping 11 = .ok (.aload_n 0, 1) := by decide +kernel
theorem dX1_nextGrouping_12 : decode cX1_nextGrouping 12 = .ok (.getfield 34, 3) := by decide +kernel
theorem dX1_nextGrouping_15 : decode cX1_nextGrouping 15 = .ok (.iload_n 1, 1) := by decide +kernel
theorem dX1_nextGrouping_16 : decode cX1_nextGrouping 16 = .ok (.invokestatic 58, 3) := by decide +kernel
theorem dX1_nextGrouping_19 : decode cX1_nextGrouping 19 = .ok (.iconst 1, 1) := by decide +kernel
theorem dX1_nextGrouping_20 : decode cX1_nextGrouping 20 = .ok (.iadd, 1) := by decide +kernel
theorem dX1_nextGrouping_21 : decode cX1_nextGrouping 21 = .ok (.istore_n 2, 1) := by decide +kernel
theorem dX1_nextGrouping_22 : decode cX1_nextGrouping 22 = .ok (.iload_n 2, 1) := by decide +kernel
theorem dX1_nextGrouping_23 : decode cX1_nextGrouping 23 = .ok (.aload_n 0, 1) := by decide +kernel
theorem dX1_nextGrouping_24 : decode cX1_nextGrouping 24 = .ok (.getfield 152, 3) := by decide +kernel
theorem dX1_nextGrouping_27 : decode cX1_nextGrouping 27 = .ok (.if_icmp .ge 50, 3) := by decide +kernel
theorem dX1_nextGrouping_30 : decode cX1_nextGrouping 30 = .ok (.iload_n 2, 1) := by decide +kernel
theorem dX1_nextGrouping_31 : decode cX1_nextGrouping 31 = .ok (.aload_n 0, 1) := by decide +kernel
theorem dX1_nextGrouping_32 : decode cX1_nextGrouping 32 = .ok (.iload_n 1, 1) := by decide +kernel
theorem dX1_nextGrouping_33 : decode cX1_nextGrouping 33 = .ok (.invokevirtual 169, 3) := by decide +kernel
theorem dX1_nextGrouping_36 : decode cX1_nextGrouping 36 = .ok (.if_icmp .gt 41, 3) := by decide +kernel
theorem dX1_nextGrouping_39 : decode cX1_nextGrouping 39 = .ok (.aload_n 0, 1) := by decide +kernel
theorem dX1_nextGrouping_40 : decode cX1_nextGrouping 40 = .ok (.getfield 34, 3) := by decide +kernel
theorem dX1_nextGrouping_43 : decode cX1_nextGrouping 43 = .ok (.iload_n 1, 1) := by decide +kernel
theorem dX1_nextGrouping_44 : decode cX1_nextGrouping 44 = .ok (.iload_n 2, 1) := by decide +kernel
theorem dX1_nextGrouping_45 : decode cX1_nextGrouping 45 = .ok (.invokestatic 149, 3) := by decide +kernel
theorem dX1_nextGrouping_48 : decode cX1_nextGrouping 48 = .ok (.iload_n 1, 1) := by decide +kernel
theorem dX1_nextGrouping_49 : decode cX1_nextGrouping 49 = .ok (.iconst 1, 1) := by decide +kernel
theorem dX1_nextGrouping_50 : decode cX1_nextGrouping 50 = .ok (.iadd, 1) := by decide +kernel
theorem dX1_nextGrouping_51 : decode cX1_nextGrouping 51 = .ok (.istore_n 3, 1) := by decide +kernel
theorem dX1_nextGrouping_52 : decode cX1_nextGrouping 52 = .ok (.iload_n 3, 1) := by decide +kernel
theorem dX1_nextGrouping_53 : decode cX1_nextGrouping 53 = .ok (.aload_n 0, 1) := by decide +kernel
theorem dX1_nextGrouping_54 : decode cX1_nextGrouping 54 = .ok (.getfield 54, 3) := by decide +kernel
theorem dX1_nextGrouping_57 : decode cX1_nextGrouping 57 = .ok (.if_icmp .ge 18, 3) := by decide +kernel
theorem dX1_nextGrouping_60 : decode cX1_nextGrouping 60 = .ok (.aload_n 0, 1) := by decide +kernel
theorem dX1_nextGrouping_61 : decode cX1_nextGrouping 61 = .ok (.getfield 34, 3) := by decide +kernel
theorem dX1_nextGrouping_64 : decode cX1_nextGrouping 64 = .ok (.iload_n 3, 1) := by decide +kernel
theorem dX1_nextGrouping_65 : decode cX1_nextGrouping 65 = .ok (.iconst 0, 1) := by decide +kernel
theorem dX1_nextGrouping_66 : decode cX1_nextGrouping 66 = .ok (.invokestatic 149, 3) := by decide +kernel
theorem dX1_nextGrouping_69 : decode cX1_nextGrouping 69 = .ok (.iinc 3 1, 3) := by decide +kernel
theorem dX1_nextGrouping_72 : decode cX1_nextGrouping 72 = .ok (.goto (-20), 3) := by decide +kernel
theorem dX1_nextGrouping_75 : decode cX1_nextGrouping 75 = .ok (.iconst 1, 1) := by decide +kernel
theorem dX1_nextGrouping_76 : decode cX1_nextGrouping 76 = .ok (.ireturn, 1) := by decide +kernel
theorem dX1_nextGrouping_77 : decode cX1_nextGrouping 77 = .ok (.iinc 1 (-1), 3) := by decide +kernel
theorem dX1_nextGrouping_80 : decode cX1_nextGrouping 80 = .ok (.goto (-73), 3) := by decide +kernel
theorem dX1_nextGrouping_83 : decode cX1_nextGrouping 83 = .ok (.iconst 0, 1) := by decide +kernel
theorem dX1_nextGrouping_84 : decode cX1_nextGrouping 84 = .ok (.ireturn, 1) := by decide +kernel
theorem dX1_groupsAhead_0 : decode cX1_groupsAhead 0 = .ok (.iconst 0, 1) := by decide +kernel
theorem dX1_groupsAhead_1 : decode cX1_groupsAhead 1 = .ok (.istore_n 2, 1) := by decide +kernel
theorem dX1_groupsAhead_2 : decode cX1_groupsAhead 2 = .ok (.iconst 0, 1) := by decide +kernel
theorem dX1_groupsAhead_3 : decode cX1_groupsAhead 3 = .ok (.istore_n 3, 1) := by decide +kernel
theorem dX1_groupsAhead_4 : decode cX1_groupsAhead 4 = .ok (.iload_n 3, 1) := by decide +kernel
theorem dX1_groupsAhead_5 : decode cX1_groupsAhead 5 = .ok (.iload_n 1, 1) := by decide +kernel
theorem dX1_groupsAhead_6 : decode cX1_groupsAhead 6 = .ok (.if_icmp .ge 24, 3) := by decide +kernel
theorem dX1_groupsAhead_9 : decode cX1_groupsAhead 9 = .ok (.iload_n 2, 1) := by decide +kernel
theorem dX1_groupsAhead_10 : decode cX1_groupsAhead 10 = .ok (.aload_n 0, 1) := by decide +kernel
theorem dX1_groupsAhead_11 : decode cX1_groupsAhead 11 = .ok (.getfield 34, 3) := by decide +kernel
theorem dX1_groupsAhead_14 : decode cX1_groupsAhead 14 = .ok (.iload_n 3, 1) := by decide +kernel
theorem dX1_groupsAhead_15 : decode cX1_groupsAhead 15 = .ok (.invokestatic 58, 3) := by decide +kernel
theorem dX1_groupsAhead_18 : decode cX1_groupsAhead 18 = .ok (.iconst 1, 1) := by decide +kernel
theorem dX1_groupsAhead_19 : decode cX1_groupsAhead 19 = .ok (.iadd, 1) := by decide +kernel
theorem dX1_groupsAhead_20 : decode cX1_groupsAhead 20 = .ok (.invokestatic 172, 3) := by decide +kernel
theorem dX1_groupsAhead_23 : decode cX1_groupsAhead 23 = .ok (.istore_n 2, 1) := by decide +kernel
theorem dX1_groupsAhead_24 : decode cX1_groupsAhead 24 = .ok (.iinc 3 1, 3) := by decide +kernel
theorem dX1_groupsAhead_27 : decode cX1_groupsAhead 27 = .ok (.goto (-23), 3) := by decide +kernel
theorem dX1_groupsAhead_30 : decode cX1_groupsAhead 30 = .ok (.iload_n 2, 1) := by decide +kernel
theorem dX1_groupsAhead_31 : decode cX1_groupsAhead 31 = .ok (.ireturn, 1) := by decide +kernel
theorem dX1_keepIfBetter_0 : decode cX1_keepIfBetter 0 = .ok (.aload_n 0, 1) := by decide +kernel
theorem dX1_keepIfBetter_1 : decode cX1_keepIfBetter 1 = .ok (.aload_n 0, 1) := by decide +kernel
theorem dX1_keepIfBetter_2 : decode cX1_keepIfBetter 2 = .ok (.getfield 54, 3) := by decide +kernel
theorem dX1_keepIfBetter_5 : decode cX1_keepIfBetter 5 = .ok (.invokevirtual 169, 3) := by decide +kernel
theorem dX1_keepIfBetter_8 : decode cX1_keepIfBetter 8 = .ok (.istore_n 1, 1) := by decide +kernel
theorem dX1_keepIfBetter_9 : decode cX1_keepIfBetter 9 = .ok (.aload_n 0, 1) := by decide +kernel
theorem dX1_keepIfBetter_10 : decode cX1_keepIfBetter 10 = .ok (.invokevirtual 178, 3) := by decide +kernel
theorem dX1_keepIfBetter_13 : decode cX1_keepIfBetter 13 = .ok (.istore_n 2, 1) := by decide +kernel
theorem dX1_keepIfBetter_14 : decode cX1_keepIfBetter 14 = .ok (.iload_n 2, 1) := by decide +kernel
theorem dX1_keepIfBetter_15 : decode cX1_keepIfBetter 15 = .ok (.iconst (-1), 1) := by decide +kernel
theorem dX1_keepIfBetter_16 : decode cX1_keepIfBetter 16 = .ok (.if_icmp .ne 4, 3) := by decide +kernel
theorem dX1_keepIfBetter_19 : decode cX1_keepIfBetter 19 = .ok (.return_, 1) := by decide +kernel
theorem dX1_keepIfBetter_20 : decode cX1_keepIfBetter 20 = .ok (.aload_n 0, 1) := by decide +kernel
theorem dX1_keepIfBetter_21 : decode cX1_keepIfBetter 21 = .ok (.getfield 155, 3) := by decide +kernel
theorem dX1_keepIfBetter_24 : decode cX1_keepIfBetter 24 = .ok (.iconst (-1), 1) := by decide +kernel
theorem dX1_keepIfBetter_25 : decode cX1_keepIfBetter 25 = .ok (.if_icmp .eq 27, 3) := by decide +kernel
theorem dX1_keepIfBetter_28 : decode cX1_keepIfBetter 28 = .ok (.iload_n 2, 1) := by decide +kernel
theorem dX1_keepIfBetter_29 : decode cX1_keepIfBetter 29 = .ok (.aload_n 0, 1) := by decide +kernel
theorem dX1_keepIfBetter_30 : decode cX1_keepIfBetter 30 = .ok (.getfield 155, 3) := by decide +kernel
theorem dX1_keepIfBetter_33 : decode cX1_keepIfBetter 33 = .ok (.if_icmp .lt 19, 3) := by decide +kernel
theorem dX1_keepIfBetter_36 : decode cX1_keepIfBetter 36 = .ok (.iload_n 2, 1) := by decide +kernel
theorem dX1_keepIfBetter_37 : decode cX1_keepIfBetter 37 = .ok (.aload_n 0, 1) := by decide +kernel
theorem dX1_keepIfBetter_38 : decode cX1_keepIfBetter 38 = .ok (.getfield 155, 3) := by decide +kernel
theorem dX1_keepIfBetter_41 : decode cX1_keepIfBetter 41 = .ok (.if_icmp .ne 32, 3) := by decide +kernel
theorem dX1_keepIfBetter_44 : decode cX1_keepIfBetter 44 = .ok (.iload_n 1, 1) := by decide +kernel
theorem dX1_keepIfBetter_45 : decode cX1_keepIfBetter 45 = .ok (.aload_n 0, 1) := by decide +kernel
theorem dX1_keepIfBetter_46 : decode cX1_keepIfBetter 46 = .ok (.getfield 182, 3) := by decide +kernel
theorem dX1_keepIfBetter_49 : decode cX1_keepIfBetter 49 = .ok (.if_icmp .ge 24, 3) := by decide +kernel
theorem dX1_keepIfBetter_52 : decode cX1_keepIfBetter 52 = .ok (.aload_n 0, 1) := by decide +kernel
theorem dX1_keepIfBetter_53 : decode cX1_keepIfBetter 53 = .ok (.iload_n 2, 1) := by decide +kernel
theorem dX1_keepIfBetter_54 : decode cX1_keepIfBetter 54 = .ok (.putfield 155, 3) := by decide +kernel
theorem dX1_keepIfBetter_57 : decode cX1_keepIfBetter 57 = .ok (.aload_n 0, 1) := by decide +kernel
theorem dX1_keepIfBetter_58 : decode cX1_keepIfBetter 58 = .ok (.iload_n 1, 1) := by decide +kernel
theorem dX1_keepIfBetter_59 : decode cX1_keepIfBetter 59 = .ok (.putfield 182, 3) := by decide +kernel
theorem dX1_keepIfBetter_62 : decode cX1_keepIfBetter 62 = .ok (.aload_n 0, 1) := by decide +kernel
theorem dX1_keepIfBetter_63 : decode cX1_keepIfBetter 63 = .ok (.getfield 34, 3) := by decide +kernel
theorem dX1_keepIfBetter_66 : decode cX1_keepIfBetter 66 = .ok (.aload_n 0, 1) := by decide +kernel
theorem dX1_keepIfBetter_67 : decode cX1_keepIfBetter 67 = .ok (.getfield 37, 3) := by decide +kernel
theorem dX1_keepIfBetter_70 : decode cX1_keepIfBetter 70 = .ok (.invokestatic 185, 3) := by decide +kernel
theorem dX1_keepIfBetter_73 : decode cX1_keepIfBetter 73 = .ok (.return_, 1) := by decide +kernel
theorem dX1_lostByGroups_0 : decode cX1_lostByGroups 0 = .ok (.aload_n 0, 1) := by decide +kernel
theorem dX1_lostByGroups_1 : decode cX1_lostByGroups 1 = .ok (.getfield 31, 3) := by decide +kernel
theorem dX1_lostByGroups_4 : decode cX1_lostByGroups 4 = .ok (.iconst 0, 1) := by decide +kernel
theorem dX1_lostByGroups_5 : decode cX1_lostByGroups 5 = .ok (.invokestatic 158, 3) := by decide +kernel
theorem dX1_lostByGroups_8 : decode cX1_lostByGroups 8 = .ok (.iconst 0, 1) := by decide +kernel
theorem dX1_lostByGroups_9 : decode cX1_lostByGroups 9 = .ok (.istore_n 1, 1) := by decide +kernel
theorem dX1_lostByGroups_10 : decode cX1_lostByGroups 10 = .ok (.iload_n 1, 1) := by decide +kernel
theorem dX1_lostByGroups_11 : decode cX1_lostByGroups 11 = .ok (.aload_n 0, 1) := by decide +kernel
theorem dX1_lostByGroups_12 : decode cX1_lostByGroups 12 = .ok (.getfield 54, 3) := by decide +kernel
theorem dX1_lostByGroups_15 : decode cX1_lostByGroups 15 = .ok (.if_icmp .ge 38, 3) := by decide +kernel
theorem dX1_lostByGroups_18 : decode cX1_lostByGroups 18 = .ok (.aload_n 0, 1) := by decide +kernel
theorem dX1_lostByGroups_19 : decode cX1_lostByGroups 19 = .ok (.getfield 34, 3) := by decide +kernel
theorem dX1_lostByGroups_22 : decode cX1_lostByGroups 22 = .ok (.iload_n 1, 1) := by decide +kernel
theorem dX1_lostByGroups_23 : decode cX1_lostByGroups 23 = .ok (.invokestatic 58, 3) := by decide +kernel
theorem dX1_lostByGroups_26 : decode cX1_lostByGroups 26 = .ok (.istore_n 2, 1) := by decide +kernel
theorem dX1_lostByGroups_27 : decode cX1_lostByGroups 27 = .ok (.aload_n 0, 1) := by decide +kernel
theorem dX1_lostByGroups_28 : decode cX1_lostByGroups 28 = .ok (.getfield 31, 3) := by decide +kernel
theorem dX1_lostByGroups_31 : decode cX1_lostByGroups 31 = .ok (.iload_n 2, 1) := by decide +kernel
theorem dX1_lostByGroups_32 : decode cX1_lostByGroups 32 = .ok (.aload_n 0, 1) := by decide +kernel
theorem dX1_lostByGroups_33 : decode cX1_lostByGroups 33 = .ok (.getfield 31, 3) := by decide +kernel
theorem dX1_lostByGroups_36 : decode cX1_lostByGroups 36 = .ok (.iload_n 2, 1) := by decide +kernel
theorem dX1_lostByGroups_37 : decode cX1_lostByGroups 37 = .ok (.invokestatic 58, 3) := by decide +kernel
theorem dX1_lostByGroups_40 : decode cX1_lostByGroups 40 = .ok (.iconst 1, 1) := by decide +kernel
theorem dX1_lostByGroups_41 : decode cX1_lostByGroups 41 = .ok (.iload_n 1, 1) := by decide +kernel
theorem dX1_lostByGroups_42 : decode cX1_lostByGroups 42 = .ok (.ishl, 1) := by decide +kernel
theorem dX1_lostByGroups_43 : decode cX1_lostByGroups 43 = .ok (.ior, 1) := by decide +kernel
theorem dX1_lostByGroups_44 : decode cX1_lostByGroups 44 = .ok (.invokestatic 149, 3) := by decide +kernel
theorem dX1_lostByGroups_47 : decode cX1_lostByGroups 47 = .ok (.iinc 1 1, 3) := by decide +kernel
theorem dX1_lostByGroups_50 : decode cX1_lostByGroups 50 = .ok (.goto (-40), 3) := by decide +kernel
theorem dX1_lostByGroups_53 : decode cX1_lostByGroups 53 = .ok (.iconst 0, 1) := by decide +kernel
theorem dX1_lostByGroups_54 : decode cX1_lostByGroups 54 = .ok (.istore_n 1, 1) := by decide +kernel
theorem dX1_lostByGroups_55 : decode cX1_lostByGroups 55 = .ok (.iconst 0, 1) := by decide +kernel
theorem dX1_lostByGroups_56 : decode cX1_lostByGroups 56 = .ok (.istore_n 2, 1) := by decide +kernel
theorem dX1_lostByGroups_57 : decode cX1_lostByGroups 57 = .ok (.iload_n 2, 1) := by decide +kernel
theorem dX1_lostByGroups_58 : decode cX1_lostByGroups 58 = .ok (.aload_n 0, 1) := by decide +kernel
theorem dX1_lostByGroups_59 : decode cX1_lostByGroups 59 = .ok (.getfield 31, 3) := by decide +kernel
theorem dX1_lostByGroups_62 : decode cX1_lostByGroups 62 = .ok (.arraylength, 1) := by decide +kernel
theorem dX1_lostByGroups_63 : decode cX1_lostByGroups 63 = .ok (.if_icmp .ge 36, 3) := by decide +kernel
theorem dX1_lostByGroups_66 : decode cX1_lostByGroups 66 = .ok (.aload_n 0, 1) := by decide +kernel
theorem dX1_lostByGroups_67 : decode cX1_lostByGroups 67 = .ok (.getfield 28, 3) := by decide +kernel
theorem dX1_lostByGroups_70 : decode cX1_lostByGroups 70 = .ok (.aload_n 0, 1) := by decide +kernel
theorem dX1_lostByGroups_71 : decode cX1_lostByGroups 71 = .ok (.getfield 31, 3) := by decide +kernel
theorem dX1_lostByGroups_74 : decode cX1_lostByGroups 74 = .ok (.iload_n 2, 1) := by decide +kernel
theorem dX1_lostByGroups_75 : decode cX1_lostByGroups 75 = .ok (.invokestatic 58, 3) := by decide +kernel
theorem dX1_lostByGroups_78 : decode cX1_lostByGroups 78 = .ok (.invokestatic 58, 3) := by decide +kernel
theorem dX1_lostByGroups_81 : decode cX1_lostByGroups 81 = .ok (.istore_n 3, 1) := by decide +kernel
theorem dX1_lostByGroups_82 : decode cX1_lostByGroups 82 = .ok (.iload_n 3, 1) := by decide +kernel
theorem dX1_lostByGroups_83 : decode cX1_lostByGroups 83 = .ok (.iconst (-1), 1) := by decide +kernel
theorem dX1_lostByGroups_84 : decode cX1_lostByGroups 84 = .ok (.if_icmp .ne 5, 3) := by decide +kernel
theorem dX1_lostByGroups_87 : decode cX1_lostByGroups 87 = .ok (.iconst (-1), 1) := by decide +kernel
theorem dX1_lostByGroups_88 : decode cX1_lostByGroups 88 = .ok (.ireturn, 1) := by decide +kernel
theorem dX1_lostByGroups_89 : decode cX1_lostByGroups 89 = .ok (.iload_n 1, 1) := by decide +kernel
theorem dX1_lostByGroups_90 : decode cX1_lostByGroups 90 = .ok (.iload_n 3, 1) := by decide +kernel
theorem dX1_lostByGroups_91 : decode cX1_lostByGroups 91 = .ok (.iadd, 1) := by decide +kernel
theorem dX1_lostByGroups_92 : decode cX1_lostByGroups 92 = .ok (.istore_n 1, 1) := by decide +kernel
theorem dX1_lostByGroups_93 : decode cX1_lostByGroups 93 = .ok (.iinc 2 1, 3) := by decide +kernel
theorem dX1_lostByGroups_96 : decode cX1_lostByGroups 96 = .ok (.goto (-39), 3) := by decide +kernel
theorem dX1_lostByGroups_99 : decode cX1_lostByGroups 99 = .ok (.iload_n 1, 1) := by decide +kernel
theorem dX1_lostByGroups_100 : decode cX1_lostByGroups 100 = .ok (.ireturn, 1) := by decide +kernel
theorem dX1_groupOf_0 : decode cX1_groupOf 0 = .ok (.iconst 0, 1) := by decide +kernel
theorem dX1_groupOf_1 : decode cX1_groupOf 1 = .ok (.istore_n 2, 1) := by decide +kernel
theorem dX1_groupOf_2 : decode cX1_groupOf 2 = .ok (.iload_n 2, 1) := by decide +kernel
theorem dX1_groupOf_3 : decode cX1_groupOf 3 = .ok (.aload_n 0, 1) := by decide +kernel
theorem dX1_groupOf_4 : decode cX1_groupOf 4 = .ok (.getfield 54, 3) := by decide +kernel
theorem dX1_groupOf_7 : decode cX1_groupOf 7 = .ok (.if_icmp .ge 30, 3) := by decide +kernel
theorem dX1_groupOf_10 : decode cX1_groupOf 10 = .ok (.aload_n 0, 1) := by decide +kernel
theorem dX1_groupOf_11 : decode cX1_groupOf 11 = .ok (.getfield 9, 3) := by decide +kernel
theorem dX1_groupOf_14 : decode cX1_groupOf 14 = .ok (.iload_n 2, 1) := by decide +kernel
theorem dX1_groupOf_15 : decode cX1_groupOf 15 = .ok (.invokestatic 58, 3) := by decide +kernel
theorem dX1_groupOf_18 : decode cX1_groupOf 18 = .ok (.iload_n 1, 1) := by decide +kernel
theorem dX1_groupOf_19 : decode cX1_groupOf 19 = .ok (.if_icmp .ne 12, 3) := by decide +kernel
theorem dX1_groupOf_22 : decode cX1_groupOf 22 = .ok (.aload_n 0, 1) := by decide +kernel
theorem dX1_groupOf_23 : decode cX1_groupOf 23 = .ok (.getfield 37, 3) := by decide +kernel
theorem dX1_groupOf_26 : decode cX1_groupOf 26 = .ok (.iload_n 2, 1) := by decide +kernel
theorem dX1_groupOf_27 : decode cX1_groupOf 27 = .ok (.invokestatic 58, 3) := by decide +kernel
theorem dX1_groupOf_30 : decode cX1_groupOf 30 = .ok (.ireturn, 1) := by decide +kernel
theorem dX1_groupOf_31 : decode cX1_groupOf 31 = .ok (.iinc 2 1, 3) := by decide +kernel
theorem dX1_groupOf_34 : decode cX1_groupOf 34 = .ok (.goto (-32), 3) := by decide +kernel
theorem dX1_groupOf_37 : decode cX1_groupOf 37 = .ok (.iconst (-1), 1) := by decide +kernel
theorem dX1_groupOf_38 : decode cX1_groupOf 38 = .ok (.ireturn, 1) := by decide +kernel
theorem dX2_init_0 : decode cX2_init 0 = .ok (.aload_n 0, 1) := by decide +kernel
theorem dX2_init_1 : decode cX2_init 1 = .ok (.invokespecial 3, 3) := by decide +kernel
theorem dX2_init_4 : decode cX2_init 4 = .ok (.aload_n 0, 1) := by decide +kernel
theorem dX2_init_5 : decode cX2_init 5 = .ok (.bipush 12, 2) := by decide +kernel
theorem dX2_init_7 : decode cX2_init 7 = .ok (.newarray .int, 2) := by decide +kernel
theorem dX2_init_9 : decode cX2_init 9 = .ok (.putfield 9, 3) := by decide +kernel
theorem dX2_init_12 : decode cX2_init 12 = .ok (.aload_n 0, 1) := by decide +kernel
theorem dX2_init_13 : decode cX2_init 13 = .ok (.bipush 12, 2) := by decide +kernel
theorem dX2_init_15 : decode cX2_init 15 = .ok (.newarray .int, 2) := by decide +kernel
theorem dX2_init_17 : decode cX2_init 17 = .ok (.putfield 15, 3) := by decide +kernel
theorem dX2_init_20 : decode cX2_init 20 = .ok (.aload_n 0, 1) := by decide +kernel
theorem dX2_init_21 : decode cX2_init 21 = .ok (.bipush 12, 2) := by decide +kernel
theorem dX2_init_23 : decode cX2_init 23 = .ok (.newarray .int, 2) := by decide +kernel
theorem dX2_init_25 : decode cX2_init 25 = .ok (.putfield 18, 3) := by decide +kernel
theorem dX2_init_28 : decode cX2_init 28 = .ok (.aload_n 0, 1) := by decide +kernel
theorem dX2_init_29 : decode cX2_init 29 = .ok (.bipush 48, 2) := by decide +kernel
theorem dX2_init_31 : decode cX2_init 31 = .ok (.newarray .int, 2) := by decide +kernel
theorem dX2_init_33 : decode cX2_init 33 = .ok (.putfield 21, 3) := by decide +kernel
theorem dX2_init_36 : decode cX2_init 36 = .ok (.aload_n 0, 1) := by decide +kernel
theorem dX2_init_37 : decode cX2_init 37 = .ok (.bipush 12, 2) := by decide +kernel
theorem dX2_init_39 : decode cX2_init 39 = .ok (.newarray .int, 2) := by decide +kernel
theorem dX2_init_41 : decode cX2_init 41 = .ok (.putfield 24, 3) := by decide +kernel
theorem dX2_init_44 : decode cX2_init 44 = .ok (.aload_n 0, 1) := by decide +kernel
theorem dX2_init_45 : decode cX2_init 45 = .ok (.bipush 12, 2) := by decide +kernel
theorem dX2_init_47 : decode cX2_init 47 = .ok (.newarray .int, 2) := by decide +kernel
theorem dX2_init_49 : decode cX2_init 49 = .ok (.putfield 27, 3) := by decide +kernel
theorem dX2_init_52 : decode cX2_init 52 = .ok (.aload_n 0, 1) := by decide +kernel
theorem dX2_init_53 : decode cX2_init 53 = .ok (.bipush 6, 2) := by decide +kernel
theorem dX2_init_55 : decode cX2_init 55 = .ok (.newarray .long, 2) := by decide +kernel
theorem dX2_init_57 : decode cX2_init 57 = .ok (.putfield 30, 3) := by decide +kernel
theorem dX2_init_60 : decode cX2_init 60 = .ok (.aload_n 0, 1) := by decide +kernel
theorem dX2_init_61 : decode cX2_init 61 = .ok (.bipush 6, 2) := by decide +kernel
theorem dX2_init_63 : decode cX2_init 63 = .ok (.newarray .int, 2) := by decide +kernel
theorem dX2_init_65 : decode cX2_init 65 = .ok (.putfield 34, 3) := by decide +kernel
theorem dX2_init_68 : decode cX2_init 68 = .ok (.aload_n 0, 1) := by decide +kernel
theorem dX2_init_69 : decode cX2_init 69 = .ok (.bipush 32, 2) := by decide +kernel
theorem dX2_init_71 : decode cX2_init 71 = .ok (.newarray .int, 2) := by decide +kernel
theorem dX2_init_73 : decode cX2_init 73 = .ok (.putfield 39, 3) := by decide +kernel
theorem dX2_init_76 : decode cX2_init 76 = .ok (.aload_n 0, 1) := by decide +kernel
theorem dX2_init_77 : decode cX2_init 77 = .ok (.aload_n 1, 1) := by decide +kernel
theorem dX2_init_78 : decode cX2_init 78 = .ok (.putfield 42, 3) := by decide +kernel
theorem dX2_init_81 : decode cX2_init 81 = .ok (.return_, 1) := by decide +kernel
theorem dX2_take_0 : decode cX2_take 0 = .ok (.aload_n 0, 1) := by decide +kernel
theorem dX2_take_1 : decode cX2_take 1 = .ok (.getfield 9, 3) := by decide +kernel
theorem dX2_take_4 : decode cX2_take 4 = .ok (.iconst 0, 1) := by decide +kernel
theorem dX2_take_5 : decode cX2_take 5 = .ok (.invokestatic 46, 3) := by decide +kernel
theorem dX2_take_8 : decode cX2_take 8 = .ok (.aload_n 0, 1) := by decide +kernel
theorem dX2_take_9 : decode cX2_take 9 = .ok (.getfield 15, 3) := by decide +kernel
theorem dX2_take_12 : decode cX2_take 12 = .ok (.iconst 0, 1) := by decide +kernel
theorem dX2_take_13 : decode cX2_take 13 = .ok (.invokestatic 46, 3) := by decide +kernel
theorem dX2_take_16 : decode cX2_take 16 = .ok (.aload_n 0, 1) := by decide +kernel
theorem dX2_take_17 : decode cX2_take 17 = .ok (.getfield 18, 3) := by decide +kernel
theorem dX2_take_20 : decode cX2_take 20 = .ok (.iconst 3, 1) := by decide +kernel
theorem dX2_take_21 : decode cX2_take 21 = .ok (.invokestatic 46, 3) := by decide +kernel
theorem dX2_take_24 : decode cX2_take 24 = .ok (.aload_n 0, 1) := by decide +kernel
theorem dX2_take_25 : decode cX2_take 25 = .ok (.getfield 21, 3) := by decide +kernel
theorem dX2_take_28 : decode cX2_take 28 = .ok (.iconst 2, 1) := by decide +kernel
theorem dX2_take_29 : decode cX2_take 29 = .ok (.invokestatic 46, 3) := by decide +kernel
theorem dX2_take_32 : decode cX2_take 32 = .ok (.iconst 0, 1) := by decide +kernel
theorem dX2_take_33 : decode cX2_take 33 = .ok (.istore_n 3, 1) := by decide +kernel
theorem dX2_take_34 : decode cX2_take 34 = .ok (.iload_n 3, 1) := by decide +kernel
theorem dX2_take_35 : decode cX2_take 35 = .ok (.aload_n 0, 1) := by decide +kernel
theorem dX2_take_36 : decode cX2_take 36 = .ok (.getfield 42, 3) := by decide +kernel
theorem dX2_take_39 : decode cX2_take 39 = .ok (.getfield 50, 3) := by decide +kernel
theorem dX2_take_42 : decode cX2_take 42 = .ok (.if_icmp .ge 30, 3) := by decide +kernel
theorem dX2_take_45 : decode cX2_take 45 = .ok (.aload_n 0, 1) := by decide +kernel
theorem dX2_take_46 : decode cX2_take 46 = .ok (.getfield 42, 3) := by decide +kernel
theorem dX2_take_49 : decode cX2_take 49 = .ok (.getfield 56, 3) := by decide +kernel
theorem dX2_take_52 : decode cX2_take 52 = .ok (.iload_n 3, 1) := by decide +kernel
theorem dX2_take_53 : decode cX2_take 53 = .ok (.invokestatic 59, 3) := by decide +kernel
theorem dX2_take_56 : decode cX2_take 56 = .ok (.iload_n 2, 1) := by decide +kernel
theorem dX2_take_57 : decode cX2_take 57 = .ok (.if_icmp .gt 15, 3) := by decide +kernel
theorem dX2_take_60 : decode cX2_take 60 = .ok (.aload_n 0, 1) := by decide +kernel
theorem dX2_take_61 : decode cX2_take 61 = .ok (.iload_n 3, 1) := by decide +kernel
theorem dX2_take_62 : decode cX2_take 62 = .ok (.iload_n 1, 1) := by decide +kernel
theorem dX2_take_63 : decode cX2_take 63 = .ok (.invokevirtual 63, 3) := by decide +kernel
theorem dX2_take_66 : decode cX2_take 66 = .ok (.iinc 3 1, 3) := by decide +kernel
theorem dX2_take_69 : decode cX2_take 69 = .ok (.goto (-35), 3) := by decide +kernel
theorem dX2_take_72 : decode cX2_take 72 = .ok (.iconst 0, 1) := by decide +kernel
theorem dX2_take_73 : decode cX2_take 73 = .ok (.istore_n 3, 1) := by decide +kernel
theorem dX2_take_74 : decode cX2_take 74 = .ok (.iload_n 3, 1) := by decide +kernel
theorem dX2_take_75 : decode cX2_take 75 = .ok (.aload_n 0, 1) := by decide +kernel
theorem dX2_take_76 : decode cX2_take 76 = .ok (.getfield 42, 3) := by decide +kernel
theorem dX2_take_79 : decode cX2_take 79 = .ok (.getfield 67, 3) := by decide +kernel
theorem dX2_take_82 : decode cX2_take 82 = .ok (.if_icmp .ge 22, 3) := by decide +kernel
theorem dX2_take_85 : decode cX2_take 85 = .ok (.aload_n 0, 1) := by decide +kernel
theorem dX2_take_86 : decode cX2_take 86 = .ok (.getfield 27, 3) := by decide +kernel
theorem dX2_take_89 : decode cX2_take 89 = .ok (.iload_n 3, 1) := by decide +kernel
theorem dX2_take_90 : decode cX2_take 90 = .ok (.aload_n 0, 1) := by decide +kernel
theorem dX2_take_91 : decode cX2_take 91 = .ok (.iload_n 3, 1) := by decide +kernel
theorem dX2_take_92 : decode cX2_take 92 = .ok (.invokevirtual 70, 3) := by decide +kernel
theorem dX2_take_95 : decode cX2_take 95 = .ok (.invokestatic 74, 3) := by decide +kernel
theorem dX2_take_98 : decode cX2_take 98 = .ok (.iinc 3 1, 3) := by decide +kernel
theorem dX2_take_101 : decode cX2_take 101 = .ok (.goto (-27), 3) := by decide +kernel
theorem dX2_take_104 : decode cX2_take 104 = .ok (.return_, 1) := by decide +kernel
theorem dX2_takeTelling_0 : decode cX2_takeTelling 0 = .ok (.aload_n 0, 1) := by decide +kernel
theorem dX2_takeTelling_1 : decode cX2_takeTelling 1 = .ok (.getfield 42, 3) := by decide +kernel
theorem dX2_takeTelling_4 : decode cX2_takeTelling 4 = .ok (.getfield 78, 3) := by decide +kernel
theorem dX2_takeTelling_7 : decode cX2_takeTelling 7 = .ok (.iload_n 1, 1) := by decide +kernel
theorem dX2_takeTelling_8 : decode cX2_takeTelling 8 = .ok (.invokestatic 59, 3) := by decide +kernel
theorem dX2_takeTelling_11 : decode cX2_takeTelling 11 = .ok (.istore_n 3, 1) := by decide +kernel
theorem dX2_takeTelling_12 : decode cX2_takeTelling 12 = .ok (.aload_n 0, 1) := by decide +kernel
theorem dX2_takeTelling_13 : decode cX2_takeTelling 13 = .ok (.getfield 42, 3) := by decide +kernel
theorem dX2_takeTelling_16 : decode cX2_takeTelling 16 = .ok (.getfield 81, 3) := by decide +kernel
theorem dX2_takeTelling_19 : decode cX2_takeTelling 19 = .ok (.iload_n 1, 1) := by decide +kernel
theorem dX2_takeTelling_20 : decode cX2_takeTelling 20 = .ok (.invokestatic 59, 3) := by decide +kernel
theorem dX2_takeTelling_23 : decode cX2_takeTelling 23 = .ok (.istore 4, 2) := by decide +kernel
theorem dX2_takeTelling_25 : decode cX2_takeTelling 25 = .ok (.aload_n 0, 1) := by decide +kernel
theorem dX2_takeTelling_26 : decode cX2_takeTelling 26 = .ok (.getfield 42, 3) := by decide +kernel
theorem dX2_takeTelling_29 : decode cX2_takeTelling 29 = .ok (.getfield 84, 3) := by decide +kernel
theorem dX2_takeTelling_32 : decode cX2_takeTelling 32 = .ok (.iload_n 1, 1) := by decide +kernel
theorem dX2_takeTelling_33 : decode cX2_takeTelling 33 = .ok (.invokestatic 59, 3) := by decide +kernel
theorem dX2_takeTelling_36 : decode cX2_takeTelling 36 = .ok (.lookupswitch 54 #[(0, 28), (1, 41)], 28) := by decide +kernel
theorem dX2_takeTelling_64 : decode cX2_takeTelling 64 = .ok (.aload_n 0, 1) := by decide +kernel
theorem dX2_takeTelling_65 : decode cX2_takeTelling 65 = .ok (.getfield 9, 3) := by decide +kernel
theorem dX2_takeTelling_68 : decode cX2_takeTelling 68 = .ok (.iload_n 3, 1) := by decide +kernel
theorem dX2_takeTelling_69 : decode cX2_takeTelling 69 = .ok (.iload 4, 2) := by decide +kernel
theorem dX2_takeTelling_71 : decode cX2_takeTelling 71 = .ok (.invokestatic 74, 3) := by decide +kernel
theorem dX2_takeTelling_74 : decode cX2_takeTelling 74 = .ok (.goto 63, 3) := by decide +kernel
theorem dX2_takeTelling_77 : decode cX2_takeTelling 77 = .ok (.aload_n 0, 1) := by decide +kernel
theorem dX2_takeTelling_78 : decode cX2_takeTelling 78 = .ok (.getfield 15, 3) := by decide +kernel
theorem dX2_takeTelling_81 : decode cX2_takeTelling 81 = .ok (.iload_n 3, 1) := by decide +kernel
theorem dX2_takeTelling_82 : decode cX2_takeTelling 82 = .ok (.iload 4, 2) := by decide +kernel
theorem dX2_takeTelling_84 : decode cX2_takeTelling 84 = .ok (.invokestatic 74, 3) := by decide +kernel
theorem dX2_takeTelling_87 : decode cX2_takeTelling 87 = .ok (.goto 50, 3) := by decide +kernel
theorem dX2_takeTelling_90 : decode cX2_takeTelling 90 = .ok (.aload_n 0, 1) := by decide +kernel
theorem dX2_takeTelling_91 : decode cX2_takeTelling 91 = .ok (.getfield 42, 3) := by decide +kernel
theorem dX2_takeTelling_94 : decode cX2_takeTelling 94 = .ok (.getfield 87, 3) := by decide +kernel
theorem dX2_takeTelling_97 : decode cX2_takeTelling 97 = .ok (.iload_n 1, 1) := by decide +kernel
theorem dX2_takeTelling_98 : decode cX2_takeTelling 98 = .ok (.invokestatic 59, 3) := by decide +kernel
theorem dX2_takeTelling_101 : decode cX2_takeTelling 101 = .ok (.iload_n 2, 1) := by decide +kernel
theorem dX2_takeTelling_102 : decode cX2_takeTelling 102 = .ok (.if_icmp .ne 35, 3) := by decide +kernel
theorem dX2_takeTelling_105 : decode cX2_takeTelling 105 = .ok (.aload_n 0, 1) := by decide +kernel
theorem dX2_takeTelling_106 : decode cX2_takeTelling 106 = .ok (.getfield 42, 3) := by decide +kernel
theorem dX2_takeTelling_109 : decode cX2_takeTelling 109 = .ok (.getfield 84, 3) := by decide +kernel
theorem dX2_takeTelling_112 : decode cX2_takeTelling 112 = .ok (.iload_n 1, 1) := by decide +kernel
theorem dX2_takeTelling_113 : decode cX2_takeTelling 113 = .ok (.invokestatic 59, 3) := by decide +kernel
theorem dX2_takeTelling_116 : decode cX2_takeTelling 116 = .ok (.iconst 3, 1) := by decide +kernel
theorem dX2_takeTelling_117 : decode cX2_takeTelling 117 = .ok (.if_icmp .ne 10, 3) := by decide +kernel
theorem dX2_takeTelling_120 : decode cX2_takeTelling 120 = .ok (.aload_n 0, 1) := by decide +kernel
theorem dX2_takeTelling_121 : decode cX2_takeTelling 121 = .ok (.getfield 18, 3) := by decide +kernel
theorem dX2_takeTelling_124 : decode cX2_takeTelling 124 = .ok (.goto 7, 3) := by decide +kernel
theorem dX2_takeTelling_127 : decode cX2_takeTelling 127 = .ok (.aload_n 0, 1) := by decide +kernel
theorem dX2_takeTelling_128 : decode cX2_takeTelling 128 = .ok (.getfield 21, 3) := by decide +kernel
theorem dX2_takeTelling_131 : decode cX2_takeTelling 131 = .ok (.iload_n 3, 1) := by decide +kernel
theorem dX2_takeTelling_132 : decode cX2_takeTelling 132 = .ok (.iload 4, 2) := by decide +kernel
theorem dX2_takeTelling_134 : decode cX2_takeTelling 134 = .ok (.invokestatic 74, 3) := by decide +kernel
theorem dX2_takeTelling_137 : decode cX2_takeTelling 137 = .ok (.return_, 1) := by decide +kernel
theorem dX2_mandateOf_0 : decode cX2_mandateOf 0 = .ok (.iconst 0, 1) := by decide +kernel
theorem dX2_mandateOf_1 : decode cX2_mandateOf 1 = .ok (.istore_n 2, 1) := by decide +kernel
theorem dX2_mandateOf_2 : decode cX2_mandateOf 2 = .ok (.iconst 0, 1) := by decide +kernel
theorem dX2_mandateOf_3 : decode cX2_mandateOf 3 = .ok (.istore_n 3, 1) := by decide +kernel
theorem dX2_mandateOf_4 : decode cX2_mandateOf 4 = .ok (.iload_n 3, 1) := by decide +kernel
theorem dX2_mandateOf_5 : decode cX2_mandateOf 5 = .ok (.aload_n 0, 1) := by decide +kernel
theorem dX2_mandateOf_6 : decode cX2_mandateOf 6 = .ok (.getfield 42, 3) := by decide +kernel
theorem dX2_mandateOf_9 : decode cX2_mandateOf 9 = .ok (.getfield 90, 3) := by decide +kernel
theorem dX2_mandateOf_12 : decode cX2_mandateOf 12 = .ok (.if_icmp .ge 77, 3) := by decide +kernel
theorem dX2_mandateOf_15 : decode cX2_mandateOf 15 = .ok (.aload_n 0, 1) := by decide +kernel
theorem dX2_mandateOf_16 : decode cX2_mandateOf 16 = .ok (.getfield 42, 3) := by decide +kernel
theorem dX2_mandateOf_19 : decode cX2_mandateOf 19 = .ok (.getfield 93, 3) := by decide +kernel
theorem dX2_mandateOf_22 : decode cX2_mandateOf 22 = .ok (.iload_n 3, 1) := by decide +kernel
theorem dX2_mandateOf_23 : decode cX2_mandateOf 23 = .ok (.invokestatic 59, 3) := by decide +kernel
theorem dX2_mandateOf_26 : decode cX2_mandateOf 26 = .ok (.iload_n 1, 1) := by decide +kernel
theorem dX2_mandateOf_27 : decode cX2_mandateOf 27 = .ok (.if_icmp .ne 56, 3) := by decide +kernel
theorem dX2_mandateOf_30 : decode cX2_mandateOf 30 = .ok (.aload_n 0, 1) := by decide +kernel
theorem dX2_mandateOf_31 : decode cX2_mandateOf 31 = .ok (.getfield 21, 3) := by decide +kernel
theorem dX2_mandateOf_34 : decode cX2_mandateOf 34 = .ok (.iload_n 3, 1) := by decide +kernel
theorem dX2_mandateOf_35 : decode cX2_mandateOf 35 = .ok (.invokestatic 59, 3) := by decide +kernel
theorem dX2_mandateOf_38 : decode cX2_mandateOf 38 = .ok (.iconst 2, 1) := by decide +kernel
theorem dX2_mandateOf_39 : decode cX2_mandateOf 39 = .ok (.if_icmp .eq 44, 3) := by decide +kernel
theorem dX2_mandateOf_42 : decode cX2_mandateOf 42 = .ok (.iload_n 2, 1) := by decide +kernel
theorem dX2_mandateOf_43 : decode cX2_mandateOf 43 = .ok (.aload_n 0, 1) := by decide +kernel
theorem dX2_mandateOf_44 : decode cX2_mandateOf 44 = .ok (.getfield 21, 3) := by decide +kernel
theorem dX2_mandateOf_47 : decode cX2_mandateOf 47 = .ok (.iload_n 3, 1) := by decide +kernel
theorem dX2_mandateOf_48 : decode cX2_mandateOf 48 = .ok (.invokestatic 59, 3) := by decide +kernel
theorem dX2_mandateOf_51 : decode cX2_mandateOf 51 = .ok (.iconst 1, 1) := by decide +kernel
theorem dX2_mandateOf_52 : decode cX2_mandateOf 52 = .ok (.if_icmp .ne 17, 3) := by decide +kernel
theorem dX2_mandateOf_55 : decode cX2_mandateOf 55 = .ok (.aload_n 0, 1) := by decide +kernel
theorem dX2_mandateOf_56 : decode cX2_mandateOf 56 = .ok (.getfield 42, 3) := by decide +kernel
theorem dX2_mandateOf_59 : decode cX2_mandateOf 59 = .ok (.getfield 96, 3) := by decide +kernel
theorem dX2_mandateOf_62 : decode cX2_mandateOf 62 = .ok (.iload_n 3, 1) := by decide +kernel
theorem dX2_mandateOf_63 : decode cX2_mandateOf 63 = .ok (.invokestatic 59, 3) := by decide +kernel
theorem dX2_mandateOf_66 : decode cX2_mandateOf 66 = .ok (.goto 15, 3) := by decide +kernel
theorem dX2_mandateOf_69 : decode cX2_mandateOf 69 = .ok (.aload_n 0, 1) := by decide +kernel
theorem dX2_mandateOf_70 : decode cX2_mandateOf 70 = .ok (.getfield 42, 3) := by decide +kernel
theorem dX2_mandateOf_73 : decode cX2_mandateOf 73 = .ok (.getfield 96, 3) := by decide +kernel
theorem dX2_mandateOf_76 : decode cX2_mandateOf 76 = .ok (.iload_n 3, 1) := by decide +kernel
theorem dX2_mandateOf_77 : decode cX2_mandateOf 77 = .ok (.invokestatic 59, 3) := by decide +kernel
theorem dX2_mandateOf_80 : decode cX2_mandateOf 80 = .ok (.ineg, 1) := by decide +kernel
theorem dX2_mandateOf_81 : decode cX2_mandateOf 81 = .ok (.iadd, 1) := by decide +kernel
theorem dX2_mandateOf_82 : decode cX2_mandateOf 82 = .ok (.istore_n 2, 1) := by decide +kernel
theorem dX2_mandateOf_83 : decode cX2_mandateOf 83 = .ok (.iinc 3 1, 3) := by decide +kernel
theorem dX2_mandateOf_86 : decode cX2_mandateOf 86 = .ok (.goto (-82), 3) := by decide +kernel
theorem dX2_mandateOf_89 : decode cX2_mandateOf 89 = .ok (.iload_n 2, 1) := by decide +kernel
theorem dX2_mandateOf_90 : decode cX2_mandateOf 90 = .ok (.ifCond .le 7, 3) := by decide +kernel
theorem dX2_mandateOf_93 : decode cX2_mandateOf 93 = .ok (.iconst 1, 1) := by decide +kernel
theorem dX2_mandateOf_94 : decode cX2_mandateOf 94 = .ok (.goto 12, 3) := by decide +kernel
theorem dX2_mandateOf_97 : decode cX2_mandateOf 97 = .ok (.iload_n 2, 1) := by decide +kernel
theorem dX2_mandateOf_98 : decode cX2_mandateOf 98 = .ok (.ifCond .ge 7, 3) := by decide +kernel
theorem dX2_mandateOf_101 : decode cX2_mandateOf 101 = .ok (.iconst 0, 1) := by decide +kernel
theorem dX2_mandateOf_102 : decode cX2_mandateOf 102 = .ok (.goto 4, 3) := by decide +kernel
theorem dX2_mandateOf_105 : decode cX2_mandateOf 105 = .ok (.iconst 2, 1) := by decide +kernel
theorem dX2_mandateOf_106 : decode cX2_mandateOf 106 = .ok (.ireturn, 1) := by decide +kernel
theorem dX2_voiceOf_0 : decode cX2_voiceOf 0 = .ok (.aload_n 0, 1) := by decide +kernel
theorem dX2_voiceOf_1 : decode cX2_voiceOf 1 = .ok (.getfield 18, 3) := by decide +kernel
theorem dX2_voiceOf_4 : decode cX2_voiceOf 4 = .ok (.iload_n 1, 1) := by decide +kernel
theorem dX2_voiceOf_5 : decode cX2_voiceOf 5 = .ok (.invokestatic 59, 3) := by decide +kernel
theorem dX2_voiceOf_8 : decode cX2_voiceOf 8 = .ok (.istore_n 2, 1) := by decide +kernel
theorem dX2_voiceOf_9 : decode cX2_voiceOf 9 = .ok (.iload_n 2, 1) := by decide +kernel
theorem dX2_voiceOf_10 : decode cX2_voiceOf 10 = .ok (.iconst 3, 1) := by decide +kernel
theorem dX2_voiceOf_11 : decode cX2_voiceOf 11 = .ok (.if_icmp .ne 11, 3) := by decide +kernel
theorem dX2_voiceOf_14 : decode cX2_voiceOf 14 = .ok (.aload_n 0, 1) := by decide +kernel
theorem dX2_voiceOf_15 : decode cX2_voiceOf 15 = .ok (.iload_n 1, 1) := by decide +kernel
theorem dX2_voiceOf_16 : decode cX2_voiceOf 16 = .ok (.invokevirtual 99, 3) := by decide +kernel
theorem dX2_voiceOf_19 : decode cX2_voiceOf 19 = .ok (.goto 4, 3) := by decide +kernel
theorem dX2_voiceOf_22 : decode cX2_voiceOf 22 = .ok (.iload_n 2, 1) := by decide +kernel
theorem dX2_voiceOf_23 : decode cX2_voiceOf 23 = .ok (.ireturn, 1) := by decide +kernel
theorem dX2_voiceTaken_0 : decode cX2_voiceTaken 0 = .ok (.aload_n 0, 1) := by decide +kernel
theorem dX2_voiceTaken_1 : decode cX2_voiceTaken 1 = .ok (.getfield 27, 3) := by decide +kernel
theorem dX2_voiceTaken_4 : decode cX2_voiceTaken 4 = .ok (.iload_n 1, 1) := by decide +kernel
theorem dX2_voiceTaken_5 : decode cX2_voiceTaken 5 = .ok (.invokestatic 59, 3) := by decide +kernel
theorem dX2_voiceTaken_8 : decode cX2_voiceTaken 8 = .ok (.ireturn, 1) := by decide +kernel
theorem dX2_brokenMandates_0 : decode cX2_brokenMandates 0 = .ok (.iconst 0, 1) := by decide +kernel
theorem dX2_brokenMandates_1 : decode cX2_brokenMandates 1 = .ok (.istore_n 1, 1) := by decide +kernel
theorem dX2_brokenMandates_2 : decode cX2_brokenMandates 2 = .ok (.iconst 0, 1) := by decide +kernel
theorem dX2_brokenMandates_3 : decode cX2_brokenMandates 3 = .ok (.istore_n 2, 1) := by decide +kernel
theorem dX2_brokenMandates_4 : decode cX2_brokenMandates 4 = .ok (.iload_n 2, 1) := by decide +kernel
theorem dX2_brokenMandates_5 : decode cX2_brokenMandates 5 = .ok (.aload_n 0, 1) := by decide +kernel
theorem dX2_brokenMandates_6 : decode cX2_brokenMandates 6 = .ok (.getfield 42, 3) := by decide +kernel
theorem dX2_brokenMandates_9 : decode cX2_brokenMandates 9 = .ok (.getfield 67, 3) := by decide +kernel
theorem dX2_brokenMandates_12 : decode cX2_brokenMandates 12 = .ok (.if_icmp .ge 50, 3) := by decide +kernel
theorem dX2_brokenMandates_15 : decode cX2_brokenMandates 15 = .ok (.aload_n 0, 1) := by decide +kernel
theorem dX2_brokenMandates_16 : decode cX2_brokenMandates 16 = .ok (.iload_n 2, 1) := by decide +kernel
theorem dX2_brokenMandates_17 : decode cX2_brokenMandates 17 = .ok (.invokevirtual 99, 3) := by decide +kernel
theorem dX2_brokenMandates_20 : decode cX2_brokenMandates 20 = .ok (.istore_n 3, 1) := by decide +kernel
theorem dX2_brokenMandates_21 : decode cX2_brokenMandates 21 = .ok (.aload_n 0, 1) := by decide +kernel
theorem dX2_brokenMandates_22 : decode cX2_brokenMandates 22 = .ok (.getfield 18, 3) := by decide +kernel
theorem dX2_brokenMandates_25 : decode cX2_brokenMandates 25 = .ok (.iload_n 2, 1) := by decide +kernel
theorem dX2_brokenMandates_26 : decode cX2_brokenMandates 26 = .ok (.invokestatic 59, 3) := by decide +kernel
theorem dX2_brokenMandates_29 : decode cX2_brokenMandates 29 = .ok (.istore 4, 2) := by decide +kernel
theorem dX2_brokenMandates_31 : decode cX2_brokenMandates 31 = .ok (.iload_n 1, 1) := by decide +kernel
theorem dX2_brokenMandates_32 : decode cX2_brokenMandates 32 = .ok (.iload_n 3, 1) := by decide +kernel
theorem dX2_brokenMandates_33 : decode cX2_brokenMandates 33 = .ok (.iconst 2, 1) := by decide +kernel
theorem dX2_brokenMandates_34 : decode cX2_brokenMandates 34 = .ok (.if_icmp .eq 19, 3) := by decide +kernel
theorem dX2_brokenMandates_37 : decode cX2_brokenMandates 37 = .ok (.iload 4, 2) := by decide +kernel
theorem dX2_brokenMandates_39 : decode cX2_brokenMandates 39 = .ok (.iconst 3, 1) := by decide +kernel
theorem dX2_brokenMandates_40 : decode cX2_brokenMandates 40 = .ok (.if_icmp .eq 13, 3) := by decide +kernel
theorem dX2_brokenMandates_43 : decode cX2_brokenMandates 43 = .ok (.iload 4, 2) := by decide +kernel
theorem dX2_brokenMandates_45 : decode cX2_brokenMandates 45 = .ok (.iload_n 3, 1) := by decide +kernel
theorem dX2_brokenMandates_46 : decode cX2_brokenMandates 46 = .ok (.if_icmp .eq 7, 3) := by decide +kernel
theorem dX2_brokenMandates_49 : decode cX2_brokenMandates 49 = .ok (.iconst 1, 1) := by decide +kernel
theorem dX2_brokenMandates_50 : decode cX2_brokenMandates 50 = .ok (.goto 4, 3) := by decide +kernel
theorem dX2_brokenMandates_53 : decode cX2_brokenMandates 53 = .ok (.iconst 0, 1) := by decide +kernel
theorem dX2_brokenMandates_54 : decode cX2_brokenMandates 54 = .ok (.iadd, 1) := by decide +kernel
theorem dX2_brokenMandates_55 : decode cX2_brokenMandates 55 = .ok (.istore_n 1, 1) := by decide +kernel
theorem dX2_brokenMandates_56 : decode cX2_brokenMandates 56 = .ok (.iinc 2 1, 3) := by decide +kernel
theorem dX2_brokenMandates_59 : decode cX2_brokenMandates 59 = .ok (.goto (-55), 3) := by decide +kernel
theorem dX2_brokenMandates_62 : decode cX2_brokenMandates 62 = .ok (.iload_n 1, 1) := by decide +kernel
theorem dX2_brokenMandates_63 : decode cX2_brokenMandates 63 = .ok (.ireturn, 1) := by decide +kernel
theorem dX2_paidHeadsOf_0 : decode cX2_paidHeadsOf 0 = .ok (.iload_n 2, 1) := by decide +kernel
theorem dX2_paidHeadsOf_1 : decode cX2_paidHeadsOf 1 = .ok (.ifCond .ne 7, 3) := by decide +kernel
theorem dX2_paidHeadsOf_4 : decode cX2_paidHeadsOf 4 = .ok (.iconst 0, 1) := by decide +kernel
theorem dX2_paidHeadsOf_5 : decode cX2_paidHeadsOf 5 = .ok (.goto 13, 3) := by decide +kernel
theorem dX2_paidHeadsOf_8 : decode cX2_paidHeadsOf 8 = .ok (.aload_n 0, 1) := by decide +kernel
theorem dX2_paidHeadsOf_9 : decode cX2_paidHeadsOf 9 = .ok (.getfield 15, 3) := by decide +kernel
theorem dX2_paidHeadsOf_12 : decode cX2_paidHeadsOf 12 = .ok (.iload_n 1, 1) := by decide +kernel
theorem dX2_paidHeadsOf_13 : decode cX2_paidHeadsOf 13 = .ok (.invokestatic 59, 3) := by decide +kernel
theorem dX2_paidHeadsOf_16 : decode cX2_paidHeadsOf 16 = .ok (.iload_n 2, 1) := by decide +kernel
theorem dX2_paidHeadsOf_17 : decode cX2_paidHeadsOf 17 = .ok (.idiv, 1) := by decide +kernel
theorem dX2_paidHeadsOf_18 : decode cX2_paidHeadsOf 18 = .ok (.istore_n 3, 1) := by decide +kernel
theorem dX2_paidHeadsOf_19 : decode cX2_paidHeadsOf 19 = .ok (.aload_n 0, 1) := by decide +kernel
theorem dX2_paidHeadsOf_20 : decode cX2_paidHeadsOf 20 = .ok (.getfield 9, 3) := by decide +kernel
theorem dX2_paidHeadsOf_23 : decode cX2_paidHeadsOf 23 = .ok (.iload_n 1, 1) := by decide +kernel
theorem dX2_paidHeadsOf_24 : decode cX2_paidHeadsOf 24 = .ok (.invokestatic 59, 3) := by decide +kernel
theorem dX2_paidHeadsOf_27 : decode cX2_paidHeadsOf 27 = .ok (.iload_n 3, 1) := by decide +kernel
theorem dX2_paidHeadsOf_28 : decode cX2_paidHeadsOf 28 = .ok (.invokestatic 102, 3) := by decide +kernel
theorem dX2_paidHeadsOf_31 : decode cX2_paidHeadsOf 31 = .ok (.ireturn, 1) := by decide +kernel
theorem dX2_cardsOf_0 : decode cX2_cardsOf 0 = .ok (.aload_n 0, 1) := by decide +kernel
theorem dX2_cardsOf_1 : decode cX2_cardsOf 1 = .ok (.iload_n 1, 1) := by decide +kernel
theorem dX2_cardsOf_2 : decode cX2_cardsOf 2 = .ok (.aload_n 2, 1) := by decide +kernel
theorem dX2_cardsOf_3 : decode cX2_cardsOf 3 = .ok (.getfield 108, 3) := by decide +kernel
theorem dX2_cardsOf_6 : decode cX2_cardsOf 6 = .ok (.invokevirtual 111, 3) := by decide +kernel
theorem dX2_cardsOf_9 : decode cX2_cardsOf 9 = .ok (.istore_n 3, 1) := by decide +kernel
theorem dX2_cardsOf_10 : decode cX2_cardsOf 10 = .ok (.aload_n 2, 1) := by decide +kernel
theorem dX2_cardsOf_11 : decode cX2_cardsOf 11 = .ok (.iconst 3, 1) := by decide +kernel
theorem dX2_cardsOf_12 : decode cX2_cardsOf 12 = .ok (.invokevirtual 114, 3) := by decide +kernel
theorem dX2_cardsOf_15 : decode cX2_cardsOf 15 = .ok (.ifCond .ne 5, 3) := by decide +kernel
theorem dX2_cardsOf_18 : decode cX2_cardsOf 18 = .ok (.iload_n 3, 1) := by decide +kernel
theorem dX2_cardsOf_19 : decode cX2_cardsOf 19 = .ok (.ireturn, 1) := by decide +kernel
theorem dX2_cardsOf_20 : decode cX2_cardsOf 20 = .ok (.aload_n 0, 1) := by decide +kernel
theorem dX2_cardsOf_21 : decode cX2_cardsOf 21 = .ok (.getfield 34, 3) := by decide +kernel
theorem dX2_cardsOf_24 : decode cX2_cardsOf 24 = .ok (.iconst 0, 1) := by decide +kernel
theorem dX2_cardsOf_25 : decode cX2_cardsOf 25 = .ok (.iload_n 3, 1) := by decide +kernel
theorem dX2_cardsOf_26 : decode cX2_cardsOf 26 = .ok (.invokestatic 74, 3) := by decide +kernel
theorem dX2_cardsOf_29 : decode cX2_cardsOf 29 = .ok (.aload_n 0, 1) := by decide +kernel
theorem dX2_cardsOf_30 : decode cX2_cardsOf 30 = .ok (.getfield 34, 3) := by decide +kernel
theorem dX2_cardsOf_33 : decode cX2_cardsOf 33 = .ok (.iconst 1, 1) := by decide +kernel
theorem dX2_cardsOf_34 : decode cX2_cardsOf 34 = .ok (.aload_n 0, 1) := by decide +kernel
theorem dX2_cardsOf_35 : decode cX2_cardsOf 35 = .ok (.getfield 42, 3) := by decide +kernel
theorem dX2_cardsOf_38 : decode cX2_cardsOf 38 = .ok (.iload_n 1, 1) := by decide +kernel
theorem dX2_cardsOf_39 : decode cX2_cardsOf 39 = .ok (.invokevirtual 118, 3) := by decide +kernel
theorem dX2_cardsOf_42 : decode cX2_cardsOf 42 = .ok (.invokestatic 74, 3) := by decide +kernel
theorem dX2_cardsOf_45 : decode cX2_cardsOf 45 = .ok (.aload_n 0, 1) := by decide +kernel
theorem dX2_cardsOf_46 : decode cX2_cardsOf 46 = .ok (.getfield 34, 3) := by decide +kernel
theorem dX2_cardsOf_49 : decode cX2_cardsOf 49 = .ok (.iconst 2, 1) := by decide +kernel
theorem dX2_cardsOf_50 : decode cX2_cardsOf 50 = .ok (.aload_n 0, 1) := by decide +kernel
theorem dX2_cardsOf_51 : decode cX2_cardsOf 51 = .ok (.getfield 42, 3) := by decide +kernel
theorem dX2_cardsOf_54 : decode cX2_cardsOf 54 = .ok (.iload_n 1, 1) := by decide +kernel
theorem dX2_cardsOf_55 : decode cX2_cardsOf 55 = .ok (.invokevirtual 121, 3) := by decide +kernel
theorem dX2_cardsOf_58 : decode cX2_cardsOf 58 = .ok (.invokestatic 74, 3) := by decide +kernel
theorem dX2_cardsOf_61 : decode cX2_cardsOf 61 = .ok (.aload_n 0, 1) := by decide +kernel
theorem dX2_cardsOf_62 : decode cX2_cardsOf 62 = .ok (.getfield 34, 3) := by decide +kernel
theorem dX2_cardsOf_65 : decode cX2_cardsOf 65 = .ok (.iconst 3, 1) := by decide +kernel
theorem dX2_cardsOf_66 : decode cX2_cardsOf 66 = .ok (.aload_n 0, 1) := by decide +kernel
theorem dX2_cardsOf_67 : decode cX2_cardsOf 67 = .ok (.getfield 42, 3) := by decide +kernel
theorem dX2_cardsOf_70 : decode cX2_cardsOf 70 = .ok (.getfield 124, 3) := by decide +kernel
theorem dX2_cardsOf_73 : decode cX2_cardsOf 73 = .ok (.iload_n 1, 1) := by decide +kernel
theorem dX2_cardsOf_74 : decode cX2_cardsOf 74 = .ok (.invokestatic 59, 3) := by decide +kernel
theorem dX2_cardsOf_77 : decode cX2_cardsOf 77 = .ok (.invokestatic 74, 3) := by decide +kernel
theorem dX2_cardsOf_80 : decode cX2_cardsOf 80 = .ok (.iconst 0, 1) := by decide +kernel
theorem dX2_cardsOf_81 : decode cX2_cardsOf 81 = .ok (.aload_n 2, 1) := by decide +kernel
theorem dX2_cardsOf_82 : decode cX2_cardsOf 82 = .ok (.iconst 3, 1) := by decide +kernel
theorem dX2_cardsOf_83 : decode cX2_cardsOf 83 = .ok (.aload_n 0, 1) := by decide +kernel
theorem dX2_cardsOf_84 : decode cX2_cardsOf 84 = .ok (.getfield 34, 3) := by decide +kernel
theorem dX2_cardsOf_87 : decode cX2_cardsOf 87 = .ok (.aload_n 0, 1) := by decide +kernel
theorem dX2_cardsOf_88 : decode cX2_cardsOf 88 = .ok (.getfield 39, 3) := by decide +kernel
theorem dX2_cardsOf_91 : decode cX2_cardsOf 91 = .ok (.invokevirtual 127, 3) := by decide +kernel
theorem dX2_cardsOf_94 : decode cX2_cardsOf 94 = .ok (.invokestatic 130, 3) := by decide +kernel
theorem dX2_cardsOf_97 : decode cX2_cardsOf 97 = .ok (.ireturn, 1) := by decide +kernel
theorem dX2_takesLate_0 : decode cX2_takesLate 0 = .ok (.aload_n 0, 1) := by decide +kernel
theorem dX2_takesLate_1 : decode cX2_takesLate 1 = .ok (.getfield 34, 3) := by decide +kernel
theorem dX2_takesLate_4 : decode cX2_takesLate 4 = .ok (.iconst 0, 1) := by decide +kernel
theorem dX2_takesLate_5 : decode cX2_takesLate 5 = .ok (.aload_n 0, 1) := by decide +kernel
theorem dX2_takesLate_6 : decode cX2_takesLate 6 = .ok (.iload_n 2, 1) := by decide +kernel
theorem dX2_takesLate_7 : decode cX2_takesLate 7 = .ok (.aload_n 1, 1) := by decide +kernel
theorem dX2_takesLate_8 : decode cX2_takesLate 8 = .ok (.getfield 108, 3) := by decide +kernel
theorem dX2_takesLate_11 : decode cX2_takesLate 11 = .ok (.invokevirtual 111, 3) := by decide +kernel
theorem dX2_takesLate_14 : decode cX2_takesLate 14 = .ok (.invokestatic 74, 3) := by decide +kernel
theorem dX2_takesLate_17 : decode cX2_takesLate 17 = .ok (.aload_n 0, 1) := by decide +kernel
theorem dX2_takesLate_18 : decode cX2_takesLate 18 = .ok (.getfield 34, 3) := by decide +kernel
theorem dX2_takesLate_21 : decode cX2_takesLate 21 = .ok (.iconst 1, 1) := by decide +kernel
theorem dX2_takesLate_22 : decode cX2_takesLate 22 = .ok (.iload_n 3, 1) := by decide +kernel
theorem dX2_takesLate_23 : decode cX2_takesLate 23 = .ok (.invokestatic 74, 3) := by decide +kernel
theorem dX2_takesLate_26 : decode cX2_takesLate 26 = .ok (.aload_n 0, 1) := by decide +kernel
theorem dX2_takesLate_27 : decode cX2_takesLate 27 = .ok (.getfield 34, 3) := by decide +kernel
theorem dX2_takesLate_30 : decode cX2_takesLate 30 = .ok (.iconst 2, 1) := by decide +kernel
theorem dX2_takesLate_31 : decode cX2_takesLate 31 = .ok (.iload 4, 2) := by decide +kernel
theorem dX2_takesLate_33 : decode cX2_takesLate 33 = .ok (.invokestatic 74, 3) := by decide +kernel
theorem dX2_takesLate_36 : decode cX2_takesLate 36 = .ok (.aload_n 1, 1) := by decide +kernel
theorem dX2_takesLate_37 : decode cX2_takesLate 37 = .ok (.iconst 4, 1) := by decide +kernel
theorem dX2_takesLate_38 : decode cX2_takesLate 38 = .ok (.invokevirtual 114, 3) := by decide +kernel
theorem dX2_takesLate_41 : decode cX2_takesLate 41 = .ok (.ifCond .eq 23, 3) := by decide +kernel
theorem dX2_takesLate_44 : decode cX2_takesLate 44 = .ok (.aload_n 1, 1) := by decide +kernel
theorem dX2_takesLate_45 : decode cX2_takesLate 45 = .ok (.iconst 4, 1) := by decide +kernel
theorem dX2_takesLate_46 : decode cX2_takesLate 46 = .ok (.aload_n 0, 1) := by decide +kernel
theorem dX2_takesLate_47 : decode cX2_takesLate 47 = .ok (.getfield 34, 3) := by decide +kernel
theorem dX2_takesLate_50 : decode cX2_takesLate 50 = .ok (.aload_n 0, 1) := by decide +kernel
theorem dX2_takesLate_51 : decode cX2_takesLate 51 = .ok (.getfield 39, 3) := by decide +kernel
theorem dX2_takesLate_54 : decode cX2_takesLate 54 = .ok (.invokevirtual 127, 3) := by decide +kernel
theorem dX2_takesLate_57 : decode cX2_takesLate 57 = .ok (.ifCond .eq 7, 3) := by decide +kernel
theorem dX2_takesLate_60 : decode cX2_takesLate 60 = .ok (.iconst 1, 1) := by decide +kernel
theorem dX2_takesLate_61 : decode cX2_takesLate 61 = .ok (.goto 4, 3) := by decide +kernel
theorem dX2_takesLate_64 : decode cX2_takesLate 64 = .ok (.iconst 0, 1) := by decide +kernel
theorem dX2_takesLate_65 : decode cX2_takesLate 65 = .ok (.ireturn, 1) := by decide +kernel
theorem dX2_weigh_0 : decode cX2_weigh 0 = .ok (.iconst 0, 1) := by decide +kernel
theorem dX2_weigh_1 : decode cX2_weigh 1 = .ok (.istore_n 3, 1) := by decide +kernel
theorem dX2_weigh_2 : decode cX2_weigh 2 = .ok (.iload_n 3, 1) := by decide +kernel
theorem dX2_weigh_3 : decode cX2_weigh 3 = .ok (.aload_n 0, 1) := by decide +kernel
theorem dX2_weigh_4 : decode cX2_weigh 4 = .ok (.getfield 42, 3) := by decide +kernel
theorem dX2_weigh_7 : decode cX2_weigh 7 = .ok (.getfield 67, 3) := by decide +kernel
theorem dX2_weigh_10 : decode cX2_weigh 10 = .ok (.if_icmp .ge 49, 3) := by decide +kernel
theorem dX2_weigh_13 : decode cX2_weigh 13 = .ok (.aload_n 0, 1) := by decide +kernel
theorem dX2_weigh_14 : decode cX2_weigh 14 = .ok (.getfield 24, 3) := by decide +kernel
theorem dX2_weigh_17 : decode cX2_weigh 17 = .ok (.iload_n 3, 1) := by decide +kernel
theorem dX2_weigh_18 : decode cX2_weigh 18 = .ok (.iload_n 2, 1) := by decide +kernel
theorem dX2_weigh_19 : decode cX2_weigh 19 = .ok (.iconst 2, 1) := by decide +kernel
theorem dX2_weigh_20 : decode cX2_weigh 20 = .ok (.if_icmp .ne 7, 3) := by decide +kernel
theorem dX2_weigh_23 : decode cX2_weigh 23 = .ok (.iconst 1, 1) := by decide +kernel
theorem dX2_weigh_24 : decode cX2_weigh 24 = .ok (.goto 26, 3) := by decide +kernel
theorem dX2_weigh_27 : decode cX2_weigh 27 = .ok (.iload_n 2, 1) := by decide +kernel
theorem dX2_weigh_28 : decode cX2_weigh 28 = .ok (.iconst 1, 1) := by decide +kernel
theorem dX2_weigh_29 : decode cX2_weigh 29 = .ok (.if_icmp .ne 15, 3) := by decide +kernel
theorem dX2_weigh_32 : decode cX2_weigh 32 = .ok (.aload_n 0, 1) := by decide +kernel
theorem dX2_weigh_33 : decode cX2_weigh 33 = .ok (.iload_n 3, 1) := by decide +kernel
theorem dX2_weigh_34 : decode cX2_weigh 34 = .ok (.aload_n 1, 1) := by decide +kernel
theorem dX2_weigh_35 : decode cX2_weigh 35 = .ok (.getfield 108, 3) := by decide +kernel
theorem dX2_weigh_38 : decode cX2_weigh 38 = .ok (.invokevirtual 111, 3) := by decide +kernel
theorem dX2_weigh_41 : decode cX2_weigh 41 = .ok (.goto 9, 3) := by decide +kernel
theorem dX2_weigh_44 : decode cX2_weigh 44 = .ok (.aload_n 0, 1) := by decide +kernel
theorem dX2_weigh_45 : decode cX2_weigh 45 = .ok (.iload_n 3, 1) := by decide +kernel
theorem dX2_weigh_46 : decode cX2_weigh 46 = .ok (.aload_n 1, 1) := by decide +kernel
theorem dX2_weigh_47 : decode cX2_weigh 47 = .ok (.invokevirtual 133, 3) := by decide +kernel
theorem dX2_weigh_50 : decode cX2_weigh 50 = .ok (.invokestatic 74, 3) := by decide +kernel
theorem dX2_weigh_53 : decode cX2_weigh 53 = .ok (.iinc 3 1, 3) := by decide +kernel
theorem dX2_weigh_56 : decode cX2_weigh 56 = .ok (.goto (-54), 3) := by decide +kernel
theorem dX2_weigh_59 : decode cX2_weigh 59 = .ok (.return_, 1) := by decide +kernel
theorem dX2_leaveOut_0 : decode cX2_leaveOut 0 = .ok (.iconst 0, 1) := by decide +kernel
theorem dX2_leaveOut_1 : decode cX2_leaveOut 1 = .ok (.istore_n 2, 1) := by decide +kernel
theorem dX2_leaveOut_2 : decode cX2_leaveOut 2 = .ok (.iload_n 2, 1) := by decide +kernel
theorem dX2_leaveOut_3 : decode cX2_leaveOut 3 = .ok (.aload_n 0, 1) := by decide +kernel
theorem dX2_leaveOut_4 : decode cX2_leaveOut 4 = .ok (.getfield 42, 3) := by decide +kernel
theorem dX2_leaveOut_7 : decode cX2_leaveOut 7 = .ok (.getfield 67, 3) := by decide +kernel
theorem dX2_leaveOut_10 : decode cX2_leaveOut 10 = .ok (.if_icmp .ge 26, 3) := by decide +kernel
theorem dX2_leaveOut_13 : decode cX2_leaveOut 13 = .ok (.iload_n 1, 1) := by decide +kernel
theorem dX2_leaveOut_14 : decode cX2_leaveOut 14 = .ok (.iload_n 2, 1) := by decide +kernel
theorem dX2_leaveOut_15 : decode cX2_leaveOut 15 = .ok (.iushr, 1) := by decide +kernel
theorem dX2_leaveOut_16 : decode cX2_leaveOut 16 = .ok (.iconst 1, 1) := by decide +kernel
theorem dX2_leaveOut_17 : decode cX2_leaveOut 17 = .ok (.iand, 1) := by decide +kernel
theorem dX2_leaveOut_18 : decode cX2_leaveOut 18 = .ok (.ifCond .eq 12, 3) := by decide +kernel
theorem dX2_leaveOut_21 : decode cX2_leaveOut 21 = .ok (.aload_n 0, 1) := by decide +kernel
theorem dX2_leaveOut_22 : decode cX2_leaveOut 22 = .ok (.getfield 24, 3) := by decide +kernel
theorem dX2_leaveOut_25 : decode cX2_leaveOut 25 = .ok (.iload_n 2, 1) := by decide +kernel
theorem dX2_leaveOut_26 : decode cX2_leaveOut 26 = .ok (.iconst 0, 1) := by decide +kernel
theorem dX2_leaveOut_27 : decode cX2_leaveOut 27 = .ok (.invokestatic 74, 3) := by decide +kernel
theorem dX2_leaveOut_30 : decode cX2_leaveOut 30 = .ok (.iinc 2 1, 3) := by decide +kernel
theorem dX2_leaveOut_33 : decode cX2_leaveOut 33 = .ok (.goto (-31), 3) := by decide +kernel
theorem dX2_leaveOut_36 : decode cX2_leaveOut 36 = .ok (.return_, 1) := by decide +kernel
theorem dX2_sumUp_0 : decode cX2_sumUp 0 = .ok (.aload_n 0, 1) := by decide +kernel
theorem dX2_sumUp_1 : decode cX2_sumUp 1 = .ok (.invokevirtual 137, 3) := by decide +kernel
theorem dX2_sumUp_4 : decode cX2_sumUp 4 = .ok (.iconst 0, 1) := by decide +kernel
theorem dX2_sumUp_5 : decode cX2_sumUp 5 = .ok (.istore_n 2, 1) := by decide +kernel
theorem dX2_sumUp_6 : decode cX2_sumUp 6 = .ok (.iload_n 2, 1) := by decide +kernel
theorem dX2_sumUp_7 : decode cX2_sumUp 7 = .ok (.aload_n 0, 1) := by decide +kernel
theorem dX2_sumUp_8 : decode cX2_sumUp 8 = .ok (.getfield 42, 3) := by decide +kernel
theorem dX2_sumUp_11 : decode cX2_sumUp 11 = .ok (.getfield 67, 3) := by decide +kernel
theorem dX2_sumUp_14 : decode cX2_sumUp 14 = .ok (.if_icmp .ge 58, 3) := by decide +kernel
theorem dX2_sumUp_17 : decode cX2_sumUp 17 = .ok (.aload_n 0, 1) := by decide +kernel
theorem dX2_sumUp_18 : decode cX2_sumUp 18 = .ok (.getfield 27, 3) := by decide +kernel
theorem dX2_sumUp_21 : decode cX2_sumUp 21 = .ok (.iload_n 2, 1) := by decide +kernel
theorem dX2_sumUp_22 : decode cX2_sumUp 22 = .ok (.invokestatic 59, 3) := by decide +kernel
theorem dX2_sumUp_25 : decode cX2_sumUp 25 = .ok (.istore_n 3, 1) := by decide +kernel
theorem dX2_sumUp_26 : decode cX2_sumUp 26 = .ok (.aload_n 0, 1) := by decide +kernel
theorem dX2_sumUp_27 : decode cX2_sumUp 27 = .ok (.aload_n 0, 1) := by decide +kernel
theorem dX2_sumUp_28 : decode cX2_sumUp 28 = .ok (.getfield 42, 3) := by decide +kernel
theorem dX2_sumUp_31 : decode cX2_sumUp 31 = .ok (.getfield 124, 3) := by decide +kernel
theorem dX2_sumUp_34 : decode cX2_sumUp 34 = .ok (.iload_n 2, 1) := by decide +kernel
theorem dX2_sumUp_35 : decode cX2_sumUp 35 = .ok (.invokestatic 59, 3) := by decide +kernel
theorem dX2_sumUp_38 : decode cX2_sumUp 38 = .ok (.iload_n 2, 1) := by decide +kernel
theorem dX2_sumUp_39 : decode cX2_sumUp 39 = .ok (.iload_n 1, 1) := by decide +kernel
theorem dX2_sumUp_40 : decode cX2_sumUp 40 = .ok (.if_icmp .ne 14, 3) := by decide +kernel
theorem dX2_sumUp_43 : decode cX2_sumUp 43 = .ok (.iload_n 3, 1) := by decide +kernel
theorem dX2_sumUp_44 : decode cX2_sumUp 44 = .ok (.iconst 2, 1) := by decide +kernel
theorem dX2_sumUp_45 : decode cX2_sumUp 45 = .ok (.if_icmp .eq 9, 3) := by decide +kernel
theorem dX2_sumUp_48 : decode cX2_sumUp 48 = .ok (.iconst 1, 1) := by decide +kernel
theorem dX2_sumUp_49 : decode cX2_sumUp 49 = .ok (.iload_n 3, 1) := by decide +kernel
theorem dX2_sumUp_50 : decode cX2_sumUp 50 = .ok (.isub, 1) := by decide +kernel
theorem dX2_sumUp_51 : decode cX2_sumUp 51 = .ok (.goto 4, 3) := by decide +kernel
theorem dX2_sumUp_54 : decode cX2_sumUp 54 = .ok (.iload_n 3, 1) := by decide +kernel
theorem dX2_sumUp_55 : decode cX2_sumUp 55 = .ok (.aload_n 0, 1) := by decide +kernel
theorem dX2_sumUp_56 : decode cX2_sumUp 56 = .ok (.getfield 24, 3) := by decide +kernel
theorem dX2_sumUp_59 : decode cX2_sumUp 59 = .ok (.iload_n 2, 1) := by decide +kernel
theorem dX2_sumUp_60 : decode cX2_sumUp 60 = .ok (.invokestatic 59, 3) := by decide +kernel
theorem dX2_sumUp_63 : decode cX2_sumUp 63 = .ok (.invokevirtual 140, 3) := by decide +kernel
theorem dX2_sumUp_66 : decode cX2_sumUp 66 = .ok (.iinc 2 1, 3) := by decide +kernel
theorem dX2_sumUp_69 : decode cX2_sumUp 69 = .ok (.goto (-63), 3) := by decide +kernel
theorem dX2_sumUp_72 : decode cX2_sumUp 72 = .ok (.aload_n 0, 1) := by decide +kernel
theorem dX2_sumUp_73 : decode cX2_sumUp 73 = .ok (.invokevirtual 144, 3) := by decide +kernel
theorem dX2_sumUp_76 : decode cX2_sumUp 76 = .ok (.return_, 1) := by decide +kernel
theorem dX2_sumUpBranches_0 : decode cX2_sumUpBranches 0 = .ok (.aload_n 0, 1) := by decide +kernel
theorem dX2_sumUpBranches_1 : decode cX2_sumUpBranches 1 = .ok (.invokevirtual 137, 3) := by decide +kernel
theorem dX2_sumUpBranches_4 : decode cX2_sumUpBranches 4 = .ok (.iconst 0, 1) := by decide +kernel
theorem dX2_sumUpBranches_5 : decode cX2_sumUpBranches 5 = .ok (.istore_n 1, 1) := by decide +kernel
theorem dX2_sumUpBranches_6 : decode cX2_sumUpBranches 6 = .ok (.iload_n 1, 1) := by decide +kernel
theorem dX2_sumUpBranches_7 : decode cX2_sumUpBranches 7 = .ok (.aload_n 0, 1) := by decide +kernel
theorem dX2_sumUpBranches_8 : decode cX2_sumUpBranches 8 = .ok (.getfield 42, 3) := by decide +kernel
theorem dX2_sumUpBranches_11 : decode cX2_sumUpBranches 11 = .ok (.getfield 90, 3) := by decide +kernel
theorem dX2_sumUpBranches_14 : decode cX2_sumUpBranches 14 = .ok (.if_icmp .ge 43, 3) := by decide +kernel
theorem dX2_sumUpBranches_17 : decode cX2_sumUpBranches 17 = .ok (.aload_n 0, 1) := by decide +kernel
theorem dX2_sumUpBranches_18 : decode cX2_sumUpBranches 18 = .ok (.aload_n 0, 1) := by decide +kernel
theorem dX2_sumUpBranches_19 : decode cX2_sumUpBranches 19 = .ok (.getfield 42, 3) := by decide +kernel
theorem dX2_sumUpBranches_22 : decode cX2_sumUpBranches 22 = .ok (.getfield 124, 3) := by decide +kernel
theorem dX2_sumUpBranches_25 : decode cX2_sumUpBranches 25 = .ok (.aload_n 0, 1) := by decide +kernel
theorem dX2_sumUpBranches_26 : decode cX2_sumUpBranches 26 = .ok (.getfield 42, 3) := by decide +kernel
theorem dX2_sumUpBranches_29 : decode cX2_sumUpBranches 29 = .ok (.getfield 93, 3) := by decide +kernel
theorem dX2_sumUpBranches_32 : decode cX2_sumUpBranches 32 = .ok (.iload_n 1, 1) := by decide +kernel
theorem dX2_sumUpBranches_33 : decode cX2_sumUpBranches 33 = .ok (.invokestatic 59, 3) := by decide +kernel
theorem dX2_sumUpBranches_36 : decode cX2_sumUpBranches 36 = .ok (.invokestatic 59, 3) := by decide +kernel
theorem dX2_sumUpBranches_39 : decode cX2_sumUpBranches 39 = .ok (.aload_n 0, 1) := by decide +kernel
theorem dX2_sumUpBranches_40 : decode cX2_sumUpBranches 40 = .ok (.getfield 21, 3) := by decide +kernel
theorem dX2_sumUpBranches_43 : decode cX2_sumUpBranches 43 = .ok (.iload_n 1, 1) := by decide +kernel
theorem dX2_sumUpBranches_44 : decode cX2_sumUpBranches 44 = .ok (.invokestatic 59, 3) := by decide +kernel
theorem dX2_sumUpBranches_47 : decode cX2_sumUpBranches 47 = .ok (.iconst 1, 1) := by decide +kernel
theorem dX2_sumUpBranches_48 : decode cX2_sumUpBranches 48 = .ok (.invokevirtual 140, 3) := by decide +kernel
theorem dX2_sumUpBranches_51 : decode cX2_sumUpBranches 51 = .ok (.iinc 1 1, 3) := by decide +kernel
theorem dX2_sumUpBranches_54 : decode cX2_sumUpBranches 54 = .ok (.goto (-48), 3) := by decide +kernel
theorem dX2_sumUpBranches_57 : decode cX2_sumUpBranches 57 = .ok (.aload_n 0, 1) := by decide +kernel
theorem dX2_sumUpBranches_58 : decode cX2_sumUpBranches 58 = .ok (.invokevirtual 144, 3) := by decide +kernel
theorem dX2_sumUpBranches_61 : decode cX2_sumUpBranches 61 = .ok (.return_, 1) := by decide +kernel
theorem dX2_beginSum_0 : decode cX2_beginSum 0 = .ok (.aload_n 0, 1) := by decide +kernel
theorem dX2_beginSum_1 : decode cX2_beginSum 1 = .ok (.lconst 0, 1) := by decide +kernel
theorem dX2_beginSum_2 : decode cX2_beginSum 2 = .ok (.putfield 147, 3) := by decide +kernel
theorem dX2_beginSum_5 : decode cX2_beginSum 5 = .ok (.aload_n 0, 1) := by decide +kernel
theorem dX2_beginSum_6 : decode cX2_beginSum 6 = .ok (.lconst 0, 1) := by decide +kernel
theorem dX2_beginSum_7 : decode cX2_beginSum 7 = .ok (.putfield 151, 3) := by decide +kernel
theorem dX2_beginSum_10 : decode cX2_beginSum 10 = .ok (.aload_n 0, 1) := by decide +kernel
theorem dX2_beginSum_11 : decode cX2_beginSum 11 = .ok (.lconst 0, 1) := by decide +kernel
theorem dX2_beginSum_12 : decode cX2_beginSum 12 = .ok (.putfield 154, 3) := by decide +kernel
theorem dX2_beginSum_15 : decode cX2_beginSum 15 = .ok (.iconst 0, 1) := by decide +kernel
theorem dX2_beginSum_16 : decode cX2_beginSum 16 = .ok (.istore_n 1, 1) := by decide +kernel
theorem dX2_beginSum_17 : decode cX2_beginSum 17 = .ok (.iload_n 1, 1) := by decide +kernel
theorem dX2_beginSum_18 : decode cX2_beginSum 18 = .ok (.aload_n 0, 1) := by decide +kernel
theorem dX2_beginSum_19 : decode cX2_beginSum 19 = .ok (.getfield 30, 3) := by decide +kernel
theorem dX2_beginSum_22 : decode cX2_beginSum 22 = .ok (.arraylength, 1) := by decide +kernel
theorem dX2_beginSum_23 : decode cX2_beginSum 23 = .ok (.if_icmp .ge 16, 3) := by decide +kernel
theorem dX2_beginSum_26 : decode cX2_beginSum 26 = .ok (.aload_n 0, 1) := by decide +kernel
theorem dX2_beginSum_27 : decode cX2_beginSum 27 = .ok (.getfield 30, 3) := by decide +kernel
theorem dX2_beginSum_30 : decode cX2_beginSum 30 = .ok (.iload_n 1, 1) := by decide +kernel
theorem dX2_beginSum_31 : decode cX2_beginSum 31 = .ok (.lconst 0, 1) := by decide +kernel
theorem dX2_beginSum_32 : decode cX2_beginSum 32 = .ok (.lastore, 1) := by decide +kernel
theorem dX2_beginSum_33 : decode cX2_beginSum 33 = .ok (.iinc 1 1, 3) := by decide +kernel
theorem dX2_beginSum_36 : decode cX2_beginSum 36 = .ok (.goto (-19), 3) := by decide +kernel
theorem dX2_beginSum_39 : decode cX2_beginSum 39 = .ok (.return_, 1) := by decide +kernel
theorem dX2_add_0 : decode cX2_add 0 = .ok (.aload_n 0, 1) := by decide +kernel
theorem dX2_add_1 : decode cX2_add 1 = .ok (.dup, 1) := by decide +kernel
theorem dX2_add_2 : decode cX2_add 2 = .ok (.getfield 154, 3) := by decide +kernel
theorem dX2_add_5 : decode cX2_add 5 = .ok (.iload_n 3, 1) := by decide +kernel
theorem dX2_add_6 : decode cX2_add 6 = .ok (.i2l, 1) := by decide +kernel
theorem dX2_add_7 : decode cX2_add 7 = .ok (.ladd, 1) := by decide +kernel
theorem dX2_add_8 : decode cX2_add 8 = .ok (.putfield 154, 3) := by decide +kernel
theorem dX2_add_11 : decode cX2_add 11 = .ok (.aload_n 0, 1) := by decide +kernel
theorem dX2_add_12 : decode cX2_add 12 = .ok (.dup, 1) := by decide +kernel
theorem dX2_add_13 : decode cX2_add 13 = .ok (.getfield 147, 3) := by decide +kernel
theorem dX2_add_16 : decode cX2_add 16 = .ok (.iload_n 2, 1) := by decide +kernel
theorem dX2_add_17 : decode cX2_add 17 = .ok (.iconst 1, 1) := by decide +kernel
theorem dX2_add_18 : decode cX2_add 18 = .ok (.if_icmp .ne 8, 3) := by decide +kernel
theorem dX2_add_21 : decode cX2_add 21 = .ok (.iload_n 3, 1) := by decide +kernel
theorem dX2_add_22 : decode cX2_add 22 = .ok (.i2l, 1) := by decide +kernel
theorem dX2_add_23 : decode cX2_add 23 = .ok (.goto 4, 3) := by decide +kernel
theorem dX2_add_26 : decode cX2_add 26 = .ok (.lconst 0, 1) := by decide +kernel
theorem dX2_add_27 : decode cX2_add 27 = .ok (.ladd, 1) := by decide +kernel
theorem dX2_add_28 : decode cX2_add 28 = .ok (.putfield 147, 3) := by decide +kernel
theorem dX2_add_31 : decode cX2_add 31 = .ok (.aload_n 0, 1) := by decide +kernel
theorem dX2_add_32 : decode cX2_add 32 = .ok (.dup, 1) := by decide +kernel
theorem dX2_add_33 : decode cX2_add 33 = .ok (.getfield 151, 3) := by decide +kernel
theorem dX2_add_36 : decode cX2_add 36 = .ok (.iload_n 2, 1) := by decide +kernel
theorem dX2_add_37 : decode cX2_add 37 = .ok (.ifCond .ne 8, 3) := by decide +kernel
theorem dX2_add_40 : decode cX2_add 40 = .ok (.iload_n 3, 1) := by decide +kernel
theorem dX2_add_41 : decode cX2_add 41 = .ok (.i2l, 1) := by decide +kernel
theorem dX2_add_42 : decode cX2_add 42 = .ok (.goto 4, 3) := by decide +kernel
theorem dX2_add_45 : decode cX2_add 45 = .ok (.lconst 0, 1) := by decide +kernel
theorem dX2_add_46 : decode cX2_add 46 = .ok (.ladd, 1) := by decide +kernel
theorem dX2_add_47 : decode cX2_add 47 = .ok (.putfield 151, 3) := by decide +kernel
theorem dX2_add_50 : decode cX2_add 50 = .ok (.iload_n 1, 1) := by decide +kernel
theorem dX2_add_51 : decode cX2_add 51 = .ok (.ifCond .lt 42, 3) := by decide +kernel
theorem dX2_add_54 : decode cX2_add 54 = .ok (.iload_n 1, 1) := by decide +kernel
theorem dX2_add_55 : decode cX2_add 55 = .ok (.aload_n 0, 1) := by decide +kernel
theorem dX2_add_56 : decode cX2_add 56 = .ok (.getfield 30, 3) := by decide +kernel
theorem dX2_add_59 : decode cX2_add 59 = .ok (.arraylength, 1) := by decide +kernel
theorem dX2_add_60 : decode cX2_add 60 = .ok (.if_icmp .ge 33, 3) := by decide +kernel
theorem dX2_add_63 : decode cX2_add 63 = .ok (.aload_n 0, 1) := by decide +kernel
theorem dX2_add_64 : decode cX2_add 64 = .ok (.getfield 30, 3) := by decide +kernel
theorem dX2_add_67 : decode cX2_add 67 = .ok (.iload_n 1, 1) := by decide +kernel
theorem dX2_add_68 : decode cX2_add 68 = .ok (.dup2, 1) := by decide +kernel
theorem dX2_add_69 : decode cX2_add 69 = .ok (.laload, 1) := by decide +kernel
theorem dX2_add_70 : decode cX2_add 70 = .ok (.iload_n 2, 1) := by decide +kernel
theorem dX2_add_71 : decode cX2_add 71 = .ok (.iconst 1, 1) := by decide +kernel
theorem dX2_add_72 : decode cX2_add 72 = .ok (.if_icmp .ne 8, 3) := by decide +kernel
theorem dX2_add_75 : decode cX2_add 75 = .ok (.iload_n 3, 1) := by decide +kernel
theorem dX2_add_76 : decode cX2_add 76 = .ok (.i2l, 1) := by decide +kernel
theorem dX2_add_77 : decode cX2_add 77 = .ok (.goto 14, 3) := by decide +kernel
theorem dX2_add_80 : decode cX2_add 80 = .ok (.iload_n 2, 1) := by decide +kernel
theorem dX2_add_81 : decode cX2_add 81 = .ok (.ifCond .ne 9, 3) := by decide +kernel
theorem dX2_add_84 : decode cX2_add 84 = .ok (.iload_n 3, 1) := by decide +kernel
theorem dX2_add_85 : decode cX2_add 85 = .ok (.ineg, 1) := by decide +kernel
theorem dX2_add_86 : decode cX2_add 86 = .ok (.i2l, 1) := by decide +kernel
theorem dX2_add_87 : decode cX2_add 87 = .ok (.goto 4, 3) := by decide +kernel
theorem dX2_add_90 : decode cX2_add 90 = .ok (.lconst 0, 1) := by decide +kernel
theorem dX2_add_91 : decode cX2_add 91 = .ok (.ladd, 1) := by decide +kernel
theorem dX2_add_92 : decode cX2_add 92 = .ok (.lastore, 1) := by decide +kernel
theorem dX2_add_93 : decode cX2_add 93 = .ok (.return_, 1) := by decide +kernel
theorem dX2_endSum_0 : decode cX2_endSum 0 = .ok (.aload_n 0, 1) := by decide +kernel
theorem dX2_endSum_1 : decode cX2_endSum 1 = .ok (.aload_n 0, 1) := by decide +kernel
theorem dX2_endSum_2 : decode cX2_endSum 2 = .ok (.getfield 147, 3) := by decide +kernel
theorem dX2_endSum_5 : decode cX2_endSum 5 = .ok (.invokestatic 157, 3) := by decide +kernel
theorem dX2_endSum_8 : decode cX2_endSum 8 = .ok (.putfield 161, 3) := by decide +kernel
theorem dX2_endSum_11 : decode cX2_endSum 11 = .ok (.aload_n 0, 1) := by decide +kernel
theorem dX2_endSum_12 : decode cX2_endSum 12 = .ok (.aload_n 0, 1) := by decide +kernel
theorem dX2_endSum_13 : decode cX2_endSum 13 = .ok (.getfield 151, 3) := by decide +kernel
theorem dX2_endSum_16 : decode cX2_endSum 16 = .ok (.invokestatic 157, 3) := by decide +kernel
theorem dX2_endSum_19 : decode cX2_endSum 19 = .ok (.putfield 164, 3) := by decide +kernel
theorem dX2_endSum_22 : decode cX2_endSum 22 = .ok (.aload_n 0, 1) := by decide +kernel
theorem dX2_endSum_23 : decode cX2_endSum 23 = .ok (.aload_n 0, 1) := by decide +kernel
theorem dX2_endSum_24 : decode cX2_endSum 24 = .ok (.getfield 154, 3) := by decide +kernel
theorem dX2_endSum_27 : decode cX2_endSum 27 = .ok (.invokestatic 157, 3) := by decide +kernel
theorem dX2_endSum_30 : decode cX2_endSum 30 = .ok (.putfield 167, 3) := by decide +kernel
theorem dX2_endSum_33 : decode cX2_endSum 33 = .ok (.aload_n 0, 1) := by decide +kernel
theorem dX2_endSum_34 : decode cX2_endSum 34 = .ok (.iconst 0, 1) := by decide +kernel
theorem dX2_endSum_35 : decode cX2_endSum 35 = .ok (.putfield 170, 3) := by decide +kernel
theorem dX2_endSum_38 : decode cX2_endSum 38 = .ok (.iconst 0, 1) := by decide +kernel
theorem dX2_endSum_39 : decode cX2_endSum 39 = .ok (.istore_n 1, 1) := by decide +kernel
theorem dX2_endSum_40 : decode cX2_endSum 40 = .ok (.iload_n 1, 1) := by decide +kernel
theorem dX2_endSum_41 : decode cX2_endSum 41 = .ok (.aload_n 0, 1) := by decide +kernel
theorem dX2_endSum_42 : decode cX2_endSum 42 = .ok (.getfield 30, 3) := by decide +kernel
theorem dX2_endSum_45 : decode cX2_endSum 45 = .ok (.arraylength, 1) := by decide +kernel
theorem dX2_endSum_46 : decode cX2_endSum 46 = .ok (.if_icmp .ge 34, 3) := by decide +kernel
theorem dX2_endSum_49 : decode cX2_endSum 49 = .ok (.aload_n 0, 1) := by decide +kernel
theorem dX2_endSum_50 : decode cX2_endSum 50 = .ok (.dup, 1) := by decide +kernel
theorem dX2_endSum_51 : decode cX2_endSum 51 = .ok (.getfield 170, 3) := by decide +kernel
theorem dX2_endSum_54 : decode cX2_endSum 54 = .ok (.aload_n 0, 1) := by decide +kernel
theorem dX2_endSum_55 : decode cX2_endSum 55 = .ok (.getfield 30, 3) := by decide +kernel
theorem dX2_endSum_58 : decode cX2_endSum 58 = .ok (.iload_n 1, 1) := by decide +kernel
theorem dX2_endSum_59 : decode cX2_endSum 59 = .ok (.laload, 1) := by decide +kernel
theorem dX2_endSum_60 : decode cX2_endSum 60 = .ok (.lconst 0, 1) := by decide +kernel
theorem dX2_endSum_61 : decode cX2_endSum 61 = .ok (.lcmp, 1) := by decide +kernel
theorem dX2_endSum_62 : decode cX2_endSum 62 = .ok (.ifCond .le 7, 3) := by decide +kernel
theorem dX2_endSum_65 : decode cX2_endSum 65 = .ok (.iconst 1, 1) := by decide +kernel
theorem dX2_endSum_66 : decode cX2_endSum 66 = .ok (.goto 4, 3) := by decide +kernel
theorem dX2_endSum_69 : decode cX2_endSum 69 = .ok (.iconst 0, 1) := by decide +kernel
theorem dX2_endSum_70 : decode cX2_endSum 70 = .ok (.iadd, 1) := by decide +kernel
theorem dX2_endSum_71 : decode cX2_endSum 71 = .ok (.putfield 170, 3) := by decide +kernel
theorem dX2_endSum_74 : decode cX2_endSum 74 = .ok (.iinc 1 1, 3) := by decide +kernel
theorem dX2_endSum_77 : decode cX2_endSum 77 = .ok (.goto (-37), 3) := by decide +kernel
theorem dX2_endSum_80 : decode cX2_endSum 80 = .ok (.return_, 1) := by decide +kernel
theorem dX2_passes_0 : decode cX2_passes 0 = .ok (.aload_n 1, 1) := by decide +kernel
theorem dX2_passes_1 : decode cX2_passes 1 = .ok (.iload_n 2, 1) := by decide +kernel
theorem dX2_passes_2 : decode cX2_passes 2 = .ok (.invokevirtual 114, 3) := by decide +kernel
theorem dX2_passes_5 : decode cX2_passes 5 = .ok (.ifCond .ne 20, 3) := by decide +kernel
theorem dX2_passes_8 : decode cX2_passes 8 = .ok (.aload_n 0, 1) := by decide +kernel
theorem dX2_passes_9 : decode cX2_passes 9 = .ok (.getfield 161, 3) := by decide +kernel
theorem dX2_passes_12 : decode cX2_passes 12 = .ok (.aload_n 0, 1) := by decide +kernel
theorem dX2_passes_13 : decode cX2_passes 13 = .ok (.getfield 164, 3) := by decide +kernel
theorem dX2_passes_16 : decode cX2_passes 16 = .ok (.if_icmp .le 7, 3) := by decide +kernel
theorem dX2_passes_19 : decode cX2_passes 19 = .ok (.iconst 1, 1) := by decide +kernel
theorem dX2_passes_20 : decode cX2_passes 20 = .ok (.goto 4, 3) := by decide +kernel
theorem dX2_passes_23 : decode cX2_passes 23 = .ok (.iconst 0, 1) := by decide +kernel
theorem dX2_passes_24 : decode cX2_passes 24 = .ok (.ireturn, 1) := by decide +kernel
theorem dX2_passes_25 : decode cX2_passes 25 = .ok (.aload_n 0, 1) := by decide +kernel
theorem dX2_passes_26 : decode cX2_passes 26 = .ok (.getfield 34, 3) := by decide +kernel
theorem dX2_passes_29 : decode cX2_passes 29 = .ok (.iconst 0, 1) := by decide +kernel
theorem dX2_passes_30 : decode cX2_passes 30 = .ok (.aload_n 0, 1) := by decide +kernel
theorem dX2_passes_31 : decode cX2_passes 31 = .ok (.getfield 161, 3) := by decide +kernel
theorem dX2_passes_34 : decode cX2_passes 34 = .ok (.invokestatic 74, 3) := by decide +kernel
theorem dX2_passes_37 : decode cX2_passes 37 = .ok (.aload_n 0, 1) := by decide +kernel
theorem dX2_passes_38 : decode cX2_passes 38 = .ok (.getfield 34, 3) := by decide +kernel
theorem dX2_passes_41 : decode cX2_passes 41 = .ok (.iconst 1, 1) := by decide +kernel
theorem dX2_passes_42 : decode cX2_passes 42 = .ok (.aload_n 0, 1) := by decide +kernel
theorem dX2_passes_43 : decode cX2_passes 43 = .ok (.getfield 164, 3) := by decide +kernel
theorem dX2_passes_46 : decode cX2_passes 46 = .ok (.invokestatic 74, 3) := by decide +kernel
theorem dX2_passes_49 : decode cX2_passes 49 = .ok (.aload_n 0, 1) := by decide +kernel
theorem dX2_passes_50 : decode cX2_passes 50 = .ok (.getfield 34, 3) := by decide +kernel
theorem dX2_passes_53 : decode cX2_passes 53 = .ok (.iconst 2, 1) := by decide +kernel
theorem dX2_passes_54 : decode cX2_passes 54 = .ok (.aload_n 0, 1) := by decide +kernel
theorem dX2_passes_55 : decode cX2_passes 55 = .ok (.getfield 167, 3) := by decide +kernel
theorem dX2_passes_58 : decode cX2_passes 58 = .ok (.invokestatic 74, 3) := by decide +kernel
theorem dX2_passes_61 : decode cX2_passes 61 = .ok (.aload_n 0, 1) := by decide +kernel
theorem dX2_passes_62 : decode cX2_passes 62 = .ok (.getfield 34, 3) := by decide +kernel
theorem dX2_passes_65 : decode cX2_passes 65 = .ok (.iconst 3, 1) := by decide +kernel
theorem dX2_passes_66 : decode cX2_passes 66 = .ok (.aload_n 0, 1) := by decide +kernel
theorem dX2_passes_67 : decode cX2_passes 67 = .ok (.getfield 170, 3) := by decide +kernel
theorem dX2_passes_70 : decode cX2_passes 70 = .ok (.invokestatic 74, 3) := by decide +kernel
theorem dX2_passes_73 : decode cX2_passes 73 = .ok (.aload_n 0, 1) := by decide +kernel
theorem dX2_passes_74 : decode cX2_passes 74 = .ok (.getfield 34, 3) := by decide +kernel
theorem dX2_passes_77 : decode cX2_passes 77 = .ok (.iconst 4, 1) := by decide +kernel
theorem dX2_passes_78 : decode cX2_passes 78 = .ok (.iload_n 3, 1) := by decide +kernel
theorem dX2_passes_79 : decode cX2_passes 79 = .ok (.invokestatic 74, 3) := by decide +kernel
theorem dX2_passes_82 : decode cX2_passes 82 = .ok (.aload_n 0, 1) := by decide +kernel
theorem dX2_passes_83 : decode cX2_passes 83 = .ok (.getfield 34, 3) := by decide +kernel
theorem dX2_passes_86 : decode cX2_passes 86 = .ok (.iconst 5, 1) := by decide +kernel
theorem dX2_passes_87 : decode cX2_passes 87 = .ok (.iload 4, 2) := by decide +kernel
theorem dX2_passes_89 : decode cX2_passes 89 = .ok (.invokestatic 74, 3) := by decide +kernel
theorem dX2_passes_92 : decode cX2_passes 92 = .ok (.aload_n 1, 1) := by decide +kernel
theorem dX2_passes_93 : decode cX2_passes 93 = .ok (.iload_n 2, 1) := by decide +kernel
theorem dX2_passes_94 : decode cX2_passes 94 = .ok (.aload_n 0, 1) := by decide +kernel
theorem dX2_passes_95 : decode cX2_passes 95 = .ok (.getfield 34, 3) := by decide +kernel
theorem dX2_passes_98 : decode cX2_passes 98 = .ok (.aload_n 0, 1) := by decide +kernel
theorem dX2_passes_99 : decode cX2_passes 99 = .ok (.getfield 39, 3) := by decide +kernel
theorem dX2_passes_102 : decode cX2_passes 102 = .ok (.invokevirtual 127, 3) := by decide +kernel
theorem dX2_passes_105 : decode cX2_passes 105 = .ok (.ifCond .eq 7, 3) := by decide +kernel
theorem dX2_passes_108 : decode cX2_passes 108 = .ok (.iconst 1, 1) := by decide +kernel
theorem dX2_passes_109 : decode cX2_passes 109 = .ok (.goto 4, 3) := by decide +kernel
theorem dX2_passes_112 : decode cX2_passes 112 = .ok (.iconst 0, 1) := by decide +kernel
theorem dX2_passes_113 : decode cX2_passes 113 = .ok (.ireturn, 1) := by decide +kernel
theorem dX3_init_0 : decode cX3_init 0 = .ok (.aload_n 0, 1) := by decide +kernel
theorem dX3_init_1 : decode cX3_init 1 = .ok (.invokespecial 3, 3) := by decide +kernel
theorem dX3_init_4 : decode cX3_init 4 = .ok (.aload_n 0, 1) := by decide +kernel
theorem dX3_init_5 : decode cX3_init 5 = .ok (.sipush 210, 3) := by decide +kernel
theorem dX3_init_8 : decode cX3_init 8 = .ok (.newarray .int, 2) := by decide +kernel
theorem dX3_init_10 : decode cX3_init 10 = .ok (.putfield 9, 3) := by decide +kernel
theorem dX3_init_13 : decode cX3_init 13 = .ok (.aload_n 0, 1) := by decide +kernel
theorem dX3_init_14 : decode cX3_init 14 = .ok (.bipush 25, 2) := by decide +kernel
theorem dX3_init_16 : decode cX3_init 16 = .ok (.newarray .int, 2) := by decide +kernel
theorem dX3_init_18 : decode cX3_init 18 = .ok (.putfield 15, 3) := by decide +kernel
theorem dX3_init_21 : decode cX3_init 21 = .ok (.aload_n 0, 1) := by decide +kernel
theorem dX3_init_22 : decode cX3_init 22 = .ok (.sipush 300, 3) := by decide +kernel
theorem dX3_init_25 : decode cX3_init 25 = .ok (.newarray .int, 2) := by decide +kernel
theorem dX3_init_27 : decode cX3_init 27 = .ok (.putfield 18, 3) := by decide +kernel
theorem dX3_init_30 : decode cX3_init 30 = .ok (.aload_n 0, 1) := by decide +kernel
theorem dX3_init_31 : decode cX3_init 31 = .ok (.sipush 300, 3) := by decide +kernel
theorem dX3_init_34 : decode cX3_init 34 = .ok (.newarray .int, 2) := by decide +kernel
theorem dX3_init_36 : decode cX3_init 36 = .ok (.putfield 21, 3) := by decide +kernel
theorem dX3_init_39 : decode cX3_init 39 = .ok (.aload_n 0, 1) := by decide +kernel
theorem dX3_init_40 : decode cX3_init 40 = .ok (.sipush 300, 3) := by decide +kernel
theorem dX3_init_43 : decode cX3_init 43 = .ok (.newarray .int, 2) := by decide +kernel
theorem dX3_init_45 : decode cX3_init 45 = .ok (.putfield 24, 3) := by decide +kernel
theorem dX3_init_48 : decode cX3_init 48 = .ok (.aload_n 0, 1) := by decide +kernel
theorem dX3_init_49 : decode cX3_init 49 = .ok (.iconst (-1), 1) := by decide +kernel
theorem dX3_init_50 : decode cX3_init 50 = .ok (.putfield 27, 3) := by decide +kernel
theorem dX3_init_53 : decode cX3_init 53 = .ok (.aload_n 0, 1) := by decide +kernel
theorem dX3_init_54 : decode cX3_init 54 = .ok (.aload_n 1, 1) := by decide +kernel
theorem dX3_init_55 : decode cX3_init 55 = .ok (.putfield 31, 3) := by decide +kernel
theorem dX3_init_58 : decode cX3_init 58 = .ok (.aload_n 0, 1) := by decide +kernel
theorem dX3_init_59 : decode cX3_init 59 = .ok (.getfield 9, 3) := by decide +kernel
theorem dX3_init_62 : decode cX3_init 62 = .ok (.iconst (-1), 1) := by decide +kernel
theorem dX3_init_63 : decode cX3_init 63 = .ok (.invokestatic 35, 3) := by decide +kernel
theorem dX3_init_66 : decode cX3_init 66 = .ok (.return_, 1) := by decide +kernel
theorem dX3_copyFrom_0 : decode cX3_copyFrom 0 = .ok (.aload_n 1, 1) := by decide +kernel
theorem dX3_copyFrom_1 : decode cX3_copyFrom 1 = .ok (.getfield 9, 3) := by decide +kernel
theorem dX3_copyFrom_4 : decode cX3_copyFrom 4 = .ok (.aload_n 0, 1) := by decide +kernel
theorem dX3_copyFrom_5 : decode cX3_copyFrom 5 = .ok (.getfield 9, 3) := by decide +kernel
theorem dX3_copyFrom_8 : decode cX3_copyFrom 8 = .ok (.invokestatic 39, 3) := by decide +kernel
theorem dX3_copyFrom_11 : decode cX3_copyFrom 11 = .ok (.aload_n 1, 1) := by decide +kernel
theorem dX3_copyFrom_12 : decode cX3_copyFrom 12 = .ok (.getfield 15, 3) := by decide +kernel
theorem dX3_copyFrom_15 : decode cX3_copyFrom 15 = .ok (.aload_n 0, 1) := by decide +kernel
theorem dX3_copyFrom_16 : decode cX3_copyFrom 16 = .ok (.getfield 15, 3) := by decide +kernel
theorem dX3_copyFrom_19 : decode cX3_copyFrom 19 = .ok (.invokestatic 39, 3) := by decide +kernel
theorem dX3_copyFrom_22 : decode cX3_copyFrom 22 = .ok (.aload_n 1, 1) := by decide +kernel
theorem dX3_copyFrom_23 : decode cX3_copyFrom 23 = .ok (.getfield 18, 3) := by decide +kernel
theorem dX3_copyFrom_26 : decode cX3_copyFrom 26 = .ok (.aload_n 0, 1) := by decide +kernel
theorem dX3_copyFrom_27 : decode cX3_copyFrom 27 = .ok (.getfield 18, 3) := by decide +kernel
theorem dX3_copyFrom_30 : decode cX3_copyFrom 30 = .ok (.invokestatic 39, 3) := by decide +kernel
theorem dX3_copyFrom_33 : decode cX3_copyFrom 33 = .ok (.aload_n 1, 1) := by decide +kernel
theorem dX3_copyFrom_34 : decode cX3_copyFrom 34 = .ok (.getfield 21, 3) := by decide +kernel
theorem dX3_copyFrom_37 : decode cX3_copyFrom 37 = .ok (.aload_n 0, 1) := by decide +kernel
theorem dX3_copyFrom_38 : decode cX3_copyFrom 38 = .ok (.getfield 21, 3) := by decide +kernel
theorem dX3_copyFrom_41 : decode cX3_copyFrom 41 = .ok (.invokestatic 39, 3) := by decide +kernel
theorem dX3_copyFrom_44 : decode cX3_copyFrom 44 = .ok (.aload_n 1, 1) := by decide +kernel
theorem dX3_copyFrom_45 : decode cX3_copyFrom 45 = .ok (.getfield 24, 3) := by decide +kernel
theorem dX3_copyFrom_48 : decode cX3_copyFrom 48 = .ok (.aload_n 0, 1) := by decide +kernel
theorem dX3_copyFrom_49 : decode cX3_copyFrom 49 = .ok (.getfield 24, 3) := by decide +kernel
theorem dX3_copyFrom_52 : decode cX3_copyFrom 52 = .ok (.invokestatic 39, 3) := by decide +kernel
theorem dX3_copyFrom_55 : decode cX3_copyFrom 55 = .ok (.aload_n 0, 1) := by decide +kernel
theorem dX3_copyFrom_56 : decode cX3_copyFrom 56 = .ok (.aload_n 1, 1) := by decide +kernel
theorem dX3_copyFrom_57 : decode cX3_copyFrom 57 = .ok (.getfield 43, 3) := by decide +kernel
theorem dX3_copyFrom_60 : decode cX3_copyFrom 60 = .ok (.putfield 43, 3) := by decide +kernel
theorem dX3_copyFrom_63 : decode cX3_copyFrom 63 = .ok (.aload_n 0, 1) := by decide +kernel
theorem dX3_copyFrom_64 : decode cX3_copyFrom 64 = .ok (.aload_n 1, 1) := by decide +kernel
theorem dX3_copyFrom_65 : decode cX3_copyFrom 65 = .ok (.getfield 47, 3) := by decide +kernel
theorem dX3_copyFrom_68 : decode cX3_copyFrom 68 = .ok (.putfield 47, 3) := by decide +kernel
theorem dX3_copyFrom_71 : decode cX3_copyFrom 71 = .ok (.aload_n 0, 1) := by decide +kernel
theorem dX3_copyFrom_72 : decode cX3_copyFrom 72 = .ok (.aload_n 1, 1) := by decide +kernel
theorem dX3_copyFrom_73 : decode cX3_copyFrom 73 = .ok (.getfield 27, 3) := by decide +kernel
theorem dX3_copyFrom_76 : decode cX3_copyFrom 76 = .ok (.putfield 27, 3) := by decide +kernel
theorem dX3_copyFrom_79 : decode cX3_copyFrom 79 = .ok (.return_, 1) := by decide +kernel
theorem dX3_has_0 : decode cX3_has 0 = .ok (.aload_n 0, 1) := by decide +kernel
theorem dX3_has_1 : decode cX3_has 1 = .ok (.iload_n 1, 1) := by decide +kernel
theorem dX3_has_2 : decode cX3_has 2 = .ok (.invokevirtual 50, 3) := by decide +kernel
theorem dX3_has_5 : decode cX3_has 5 = .ok (.iconst (-1), 1) := by decide +kernel
theorem dX3_has_6 : decode cX3_has 6 = .ok (.if_icmp .eq 7, 3) := by decide +kernel
theorem dX3_has_9 : decode cX3_has 9 = .ok (.iconst 1, 1) := by decide +kernel
theorem dX3_has_10 : decode cX3_has 10 = .ok (.goto 4, 3) := by decide +kernel
theorem dX3_has_13 : decode cX3_has 13 = .ok (.iconst 0, 1) := by decide +kernel
theorem dX3_has_14 : decode cX3_has 14 = .ok (.ireturn, 1) := by decide +kernel
theorem dX3_stateOf_0 : decode cX3_stateOf 0 = .ok (.iload_n 1, 1) := by decide +kernel
theorem dX3_stateOf_1 : decode cX3_stateOf 1 = .ok (.ifCond .lt 21, 3) := by decide +kernel
theorem dX3_stateOf_4 : decode cX3_stateOf 4 = .ok (.iload_n 1, 1) := by decide +kernel
theorem dX3_stateOf_5 : decode cX3_stateOf 5 = .ok (.sipush 210, 3) := by decide +kernel
theorem dX3_stateOf_8 : decode cX3_stateOf 8 = .ok (.if_icmp .ge 14, 3) := by decide +kernel
theorem dX3_stateOf_11 : decode cX3_stateOf 11 = .ok (.aload_n 0, 1) := by decide +kernel
theorem dX3_stateOf_12 : decode cX3_stateOf 12 = .ok (.getfield 9, 3) := by decide +kernel
theorem dX3_stateOf_15 : decode cX3_stateOf 15 = .ok (.iload_n 1, 1) := by decide +kernel
theorem dX3_stateOf_16 : decode cX3_stateOf 16 = .ok (.invokestatic 54, 3) := by decide +kernel
theorem dX3_stateOf_19 : decode cX3_stateOf 19 = .ok (.goto 4, 3) := by decide +kernel
theorem dX3_stateOf_22 : decode cX3_stateOf 22 = .ok (.iconst (-1), 1) := by decide +kernel
theorem dX3_stateOf_23 : decode cX3_stateOf 23 = .ok (.ireturn, 1) := by decide +kernel
theorem dX3_put_0 : decode cX3_put 0 = .ok (.aload_n 0, 1) := by decide +kernel
theorem dX3_put_1 : decode cX3_put 1 = .ok (.getfield 9, 3) := by decide +kernel
theorem dX3_put_4 : decode cX3_put 4 = .ok (.iload_n 1, 1) := by decide +kernel
theorem dX3_put_5 : decode cX3_put 5 = .ok (.iload_n 2, 1) := by decide +kernel
theorem dX3_put_6 : decode cX3_put 6 = .ok (.invokestatic 58, 3) := by decide +kernel
theorem dX3_put_9 : decode cX3_put 9 = .ok (.return_, 1) := by decide +kernel
theorem dX3_bring_0 : decode cX3_bring 0 = .ok (.aload_n 0, 1) := by decide +kernel
theorem dX3_bring_1 : decode cX3_bring 1 = .ok (.iload_n 1, 1) := by decide +kernel
theorem dX3_bring_2 : decode cX3_bring 2 = .ok (.iconst 0, 1) := by decide +kernel
theorem dX3_bring_3 : decode cX3_bring 3 = .ok (.invokevirtual 62, 3) := by decide +kernel
theorem dX3_bring_6 : decode cX3_bring 6 = .ok (.return_, 1) := by decide +kernel
theorem dX3_openMotions_0 : decode cX3_openMotions 0 = .ok (.iconst 0, 1) := by decide +kernel
theorem dX3_openMotions_1 : decode cX3_openMotions 1 = .ok (.istore_n 1, 1) := by decide +kernel
theorem dX3_openMotions_2 : decode cX3_openMotions 2 = .ok (.iconst 0, 1) := by decide +kernel
theorem dX3_openMotions_3 : decode cX3_openMotions 3 = .ok (.istore_n 2, 1) := by decide +kernel
theorem dX3_openMotions_4 : decode cX3_openMotions 4 = .ok (.iload_n 2, 1) := by decide +kernel
theorem dX3_openMotions_5 : decode cX3_openMotions 5 = .ok (.aload_n 0, 1) := by decide +kernel
theorem dX3_openMotions_6 : decode cX3_openMotions 6 = .ok (.getfield 31, 3) := by decide +kernel
theorem dX3_openMotions_9 : decode cX3_openMotions 9 = .ok (.getfield 66, 3) := by decide +kernel
theorem dX3_openMotions_12 : decode cX3_openMotions 12 = .ok (.if_icmp .ge 25, 3) := by decide +kernel
theorem dX3_openMotions_15 : decode cX3_openMotions 15 = .ok (.iload_n 1, 1) := by decide +kernel
theorem dX3_openMotions_16 : decode cX3_openMotions 16 = .ok (.aload_n 0, 1) := by decide +kernel
theorem dX3_openMotions_17 : decode cX3_openMotions 17 = .ok (.iload_n 2, 1) := by decide +kernel
theorem dX3_openMotions_18 : decode cX3_openMotions 18 = .ok (.invokevirtual 50, 3) := by decide +kernel
theorem dX3_openMotions_21 : decode cX3_openMotions 21 = .ok (.ifCond .ne 7, 3) := by decide +kernel
theorem dX3_openMotions_24 : decode cX3_openMotions 24 = .ok (.iconst 1, 1) := by decide +kernel
theorem dX3_openMotions_25 : decode cX3_openMotions 25 = .ok (.goto 4, 3) := by decide +kernel
theorem dX3_openMotions_28 : decode cX3_openMotions 28 = .ok (.iconst 0, 1) := by decide +kernel
theorem dX3_openMotions_29 : decode cX3_openMotions 29 = .ok (.iadd, 1) := by decide +kernel
theorem dX3_openMotions_30 : decode cX3_openMotions 30 = .ok (.istore_n 1, 1) := by decide +kernel
theorem dX3_openMotions_31 : decode cX3_openMotions 31 = .ok (.iinc 2 1, 3) := by decide +kernel
theorem dX3_openMotions_34 : decode cX3_openMotions 34 = .ok (.goto (-30), 3) := by decide +kernel
theorem dX3_openMotions_37 : decode cX3_openMotions 37 = .ok (.iload_n 1, 1) := by decide +kernel
theorem dX3_openMotions_38 : decode cX3_openMotions 38 = .ok (.ireturn, 1) := by decide +kernel
theorem dX3_chosen_0 : decode cX3_chosen 0 = .ok (.iconst 0, 1) := by decide +kernel
theorem dX3_chosen_1 : decode cX3_chosen 1 = .ok (.istore_n 3, 1) := by decide +kernel
theorem dX3_chosen_2 : decode cX3_chosen 2 = .ok (.iload_n 1, 1) := by decide +kernel
theorem dX3_chosen_3 : decode cX3_chosen 3 = .ok (.bipush 24, 2) := by decide +kernel
theorem dX3_chosen_5 : decode cX3_chosen 5 = .ok (.iushr, 1) := by decide +kernel
theorem dX3_chosen_6 : decode cX3_chosen 6 = .ok (.ifCond .eq 5, 3) := by decide +kernel
theorem dX3_chosen_9 : decode cX3_chosen 9 = .ok (.iconst 0, 1) := by decide +kernel
theorem dX3_chosen_10 : decode cX3_chosen 10 = .ok (.ireturn, 1) := by decide +kernel
theorem dX3_chosen_11 : decode cX3_chosen 11 = .ok (.iconst 0, 1) := by decide +kernel
theorem dX3_chosen_12 : decode cX3_chosen 12 = .ok (.istore 4, 2) := by decide +kernel
theorem dX3_chosen_14 : decode cX3_chosen 14 = .ok (.iload 4, 2) := by decide +kernel
theorem dX3_chosen_16 : decode cX3_chosen 16 = .ok (.bipush 24, 2) := by decide +kernel
theorem dX3_chosen_18 : decode cX3_chosen 18 = .ok (.if_icmp .ge 48, 3) := by decide +kernel
theorem dX3_chosen_21 : decode cX3_chosen 21 = .ok (.iload_n 1, 1) := by decide +kernel
theorem dX3_chosen_22 : decode cX3_chosen 22 = .ok (.iload 4, 2) := by decide +kernel
theorem dX3_chosen_24 : decode cX3_chosen 24 = .ok (.iushr, 1) := by decide +kernel
theorem dX3_chosen_25 : decode cX3_chosen 25 = .ok (.iconst 1, 1) := by decide +kernel
theorem dX3_chosen_26 : decode cX3_chosen 26 = .ok (.iand, 1) := by decide +kernel
theorem dX3_chosen_27 : decode cX3_chosen 27 = .ok (.ifCond .ne 6, 3) := by decide +kernel
theorem dX3_chosen_30 : decode cX3_chosen 30 = .ok (.goto 30, 3) := by decide +kernel
theorem dX3_chosen_33 : decode cX3_chosen 33 = .ok (.aload_n 0, 1) := by decide +kernel
theorem dX3_chosen_34 : decode cX3_chosen 34 = .ok (.iload 4, 2) := by decide +kernel
theorem dX3_chosen_36 : decode cX3_chosen 36 = .ok (.invokevirtual 50, 3) := by decide +kernel
theorem dX3_chosen_39 : decode cX3_chosen 39 = .ok (.ifCond .ne 9, 3) := by decide +kernel
theorem dX3_chosen_42 : decode cX3_chosen 42 = .ok (.iload_n 3, 1) := by decide +kernel
theorem dX3_chosen_43 : decode cX3_chosen 43 = .ok (.aload_n 2, 1) := by decide +kernel
theorem dX3_chosen_44 : decode cX3_chosen 44 = .ok (.arraylength, 1) := by decide +kernel
theorem dX3_chosen_45 : decode cX3_chosen 45 = .ok (.if_icmp .lt 5, 3) := by decide +kernel
theorem dX3_chosen_48 : decode cX3_chosen 48 = .ok (.iconst 0, 1) := by decide +kernel
theorem dX3_chosen_49 : decode cX3_chosen 49 = .ok (.ireturn, 1) := by decide +kernel
theorem dX3_chosen_50 : decode cX3_chosen 50 = .ok (.aload_n 2, 1) := by decide +kernel
theorem dX3_chosen_51 : decode cX3_chosen 51 = .ok (.iload_n 3, 1) := by decide +kernel
theorem dX3_chosen_52 : decode cX3_chosen 52 = .ok (.iload 4, 2) := by decide +kernel
theorem dX3_chosen_54 : decode cX3_chosen 54 = .ok (.invokestatic 58, 3) := by decide +kernel
theorem dX3_chosen_57 : decode cX3_chosen 57 = .ok (.iinc 3 1, 3) := by decide +kernel
theorem dX3_chosen_60 : decode cX3_chosen 60 = .ok (.iinc 4 1, 3) := by decide +kernel
theorem dX3_chosen_63 : decode cX3_chosen 63 = .ok (.goto (-49), 3) := by decide +kernel
theorem dX3_chosen_66 : decode cX3_chosen 66 = .ok (.iload_n 3, 1) := by decide +kernel
theorem dX3_chosen_67 : decode cX3_chosen 67 = .ok (.ireturn, 1) := by decide +kernel
theorem dX3_sizeOf_0 : decode cX3_sizeOf 0 = .ok (.aload_n 0, 1) := by decide +kernel
theorem dX3_sizeOf_1 : decode cX3_sizeOf 1 = .ok (.getfield 15, 3) := by decide +kernel
theorem dX3_sizeOf_4 : decode cX3_sizeOf 4 = .ok (.iload_n 1, 1) := by decide +kernel
theorem dX3_sizeOf_5 : decode cX3_sizeOf 5 = .ok (.invokestatic 54, 3) := by decide +kernel
theorem dX3_sizeOf_8 : decode cX3_sizeOf 8 = .ok (.ireturn, 1) := by decide +kernel
theorem dX3_lineOf_0 : decode cX3_lineOf 0 = .ok (.aload_n 0, 1) := by decide +kernel
theorem dX3_lineOf_1 : decode cX3_lineOf 1 = .ok (.getfield 18, 3) := by decide +kernel
theorem dX3_lineOf_4 : decode cX3_lineOf 4 = .ok (.iload_n 1, 1) := by decide +kernel
theorem dX3_lineOf_5 : decode cX3_lineOf 5 = .ok (.bipush 12, 2) := by decide +kernel
theorem dX3_lineOf_7 : decode cX3_lineOf 7 = .ok (.imul, 1) := by decide +kernel
theorem dX3_lineOf_8 : decode cX3_lineOf 8 = .ok (.iload_n 2, 1) := by decide +kernel
theorem dX3_lineOf_9 : decode cX3_lineOf 9 = .ok (.iadd, 1) := by decide +kernel
theorem dX3_lineOf_10 : decode cX3_lineOf 10 = .ok (.invokestatic 54, 3) := by decide +kernel
theorem dX3_lineOf_13 : decode cX3_lineOf 13 = .ok (.ireturn, 1) := by decide +kernel
theorem dX3_mustOf_0 : decode cX3_mustOf 0 = .ok (.aload_n 0, 1) := by decide +kernel
theorem dX3_mustOf_1 : decode cX3_mustOf 1 = .ok (.getfield 21, 3) := by decide +kernel
theorem dX3_mustOf_4 : decode cX3_mustOf 4 = .ok (.iload_n 1, 1) := by decide +kernel
theorem dX3_mustOf_5 : decode cX3_mustOf 5 = .ok (.bipush 12, 2) := by decide +kernel
theorem dX3_mustOf_7 : decode cX3_mustOf 7 = .ok (.imul, 1) := by decide +kernel
theorem dX3_mustOf_8 : decode cX3_mustOf 8 = .ok (.iload_n 2, 1) := by decide +kernel
theorem dX3_mustOf_9 : decode cX3_mustOf 9 = .ok (.iadd, 1) := by decide +kernel
theorem dX3_mustOf_10 : decode cX3_mustOf 10 = .ok (.invokestatic 54, 3) := by decide +kernel
theorem dX3_mustOf_13 : decode cX3_mustOf 13 = .ok (.ireturn, 1) := by decide +kernel
theorem dX3_byOf_0 : decode cX3_byOf 0 = .ok (.aload_n 0, 1) := by decide +kernel
theorem dX3_byOf_1 : decode cX3_byOf 1 = .ok (.getfield 24, 3) := by decide +kernel
theorem dX3_byOf_4 : decode cX3_byOf 4 = .ok (.iload_n 1, 1) := by decide +kernel
theorem dX3_byOf_5 : decode cX3_byOf 5 = .ok (.bipush 12, 2) := by decide +kernel
theorem dX3_byOf_7 : decode cX3_byOf 7 = .ok (.imul, 1) := by decide +kernel
theorem dX3_byOf_8 : decode cX3_byOf 8 = .ok (.iload_n 2, 1) := by decide +kernel
theorem dX3_byOf_9 : decode cX3_byOf 9 = .ok (.iadd, 1) := by decide +kernel
theorem dX3_byOf_10 : decode cX3_byOf 10 = .ok (.invokestatic 54, 3) := by decide +kernel
theorem dX3_byOf_13 : decode cX3_byOf 13 = .ok (.ireturn, 1) := by decide +kernel
theorem dX3_bitsOf_0 : decode cX3_bitsOf 0 = .ok (.lconst 0, 1) := by decide +kernel
theorem dX3_bitsOf_1 : decode cX3_bitsOf 1 = .ok (.lstore_n 3, 1) := by decide +kernel
theorem dX3_bitsOf_2 : decode cX3_bitsOf 2 = .ok (.iload_n 1, 1) := by decide +kernel
theorem dX3_bitsOf_3 : decode cX3_bitsOf 3 = .ok (.bipush 12, 2) := by decide +kernel
theorem dX3_bitsOf_5 : decode cX3_bitsOf 5 = .ok (.imul, 1) := by decide +kernel
theorem dX3_bitsOf_6 : decode cX3_bitsOf 6 = .ok (.aload_n 0, 1) := by decide +kernel
theorem dX3_bitsOf_7 : decode cX3_bitsOf 7 = .ok (.getfield 15, 3) := by decide +kernel
theorem dX3_bitsOf_10 : decode cX3_bitsOf 10 = .ok (.iload_n 1, 1) := by decide +kernel
theorem dX3_bitsOf_11 : decode cX3_bitsOf 11 = .ok (.invokestatic 54, 3) := by decide +kernel
theorem dX3_bitsOf_14 : decode cX3_bitsOf 14 = .ok (.iadd, 1) := by decide +kernel
theorem dX3_bitsOf_15 : decode cX3_bitsOf 15 = .ok (.istore 5, 2) := by decide +kernel
theorem dX3_bitsOf_17 : decode cX3_bitsOf 17 = .ok (.iload_n 1, 1) := by decide +kernel
theorem dX3_bitsOf_18 : decode cX3_bitsOf 18 = .ok (.bipush 12, 2) := by decide +kernel
theorem dX3_bitsOf_20 : decode cX3_bitsOf 20 = .ok (.imul, 1) := by decide +kernel
theorem dX3_bitsOf_21 : decode cX3_bitsOf 21 = .ok (.istore 6, 2) := by decide +kernel
theorem dX3_bitsOf_23 : decode cX3_bitsOf 23 = .ok (.iload 6, 2) := by decide +kernel
theorem dX3_bitsOf_25 : decode cX3_bitsOf 25 = .ok (.iload 5, 2) := by decide +kernel
theorem dX3_bitsOf_27 : decode cX3_bitsOf 27 = .ok (.if_icmp .ge 38, 3) := by decide +kernel
theorem dX3_bitsOf_30 : decode cX3_bitsOf 30 = .ok (.aload_n 0, 1) := by decide +kernel
theorem dX3_bitsOf_31 : decode cX3_bitsOf 31 = .ok (.getfield 18, 3) := by decide +kernel
theorem dX3_bitsOf_34 : decode cX3_bitsOf 34 = .ok (.iload 6, 2) := by decide +kernel
theorem dX3_bitsOf_36 : decode cX3_bitsOf 36 = .ok (.invokestatic 54, 3) := by decide +kernel
theorem dX3_bitsOf_39 : decode cX3_bitsOf 39 = .ok (.iload_n 2, 1) := by decide +kernel
theorem dX3_bitsOf_40 : decode cX3_bitsOf 40 = .ok (.imul, 1) := by decide +kernel
theorem dX3_bitsOf_41 : decode cX3_bitsOf 41 = .ok (.istore 7, 2) := by decide +kernel
theorem dX3_bitsOf_43 : decode cX3_bitsOf 43 = .ok (.lload_n 3, 1) := by decide +kernel
theorem dX3_bitsOf_44 : decode cX3_bitsOf 44 = .ok (.iload 7, 2) := by decide +kernel
theorem dX3_bitsOf_46 : decode cX3_bitsOf 46 = .ok (.ifCond .le 10, 3) := by decide +kernel
theorem dX3_bitsOf_49 : decode cX3_bitsOf 49 = .ok (.lconst 1, 1) := by decide +kernel
theorem dX3_bitsOf_50 : decode cX3_bitsOf 50 = .ok (.iload 7, 2) := by decide +kernel
theorem dX3_bitsOf_52 : decode cX3_bitsOf 52 = .ok (.lshl, 1) := by decide +kernel
theorem dX3_bitsOf_53 : decode cX3_bitsOf 53 = .ok (.goto 4, 3) := by decide +kernel
theorem dX3_bitsOf_56 : decode cX3_bitsOf 56 = .ok (.lconst 0, 1) := by decide +kernel
theorem dX3_bitsOf_57 : decode cX3_bitsOf 57 = .ok (.lor, 1) := by decide +kernel
theorem dX3_bitsOf_58 : decode cX3_bitsOf 58 = .ok (.lstore_n 3, 1) := by decide +kernel
theorem dX3_bitsOf_59 : decode cX3_bitsOf 59 = .ok (.iinc 6 1, 3) := by decide +kernel
theorem dX3_bitsOf_62 : decode cX3_bitsOf 62 = .ok (.goto (-39), 3) := by decide +kernel
theorem dX3_bitsOf_65 : decode cX3_bitsOf 65 = .ok (.lload_n 3, 1) := by decide +kernel
theorem dX3_bitsOf_66 : decode cX3_bitsOf 66 = .ok (.lreturn, 1) := by decide +kernel
theorem dX3_mustBitsOf_0 : decode cX3_mustBitsOf 0 = .ok (.lconst 0, 1) := by decide +kernel
theorem dX3_mustBitsOf_1 : decode cX3_mustBitsOf 1 = .ok (.lstore_n 2, 1) := by decide +kernel
theorem dX3_mustBitsOf_2 : decode cX3_mustBitsOf 2 = .ok (.iload_n 1, 1) := by decide +kernel
theorem dX3_mustBitsOf_3 : decode cX3_mustBitsOf 3 = .ok (.bipush 12, 2) := by decide +kernel
theorem dX3_mustBitsOf_5 : decode cX3_mustBitsOf 5 = .ok (.imul, 1) := by decide +kernel
theorem dX3_mustBitsOf_6 : decode cX3_mustBitsOf 6 = .ok (.aload_n 0, 1) := by decide +kernel
theorem dX3_mustBitsOf_7 : decode cX3_mustBitsOf 7 = .ok (.getfield 15, 3) := by decide +kernel
theorem dX3_mustBitsOf_10 : decode cX3_mustBitsOf 10 = .ok (.iload_n 1, 1) := by decide +kernel
theorem dX3_mustBitsOf_11 : decode cX3_mustBitsOf 11 = .ok (.invokestatic 54, 3) := by decide +kernel
theorem dX3_mustBitsOf_14 : decode cX3_mustBitsOf 14 = .ok (.iadd, 1) := by decide +kernel
theorem dX3_mustBitsOf_15 : decode cX3_mustBitsOf 15 = .ok (.istore 4, 2) := by decide +kernel
theorem dX3_mustBitsOf_17 : decode cX3_mustBitsOf 17 = .ok (.iload_n 1, 1) := by decide +kernel
theorem dX3_mustBitsOf_18 : decode cX3_mustBitsOf 18 = .ok (.bipush 12, 2) := by decide +kernel
theorem dX3_mustBitsOf_20 : decode cX3_mustBitsOf 20 = .ok (.imul, 1) := by decide +kernel
theorem dX3_mustBitsOf_21 : decode cX3_mustBitsOf 21 = .ok (.istore 5, 2) := by decide +kernel
theorem dX3_mustBitsOf_23 : decode cX3_mustBitsOf 23 = .ok (.iload 5, 2) := by decide +kernel
theorem dX3_mustBitsOf_25 : decode cX3_mustBitsOf 25 = .ok (.iload 4, 2) := by decide +kernel
theorem dX3_mustBitsOf_27 : decode cX3_mustBitsOf 27 = .ok (.if_icmp .ge 43, 3) := by decide +kernel
theorem dX3_mustBitsOf_30 : decode cX3_mustBitsOf 30 = .ok (.lload_n 2, 1) := by decide +kernel
theorem dX3_mustBitsOf_31 : decode cX3_mustBitsOf 31 = .ok (.aload_n 0, 1) := by decide +kernel
theorem dX3_mustBitsOf_32 : decode cX3_mustBitsOf 32 = .ok (.getfield 21, 3) := by decide +kernel
theorem dX3_mustBitsOf_35 : decode cX3_mustBitsOf 35 = .ok (.iload 5, 2) := by decide +kernel
theorem dX3_mustBitsOf_37 : decode cX3_mustBitsOf 37 = .ok (.invokestatic 54, 3) := by decide +kernel
theorem dX3_mustBitsOf_40 : decode cX3_mustBitsOf 40 = .ok (.iconst 1, 1) := by decide +kernel
theorem dX3_mustBitsOf_41 : decode cX3_mustBitsOf 41 = .ok (.if_icmp .ne 20, 3) := by decide +kernel
theorem dX3_mustBitsOf_44 : decode cX3_mustBitsOf 44 = .ok (.lconst 1, 1) := by decide +kernel
theorem dX3_mustBitsOf_45 : decode cX3_mustBitsOf 45 = .ok (.aload_n 0, 1) := by decide +kernel
theorem dX3_mustBitsOf_46 : decode cX3_mustBitsOf 46 = .ok (.getfield 18, 3) := by decide +kernel
theorem dX3_mustBitsOf_49 : decode cX3_mustBitsOf 49 = .ok (.iload 5, 2) := by decide +kernel
theorem dX3_mustBitsOf_51 : decode cX3_mustBitsOf 51 = .ok (.invokestatic 54, 3) := by decide +kernel
theorem dX3_mustBitsOf_54 : decode cX3_mustBitsOf 54 = .ok (.invokestatic 71, 3) := by decide +kernel
theorem dX3_mustBitsOf_57 : decode cX3_mustBitsOf 57 = .ok (.lshl, 1) := by decide +kernel
theorem dX3_mustBitsOf_58 : decode cX3_mustBitsOf 58 = .ok (.goto 4, 3) := by decide +kernel
theorem dX3_mustBitsOf_61 : decode cX3_mustBitsOf 61 = .ok (.lconst 0, 1) := by decide +kernel
theorem dX3_mustBitsOf_62 : decode cX3_mustBitsOf 62 = .ok (.lor, 1) := by decide +kernel
theorem dX3_mustBitsOf_63 : decode cX3_mustBitsOf 63 = .ok (.lstore_n 2, 1) := by decide +kernel
theorem dX3_mustBitsOf_64 : decode cX3_mustBitsOf 64 = .ok (.iinc 5 1, 3) := by decide +kernel
theorem dX3_mustBitsOf_67 : decode cX3_mustBitsOf 67 = .ok (.goto (-44), 3) := by decide +kernel
theorem dX3_mustBitsOf_70 : decode cX3_mustBitsOf 70 = .ok (.lload_n 2, 1) := by decide +kernel
theorem dX3_mustBitsOf_71 : decode cX3_mustBitsOf 71 = .ok (.lreturn, 1) := by decide +kernel
theorem dX3_addLine_0 : decode cX3_addLine 0 = .ok (.aload_n 0, 1) := by decide +kernel
theorem dX3_addLine_1 : decode cX3_addLine 1 = .ok (.getfield 15, 3) := by decide +kernel
theorem dX3_addLine_4 : decode cX3_addLine 4 = .ok (.iload_n 1, 1) := by decide +kernel
theorem dX3_addLine_5 : decode cX3_addLine 5 = .ok (.invokestatic 54, 3) := by decide +kernel
theorem dX3_addLine_8 : decode cX3_addLine 8 = .ok (.istore 5, 2) := by decide +kernel
theorem dX3_addLine_10 : decode cX3_addLine 10 = .ok (.iload 5, 2) := by decide +kernel
theorem dX3_addLine_12 : decode cX3_addLine 12 = .ok (.bipush 12, 2) := by decide +kernel
theorem dX3_addLine_14 : decode cX3_addLine 14 = .ok (.if_icmp .ge 61, 3) := by decide +kernel
theorem dX3_addLine_17 : decode cX3_addLine 17 = .ok (.aload_n 0, 1) := by decide +kernel
theorem dX3_addLine_18 : decode cX3_addLine 18 = .ok (.getfield 18, 3) := by decide +kernel
theorem dX3_addLine_21 : decode cX3_addLine 21 = .ok (.iload_n 1, 1) := by decide +kernel
theorem dX3_addLine_22 : decode cX3_addLine 22 = .ok (.bipush 12, 2) := by decide +kernel
theorem dX3_addLine_24 : decode cX3_addLine 24 = .ok (.imul, 1) := by decide +kernel
theorem dX3_addLine_25 : decode cX3_addLine 25 = .ok (.iload 5, 2) := by decide +kernel
theorem dX3_addLine_27 : decode cX3_addLine 27 = .ok (.iadd, 1) := by decide +kernel
theorem dX3_addLine_28 : decode cX3_addLine 28 = .ok (.iload_n 2, 1) := by decide +kernel
theorem dX3_addLine_29 : decode cX3_addLine 29 = .ok (.invokestatic 58, 3) := by decide +kernel
theorem dX3_addLine_32 : decode cX3_addLine 32 = .ok (.aload_n 0, 1) := by decide +kernel
theorem dX3_addLine_33 : decode cX3_addLine 33 = .ok (.getfield 21, 3) := by decide +kernel
theorem dX3_addLine_36 : decode cX3_addLine 36 = .ok (.iload_n 1, 1) := by decide +kernel
theorem dX3_addLine_37 : decode cX3_addLine 37 = .ok (.bipush 12, 2) := by decide +kernel
theorem dX3_addLine_39 : decode cX3_addLine 39 = .ok (.imul, 1) := by decide +kernel
theorem dX3_addLine_40 : decode cX3_addLine 40 = .ok (.iload 5, 2) := by decide +kernel
theorem dX3_addLine_42 : decode cX3_addLine 42 = .ok (.iadd, 1) := by decide +kernel
theorem dX3_addLine_43 : decode cX3_addLine 43 = .ok (.iload_n 3, 1) := by decide +kernel
theorem dX3_addLine_44 : decode cX3_addLine 44 = .ok (.invokestatic 58, 3) := by decide +kernel
theorem dX3_addLine_47 : decode cX3_addLine 47 = .ok (.aload_n 0, 1) := by decide +kernel
theorem dX3_addLine_48 : decode cX3_addLine 48 = .ok (.getfield 24, 3) := by decide +kernel
theorem dX3_addLine_51 : decode cX3_addLine 51 = .ok (.iload_n 1, 1) := by decide +kernel
theorem dX3_addLine_52 : decode cX3_addLine 52 = .ok (.bipush 12, 2) := by decide +kernel
theorem dX3_addLine_54 : decode cX3_addLine 54 = .ok (.imul, 1) := by decide +kernel
theorem dX3_addLine_55 : decode cX3_addLine 55 = .ok (.iload 5, 2) := by decide +kernel
theorem dX3_addLine_57 : decode cX3_addLine 57 = .ok (.iadd, 1) := by decide +kernel
theorem dX3_addLine_58 : decode cX3_addLine 58 = .ok (.iload 4, 2) := by decide +kernel
theorem dX3_addLine_60 : decode cX3_addLine 60 = .ok (.invokestatic 58, 3) := by decide +kernel
theorem dX3_addLine_63 : decode cX3_addLine 63 = .ok (.aload_n 0, 1) := by decide +kernel
theorem dX3_addLine_64 : decode cX3_addLine 64 = .ok (.getfield 15, 3) := by decide +kernel
theorem dX3_addLine_67 : decode cX3_addLine 67 = .ok (.iload_n 1, 1) := by decide +kernel
theorem dX3_addLine_68 : decode cX3_addLine 68 = .ok (.iload 5, 2) := by decide +kernel
theorem dX3_addLine_70 : decode cX3_addLine 70 = .ok (.iconst 1, 1) := by decide +kernel
theorem dX3_addLine_71 : decode cX3_addLine 71 = .ok (.iadd, 1) := by decide +kernel
theorem dX3_addLine_72 : decode cX3_addLine 72 = .ok (.invokestatic 58, 3) := by decide +kernel
theorem dX3_addLine_75 : decode cX3_addLine 75 = .ok (.return_, 1) := by decide +kernel
theorem dX3_strikeLine_0 : decode cX3_strikeLine 0 = .ok (.iload_n 1, 1) := by decide +kernel
theorem dX3_strikeLine_1 : decode cX3_strikeLine 1 = .ok (.bipush 12, 2) := by decide +kernel
theorem dX3_strikeLine_3 : decode cX3_strikeLine 3 = .ok (.imul, 1) := by decide +kernel
theorem dX3_strikeLine_4 : decode cX3_strikeLine 4 = .ok (.aload_n 0, 1) := by decide +kernel
theorem dX3_strikeLine_5 : decode cX3_strikeLine 5 = .ok (.getfield 15, 3) := by decide +kernel
theorem dX3_strikeLine_8 : decode cX3_strikeLine 8 = .ok (.iload_n 1, 1) := by decide +kernel
theorem dX3_strikeLine_9 : decode cX3_strikeLine 9 = .ok (.invokestatic 54, 3) := by decide +kernel
theorem dX3_strikeLine_12 : decode cX3_strikeLine 12 = .ok (.iadd, 1) := by decide +kernel
theorem dX3_strikeLine_13 : decode cX3_strikeLine 13 = .ok (.iconst 1, 1) := by decide +kernel
theorem dX3_strikeLine_14 : decode cX3_strikeLine 14 = .ok (.isub, 1) := by decide +kernel
theorem dX3_strikeLine_15 : decode cX3_strikeLine 15 = .ok (.istore_n 3, 1) := by decide +kernel
theorem dX3_strikeLine_16 : decode cX3_strikeLine 16 = .ok (.iload_n 1, 1) := by decide +kernel
theorem dX3_strikeLine_17 : decode cX3_strikeLine 17 = .ok (.bipush 12, 2) := by decide +kernel
theorem dX3_strikeLine_19 : decode cX3_strikeLine 19 = .ok (.imul, 1) := by decide +kernel
theorem dX3_strikeLine_20 : decode cX3_strikeLine 20 = .ok (.iload_n 2, 1) := by decide +kernel
theorem dX3_strikeLine_21 : decode cX3_strikeLine 21 = .ok (.iadd, 1) := by decide +kernel
theorem dX3_strikeLine_22 : decode cX3_strikeLine 22 = .ok (.istore 4, 2) := by decide +kernel
theorem dX3_strikeLine_24 : decode cX3_strikeLine 24 = .ok (.iload 4, 2) := by decide +kernel
theorem dX3_strikeLine_26 : decode cX3_strikeLine 26 = .ok (.iload_n 3, 1) := by decide +kernel
theorem dX3_strikeLine_27 : decode cX3_strikeLine 27 = .ok (.if_icmp .ge 69, 3) := by decide +kernel
theorem dX3_strikeLine_30 : decode cX3_strikeLine 30 = .ok (.aload_n 0, 1) := by decide +kernel
theorem dX3_strikeLine_31 : decode cX3_strikeLine 31 = .ok (.getfield 18, 3) := by decide +kernel
theorem dX3_strikeLine_34 : decode cX3_strikeLine 34 = .ok (.iload 4, 2) := by decide +kernel
theorem dX3_strikeLine_36 : decode cX3_strikeLine 36 = .ok (.aload_n 0, 1) := by decide +kernel
theorem dX3_strikeLine_37 : decode cX3_strikeLine 37 = .ok (.getfield 18, 3) := by decide +kernel
theorem dX3_strikeLine_40 : decode cX3_strikeLine 40 = .ok (.iload 4, 2) := by decide +kernel
theorem dX3_strikeLine_42 : decode cX3_strikeLine 42 = .ok (.iconst 1, 1) := by decide +kernel
theorem dX3_strikeLine_43 : decode cX3_strikeLine 43 = .ok (.iadd, 1) := by decide +kernel
theorem dX3_strikeLine_44 : decode cX3_strikeLine 44 = .ok (.invokestatic 54, 3) := by decide +kernel
theorem dX3_strikeLine_47 : decode cX3_strikeLine 47 = .ok (.invokestatic 58, 3) := by decide +kernel
theorem dX3_strikeLine_50 : decode cX3_strikeLine 50 = .ok (.aload_n 0, 1) := by decide +kernel
theorem dX3_strikeLine_51 : decode cX3_strikeLine 51 = .ok (.getfield 21, 3) := by decide +kernel
theorem dX3_strikeLine_54 : decode cX3_strikeLine 54 = .ok (.iload 4, 2) := by decide +kernel
theorem dX3_strikeLine_56 : decode cX3_strikeLine 56 = .ok (.aload_n 0, 1) := by decide +kernel
theorem dX3_strikeLine_57 : decode cX3_strikeLine 57 = .ok (.getfield 21, 3) := by decide +kernel
theorem dX3_strikeLine_60 : decode cX3_strikeLine 60 = .ok (.iload 4, 2) := by decide +kernel
theorem dX3_strikeLine_62 : decode cX3_strikeLine 62 = .ok (.iconst 1, 1) := by decide +kernel
theorem dX3_strikeLine_63 : decode cX3_strikeLine 63 = .ok (.iadd, 1) := by decide +kernel
theorem dX3_strikeLine_64 : decode cX3_strikeLine 64 = .ok (.invokestatic 54, 3) := by decide +kernel
theorem dX3_strikeLine_67 : decode cX3_strikeLine 67 = .ok (.invokestatic 58, 3) := by decide +kernel
theorem dX3_strikeLine_70 : decode cX3_strikeLine 70 = .ok (.aload_n 0, 1) := by decide +kernel
theorem dX3_strikeLine_71 : decode cX3_strikeLine 71 = .ok (.getfield 24, 3) := by decide +kernel
theorem dX3_strikeLine_74 : decode cX3_strikeLine 74 = .ok (.iload 4, 2) := by decide +kernel
theorem dX3_strikeLine_76 : decode cX3_strikeLine 76 = .ok (.aload_n 0, 1) := by decide +kernel
theorem dX3_strikeLine_77 : decode cX3_strikeLine 77 = .ok (.getfield 24, 3) := by decide +kernel
theorem dX3_strikeLine_80 : decode cX3_strikeLine 80 = .ok (.iload 4, 2) := by decide +kernel
theorem dX3_strikeLine_82 : decode cX3_strikeLine 82 = .ok (.iconst 1, 1) := by decide +kernel
theorem dX3_strikeLine_83 : decode cX3_strikeLine 83 = .ok (.iadd, 1) := by decide +kernel
theorem dX3_strikeLine_84 : decode cX3_strikeLine 84 = .ok (.invokestatic 54, 3) := by decide +kernel
theorem dX3_strikeLine_87 : decode cX3_strikeLine 87 = .ok (.invokestatic 58, 3) := by decide +kernel
theorem dX3_strikeLine_90 : decode cX3_strikeLine 90 = .ok (.iinc 4 1, 3) := by decide +kernel
theorem dX3_strikeLine_93 : decode cX3_strikeLine 93 = .ok (.goto (-69), 3) := by decide +kernel
theorem dX3_strikeLine_96 : decode cX3_strikeLine 96 = .ok (.aload_n 0, 1) := by decide +kernel
theorem dX3_strikeLine_97 : decode cX3_strikeLine 97 = .ok (.getfield 15, 3) := by decide +kernel
theorem dX3_strikeLine_100 : decode cX3_strikeLine 100 = .ok (.iload_n 1, 1) := by decide +kernel
theorem dX3_strikeLine_101 : decode cX3_strikeLine 101 = .ok (.aload_n 0, 1) := by decide +kernel
theorem dX3_strikeLine_102 : decode cX3_strikeLine 102 = .ok (.getfield 15, 3) := by decide +kernel
theorem dX3_strikeLine_105 : decode cX3_strikeLine 105 = .ok (.iload_n 1, 1) := by decide +kernel
theorem dX3_strikeLine_106 : decode cX3_strikeLine 106 = .ok (.invokestatic 54, 3) := by decide +kernel
theorem dX3_strikeLine_109 : decode cX3_strikeLine 109 = .ok (.iconst 1, 1) := by decide +kernel
theorem dX3_strikeLine_110 : decode cX3_strikeLine 110 = .ok (.isub, 1) := by decide +kernel
theorem dX3_strikeLine_111 : decode cX3_strikeLine 111 = .ok (.invokestatic 58, 3) := by decide +kernel
theorem dX3_strikeLine_114 : decode cX3_strikeLine 114 = .ok (.return_, 1) := by decide +kernel
theorem dX3_turnLine_0 : decode cX3_turnLine 0 = .ok (.iload_n 1, 1) := by decide +kernel
theorem dX3_turnLine_1 : decode cX3_turnLine 1 = .ok (.bipush 12, 2) := by decide +kernel
theorem dX3_turnLine_3 : decode cX3_turnLine 3 = .ok (.imul, 1) := by decide +kernel
theorem dX3_turnLine_4 : decode cX3_turnLine 4 = .ok (.iload_n 2, 1) := by decide +kernel
theorem dX3_turnLine_5 : decode cX3_turnLine 5 = .ok (.iadd, 1) := by decide +kernel
theorem dX3_turnLine_6 : decode cX3_turnLine 6 = .ok (.istore 4, 2) := by decide +kernel
theorem dX3_turnLine_8 : decode cX3_turnLine 8 = .ok (.aload_n 0, 1) := by decide +kernel
theorem dX3_turnLine_9 : decode cX3_turnLine 9 = .ok (.getfield 18, 3) := by decide +kernel
theorem dX3_turnLine_12 : decode cX3_turnLine 12 = .ok (.iload 4, 2) := by decide +kernel
theorem dX3_turnLine_14 : decode cX3_turnLine 14 = .ok (.aload_n 0, 1) := by decide +kernel
theorem dX3_turnLine_15 : decode cX3_turnLine 15 = .ok (.getfield 18, 3) := by decide +kernel
theorem dX3_turnLine_18 : decode cX3_turnLine 18 = .ok (.iload 4, 2) := by decide +kernel
theorem dX3_turnLine_20 : decode cX3_turnLine 20 = .ok (.invokestatic 54, 3) := by decide +kernel
theorem dX3_turnLine_23 : decode cX3_turnLine 23 = .ok (.ineg, 1) := by decide +kernel
theorem dX3_turnLine_24 : decode cX3_turnLine 24 = .ok (.invokestatic 58, 3) := by decide +kernel
theorem dX3_turnLine_27 : decode cX3_turnLine 27 = .ok (.aload_n 0, 1) := by decide +kernel
theorem dX3_turnLine_28 : decode cX3_turnLine 28 = .ok (.getfield 24, 3) := by decide +kernel
theorem dX3_turnLine_31 : decode cX3_turnLine 31 = .ok (.iload 4, 2) := by decide +kernel
theorem dX3_turnLine_33 : decode cX3_turnLine 33 = .ok (.iload_n 3, 1) := by decide +kernel
theorem dX3_turnLine_34 : decode cX3_turnLine 34 = .ok (.invokestatic 58, 3) := by decide +kernel
theorem dX3_turnLine_37 : decode cX3_turnLine 37 = .ok (.return_, 1) := by decide +kernel
theorem dX3_find_0 : decode cX3_find 0 = .ok (.iconst 0, 1) := by decide +kernel
theorem dX3_find_1 : decode cX3_find 1 = .ok (.istore_n 3, 1) := by decide +kernel
theorem dX3_find_2 : decode cX3_find 2 = .ok (.iload_n 3, 1) := by decide +kernel
theorem dX3_find_3 : decode cX3_find 3 = .ok (.aload_n 0, 1) := by decide +kernel
theorem dX3_find_4 : decode cX3_find 4 = .ok (.getfield 15, 3) := by decide +kernel
theorem dX3_find_7 : decode cX3_find 7 = .ok (.iload_n 1, 1) := by decide +kernel
theorem dX3_find_8 : decode cX3_find 8 = .ok (.invokestatic 54, 3) := by decide +kernel
theorem dX3_find_11 : decode cX3_find 11 = .ok (.if_icmp .ge 31, 3) := by decide +kernel
theorem dX3_find_14 : decode cX3_find 14 = .ok (.aload_n 0, 1) := by decide +kernel
theorem dX3_find_15 : decode cX3_find 15 = .ok (.getfield 18, 3) := by decide +kernel
theorem dX3_find_18 : decode cX3_find 18 = .ok (.iload_n 1, 1) := by decide +kernel
theorem dX3_find_19 : decode cX3_find 19 = .ok (.bipush 12, 2) := by decide +kernel
theorem dX3_find_21 : decode cX3_find 21 = .ok (.imul, 1) := by decide +kernel
theorem dX3_find_22 : decode cX3_find 22 = .ok (.iload_n 3, 1) := by decide +kernel
theorem dX3_find_23 : decode cX3_find 23 = .ok (.iadd, 1) := by decide +kernel
theorem dX3_find_24 : decode cX3_find 24 = .ok (.invokestatic 54, 3) := by decide +kernel
theorem dX3_find_27 : decode cX3_find 27 = .ok (.invokestatic 71, 3) := by decide +kernel
theorem dX3_find_30 : decode cX3_find 30 = .ok (.iload_n 2, 1) := by decide +kernel
theorem dX3_find_31 : decode cX3_find 31 = .ok (.if_icmp .ne 5, 3) := by decide +kernel
theorem dX3_find_34 : decode cX3_find 34 = .ok (.iload_n 3, 1) := by decide +kernel
theorem dX3_find_35 : decode cX3_find 35 = .ok (.ireturn, 1) := by decide +kernel
theorem dX3_find_36 : decode cX3_find 36 = .ok (.iinc 3 1, 3) := by decide +kernel
theorem dX3_find_39 : decode cX3_find 39 = .ok (.goto (-37), 3) := by decide +kernel
theorem dX3_find_42 : decode cX3_find 42 = .ok (.iconst (-1), 1) := by decide +kernel
theorem dX3_find_43 : decode cX3_find 43 = .ok (.ireturn, 1) := by decide +kernel
theorem dX3_amendRow_0 : decode cX3_amendRow 0 = .ok (.iload_n 2, 1) := by decide +kernel
theorem dX3_amendRow_1 : decode cX3_amendRow 1 = .ok (.bipush 6, 2) := by decide +kernel
theorem dX3_amendRow_3 : decode cX3_amendRow 3 = .ok (.imul, 1) := by decide +kernel
theorem dX3_amendRow_4 : decode cX3_amendRow 4 = .ok (.istore_n 3, 1) := by decide +kernel
theorem dX3_amendRow_5 : decode cX3_amendRow 5 = .ok (.iload_n 3, 1) := by decide +kernel
theorem dX3_amendRow_6 : decode cX3_amendRow 6 = .ok (.istore 4, 2) := by decide +kernel
theorem dX3_amendRow_8 : decode cX3_amendRow 8 = .ok (.iload 4, 2) := by decide +kernel
theorem dX3_amendRow_10 : decode cX3_amendRow 10 = .ok (.iload_n 3, 1) := by decide +kernel
theorem dX3_amendRow_11 : decode cX3_amendRow 11 = .ok (.aload_n 0, 1) := by decide +kernel
theorem dX3_amendRow_12 : decode cX3_amendRow 12 = .ok (.getfield 31, 3) := by decide +kernel
theorem dX3_amendRow_15 : decode cX3_amendRow 15 = .ok (.getfield 76, 3) := by decide +kernel
theorem dX3_amendRow_18 : decode cX3_amendRow 18 = .ok (.iload_n 2, 1) := by decide +kernel
theorem dX3_amendRow_19 : decode cX3_amendRow 19 = .ok (.invokestatic 54, 3) := by decide +kernel
theorem dX3_amendRow_22 : decode cX3_amendRow 22 = .ok (.iadd, 1) := by decide +kernel
theorem dX3_amendRow_23 : decode cX3_amendRow 23 = .ok (.if_icmp .ge 114, 3) := by decide +kernel
theorem dX3_amendRow_26 : decode cX3_amendRow 26 = .ok (.aload_n 0, 1) := by decide +kernel
theorem dX3_amendRow_27 : decode cX3_amendRow 27 = .ok (.getfield 31, 3) := by decide +kernel
theorem dX3_amendRow_30 : decode cX3_amendRow 30 = .ok (.getfield 79, 3) := by decide +kernel
theorem dX3_amendRow_33 : decode cX3_amendRow 33 = .ok (.iload 4, 2) := by decide +kernel
theorem dX3_amendRow_35 : decode cX3_amendRow 35 = .ok (.invokestatic 54, 3) := by decide +kernel
theorem dX3_amendRow_38 : decode cX3_amendRow 38 = .ok (.istore 5, 2) := by decide +kernel
theorem dX3_amendRow_40 : decode cX3_amendRow 40 = .ok (.aload_n 0, 1) := by decide +kernel
theorem dX3_amendRow_41 : decode cX3_amendRow 41 = .ok (.getfield 31, 3) := by decide +kernel
theorem dX3_amendRow_44 : decode cX3_amendRow 44 = .ok (.getfield 82, 3) := by decide +kernel
theorem dX3_amendRow_47 : decode cX3_amendRow 47 = .ok (.iload 4, 2) := by decide +kernel
theorem dX3_amendRow_49 : decode cX3_amendRow 49 = .ok (.invokestatic 54, 3) := by decide +kernel
theorem dX3_amendRow_52 : decode cX3_amendRow 52 = .ok (.istore 6, 2) := by decide +kernel
theorem dX3_amendRow_54 : decode cX3_amendRow 54 = .ok (.aload_n 0, 1) := by decide +kernel
theorem dX3_amendRow_55 : decode cX3_amendRow 55 = .ok (.iload_n 1, 1) := by decide +kernel
theorem dX3_amendRow_56 : decode cX3_amendRow 56 = .ok (.iload 6, 2) := by decide +kernel
theorem dX3_amendRow_58 : decode cX3_amendRow 58 = .ok (.invokestatic 71, 3) := by decide +kernel
theorem dX3_amendRow_61 : decode cX3_amendRow 61 = .ok (.invokevirtual 85, 3) := by decide +kernel
theorem dX3_amendRow_64 : decode cX3_amendRow 64 = .ok (.istore 7, 2) := by decide +kernel
theorem dX3_amendRow_66 : decode cX3_amendRow 66 = .ok (.iload 5, 2) := by decide +kernel
theorem dX3_amendRow_68 : decode cX3_amendRow 68 = .ok (.iconst 1, 1) := by decide +kernel
theorem dX3_amendRow_69 : decode cX3_amendRow 69 = .ok (.if_icmp .ne 21, 3) := by decide +kernel
theorem dX3_amendRow_72 : decode cX3_amendRow 72 = .ok (.iload 7, 2) := by decide +kernel
theorem dX3_amendRow_74 : decode cX3_amendRow 74 = .ok (.iconst (-1), 1) := by decide +kernel
theorem dX3_amendRow_75 : decode cX3_amendRow 75 = .ok (.if_icmp .ne 15, 3) := by decide +kernel
theorem dX3_amendRow_78 : decode cX3_amendRow 78 = .ok (.aload_n 0, 1) := by decide +kernel
theorem dX3_amendRow_79 : decode cX3_amendRow 79 = .ok (.iload_n 1, 1) := by decide +kernel
theorem dX3_amendRow_80 : decode cX3_amendRow 80 = .ok (.iload 6, 2) := by decide +kernel
theorem dX3_amendRow_82 : decode cX3_amendRow 82 = .ok (.iconst 0, 1) := by decide +kernel
theorem dX3_amendRow_83 : decode cX3_amendRow 83 = .ok (.iload_n 2, 1) := by decide +kernel
theorem dX3_amendRow_84 : decode cX3_amendRow 84 = .ok (.invokevirtual 89, 3) := by decide +kernel
theorem dX3_amendRow_87 : decode cX3_amendRow 87 = .ok (.goto 44, 3) := by decide +kernel
theorem dX3_amendRow_90 : decode cX3_amendRow 90 = .ok (.iload 5, 2) := by decide +kernel
theorem dX3_amendRow_92 : decode cX3_amendRow 92 = .ok (.ifCond .ne 19, 3) := by decide +kernel
theorem dX3_amendRow_95 : decode cX3_amendRow 95 = .ok (.iload 7, 2) := by decide +kernel
theorem dX3_amendRow_97 : decode cX3_amendRow 97 = .ok (.iconst (-1), 1) := by decide +kernel
theorem dX3_amendRow_98 : decode cX3_amendRow 98 = .ok (.if_icmp .eq 13, 3) := by decide +kernel
theorem dX3_amendRow_101 : decode cX3_amendRow 101 = .ok (.aload_n 0, 1) := by decide +kernel
theorem dX3_amendRow_102 : decode cX3_amendRow 102 = .ok (.iload_n 1, 1) := by decide +kernel
theorem dX3_amendRow_103 : decode cX3_amendRow 103 = .ok (.iload 7, 2) := by decide +kernel
theorem dX3_amendRow_105 : decode cX3_amendRow 105 = .ok (.invokevirtual 93, 3) := by decide +kernel
theorem dX3_amendRow_108 : decode cX3_amendRow 108 = .ok (.goto 23, 3) := by decide +kernel
theorem dX3_amendRow_111 : decode cX3_amendRow 111 = .ok (.iload 5, 2) := by decide +kernel
theorem dX3_amendRow_113 : decode cX3_amendRow 113 = .ok (.iconst 2, 1) := by decide +kernel
theorem dX3_amendRow_114 : decode cX3_amendRow 114 = .ok (.if_icmp .ne 17, 3) := by decide +kernel
theorem dX3_amendRow_117 : decode cX3_amendRow 117 = .ok (.iload 7, 2) := by decide +kernel
theorem dX3_amendRow_119 : decode cX3_amendRow 119 = .ok (.iconst (-1), 1) := by decide +kernel
theorem dX3_amendRow_120 : decode cX3_amendRow 120 = .ok (.if_icmp .eq 11, 3) := by decide +kernel
theorem dX3_amendRow_123 : decode cX3_amendRow 123 = .ok (.aload_n 0, 1) := by decide +kernel
theorem dX3_amendRow_124 : decode cX3_amendRow 124 = .ok (.iload_n 1, 1) := by decide +kernel
theorem dX3_amendRow_125 : decode cX3_amendRow 125 = .ok (.iload 7, 2) := by decide +kernel
theorem dX3_amendRow_127 : decode cX3_amendRow 127 = .ok (.iload_n 2, 1) := by decide +kernel
theorem dX3_amendRow_128 : decode cX3_amendRow 128 = .ok (.invokevirtual 96, 3) := by decide +kernel
theorem dX3_amendRow_131 : decode cX3_amendRow 131 = .ok (.iinc 4 1, 3) := by decide +kernel
theorem dX3_amendRow_134 : decode cX3_amendRow 134 = .ok (.goto (-126), 3) := by decide +kernel
theorem dX3_amendRow_137 : decode cX3_amendRow 137 = .ok (.return_, 1) := by decide +kernel
theorem dX3_copyToTrial_0 : decode cX3_copyToTrial 0 = .ok (.aload_n 0, 1) := by decide +kernel
theorem dX3_copyToTrial_1 : decode cX3_copyToTrial 1 = .ok (.getfield 15, 3) := by decide +kernel
theorem dX3_copyToTrial_4 : decode cX3_copyToTrial 4 = .ok (.bipush 24, 2) := by decide +kernel
theorem dX3_copyToTrial_6 : decode cX3_copyToTrial 6 = .ok (.iconst 0, 1) := by decide +kernel
theorem dX3_copyToTrial_7 : decode cX3_copyToTrial 7 = .ok (.invokestatic 58, 3) := by decide +kernel
theorem dX3_copyToTrial_10 : decode cX3_copyToTrial 10 = .ok (.iconst 0, 1) := by decide +kernel
theorem dX3_copyToTrial_11 : decode cX3_copyToTrial 11 = .ok (.istore_n 2, 1) := by decide +kernel
theorem dX3_copyToTrial_12 : decode cX3_copyToTrial 12 = .ok (.iload_n 2, 1) := by decide +kernel
theorem dX3_copyToTrial_13 : decode cX3_copyToTrial 13 = .ok (.aload_n 0, 1) := by decide +kernel
theorem dX3_copyToTrial_14 : decode cX3_copyToTrial 14 = .ok (.iload_n 1, 1) := by decide +kernel
theorem dX3_copyToTrial_15 : decode cX3_copyToTrial 15 = .ok (.invokevirtual 100, 3) := by decide +kernel
theorem dX3_copyToTrial_18 : decode cX3_copyToTrial 18 = .ok (.if_icmp .ge 33, 3) := by decide +kernel
theorem dX3_copyToTrial_21 : decode cX3_copyToTrial 21 = .ok (.aload_n 0, 1) := by decide +kernel
theorem dX3_copyToTrial_22 : decode cX3_copyToTrial 22 = .ok (.bipush 24, 2) := by decide +kernel
theorem dX3_copyToTrial_24 : decode cX3_copyToTrial 24 = .ok (.aload_n 0, 1) := by decide +kernel
theorem dX3_copyToTrial_25 : decode cX3_copyToTrial 25 = .ok (.iload_n 1, 1) := by decide +kernel
theorem dX3_copyToTrial_26 : decode cX3_copyToTrial 26 = .ok (.iload_n 2, 1) := by decide +kernel
theorem dX3_copyToTrial_27 : decode cX3_copyToTrial 27 = .ok (.invokevirtual 103, 3) := by decide +kernel
theorem dX3_copyToTrial_30 : decode cX3_copyToTrial 30 = .ok (.aload_n 0, 1) := by decide +kernel
theorem dX3_copyToTrial_31 : decode cX3_copyToTrial 31 = .ok (.iload_n 1, 1) := by decide +kernel
theorem dX3_copyToTrial_32 : decode cX3_copyToTrial 32 = .ok (.iload_n 2, 1) := by decide +kernel
theorem dX3_copyToTrial_33 : decode cX3_copyToTrial 33 = .ok (.invokevirtual 106, 3) := by decide +kernel
theorem dX3_copyToTrial_36 : decode cX3_copyToTrial 36 = .ok (.aload_n 0, 1) := by decide +kernel
theorem dX3_copyToTrial_37 : decode cX3_copyToTrial 37 = .ok (.iload_n 1, 1) := by decide +kernel
theorem dX3_copyToTrial_38 : decode cX3_copyToTrial 38 = .ok (.iload_n 2, 1) := by decide +kernel
theorem dX3_copyToTrial_39 : decode cX3_copyToTrial 39 = .ok (.invokevirtual 109, 3) := by decide +kernel
theorem dX3_copyToTrial_42 : decode cX3_copyToTrial 42 = .ok (.invokevirtual 89, 3) := by decide +kernel
theorem dX3_copyToTrial_45 : decode cX3_copyToTrial 45 = .ok (.iinc 2 1, 3) := by decide +kernel
theorem dX3_copyToTrial_48 : decode cX3_copyToTrial 48 = .ok (.goto (-36), 3) := by decide +kernel
theorem dX3_copyToTrial_51 : decode cX3_copyToTrial 51 = .ok (.return_, 1) := by decide +kernel
theorem dX3_against_0 : decode cX3_against 0 = .ok (.iload_n 1, 1) := by decide +kernel
theorem dX3_against_1 : decode cX3_against 1 = .ok (.invokestatic 112, 3) := by decide +kernel
theorem dX3_against_4 : decode cX3_against 4 = .ok (.iconst 2, 1) := by decide +kernel
theorem dX3_against_5 : decode cX3_against 5 = .ok (.if_icmp .ne 5, 3) := by decide +kernel
theorem dX3_against_8 : decode cX3_against 8 = .ok (.iconst 0, 1) := by decide +kernel
theorem dX3_against_9 : decode cX3_against 9 = .ok (.ireturn, 1) := by decide +kernel
theorem dX3_against_10 : decode cX3_against 10 = .ok (.iload_n 1, 1) := by decide +kernel
theorem dX3_against_11 : decode cX3_against 11 = .ok (.istore_n 2, 1) := by decide +kernel
theorem dX3_against_12 : decode cX3_against 12 = .ok (.iload_n 1, 1) := by decide +kernel
theorem dX3_against_13 : decode cX3_against 13 = .ok (.invokestatic 112, 3) := by decide +kernel
theorem dX3_against_16 : decode cX3_against 16 = .ok (.iconst 1, 1) := by decide +kernel
theorem dX3_against_17 : decode cX3_against 17 = .ok (.if_icmp .ne 32, 3) := by decide +kernel
theorem dX3_against_20 : decode cX3_against 20 = .ok (.iload_n 1, 1) := by decide +kernel
theorem dX3_against_21 : decode cX3_against 21 = .ok (.bipush 100, 2) := by decide +kernel
theorem dX3_against_23 : decode cX3_against 23 = .ok (.isub, 1) := by decide +kernel
theorem dX3_against_24 : decode cX3_against 24 = .ok (.istore_n 3, 1) := by decide +kernel
theorem dX3_against_25 : decode cX3_against 25 = .ok (.bipush 24, 2) := by decide +kernel
theorem dX3_against_27 : decode cX3_against 27 = .ok (.istore_n 2, 1) := by decide +kernel
theorem dX3_against_28 : decode cX3_against 28 = .ok (.aload_n 0, 1) := by decide +kernel
theorem dX3_against_29 : decode cX3_against 29 = .ok (.aload_n 0, 1) := by decide +kernel
theorem dX3_against_30 : decode cX3_against 30 = .ok (.getfield 31, 3) := by decide +kernel
theorem dX3_against_33 : decode cX3_against 33 = .ok (.getfield 115, 3) := by decide +kernel
theorem dX3_against_36 : decode cX3_against 36 = .ok (.iload_n 3, 1) := by decide +kernel
theorem dX3_against_37 : decode cX3_against 37 = .ok (.invokestatic 54, 3) := by decide +kernel
theorem dX3_against_40 : decode cX3_against 40 = .ok (.invokevirtual 118, 3) := by decide +kernel
theorem dX3_against_43 : decode cX3_against 43 = .ok (.aload_n 0, 1) := by decide +kernel
theorem dX3_against_44 : decode cX3_against 44 = .ok (.iload_n 2, 1) := by decide +kernel
theorem dX3_against_45 : decode cX3_against 45 = .ok (.iload_n 3, 1) := by decide +kernel
theorem dX3_against_46 : decode cX3_against 46 = .ok (.invokevirtual 122, 3) := by decide +kernel
theorem dX3_against_49 : decode cX3_against 49 = .ok (.aload_n 0, 1) := by decide +kernel
theorem dX3_against_50 : decode cX3_against 50 = .ok (.iload_n 2, 1) := by decide +kernel
theorem dX3_against_51 : decode cX3_against 51 = .ok (.iconst 1, 1) := by decide +kernel
theorem dX3_against_52 : decode cX3_against 52 = .ok (.invokevirtual 125, 3) := by decide +kernel
theorem dX3_against_55 : decode cX3_against 55 = .ok (.aload_n 0, 1) := by decide +kernel
theorem dX3_against_56 : decode cX3_against 56 = .ok (.getfield 47, 3) := by decide +kernel
theorem dX3_against_59 : decode cX3_against 59 = .ok (.land, 1) := by decide +kernel
theorem dX3_against_60 : decode cX3_against 60 = .ok (.aload_n 0, 1) := by decide +kernel
theorem dX3_against_61 : decode cX3_against 61 = .ok (.iload_n 2, 1) := by decide +kernel
theorem dX3_against_62 : decode cX3_against 62 = .ok (.iconst (-1), 1) := by decide +kernel
theorem dX3_against_63 : decode cX3_against 63 = .ok (.invokevirtual 125, 3) := by decide +kernel
theorem dX3_against_66 : decode cX3_against 66 = .ok (.aload_n 0, 1) := by decide +kernel
theorem dX3_against_67 : decode cX3_against 67 = .ok (.getfield 43, 3) := by decide +kernel
theorem dX3_against_70 : decode cX3_against 70 = .ok (.land, 1) := by decide +kernel
theorem dX3_against_71 : decode cX3_against 71 = .ok (.lor, 1) := by decide +kernel
theorem dX3_against_72 : decode cX3_against 72 = .ok (.lconst 0, 1) := by decide +kernel
theorem dX3_against_73 : decode cX3_against 73 = .ok (.lcmp, 1) := by decide +kernel
theorem dX3_against_74 : decode cX3_against 74 = .ok (.ifCond .eq 7, 3) := by decide +kernel
theorem dX3_against_77 : decode cX3_against 77 = .ok (.iconst 1, 1) := by decide +kernel
theorem dX3_against_78 : decode cX3_against 78 = .ok (.goto 4, 3) := by decide +kernel
theorem dX3_against_81 : decode cX3_against 81 = .ok (.iconst 0, 1) := by decide +kernel
theorem dX3_against_82 : decode cX3_against 82 = .ok (.ireturn, 1) := by decide +kernel
theorem dX3_areContrary_0 : decode cX3_areContrary 0 = .ok (.aload_n 0, 1) := by decide +kernel
theorem dX3_areContrary_1 : decode cX3_areContrary 1 = .ok (.iload_n 1, 1) := by decide +kernel
theorem dX3_areContrary_2 : decode cX3_areContrary 2 = .ok (.iconst 1, 1) := by decide +kernel
theorem dX3_areContrary_3 : decode cX3_areContrary 3 = .ok (.invokevirtual 125, 3) := by decide +kernel
theorem dX3_areContrary_6 : decode cX3_areContrary 6 = .ok (.aload_n 0, 1) := by decide +kernel
theorem dX3_areContrary_7 : decode cX3_areContrary 7 = .ok (.iload_n 2, 1) := by decide +kernel
theorem dX3_areContrary_8 : decode cX3_areContrary 8 = .ok (.iconst (-1), 1) := by decide +kernel
theorem dX3_areContrary_9 : decode cX3_areContrary 9 = .ok (.invokevirtual 125, 3) := by decide +kernel
theorem dX3_areContrary_12 : decode cX3_areContrary 12 = .ok (.land, 1) := by decide +kernel
theorem dX3_areContrary_13 : decode cX3_areContrary 13 = .ok (.aload_n 0, 1) := by decide +kernel
theorem dX3_areContrary_14 : decode cX3_areContrary 14 = .ok (.iload_n 1, 1) := by decide +kernel
theorem dX3_areContrary_15 : decode cX3_areContrary 15 = .ok (.iconst (-1), 1) := by decide +kernel
theorem dX3_areContrary_16 : decode cX3_areContrary 16 = .ok (.invokevirtual 125, 3) := by decide +kernel
theorem dX3_areContrary_19 : decode cX3_areContrary 19 = .ok (.aload_n 0, 1) := by decide +kernel
theorem dX3_areContrary_20 : decode cX3_areContrary 20 = .ok (.iload_n 2, 1) := by decide +kernel
theorem dX3_areContrary_21 : decode cX3_areContrary 21 = .ok (.iconst 1, 1) := by decide +kernel
theorem dX3_areContrary_22 : decode cX3_areContrary 22 = .ok (.invokevirtual 125, 3) := by decide +kernel
theorem dX3_areContrary_25 : decode cX3_areContrary 25 = .ok (.land, 1) := by decide +kernel
theorem dX3_areContrary_26 : decode cX3_areContrary 26 = .ok (.lor, 1) := by decide +kernel
theorem dX3_areContrary_27 : decode cX3_areContrary 27 = .ok (.lconst 0, 1) := by decide +kernel
theorem dX3_areContrary_28 : decode cX3_areContrary 28 = .ok (.lcmp, 1) := by decide +kernel
theorem dX3_areContrary_29 : decode cX3_areContrary 29 = .ok (.ifCond .eq 7, 3) := by decide +kernel
theorem dX3_areContrary_32 : decode cX3_areContrary 32 = .ok (.iconst 1, 1) := by decide +kernel
theorem dX3_areContrary_33 : decode cX3_areContrary 33 = .ok (.goto 4, 3) := by decide +kernel
theorem dX3_areContrary_36 : decode cX3_areContrary 36 = .ok (.iconst 0, 1) := by decide +kernel
theorem dX3_areContrary_37 : decode cX3_areContrary 37 = .ok (.ireturn, 1) := by decide +kernel
theorem dX3_closeMotion_0 : decode cX3_closeMotion 0 = .ok (.aload_n 0, 1) := by decide +kernel
theorem dX3_closeMotion_1 : decode cX3_closeMotion 1 = .ok (.iload_n 1, 1) := by decide +kernel
theorem dX3_closeMotion_2 : decode cX3_closeMotion 2 = .ok (.iload_n 2, 1) := by decide +kernel
theorem dX3_closeMotion_3 : decode cX3_closeMotion 3 = .ok (.invokevirtual 62, 3) := by decide +kernel
theorem dX3_closeMotion_6 : decode cX3_closeMotion 6 = .ok (.iconst 0, 1) := by decide +kernel
theorem dX3_closeMotion_7 : decode cX3_closeMotion 7 = .ok (.istore_n 3, 1) := by decide +kernel
theorem dX3_closeMotion_8 : decode cX3_closeMotion 8 = .ok (.iload_n 3, 1) := by decide +kernel
theorem dX3_closeMotion_9 : decode cX3_closeMotion 9 = .ok (.aload_n 0, 1) := by decide +kernel
theorem dX3_closeMotion_10 : decode cX3_closeMotion 10 = .ok (.getfield 31, 3) := by decide +kernel
theorem dX3_closeMotion_13 : decode cX3_closeMotion 13 = .ok (.getfield 129, 3) := by decide +kernel
theorem dX3_closeMotion_16 : decode cX3_closeMotion 16 = .ok (.if_icmp .ge 44, 3) := by decide +kernel
theorem dX3_closeMotion_19 : decode cX3_closeMotion 19 = .ok (.aload_n 0, 1) := by decide +kernel
theorem dX3_closeMotion_20 : decode cX3_closeMotion 20 = .ok (.getfield 31, 3) := by decide +kernel
theorem dX3_closeMotion_23 : decode cX3_closeMotion 23 = .ok (.getfield 115, 3) := by decide +kernel
theorem dX3_closeMotion_26 : decode cX3_closeMotion 26 = .ok (.iload_n 3, 1) := by decide +kernel
theorem dX3_closeMotion_27 : decode cX3_closeMotion 27 = .ok (.invokestatic 54, 3) := by decide +kernel
theorem dX3_closeMotion_30 : decode cX3_closeMotion 30 = .ok (.iload_n 1, 1) := by decide +kernel
theorem dX3_closeMotion_31 : decode cX3_closeMotion 31 = .ok (.if_icmp .ne 23, 3) := by decide +kernel
theorem dX3_closeMotion_34 : decode cX3_closeMotion 34 = .ok (.aload_n 0, 1) := by decide +kernel
theorem dX3_closeMotion_35 : decode cX3_closeMotion 35 = .ok (.bipush 100, 2) := by decide +kernel
theorem dX3_closeMotion_37 : decode cX3_closeMotion 37 = .ok (.iload_n 3, 1) := by decide +kernel
theorem dX3_closeMotion_38 : decode cX3_closeMotion 38 = .ok (.iadd, 1) := by decide +kernel
theorem dX3_closeMotion_39 : decode cX3_closeMotion 39 = .ok (.invokevirtual 50, 3) := by decide +kernel
theorem dX3_closeMotion_42 : decode cX3_closeMotion 42 = .ok (.ifCond .ne 12, 3) := by decide +kernel
theorem dX3_closeMotion_45 : decode cX3_closeMotion 45 = .ok (.aload_n 0, 1) := by decide +kernel
theorem dX3_closeMotion_46 : decode cX3_closeMotion 46 = .ok (.bipush 100, 2) := by decide +kernel
theorem dX3_closeMotion_48 : decode cX3_closeMotion 48 = .ok (.iload_n 3, 1) := by decide +kernel
theorem dX3_closeMotion_49 : decode cX3_closeMotion 49 = .ok (.iadd, 1) := by decide +kernel
theorem dX3_closeMotion_50 : decode cX3_closeMotion 50 = .ok (.iconst 3, 1) := by decide +kernel
theorem dX3_closeMotion_51 : decode cX3_closeMotion 51 = .ok (.invokevirtual 62, 3) := by decide +kernel
theorem dX3_closeMotion_54 : decode cX3_closeMotion 54 = .ok (.iinc 3 1, 3) := by decide +kernel
theorem dX3_closeMotion_57 : decode cX3_closeMotion 57 = .ok (.goto (-49), 3) := by decide +kernel
theorem dX3_closeMotion_60 : decode cX3_closeMotion 60 = .ok (.return_, 1) := by decide +kernel
theorem dX3_passMotion_0 : decode cX3_passMotion 0 = .ok (.aload_n 0, 1) := by decide +kernel
theorem dX3_passMotion_1 : decode cX3_passMotion 1 = .ok (.iload_n 1, 1) := by decide +kernel
theorem dX3_passMotion_2 : decode cX3_passMotion 2 = .ok (.iconst 1, 1) := by decide +kernel
theorem dX3_passMotion_3 : decode cX3_passMotion 3 = .ok (.invokevirtual 132, 3) := by decide +kernel
theorem dX3_passMotion_6 : decode cX3_passMotion 6 = .ok (.aload_n 0, 1) := by decide +kernel
theorem dX3_passMotion_7 : decode cX3_passMotion 7 = .ok (.iload_n 1, 1) := by decide +kernel
theorem dX3_passMotion_8 : decode cX3_passMotion 8 = .ok (.iconst 1, 1) := by decide +kernel
theorem dX3_passMotion_9 : decode cX3_passMotion 9 = .ok (.invokevirtual 125, 3) := by decide +kernel
theorem dX3_passMotion_12 : decode cX3_passMotion 12 = .ok (.lstore_n 2, 1) := by decide +kernel
theorem dX3_passMotion_13 : decode cX3_passMotion 13 = .ok (.aload_n 0, 1) := by decide +kernel
theorem dX3_passMotion_14 : decode cX3_passMotion 14 = .ok (.iload_n 1, 1) := by decide +kernel
theorem dX3_passMotion_15 : decode cX3_passMotion 15 = .ok (.iconst (-1), 1) := by decide +kernel
theorem dX3_passMotion_16 : decode cX3_passMotion 16 = .ok (.invokevirtual 125, 3) := by decide +kernel
theorem dX3_passMotion_19 : decode cX3_passMotion 19 = .ok (.lstore 4, 2) := by decide +kernel
theorem dX3_passMotion_21 : decode cX3_passMotion 21 = .ok (.aload_n 0, 1) := by decide +kernel
theorem dX3_passMotion_22 : decode cX3_passMotion 22 = .ok (.aload_n 0, 1) := by decide +kernel
theorem dX3_passMotion_23 : decode cX3_passMotion 23 = .ok (.getfield 43, 3) := by decide +kernel
theorem dX3_passMotion_26 : decode cX3_passMotion 26 = .ok (.lload 4, 2) := by decide +kernel
theorem dX3_passMotion_28 : decode cX3_passMotion 28 = .ok (.ldc2_w 135, 3) := by decide +kernel
theorem dX3_passMotion_31 : decode cX3_passMotion 31 = .ok (.lxor, 1) := by decide +kernel
theorem dX3_passMotion_32 : decode cX3_passMotion 32 = .ok (.land, 1) := by decide +kernel
theorem dX3_passMotion_33 : decode cX3_passMotion 33 = .ok (.lload_n 2, 1) := by decide +kernel
theorem dX3_passMotion_34 : decode cX3_passMotion 34 = .ok (.lor, 1) := by decide +kernel
theorem dX3_passMotion_35 : decode cX3_passMotion 35 = .ok (.putfield 43, 3) := by decide +kernel
theorem dX3_passMotion_38 : decode cX3_passMotion 38 = .ok (.aload_n 0, 1) := by decide +kernel
theorem dX3_passMotion_39 : decode cX3_passMotion 39 = .ok (.aload_n 0, 1) := by decide +kernel
theorem dX3_passMotion_40 : decode cX3_passMotion 40 = .ok (.getfield 47, 3) := by decide +kernel
theorem dX3_passMotion_43 : decode cX3_passMotion 43 = .ok (.lload_n 2, 1) := by decide +kernel
theorem dX3_passMotion_44 : decode cX3_passMotion 44 = .ok (.ldc2_w 135, 3) := by decide +kernel
theorem dX3_passMotion_47 : decode cX3_passMotion 47 = .ok (.lxor, 1) := by decide +kernel
theorem dX3_passMotion_48 : decode cX3_passMotion 48 = .ok (.land, 1) := by decide +kernel
theorem dX3_passMotion_49 : decode cX3_passMotion 49 = .ok (.lload 4, 2) := by decide +kernel
theorem dX3_passMotion_51 : decode cX3_passMotion 51 = .ok (.lor, 1) := by decide +kernel
theorem dX3_passMotion_52 : decode cX3_passMotion 52 = .ok (.putfield 47, 3) := by decide +kernel
theorem dX3_passMotion_55 : decode cX3_passMotion 55 = .ok (.iconst 0, 1) := by decide +kernel
theorem dX3_passMotion_56 : decode cX3_passMotion 56 = .ok (.istore 6, 2) := by decide +kernel
theorem dX3_passMotion_58 : decode cX3_passMotion 58 = .ok (.iload 6, 2) := by decide +kernel
theorem dX3_passMotion_60 : decode cX3_passMotion 60 = .ok (.aload_n 0, 1) := by decide +kernel
theorem dX3_passMotion_61 : decode cX3_passMotion 61 = .ok (.getfield 31, 3) := by decide +kernel
theorem dX3_passMotion_64 : decode cX3_passMotion 64 = .ok (.getfield 66, 3) := by decide +kernel
theorem dX3_passMotion_67 : decode cX3_passMotion 67 = .ok (.if_icmp .ge 41, 3) := by decide +kernel
theorem dX3_passMotion_70 : decode cX3_passMotion 70 = .ok (.iload 6, 2) := by decide +kernel
theorem dX3_passMotion_72 : decode cX3_passMotion 72 = .ok (.iload_n 1, 1) := by decide +kernel
theorem dX3_passMotion_73 : decode cX3_passMotion 73 = .ok (.if_icmp .eq 29, 3) := by decide +kernel
theorem dX3_passMotion_76 : decode cX3_passMotion 76 = .ok (.aload_n 0, 1) := by decide +kernel
theorem dX3_passMotion_77 : decode cX3_passMotion 77 = .ok (.iload 6, 2) := by decide +kernel
theorem dX3_passMotion_79 : decode cX3_passMotion 79 = .ok (.invokevirtual 50, 3) := by decide +kernel
theorem dX3_passMotion_82 : decode cX3_passMotion 82 = .ok (.ifCond .ne 20, 3) := by decide +kernel
theorem dX3_passMotion_85 : decode cX3_passMotion 85 = .ok (.aload_n 0, 1) := by decide +kernel
theorem dX3_passMotion_86 : decode cX3_passMotion 86 = .ok (.iload 6, 2) := by decide +kernel
theorem dX3_passMotion_88 : decode cX3_passMotion 88 = .ok (.iload_n 1, 1) := by decide +kernel
theorem dX3_passMotion_89 : decode cX3_passMotion 89 = .ok (.invokevirtual 137, 3) := by decide +kernel
theorem dX3_passMotion_92 : decode cX3_passMotion 92 = .ok (.ifCond .eq 10, 3) := by decide +kernel
theorem dX3_passMotion_95 : decode cX3_passMotion 95 = .ok (.aload_n 0, 1) := by decide +kernel
theorem dX3_passMotion_96 : decode cX3_passMotion 96 = .ok (.iload 6, 2) := by decide +kernel
theorem dX3_passMotion_98 : decode cX3_passMotion 98 = .ok (.iconst 3, 1) := by decide +kernel
theorem dX3_passMotion_99 : decode cX3_passMotion 99 = .ok (.invokevirtual 132, 3) := by decide +kernel
theorem dX3_passMotion_102 : decode cX3_passMotion 102 = .ok (.iinc 6 1, 3) := by decide +kernel
theorem dX3_passMotion_105 : decode cX3_passMotion 105 = .ok (.goto (-47), 3) := by decide +kernel
theorem dX3_passMotion_108 : decode cX3_passMotion 108 = .ok (.return_, 1) := by decide +kernel
theorem dX3_passAmendment_0 : decode cX3_passAmendment 0 = .ok (.aload_n 0, 1) := by decide +kernel
theorem dX3_passAmendment_1 : decode cX3_passAmendment 1 = .ok (.getfield 31, 3) := by decide +kernel
theorem dX3_passAmendment_4 : decode cX3_passAmendment 4 = .ok (.getfield 115, 3) := by decide +kernel
theorem dX3_passAmendment_7 : decode cX3_passAmendment 7 = .ok (.iload_n 1, 1) := by decide +kernel
theorem dX3_passAmendment_8 : decode cX3_passAmendment 8 = .ok (.invokestatic 54, 3) := by decide +kernel
theorem dX3_passAmendment_11 : decode cX3_passAmendment 11 = .ok (.istore_n 2, 1) := by decide +kernel
theorem dX3_passAmendment_12 : decode cX3_passAmendment 12 = .ok (.aload_n 0, 1) := by decide +kernel
theorem dX3_passAmendment_13 : decode cX3_passAmendment 13 = .ok (.bipush 100, 2) := by decide +kernel
theorem dX3_passAmendment_15 : decode cX3_passAmendment 15 = .ok (.iload_n 1, 1) := by decide +kernel
theorem dX3_passAmendment_16 : decode cX3_passAmendment 16 = .ok (.iadd, 1) := by decide +kernel
theorem dX3_passAmendment_17 : decode cX3_passAmendment 17 = .ok (.iconst 1, 1) := by decide +kernel
theorem dX3_passAmendment_18 : decode cX3_passAmendment 18 = .ok (.invokevirtual 62, 3) := by decide +kernel
theorem dX3_passAmendment_21 : decode cX3_passAmendment 21 = .ok (.aload_n 0, 1) := by decide +kernel
theorem dX3_passAmendment_22 : decode cX3_passAmendment 22 = .ok (.iload_n 2, 1) := by decide +kernel
theorem dX3_passAmendment_23 : decode cX3_passAmendment 23 = .ok (.iload_n 1, 1) := by decide +kernel
theorem dX3_passAmendment_24 : decode cX3_passAmendment 24 = .ok (.invokevirtual 122, 3) := by decide +kernel
theorem dX3_passAmendment_27 : decode cX3_passAmendment 27 = .ok (.aload_n 0, 1) := by decide +kernel
theorem dX3_passAmendment_28 : decode cX3_passAmendment 28 = .ok (.iload_n 2, 1) := by decide +kernel
theorem dX3_passAmendment_29 : decode cX3_passAmendment 29 = .ok (.invokevirtual 100, 3) := by decide +kernel
theorem dX3_passAmendment_32 : decode cX3_passAmendment 32 = .ok (.ifCond .ne 9, 3) := by decide +kernel
theorem dX3_passAmendment_35 : decode cX3_passAmendment 35 = .ok (.aload_n 0, 1) := by decide +kernel
theorem dX3_passAmendment_36 : decode cX3_passAmendment 36 = .ok (.iload_n 2, 1) := by decide +kernel
theorem dX3_passAmendment_37 : decode cX3_passAmendment 37 = .ok (.iconst 3, 1) := by decide +kernel
theorem dX3_passAmendment_38 : decode cX3_passAmendment 38 = .ok (.invokevirtual 132, 3) := by decide +kernel
theorem dX3_passAmendment_41 : decode cX3_passAmendment 41 = .ok (.return_, 1) := by decide +kernel
theorem dX3_passOrders_0 : decode cX3_passOrders 0 = .ok (.aload_n 0, 1) := by decide +kernel
theorem dX3_passOrders_1 : decode cX3_passOrders 1 = .ok (.sipush 200, 3) := by decide +kernel
theorem dX3_passOrders_4 : decode cX3_passOrders 4 = .ok (.iload_n 1, 1) := by decide +kernel
theorem dX3_passOrders_5 : decode cX3_passOrders 5 = .ok (.iadd, 1) := by decide +kernel
theorem dX3_passOrders_6 : decode cX3_passOrders 6 = .ok (.iconst 1, 1) := by decide +kernel
theorem dX3_passOrders_7 : decode cX3_passOrders 7 = .ok (.invokevirtual 62, 3) := by decide +kernel
theorem dX3_passOrders_10 : decode cX3_passOrders 10 = .ok (.aload_n 0, 1) := by decide +kernel
theorem dX3_passOrders_11 : decode cX3_passOrders 11 = .ok (.iload_n 1, 1) := by decide +kernel
theorem dX3_passOrders_12 : decode cX3_passOrders 12 = .ok (.putfield 27, 3) := by decide +kernel
theorem dX3_passOrders_15 : decode cX3_passOrders 15 = .ok (.return_, 1) := by decide +kernel
theorem dX4_init_0 : decode cX4_init 0 = .ok (.aload_n 0, 1) := by decide +kernel
theorem dX4_init_1 : decode cX4_init 1 = .ok (.invokespecial 3, 3) := by decide +kernel
theorem dX4_init_4 : decode cX4_init 4 = .ok (.aload_n 0, 1) := by decide +kernel
theorem dX4_init_5 : decode cX4_init 5 = .ok (.bipush 12, 2) := by decide +kernel
theorem dX4_init_7 : decode cX4_init 7 = .ok (.newarray .int, 2) := by decide +kernel
theorem dX4_init_9 : decode cX4_init 9 = .ok (.putfield 9, 3) := by decide +kernel
theorem dX4_init_12 : decode cX4_init 12 = .ok (.aload_n 0, 1) := by decide +kernel
theorem dX4_init_13 : decode cX4_init 13 = .ok (.bipush 12, 2) := by decide +kernel
theorem dX4_init_15 : decode cX4_init 15 = .ok (.newarray .int, 2) := by decide +kernel
theorem dX4_init_17 : decode cX4_init 17 = .ok (.putfield 15, 3) := by decide +kernel
theorem dX4_init_20 : decode cX4_init 20 = .ok (.aload_n 0, 1) := by decide +kernel
theorem dX4_init_21 : decode cX4_init 21 = .ok (.aload_n 1, 1) := by decide +kernel
theorem dX4_init_22 : decode cX4_init 22 = .ok (.putfield 18, 3) := by decide +kernel
theorem dX4_init_25 : decode cX4_init 25 = .ok (.return_, 1) := by decide +kernel
theorem dX4_readMotion_0 : decode cX4_readMotion 0 = .ok (.lconst 0, 1) := by decide +kernel
theorem dX4_readMotion_1 : decode cX4_readMotion 1 = .ok (.lstore_n 1, 1) := by decide +kernel
theorem dX4_readMotion_2 : decode cX4_readMotion 2 = .ok (.aload_n 0, 1) := by decide +kernel
theorem dX4_readMotion_3 : decode cX4_readMotion 3 = .ok (.iconst 0, 1) := by decide +kernel
theorem dX4_readMotion_4 : decode cX4_readMotion 4 = .ok (.putfield 22, 3) := by decide +kernel
theorem dX4_readMotion_7 : decode cX4_readMotion 7 = .ok (.aload_n 0, 1) := by decide +kernel
theorem dX4_readMotion_8 : decode cX4_readMotion 8 = .ok (.getfield 18, 3) := by decide +kernel
theorem dX4_readMotion_11 : decode cX4_readMotion 11 = .ok (.invokevirtual 26, 3) := by decide +kernel
theorem dX4_readMotion_14 : decode cX4_readMotion 14 = .ok (.iconst 0, 1) := by decide +kernel
theorem dX4_readMotion_15 : decode cX4_readMotion 15 = .ok (.istore_n 3, 1) := by decide +kernel
theorem dX4_readMotion_16 : decode cX4_readMotion 16 = .ok (.iload_n 3, 1) := by decide +kernel
theorem dX4_readMotion_17 : decode cX4_readMotion 17 = .ok (.bipush 12, 2) := by decide +kernel
theorem dX4_readMotion_19 : decode cX4_readMotion 19 = .ok (.if_icmp .gt 82, 3) := by decide +kernel
theorem dX4_readMotion_22 : decode cX4_readMotion 22 = .ok (.iload_n 3, 1) := by decide +kernel
theorem dX4_readMotion_23 : decode cX4_readMotion 23 = .ok (.ifCond .le 15, 3) := by decide +kernel
theorem dX4_readMotion_26 : decode cX4_readMotion 26 = .ok (.aload_n 0, 1) := by decide +kernel
theorem dX4_readMotion_27 : decode cX4_readMotion 27 = .ok (.getfield 18, 3) := by decide +kernel
theorem dX4_readMotion_30 : decode cX4_readMotion 30 = .ok (.invokevirtual 31, 3) := by decide +kernel
theorem dX4_readMotion_33 : decode cX4_readMotion 33 = .ok (.ifCond .eq 5, 3) := by decide +kernel
theorem dX4_readMotion_36 : decode cX4_readMotion 36 = .ok (.iconst 1, 1) := by decide +kernel
theorem dX4_readMotion_37 : decode cX4_readMotion 37 = .ok (.ireturn, 1) := by decide +kernel
theorem dX4_readMotion_38 : decode cX4_readMotion 38 = .ok (.aload_n 0, 1) := by decide +kernel
theorem dX4_readMotion_39 : decode cX4_readMotion 39 = .ok (.getfield 18, 3) := by decide +kernel
theorem dX4_readMotion_42 : decode cX4_readMotion 42 = .ok (.ldc 35, 2) := by decide +kernel
theorem dX4_readMotion_44 : decode cX4_readMotion 44 = .ok (.invokevirtual 37, 3) := by decide +kernel
theorem dX4_readMotion_47 : decode cX4_readMotion 47 = .ok (.ifCond .ne 12, 3) := by decide +kernel
theorem dX4_readMotion_50 : decode cX4_readMotion 50 = .ok (.aload_n 0, 1) := by decide +kernel
theorem dX4_readMotion_51 : decode cX4_readMotion 51 = .ok (.getfield 18, 3) := by decide +kernel
theorem dX4_readMotion_54 : decode cX4_readMotion 54 = .ok (.iconst 1, 1) := by decide +kernel
theorem dX4_readMotion_55 : decode cX4_readMotion 55 = .ok (.invokevirtual 41, 3) := by decide +kernel
theorem dX4_readMotion_58 : decode cX4_readMotion 58 = .ok (.ireturn, 1) := by decide +kernel
theorem dX4_readMotion_59 : decode cX4_readMotion 59 = .ok (.iload_n 3, 1) := by decide +kernel
theorem dX4_readMotion_60 : decode cX4_readMotion 60 = .ok (.bipush 12, 2) := by decide +kernel
theorem dX4_readMotion_62 : decode cX4_readMotion 62 = .ok (.if_icmp .lt 12, 3) := by decide +kernel
theorem dX4_readMotion_65 : decode cX4_readMotion 65 = .ok (.aload_n 0, 1) := by decide +kernel
theorem dX4_readMotion_66 : decode cX4_readMotion 66 = .ok (.getfield 18, 3) := by decide +kernel
theorem dX4_readMotion_69 : decode cX4_readMotion 69 = .ok (.iconst 4, 1) := by decide +kernel
theorem dX4_readMotion_70 : decode cX4_readMotion 70 = .ok (.invokevirtual 41, 3) := by decide +kernel
theorem dX4_readMotion_73 : decode cX4_readMotion 73 = .ok (.ireturn, 1) := by decide +kernel
theorem dX4_readMotion_74 : decode cX4_readMotion 74 = .ok (.aload_n 0, 1) := by decide +kernel
theorem dX4_readMotion_75 : decode cX4_readMotion 75 = .ok (.lload_n 1, 1) := by decide +kernel
theorem dX4_readMotion_76 : decode cX4_readMotion 76 = .ok (.invokevirtual 45, 3) := by decide +kernel
theorem dX4_readMotion_79 : decode cX4_readMotion 79 = .ok (.istore 4, 2) := by decide +kernel
theorem dX4_readMotion_81 : decode cX4_readMotion 81 = .ok (.iload 4, 2) := by decide +kernel
theorem dX4_readMotion_83 : decode cX4_readMotion 83 = .ok (.ifCond .ne 5, 3) := by decide +kernel
theorem dX4_readMotion_86 : decode cX4_readMotion 86 = .ok (.iconst 0, 1) := by decide +kernel
theorem dX4_readMotion_87 : decode cX4_readMotion 87 = .ok (.ireturn, 1) := by decide +kernel
theorem dX4_readMotion_88 : decode cX4_readMotion 88 = .ok (.lload_n 1, 1) := by decide +kernel
theorem dX4_readMotion_89 : decode cX4_readMotion 89 = .ok (.lconst 1, 1) := by decide +kernel
theorem dX4_readMotion_90 : decode cX4_readMotion 90 = .ok (.iload 4, 2) := by decide +kernel
theorem dX4_readMotion_92 : decode cX4_readMotion 92 = .ok (.lshl, 1) := by decide +kernel
theorem dX4_readMotion_93 : decode cX4_readMotion 93 = .ok (.lor, 1) := by decide +kernel
theorem dX4_readMotion_94 : decode cX4_readMotion 94 = .ok (.lstore_n 1, 1) := by decide +kernel
theorem dX4_readMotion_95 : decode cX4_readMotion 95 = .ok (.iinc 3 1, 3) := by decide +kernel
theorem dX4_readMotion_98 : decode cX4_readMotion 98 = .ok (.goto (-82), 3) := by decide +kernel
theorem dX4_readMotion_101 : decode cX4_readMotion 101 = .ok (.iconst 0, 1) := by decide +kernel
theorem dX4_readMotion_102 : decode cX4_readMotion 102 = .ok (.ireturn, 1) := by decide +kernel
theorem dX4_readLine_0 : decode cX4_readLine 0 = .ok (.aload_n 0, 1) := by decide +kernel
theorem dX4_readLine_1 : decode cX4_readLine 1 = .ok (.getfield 18, 3) := by decide +kernel
theorem dX4_readLine_4 : decode cX4_readLine 4 = .ok (.invokevirtual 49, 3) := by decide +kernel
theorem dX4_readLine_7 : decode cX4_readLine 7 = .ok (.aload_n 0, 1) := by decide +kernel
theorem dX4_readLine_8 : decode cX4_readLine 8 = .ok (.ldc 52, 2) := by decide +kernel
theorem dX4_readLine_10 : decode cX4_readLine 10 = .ok (.invokevirtual 54, 3) := by decide +kernel
theorem dX4_readLine_13 : decode cX4_readLine 13 = .ok (.istore_n 3, 1) := by decide +kernel
theorem dX4_readLine_14 : decode cX4_readLine 14 = .ok (.aload_n 0, 1) := by decide +kernel
theorem dX4_readLine_15 : decode cX4_readLine 15 = .ok (.getfield 18, 3) := by decide +kernel
theorem dX4_readLine_18 : decode cX4_readLine 18 = .ok (.bipush 60, 2) := by decide +kernel
theorem dX4_readLine_20 : decode cX4_readLine 20 = .ok (.lload_n 1, 1) := by decide +kernel
theorem dX4_readLine_21 : decode cX4_readLine 21 = .ok (.invokevirtual 57, 3) := by decide +kernel
theorem dX4_readLine_24 : decode cX4_readLine 24 = .ok (.istore 4, 2) := by decide +kernel
theorem dX4_readLine_26 : decode cX4_readLine 26 = .ok (.iload 4, 2) := by decide +kernel
theorem dX4_readLine_28 : decode cX4_readLine 28 = .ok (.ifCond .ne 5, 3) := by decide +kernel
theorem dX4_readLine_31 : decode cX4_readLine 31 = .ok (.iconst 0, 1) := by decide +kernel
theorem dX4_readLine_32 : decode cX4_readLine 32 = .ok (.ireturn, 1) := by decide +kernel
theorem dX4_readLine_33 : decode cX4_readLine 33 = .ok (.aload_n 0, 1) := by decide +kernel
theorem dX4_readLine_34 : decode cX4_readLine 34 = .ok (.ldc 61, 2) := by decide +kernel
theorem dX4_readLine_36 : decode cX4_readLine 36 = .ok (.invokevirtual 54, 3) := by decide +kernel
theorem dX4_readLine_39 : decode cX4_readLine 39 = .ok (.ifCond .eq 7, 3) := by decide +kernel
theorem dX4_readLine_42 : decode cX4_readLine 42 = .ok (.iconst 1, 1) := by decide +kernel
theorem dX4_readLine_43 : decode cX4_readLine 43 = .ok (.goto 4, 3) := by decide +kernel
theorem dX4_readLine_46 : decode cX4_readLine 46 = .ok (.iconst 0, 1) := by decide +kernel
theorem dX4_readLine_47 : decode cX4_readLine 47 = .ok (.istore 5, 2) := by decide +kernel
theorem dX4_readLine_49 : decode cX4_readLine 49 = .ok (.aload_n 0, 1) := by decide +kernel
theorem dX4_readLine_50 : decode cX4_readLine 50 = .ok (.iload_n 3, 1) := by decide +kernel
theorem dX4_readLine_51 : decode cX4_readLine 51 = .ok (.ifCond .eq 9, 3) := by decide +kernel
theorem dX4_readLine_54 : decode cX4_readLine 54 = .ok (.iload 4, 2) := by decide +kernel
theorem dX4_readLine_56 : decode cX4_readLine 56 = .ok (.ineg, 1) := by decide +kernel
theorem dX4_readLine_57 : decode cX4_readLine 57 = .ok (.goto 5, 3) := by decide +kernel
theorem dX4_readLine_60 : decode cX4_readLine 60 = .ok (.iload 4, 2) := by decide +kernel
theorem dX4_readLine_62 : decode cX4_readLine 62 = .ok (.iload 5, 2) := by decide +kernel
theorem dX4_readLine_64 : decode cX4_readLine 64 = .ok (.invokevirtual 63, 3) := by decide +kernel
theorem dX4_readLine_67 : decode cX4_readLine 67 = .ok (.aload_n 0, 1) := by decide +kernel
theorem dX4_readLine_68 : decode cX4_readLine 68 = .ok (.getfield 18, 3) := by decide +kernel
theorem dX4_readLine_71 : decode cX4_readLine 71 = .ok (.bipush 59, 2) := by decide +kernel
theorem dX4_readLine_73 : decode cX4_readLine 73 = .ok (.invokevirtual 67, 3) := by decide +kernel
theorem dX4_readLine_76 : decode cX4_readLine 76 = .ok (.ifCond .eq 8, 3) := by decide +kernel
theorem dX4_readLine_79 : decode cX4_readLine 79 = .ok (.iload 4, 2) := by decide +kernel
theorem dX4_readLine_81 : decode cX4_readLine 81 = .ok (.goto 4, 3) := by decide +kernel
theorem dX4_readLine_84 : decode cX4_readLine 84 = .ok (.iconst 0, 1) := by decide +kernel
theorem dX4_readLine_85 : decode cX4_readLine 85 = .ok (.ireturn, 1) := by decide +kernel
theorem dX4_readAmendment_0 : decode cX4_readAmendment 0 = .ok (.aload_n 0, 1) := by decide +kernel
theorem dX4_readAmendment_1 : decode cX4_readAmendment 1 = .ok (.iconst 0, 1) := by decide +kernel
theorem dX4_readAmendment_2 : decode cX4_readAmendment 2 = .ok (.putfield 22, 3) := by decide +kernel
theorem dX4_readAmendment_5 : decode cX4_readAmendment 5 = .ok (.aload_n 0, 1) := by decide +kernel
theorem dX4_readAmendment_6 : decode cX4_readAmendment 6 = .ok (.getfield 18, 3) := by decide +kernel
theorem dX4_readAmendment_9 : decode cX4_readAmendment 9 = .ok (.invokevirtual 26, 3) := by decide +kernel
theorem dX4_readAmendment_12 : decode cX4_readAmendment 12 = .ok (.iconst 0, 1) := by decide +kernel
theorem dX4_readAmendment_13 : decode cX4_readAmendment 13 = .ok (.istore_n 1, 1) := by decide +kernel
theorem dX4_readAmendment_14 : decode cX4_readAmendment 14 = .ok (.iload_n 1, 1) := by decide +kernel
theorem dX4_readAmendment_15 : decode cX4_readAmendment 15 = .ok (.bipush 6, 2) := by decide +kernel
theorem dX4_readAmendment_17 : decode cX4_readAmendment 17 = .ok (.if_icmp .gt 114, 3) := by decide +kernel
theorem dX4_readAmendment_20 : decode cX4_readAmendment 20 = .ok (.iload_n 1, 1) := by decide +kernel
theorem dX4_readAmendment_21 : decode cX4_readAmendment 21 = .ok (.ifCond .le 15, 3) := by decide +kernel
theorem dX4_readAmendment_24 : decode cX4_readAmendment 24 = .ok (.aload_n 0, 1) := by decide +kernel
theorem dX4_readAmendment_25 : decode cX4_readAmendment 25 = .ok (.getfield 18, 3) := by decide +kernel
theorem dX4_readAmendment_28 : decode cX4_readAmendment 28 = .ok (.invokevirtual 31, 3) := by decide +kernel
theorem dX4_readAmendment_31 : decode cX4_readAmendment 31 = .ok (.ifCond .eq 5, 3) := by decide +kernel
theorem dX4_readAmendment_34 : decode cX4_readAmendment 34 = .ok (.iconst 1, 1) := by decide +kernel
theorem dX4_readAmendment_35 : decode cX4_readAmendment 35 = .ok (.ireturn, 1) := by decide +kernel
theorem dX4_readAmendment_36 : decode cX4_readAmendment 36 = .ok (.aload_n 0, 1) := by decide +kernel
theorem dX4_readAmendment_37 : decode cX4_readAmendment 37 = .ok (.getfield 18, 3) := by decide +kernel
theorem dX4_readAmendment_40 : decode cX4_readAmendment 40 = .ok (.ldc 71, 2) := by decide +kernel
theorem dX4_readAmendment_42 : decode cX4_readAmendment 42 = .ok (.invokevirtual 37, 3) := by decide +kernel
theorem dX4_readAmendment_45 : decode cX4_readAmendment 45 = .ok (.ifCond .eq 7, 3) := by decide +kernel
theorem dX4_readAmendment_48 : decode cX4_readAmendment 48 = .ok (.iconst 0, 1) := by decide +kernel
theorem dX4_readAmendment_49 : decode cX4_readAmendment 49 = .ok (.goto 36, 3) := by decide +kernel
theorem dX4_readAmendment_52 : decode cX4_readAmendment 52 = .ok (.aload_n 0, 1) := by decide +kernel
theorem dX4_readAmendment_53 : decode cX4_readAmendment 53 = .ok (.getfield 18, 3) := by decide +kernel
theorem dX4_readAmendment_56 : decode cX4_readAmendment 56 = .ok (.ldc 73, 2) := by decide +kernel
theorem dX4_readAmendment_58 : decode cX4_readAmendment 58 = .ok (.invokevirtual 37, 3) := by decide +kernel
theorem dX4_readAmendment_61 : decode cX4_readAmendment 61 = .ok (.ifCond .eq 7, 3) := by decide +kernel
theorem dX4_readAmendment_64 : decode cX4_readAmendment 64 = .ok (.iconst 1, 1) := by decide +kernel
theorem dX4_readAmendment_65 : decode cX4_readAmendment 65 = .ok (.goto 20, 3) := by decide +kernel
theorem dX4_readAmendment_68 : decode cX4_readAmendment 68 = .ok (.aload_n 0, 1) := by decide +kernel
theorem dX4_readAmendment_69 : decode cX4_readAmendment 69 = .ok (.getfield 18, 3) := by decide +kernel
theorem dX4_readAmendment_72 : decode cX4_readAmendment 72 = .ok (.ldc 75, 2) := by decide +kernel
theorem dX4_readAmendment_74 : decode cX4_readAmendment 74 = .ok (.invokevirtual 37, 3) := by decide +kernel
theorem dX4_readAmendment_77 : decode cX4_readAmendment 77 = .ok (.ifCond .eq 7, 3) := by decide +kernel
theorem dX4_readAmendment_80 : decode cX4_readAmendment 80 = .ok (.iconst 2, 1) := by decide +kernel
theorem dX4_readAmendment_81 : decode cX4_readAmendment 81 = .ok (.goto 4, 3) := by decide +kernel
theorem dX4_readAmendment_84 : decode cX4_readAmendment 84 = .ok (.iconst (-1), 1) := by decide +kernel
theorem dX4_readAmendment_85 : decode cX4_readAmendment 85 = .ok (.istore_n 2, 1) := by decide +kernel
theorem dX4_readAmendment_86 : decode cX4_readAmendment 86 = .ok (.iload_n 2, 1) := by decide +kernel
theorem dX4_readAmendment_87 : decode cX4_readAmendment 87 = .ok (.iconst (-1), 1) := by decide +kernel
theorem dX4_readAmendment_88 : decode cX4_readAmendment 88 = .ok (.if_icmp .ne 12, 3) := by decide +kernel
theorem dX4_readAmendment_91 : decode cX4_readAmendment 91 = .ok (.aload_n 0, 1) := by decide +kernel
theorem dX4_readAmendment_92 : decode cX4_readAmendment 92 = .ok (.getfield 18, 3) := by decide +kernel
theorem dX4_readAmendment_95 : decode cX4_readAmendment 95 = .ok (.iconst 1, 1) := by decide +kernel
theorem dX4_readAmendment_96 : decode cX4_readAmendment 96 = .ok (.invokevirtual 41, 3) := by decide +kernel
theorem dX4_readAmendment_99 : decode cX4_readAmendment 99 = .ok (.ireturn, 1) := by decide +kernel
theorem dX4_readAmendment_100 : decode cX4_readAmendment 100 = .ok (.iload_n 1, 1) := by decide +kernel
theorem dX4_readAmendment_101 : decode cX4_readAmendment 101 = .ok (.bipush 6, 2) := by decide +kernel
theorem dX4_readAmendment_103 : decode cX4_readAmendment 103 = .ok (.if_icmp .lt 12, 3) := by decide +kernel
theorem dX4_readAmendment_106 : decode cX4_readAmendment 106 = .ok (.aload_n 0, 1) := by decide +kernel
theorem dX4_readAmendment_107 : decode cX4_readAmendment 107 = .ok (.getfield 18, 3) := by decide +kernel
theorem dX4_readAmendment_110 : decode cX4_readAmendment 110 = .ok (.iconst 4, 1) := by decide +kernel
theorem dX4_readAmendment_111 : decode cX4_readAmendment 111 = .ok (.invokevirtual 41, 3) := by decide +kernel
theorem dX4_readAmendment_114 : decode cX4_readAmendment 114 = .ok (.ireturn, 1) := by decide +kernel
theorem dX4_readAmendment_115 : decode cX4_readAmendment 115 = .ok (.aload_n 0, 1) := by decide +kernel
theorem dX4_readAmendment_116 : decode cX4_readAmendment 116 = .ok (.iload_n 2, 1) := by decide +kernel
theorem dX4_readAmendment_117 : decode cX4_readAmendment 117 = .ok (.invokevirtual 77, 3) := by decide +kernel
theorem dX4_readAmendment_120 : decode cX4_readAmendment 120 = .ok (.ifCond .ne 5, 3) := by decide +kernel
theorem dX4_readAmendment_123 : decode cX4_readAmendment 123 = .ok (.iconst 0, 1) := by decide +kernel
theorem dX4_readAmendment_124 : decode cX4_readAmendment 124 = .ok (.ireturn, 1) := by decide +kernel
theorem dX4_readAmendment_125 : decode cX4_readAmendment 125 = .ok (.iinc 1 1, 3) := by decide +kernel
theorem dX4_readAmendment_128 : decode cX4_readAmendment 128 = .ok (.goto (-114), 3) := by decide +kernel
theorem dX4_readAmendment_131 : decode cX4_readAmendment 131 = .ok (.iconst 0, 1) := by decide +kernel
theorem dX4_readAmendment_132 : decode cX4_readAmendment 132 = .ok (.ireturn, 1) := by decide +kernel
theorem dX4_readChange_0 : decode cX4_readChange 0 = .ok (.aload_n 0, 1) := by decide +kernel
theorem dX4_readChange_1 : decode cX4_readChange 1 = .ok (.getfield 18, 3) := by decide +kernel
theorem dX4_readChange_4 : decode cX4_readChange 4 = .ok (.invokevirtual 49, 3) := by decide +kernel
theorem dX4_readChange_7 : decode cX4_readChange 7 = .ok (.iload_n 1, 1) := by decide +kernel
theorem dX4_readChange_8 : decode cX4_readChange 8 = .ok (.iconst 1, 1) := by decide +kernel
theorem dX4_readChange_9 : decode cX4_readChange 9 = .ok (.if_icmp .ne 16, 3) := by decide +kernel
theorem dX4_readChange_12 : decode cX4_readChange 12 = .ok (.aload_n 0, 1) := by decide +kernel
theorem dX4_readChange_13 : decode cX4_readChange 13 = .ok (.ldc 52, 2) := by decide +kernel
theorem dX4_readChange_15 : decode cX4_readChange 15 = .ok (.invokevirtual 54, 3) := by decide +kernel
theorem dX4_readChange_18 : decode cX4_readChange 18 = .ok (.ifCond .eq 7, 3) := by decide +kernel
theorem dX4_readChange_21 : decode cX4_readChange 21 = .ok (.iconst 1, 1) := by decide +kernel
theorem dX4_readChange_22 : decode cX4_readChange 22 = .ok (.goto 4, 3) := by decide +kernel
theorem dX4_readChange_25 : decode cX4_readChange 25 = .ok (.iconst 0, 1) := by decide +kernel
theorem dX4_readChange_26 : decode cX4_readChange 26 = .ok (.istore_n 2, 1) := by decide +kernel
theorem dX4_readChange_27 : decode cX4_readChange 27 = .ok (.aload_n 0, 1) := by decide +kernel
theorem dX4_readChange_28 : decode cX4_readChange 28 = .ok (.getfield 18, 3) := by decide +kernel
theorem dX4_readChange_31 : decode cX4_readChange 31 = .ok (.bipush 60, 2) := by decide +kernel
theorem dX4_readChange_33 : decode cX4_readChange 33 = .ok (.lconst 0, 1) := by decide +kernel
theorem dX4_readChange_34 : decode cX4_readChange 34 = .ok (.invokevirtual 57, 3) := by decide +kernel
theorem dX4_readChange_37 : decode cX4_readChange 37 = .ok (.istore_n 3, 1) := by decide +kernel
theorem dX4_readChange_38 : decode cX4_readChange 38 = .ok (.iload_n 3, 1) := by decide +kernel
theorem dX4_readChange_39 : decode cX4_readChange 39 = .ok (.ifCond .ne 5, 3) := by decide +kernel
theorem dX4_readChange_42 : decode cX4_readChange 42 = .ok (.iconst 0, 1) := by decide +kernel
theorem dX4_readChange_43 : decode cX4_readChange 43 = .ok (.ireturn, 1) := by decide +kernel
theorem dX4_readChange_44 : decode cX4_readChange 44 = .ok (.aload_n 0, 1) := by decide +kernel
theorem dX4_readChange_45 : decode cX4_readChange 45 = .ok (.iload_n 2, 1) := by decide +kernel
theorem dX4_readChange_46 : decode cX4_readChange 46 = .ok (.ifCond .eq 8, 3) := by decide +kernel
theorem dX4_readChange_49 : decode cX4_readChange 49 = .ok (.iload_n 3, 1) := by decide +kernel
theorem dX4_readChange_50 : decode cX4_readChange 50 = .ok (.ineg, 1) := by decide +kernel
theorem dX4_readChange_51 : decode cX4_readChange 51 = .ok (.goto 4, 3) := by decide +kernel
theorem dX4_readChange_54 : decode cX4_readChange 54 = .ok (.iload_n 3, 1) := by decide +kernel
theorem dX4_readChange_55 : decode cX4_readChange 55 = .ok (.iload_n 1, 1) := by decide +kernel
theorem dX4_readChange_56 : decode cX4_readChange 56 = .ok (.invokevirtual 63, 3) := by decide +kernel
theorem dX4_readChange_59 : decode cX4_readChange 59 = .ok (.aload_n 0, 1) := by decide +kernel
theorem dX4_readChange_60 : decode cX4_readChange 60 = .ok (.getfield 18, 3) := by decide +kernel
theorem dX4_readChange_63 : decode cX4_readChange 63 = .ok (.bipush 59, 2) := by decide +kernel
theorem dX4_readChange_65 : decode cX4_readChange 65 = .ok (.invokevirtual 67, 3) := by decide +kernel
theorem dX4_readChange_68 : decode cX4_readChange 68 = .ok (.ireturn, 1) := by decide +kernel
theorem dX4_takeWord_0 : decode cX4_takeWord 0 = .ok (.aload_n 0, 1) := by decide +kernel
theorem dX4_takeWord_1 : decode cX4_takeWord 1 = .ok (.getfield 18, 3) := by decide +kernel
theorem dX4_takeWord_4 : decode cX4_takeWord 4 = .ok (.aload_n 1, 1) := by decide +kernel
theorem dX4_takeWord_5 : decode cX4_takeWord 5 = .ok (.invokevirtual 37, 3) := by decide +kernel
theorem dX4_takeWord_8 : decode cX4_takeWord 8 = .ok (.istore_n 2, 1) := by decide +kernel
theorem dX4_takeWord_9 : decode cX4_takeWord 9 = .ok (.iload_n 2, 1) := by decide +kernel
theorem dX4_takeWord_10 : decode cX4_takeWord 10 = .ok (.ifCond .eq 10, 3) := by decide +kernel
theorem dX4_takeWord_13 : decode cX4_takeWord 13 = .ok (.aload_n 0, 1) := by decide +kernel
theorem dX4_takeWord_14 : decode cX4_takeWord 14 = .ok (.getfield 18, 3) := by decide +kernel
theorem dX4_takeWord_17 : decode cX4_takeWord 17 = .ok (.invokevirtual 49, 3) := by decide +kernel
theorem dX4_takeWord_20 : decode cX4_takeWord 20 = .ok (.iload_n 2, 1) := by decide +kernel
theorem dX4_takeWord_21 : decode cX4_takeWord 21 = .ok (.ireturn, 1) := by decide +kernel
theorem dX4_keep_0 : decode cX4_keep 0 = .ok (.aload_n 0, 1) := by decide +kernel
theorem dX4_keep_1 : decode cX4_keep 1 = .ok (.getfield 22, 3) := by decide +kernel
theorem dX4_keep_4 : decode cX4_keep 4 = .ok (.bipush 12, 2) := by decide +kernel
theorem dX4_keep_6 : decode cX4_keep 6 = .ok (.if_icmp .ge 37, 3) := by decide +kernel
theorem dX4_keep_9 : decode cX4_keep 9 = .ok (.aload_n 0, 1) := by decide +kernel
theorem dX4_keep_10 : decode cX4_keep 10 = .ok (.getfield 9, 3) := by decide +kernel
theorem dX4_keep_13 : decode cX4_keep 13 = .ok (.aload_n 0, 1) := by decide +kernel
theorem dX4_keep_14 : decode cX4_keep 14 = .ok (.getfield 22, 3) := by decide +kernel
theorem dX4_keep_17 : decode cX4_keep 17 = .ok (.iload_n 1, 1) := by decide +kernel
theorem dX4_keep_18 : decode cX4_keep 18 = .ok (.invokestatic 80, 3) := by decide +kernel
theorem dX4_keep_21 : decode cX4_keep 21 = .ok (.aload_n 0, 1) := by decide +kernel
theorem dX4_keep_22 : decode cX4_keep 22 = .ok (.getfield 15, 3) := by decide +kernel
theorem dX4_keep_25 : decode cX4_keep 25 = .ok (.aload_n 0, 1) := by decide +kernel
theorem dX4_keep_26 : decode cX4_keep 26 = .ok (.getfield 22, 3) := by decide +kernel
theorem dX4_keep_29 : decode cX4_keep 29 = .ok (.iload_n 2, 1) := by decide +kernel
theorem dX4_keep_30 : decode cX4_keep 30 = .ok (.invokestatic 80, 3) := by decide +kernel
theorem dX4_keep_33 : decode cX4_keep 33 = .ok (.aload_n 0, 1) := by decide +kernel
theorem dX4_keep_34 : decode cX4_keep 34 = .ok (.dup, 1) := by decide +kernel
theorem dX4_keep_35 : decode cX4_keep 35 = .ok (.getfield 22, 3) := by decide +kernel
theorem dX4_keep_38 : decode cX4_keep 38 = .ok (.iconst 1, 1) := by decide +kernel
theorem dX4_keep_39 : decode cX4_keep 39 = .ok (.iadd, 1) := by decide +kernel
theorem dX4_keep_40 : decode cX4_keep 40 = .ok (.putfield 22, 3) := by decide +kernel
theorem dX4_keep_43 : decode cX4_keep 43 = .ok (.return_, 1) := by decide +kernel
theorem dX5_init_0 : decode cX5_init 0 = .ok (.aload_n 0, 1) := by decide +kernel
theorem dX5_init_1 : decode cX5_init 1 = .ok (.invokespecial 3, 3) := by decide +kernel
theorem dX5_init_4 : decode cX5_init 4 = .ok (.aload_n 0, 1) := by decide +kernel
theorem dX5_init_5 : decode cX5_init 5 = .ok (.aload_n 1, 1) := by decide +kernel
theorem dX5_init_6 : decode cX5_init 6 = .ok (.putfield 9, 3) := by decide +kernel
theorem dX5_init_9 : decode cX5_init 9 = .ok (.aload_n 0, 1) := by decide +kernel
theorem dX5_init_10 : decode cX5_init 10 = .ok (.aload_n 2, 1) := by decide +kernel
theorem dX5_init_11 : decode cX5_init 11 = .ok (.putfield 15, 3) := by decide +kernel
theorem dX5_init_14 : decode cX5_init 14 = .ok (.return_, 1) := by decide +kernel
theorem dX5_read_0 : decode cX5_read 0 = .ok (.aload_n 0, 1) := by decide +kernel
theorem dX5_read_1 : decode cX5_read 1 = .ok (.aload_n 1, 1) := by decide +kernel
theorem dX5_read_2 : decode cX5_read 2 = .ok (.putfield 15, 3) := by decide +kernel
theorem dX5_read_5 : decode cX5_read 5 = .ok (.aload_n 0, 1) := by decide +kernel
theorem dX5_read_6 : decode cX5_read 6 = .ok (.getfield 15, 3) := by decide +kernel
theorem dX5_read_9 : decode cX5_read 9 = .ok (.invokevirtual 19, 3) := by decide +kernel
theorem dX5_read_12 : decode cX5_read 12 = .ok (.aload_n 0, 1) := by decide +kernel
theorem dX5_read_13 : decode cX5_read 13 = .ok (.getfield 9, 3) := by decide +kernel
theorem dX5_read_16 : decode cX5_read 16 = .ok (.invokevirtual 24, 3) := by decide +kernel
theorem dX5_read_19 : decode cX5_read 19 = .ok (.iconst 0, 1) := by decide +kernel
theorem dX5_read_20 : decode cX5_read 20 = .ok (.istore_n 2, 1) := by decide +kernel
theorem dX5_read_21 : decode cX5_read 21 = .ok (.iload_n 2, 1) := by decide +kernel
theorem dX5_read_22 : decode cX5_read 22 = .ok (.bipush 15, 2) := by decide +kernel
theorem dX5_read_24 : decode cX5_read 24 = .ok (.if_icmp .gt 31, 3) := by decide +kernel
theorem dX5_read_27 : decode cX5_read 27 = .ok (.aload_n 0, 1) := by decide +kernel
theorem dX5_read_28 : decode cX5_read 28 = .ok (.getfield 9, 3) := by decide +kernel
theorem dX5_read_31 : decode cX5_read 31 = .ok (.invokevirtual 29, 3) := by decide +kernel
theorem dX5_read_34 : decode cX5_read 34 = .ok (.ifCond .eq 5, 3) := by decide +kernel
theorem dX5_read_37 : decode cX5_read 37 = .ok (.iconst 1, 1) := by decide +kernel
theorem dX5_read_38 : decode cX5_read 38 = .ok (.ireturn, 1) := by decide +kernel
theorem dX5_read_39 : decode cX5_read 39 = .ok (.aload_n 0, 1) := by decide +kernel
theorem dX5_read_40 : decode cX5_read 40 = .ok (.iload_n 2, 1) := by decide +kernel
theorem dX5_read_41 : decode cX5_read 41 = .ok (.invokevirtual 33, 3) := by decide +kernel
theorem dX5_read_44 : decode cX5_read 44 = .ok (.ifCond .ne 5, 3) := by decide +kernel
theorem dX5_read_47 : decode cX5_read 47 = .ok (.iconst 0, 1) := by decide +kernel
theorem dX5_read_48 : decode cX5_read 48 = .ok (.ireturn, 1) := by decide +kernel
theorem dX5_read_49 : decode cX5_read 49 = .ok (.iinc 2 1, 3) := by decide +kernel
theorem dX5_read_52 : decode cX5_read 52 = .ok (.goto (-31), 3) := by decide +kernel
theorem dX5_read_55 : decode cX5_read 55 = .ok (.iconst 0, 1) := by decide +kernel
theorem dX5_read_56 : decode cX5_read 56 = .ok (.ireturn, 1) := by decide +kernel
theorem dX5_readClause_0 : decode cX5_readClause 0 = .ok (.aload_n 0, 1) := by decide +kernel
theorem dX5_readClause_1 : decode cX5_readClause 1 = .ok (.invokevirtual 37, 3) := by decide +kernel
theorem dX5_readClause_4 : decode cX5_readClause 4 = .ok (.istore_n 2, 1) := by decide +kernel
theorem dX5_readClause_5 : decode cX5_readClause 5 = .ok (.iload_n 2, 1) := by decide +kernel
theorem dX5_readClause_6 : decode cX5_readClause 6 = .ok (.iconst (-1), 1) := by decide +kernel
theorem dX5_readClause_7 : decode cX5_readClause 7 = .ok (.if_icmp .ne 12, 3) := by decide +kernel
theorem dX5_readClause_10 : decode cX5_readClause 10 = .ok (.aload_n 0, 1) := by decide +kernel
theorem dX5_readClause_11 : decode cX5_readClause 11 = .ok (.getfield 9, 3) := by decide +kernel
theorem dX5_readClause_14 : decode cX5_readClause 14 = .ok (.iconst 1, 1) := by decide +kernel
theorem dX5_readClause_15 : decode cX5_readClause 15 = .ok (.invokevirtual 41, 3) := by decide +kernel
theorem dX5_readClause_18 : decode cX5_readClause 18 = .ok (.ireturn, 1) := by decide +kernel
theorem dX5_readClause_19 : decode cX5_readClause 19 = .ok (.iload_n 1, 1) := by decide +kernel
theorem dX5_readClause_20 : decode cX5_readClause 20 = .ok (.bipush 15, 2) := by decide +kernel
theorem dX5_readClause_22 : decode cX5_readClause 22 = .ok (.if_icmp .lt 12, 3) := by decide +kernel
theorem dX5_readClause_25 : decode cX5_readClause 25 = .ok (.aload_n 0, 1) := by decide +kernel
theorem dX5_readClause_26 : decode cX5_readClause 26 = .ok (.getfield 9, 3) := by decide +kernel
theorem dX5_readClause_29 : decode cX5_readClause 29 = .ok (.iconst 4, 1) := by decide +kernel
theorem dX5_readClause_30 : decode cX5_readClause 30 = .ok (.invokevirtual 41, 3) := by decide +kernel
theorem dX5_readClause_33 : decode cX5_readClause 33 = .ok (.ireturn, 1) := by decide +kernel
theorem dX5_readClause_34 : decode cX5_readClause 34 = .ok (.aload_n 0, 1) := by decide +kernel
theorem dX5_readClause_35 : decode cX5_readClause 35 = .ok (.getfield 9, 3) := by decide +kernel
theorem dX5_readClause_38 : decode cX5_readClause 38 = .ok (.invokevirtual 44, 3) := by decide +kernel
theorem dX5_readClause_41 : decode cX5_readClause 41 = .ok (.iconst 1, 1) := by decide +kernel
theorem dX5_readClause_42 : decode cX5_readClause 42 = .ok (.istore_n 3, 1) := by decide +kernel
theorem dX5_readClause_43 : decode cX5_readClause 43 = .ok (.iload_n 2, 1) := by decide +kernel
theorem dX5_readClause_44 : decode cX5_readClause 44 = .ok (.tableswitch 174 0 5 #[40, 76, 101, 138, 174, 40], 40) := by decide +kernel
theorem dX5_readClause_84 : decode cX5_readClause 84 = .ok (.aload_n 0, 1) := by decide +kernel
theorem dX5_readClause_85 : decode cX5_readClause 85 = .ok (.iload_n 2, 1) := by decide +kernel
theorem dX5_readClause_86 : decode cX5_readClause 86 = .ok (.invokevirtual 47, 3) := by decide +kernel
theorem dX5_readClause_89 : decode cX5_readClause 89 = .ok (.ifCond .eq 15, 3) := by decide +kernel
theorem dX5_readClause_92 : decode cX5_readClause 92 = .ok (.aload_n 0, 1) := by decide +kernel
theorem dX5_readClause_93 : decode cX5_readClause 93 = .ok (.iconst 0, 1) := by decide +kernel
theorem dX5_readClause_94 : decode cX5_readClause 94 = .ok (.invokevirtual 50, 3) := by decide +kernel
theorem dX5_readClause_97 : decode cX5_readClause 97 = .ok (.ifCond .eq 7, 3) := by decide +kernel
theorem dX5_readClause_100 : decode cX5_readClause 100 = .ok (.iconst 1, 1) := by decide +kernel
theorem dX5_readClause_101 : decode cX5_readClause 101 = .ok (.goto 4, 3) := by decide +kernel
theorem dX5_readClause_104 : decode cX5_readClause 104 = .ok (.iconst 0, 1) := by decide +kernel
theorem dX5_readClause_105 : decode cX5_readClause 105 = .ok (.istore_n 3, 1) := by decide +kernel
theorem dX5_readClause_106 : decode cX5_readClause 106 = .ok (.aload_n 0, 1) := by decide +kernel
theorem dX5_readClause_107 : decode cX5_readClause 107 = .ok (.getfield 15, 3) := by decide +kernel
theorem dX5_readClause_110 : decode cX5_readClause 110 = .ok (.aload_n 0, 1) := by decide +kernel
theorem dX5_readClause_111 : decode cX5_readClause 111 = .ok (.getfield 53, 3) := by decide +kernel
theorem dX5_readClause_114 : decode cX5_readClause 114 = .ok (.invokevirtual 57, 3) := by decide +kernel
theorem dX5_readClause_117 : decode cX5_readClause 117 = .ok (.goto 109, 3) := by decide +kernel
theorem dX5_readClause_120 : decode cX5_readClause 120 = .ok (.aload_n 0, 1) := by decide +kernel
theorem dX5_readClause_121 : decode cX5_readClause 121 = .ok (.iconst 3, 1) := by decide +kernel
theorem dX5_readClause_122 : decode cX5_readClause 122 = .ok (.invokevirtual 61, 3) := by decide +kernel
theorem dX5_readClause_125 : decode cX5_readClause 125 = .ok (.aload_n 0, 1) := by decide +kernel
theorem dX5_readClause_126 : decode cX5_readClause 126 = .ok (.iconst 0, 1) := by decide +kernel
theorem dX5_readClause_127 : decode cX5_readClause 127 = .ok (.invokevirtual 64, 3) := by decide +kernel
theorem dX5_readClause_130 : decode cX5_readClause 130 = .ok (.istore_n 3, 1) := by decide +kernel
theorem dX5_readClause_131 : decode cX5_readClause 131 = .ok (.aload_n 0, 1) := by decide +kernel
theorem dX5_readClause_132 : decode cX5_readClause 132 = .ok (.getfield 15, 3) := by decide +kernel
theorem dX5_readClause_135 : decode cX5_readClause 135 = .ok (.aload_n 0, 1) := by decide +kernel
theorem dX5_readClause_136 : decode cX5_readClause 136 = .ok (.getfield 53, 3) := by decide +kernel
theorem dX5_readClause_139 : decode cX5_readClause 139 = .ok (.invokevirtual 57, 3) := by decide +kernel
theorem dX5_readClause_142 : decode cX5_readClause 142 = .ok (.goto 84, 3) := by decide +kernel
theorem dX5_readClause_145 : decode cX5_readClause 145 = .ok (.aload_n 0, 1) := by decide +kernel
theorem dX5_readClause_146 : decode cX5_readClause 146 = .ok (.getfield 15, 3) := by decide +kernel
theorem dX5_readClause_149 : decode cX5_readClause 149 = .ok (.aload_n 0, 1) := by decide +kernel
theorem dX5_readClause_150 : decode cX5_readClause 150 = .ok (.getfield 9, 3) := by decide +kernel
theorem dX5_readClause_153 : decode cX5_readClause 153 = .ok (.sipush 999, 3) := by decide +kernel
theorem dX5_readClause_156 : decode cX5_readClause 156 = .ok (.lconst 0, 1) := by decide +kernel
theorem dX5_readClause_157 : decode cX5_readClause 157 = .ok (.invokevirtual 67, 3) := by decide +kernel
theorem dX5_readClause_160 : decode cX5_readClause 160 = .ok (.putfield 71, 3) := by decide +kernel
theorem dX5_readClause_163 : decode cX5_readClause 163 = .ok (.aload_n 0, 1) := by decide +kernel
theorem dX5_readClause_164 : decode cX5_readClause 164 = .ok (.getfield 15, 3) := by decide +kernel
theorem dX5_readClause_167 : decode cX5_readClause 167 = .ok (.getfield 71, 3) := by decide +kernel
theorem dX5_readClause_170 : decode cX5_readClause 170 = .ok (.ifCond .le 7, 3) := by decide +kernel
theorem dX5_readClause_173 : decode cX5_readClause 173 = .ok (.iconst 1, 1) := by decide +kernel
theorem dX5_readClause_174 : decode cX5_readClause 174 = .ok (.goto 4, 3) := by decide +kernel
theorem dX5_readClause_177 : decode cX5_readClause 177 = .ok (.iconst 0, 1) := by decide +kernel
theorem dX5_readClause_178 : decode cX5_readClause 178 = .ok (.istore_n 3, 1) := by decide +kernel
theorem dX5_readClause_179 : decode cX5_readClause 179 = .ok (.goto 47, 3) := by decide +kernel
theorem dX5_readClause_182 : decode cX5_readClause 182 = .ok (.aload_n 0, 1) := by decide +kernel
theorem dX5_readClause_183 : decode cX5_readClause 183 = .ok (.getfield 15, 3) := by decide +kernel
theorem dX5_readClause_186 : decode cX5_readClause 186 = .ok (.aload_n 0, 1) := by decide +kernel
theorem dX5_readClause_187 : decode cX5_readClause 187 = .ok (.getfield 9, 3) := by decide +kernel
theorem dX5_readClause_190 : decode cX5_readClause 190 = .ok (.bipush 12, 2) := by decide +kernel
theorem dX5_readClause_192 : decode cX5_readClause 192 = .ok (.lconst 0, 1) := by decide +kernel
theorem dX5_readClause_193 : decode cX5_readClause 193 = .ok (.invokevirtual 67, 3) := by decide +kernel
theorem dX5_readClause_196 : decode cX5_readClause 196 = .ok (.putfield 74, 3) := by decide +kernel
theorem dX5_readClause_199 : decode cX5_readClause 199 = .ok (.aload_n 0, 1) := by decide +kernel
theorem dX5_readClause_200 : decode cX5_readClause 200 = .ok (.getfield 15, 3) := by decide +kernel
theorem dX5_readClause_203 : decode cX5_readClause 203 = .ok (.getfield 74, 3) := by decide +kernel
theorem dX5_readClause_206 : decode cX5_readClause 206 = .ok (.ifCond .le 7, 3) := by decide +kernel
theorem dX5_readClause_209 : decode cX5_readClause 209 = .ok (.iconst 1, 1) := by decide +kernel
theorem dX5_readClause_210 : decode cX5_readClause 210 = .ok (.goto 4, 3) := by decide +kernel
theorem dX5_readClause_213 : decode cX5_readClause 213 = .ok (.iconst 0, 1) := by decide +kernel
theorem dX5_readClause_214 : decode cX5_readClause 214 = .ok (.istore_n 3, 1) := by decide +kernel
theorem dX5_readClause_215 : decode cX5_readClause 215 = .ok (.goto 11, 3) := by decide +kernel
theorem dX5_readClause_218 : decode cX5_readClause 218 = .ok (.aload_n 0, 1) := by decide +kernel
theorem dX5_readClause_219 : decode cX5_readClause 219 = .ok (.getfield 15, 3) := by decide +kernel
theorem dX5_readClause_222 : decode cX5_readClause 222 = .ok (.iconst 1, 1) := by decide +kernel
theorem dX5_readClause_223 : decode cX5_readClause 223 = .ok (.putfield 77, 3) := by decide +kernel
theorem dX5_readClause_226 : decode cX5_readClause 226 = .ok (.iload_n 3, 1) := by decide +kernel
theorem dX5_readClause_227 : decode cX5_readClause 227 = .ok (.ifCond .eq 19, 3) := by decide +kernel
theorem dX5_readClause_230 : decode cX5_readClause 230 = .ok (.aload_n 0, 1) := by decide +kernel
theorem dX5_readClause_231 : decode cX5_readClause 231 = .ok (.getfield 9, 3) := by decide +kernel
theorem dX5_readClause_234 : decode cX5_readClause 234 = .ok (.bipush 59, 2) := by decide +kernel
theorem dX5_readClause_236 : decode cX5_readClause 236 = .ok (.invokevirtual 81, 3) := by decide +kernel
theorem dX5_readClause_239 : decode cX5_readClause 239 = .ok (.ifCond .eq 7, 3) := by decide +kernel
theorem dX5_readClause_242 : decode cX5_readClause 242 = .ok (.iconst 1, 1) := by decide +kernel
theorem dX5_readClause_243 : decode cX5_readClause 243 = .ok (.goto 4, 3) := by decide +kernel
theorem dX5_readClause_246 : decode cX5_readClause 246 = .ok (.iconst 0, 1) := by decide +kernel
theorem dX5_readClause_247 : decode cX5_readClause 247 = .ok (.ireturn, 1) := by decide +kernel
theorem dX5_clauseAtHand_0 : decode cX5_clauseAtHand 0 = .ok (.aload_n 0, 1) := by decide +kernel
theorem dX5_clauseAtHand_1 : decode cX5_clauseAtHand 1 = .ok (.getfield 9, 3) := by decide +kernel
theorem dX5_clauseAtHand_4 : decode cX5_clauseAtHand 4 = .ok (.ldc 85, 2) := by decide +kernel
theorem dX5_clauseAtHand_6 : decode cX5_clauseAtHand 6 = .ok (.invokevirtual 87, 3) := by decide +kernel
theorem dX5_clauseAtHand_9 : decode cX5_clauseAtHand 9 = .ok (.ifCond .eq 7, 3) := by decide +kernel
theorem dX5_clauseAtHand_12 : decode cX5_clauseAtHand 12 = .ok (.iconst 0, 1) := by decide +kernel
theorem dX5_clauseAtHand_13 : decode cX5_clauseAtHand 13 = .ok (.goto 84, 3) := by decide +kernel
theorem dX5_clauseAtHand_16 : decode cX5_clauseAtHand 16 = .ok (.aload_n 0, 1) := by decide +kernel
theorem dX5_clauseAtHand_17 : decode cX5_clauseAtHand 17 = .ok (.getfield 9, 3) := by decide +kernel
theorem dX5_clauseAtHand_20 : decode cX5_clauseAtHand 20 = .ok (.ldc 91, 2) := by decide +kernel
theorem dX5_clauseAtHand_22 : decode cX5_clauseAtHand 22 = .ok (.invokevirtual 87, 3) := by decide +kernel
theorem dX5_clauseAtHand_25 : decode cX5_clauseAtHand 25 = .ok (.ifCond .eq 7, 3) := by decide +kernel
theorem dX5_clauseAtHand_28 : decode cX5_clauseAtHand 28 = .ok (.iconst 1, 1) := by decide +kernel
theorem dX5_clauseAtHand_29 : decode cX5_clauseAtHand 29 = .ok (.goto 68, 3) := by decide +kernel
theorem dX5_clauseAtHand_32 : decode cX5_clauseAtHand 32 = .ok (.aload_n 0, 1) := by decide +kernel
theorem dX5_clauseAtHand_33 : decode cX5_clauseAtHand 33 = .ok (.getfield 9, 3) := by decide +kernel
theorem dX5_clauseAtHand_36 : decode cX5_clauseAtHand 36 = .ok (.ldc 93, 2) := by decide +kernel
theorem dX5_clauseAtHand_38 : decode cX5_clauseAtHand 38 = .ok (.invokevirtual 87, 3) := by decide +kernel
theorem dX5_clauseAtHand_41 : decode cX5_clauseAtHand 41 = .ok (.ifCond .eq 7, 3) := by decide +kernel
theorem dX5_clauseAtHand_44 : decode cX5_clauseAtHand 44 = .ok (.iconst 2, 1) := by decide +kernel
theorem dX5_clauseAtHand_45 : decode cX5_clauseAtHand 45 = .ok (.goto 52, 3) := by decide +kernel
theorem dX5_clauseAtHand_48 : decode cX5_clauseAtHand 48 = .ok (.aload_n 0, 1) := by decide +kernel
theorem dX5_clauseAtHand_49 : decode cX5_clauseAtHand 49 = .ok (.getfield 9, 3) := by decide +kernel
theorem dX5_clauseAtHand_52 : decode cX5_clauseAtHand 52 = .ok (.ldc 94, 2) := by decide +kernel
theorem dX5_clauseAtHand_54 : decode cX5_clauseAtHand 54 = .ok (.invokevirtual 87, 3) := by decide +kernel
theorem dX5_clauseAtHand_57 : decode cX5_clauseAtHand 57 = .ok (.ifCond .eq 7, 3) := by decide +kernel
theorem dX5_clauseAtHand_60 : decode cX5_clauseAtHand 60 = .ok (.iconst 3, 1) := by decide +kernel
theorem dX5_clauseAtHand_61 : decode cX5_clauseAtHand 61 = .ok (.goto 36, 3) := by decide +kernel
theorem dX5_clauseAtHand_64 : decode cX5_clauseAtHand 64 = .ok (.aload_n 0, 1) := by decide +kernel
theorem dX5_clauseAtHand_65 : decode cX5_clauseAtHand 65 = .ok (.getfield 9, 3) := by decide +kernel
theorem dX5_clauseAtHand_68 : decode cX5_clauseAtHand 68 = .ok (.ldc 95, 2) := by decide +kernel
theorem dX5_clauseAtHand_70 : decode cX5_clauseAtHand 70 = .ok (.invokevirtual 87, 3) := by decide +kernel
theorem dX5_clauseAtHand_73 : decode cX5_clauseAtHand 73 = .ok (.ifCond .eq 7, 3) := by decide +kernel
theorem dX5_clauseAtHand_76 : decode cX5_clauseAtHand 76 = .ok (.iconst 4, 1) := by decide +kernel
theorem dX5_clauseAtHand_77 : decode cX5_clauseAtHand 77 = .ok (.goto 20, 3) := by decide +kernel
theorem dX5_clauseAtHand_80 : decode cX5_clauseAtHand 80 = .ok (.aload_n 0, 1) := by decide +kernel
theorem dX5_clauseAtHand_81 : decode cX5_clauseAtHand 81 = .ok (.getfield 9, 3) := by decide +kernel
theorem dX5_clauseAtHand_84 : decode cX5_clauseAtHand 84 = .ok (.ldc 97, 2) := by decide +kernel
theorem dX5_clauseAtHand_86 : decode cX5_clauseAtHand 86 = .ok (.invokevirtual 87, 3) := by decide +kernel
theorem dX5_clauseAtHand_89 : decode cX5_clauseAtHand 89 = .ok (.ifCond .eq 7, 3) := by decide +kernel
theorem dX5_clauseAtHand_92 : decode cX5_clauseAtHand 92 = .ok (.iconst 5, 1) := by decide +kernel
theorem dX5_clauseAtHand_93 : decode cX5_clauseAtHand 93 = .ok (.goto 4, 3) := by decide +kernel
theorem dX5_clauseAtHand_96 : decode cX5_clauseAtHand 96 = .ok (.iconst (-1), 1) := by decide +kernel
theorem dX5_clauseAtHand_97 : decode cX5_clauseAtHand 97 = .ok (.ireturn, 1) := by decide +kernel
theorem dX5_kindAtHand_0 : decode cX5_kindAtHand 0 = .ok (.aload_n 0, 1) := by decide +kernel
theorem dX5_kindAtHand_1 : decode cX5_kindAtHand 1 = .ok (.getfield 9, 3) := by decide +kernel
theorem dX5_kindAtHand_4 : decode cX5_kindAtHand 4 = .ok (.ldc 99, 2) := by decide +kernel
theorem dX5_kindAtHand_6 : decode cX5_kindAtHand 6 = .ok (.invokevirtual 87, 3) := by decide +kernel
theorem dX5_kindAtHand_9 : decode cX5_kindAtHand 9 = .ok (.ifCond .eq 7, 3) := by decide +kernel
theorem dX5_kindAtHand_12 : decode cX5_kindAtHand 12 = .ok (.iconst 0, 1) := by decide +kernel
theorem dX5_kindAtHand_13 : decode cX5_kindAtHand 13 = .ok (.goto 36, 3) := by decide +kernel
theorem dX5_kindAtHand_16 : decode cX5_kindAtHand 16 = .ok (.aload_n 0, 1) := by decide +kernel
theorem dX5_kindAtHand_17 : decode cX5_kindAtHand 17 = .ok (.getfield 9, 3) := by decide +kernel
theorem dX5_kindAtHand_20 : decode cX5_kindAtHand 20 = .ok (.ldc 101, 2) := by decide +kernel
theorem dX5_kindAtHand_22 : decode cX5_kindAtHand 22 = .ok (.invokevirtual 87, 3) := by decide +kernel
theorem dX5_kindAtHand_25 : decode cX5_kindAtHand 25 = .ok (.ifCond .eq 7, 3) := by decide +kernel
theorem dX5_kindAtHand_28 : decode cX5_kindAtHand 28 = .ok (.iconst 1, 1) := by decide +kernel
theorem dX5_kindAtHand_29 : decode cX5_kindAtHand 29 = .ok (.goto 20, 3) := by decide +kernel
theorem dX5_kindAtHand_32 : decode cX5_kindAtHand 32 = .ok (.aload_n 0, 1) := by decide +kernel
theorem dX5_kindAtHand_33 : decode cX5_kindAtHand 33 = .ok (.getfield 9, 3) := by decide +kernel
theorem dX5_kindAtHand_36 : decode cX5_kindAtHand 36 = .ok (.ldc 103, 2) := by decide +kernel
theorem dX5_kindAtHand_38 : decode cX5_kindAtHand 38 = .ok (.invokevirtual 87, 3) := by decide +kernel
theorem dX5_kindAtHand_41 : decode cX5_kindAtHand 41 = .ok (.ifCond .eq 7, 3) := by decide +kernel
theorem dX5_kindAtHand_44 : decode cX5_kindAtHand 44 = .ok (.iconst 2, 1) := by decide +kernel
theorem dX5_kindAtHand_45 : decode cX5_kindAtHand 45 = .ok (.goto 4, 3) := by decide +kernel
theorem dX5_kindAtHand_48 : decode cX5_kindAtHand 48 = .ok (.iconst (-1), 1) := by decide +kernel
theorem dX5_kindAtHand_49 : decode cX5_kindAtHand 49 = .ok (.ireturn, 1) := by decide +kernel
theorem dX5_beginCondition_0 : decode cX5_beginCondition 0 = .ok (.iload_n 1, 1) := by decide +kernel
theorem dX5_beginCondition_1 : decode cX5_beginCondition 1 = .ok (.iconst 5, 1) := by decide +kernel
theorem dX5_beginCondition_2 : decode cX5_beginCondition 2 = .ok (.if_icmp .ne 7, 3) := by decide +kernel
theorem dX5_beginCondition_5 : decode cX5_beginCondition 5 = .ok (.iconst 4, 1) := by decide +kernel
theorem dX5_beginCondition_6 : decode cX5_beginCondition 6 = .ok (.goto 7, 3) := by decide +kernel
theorem dX5_beginCondition_9 : decode cX5_beginCondition 9 = .ok (.aload_n 0, 1) := by decide +kernel
theorem dX5_beginCondition_10 : decode cX5_beginCondition 10 = .ok (.invokevirtual 105, 3) := by decide +kernel
theorem dX5_beginCondition_13 : decode cX5_beginCondition 13 = .ok (.istore_n 2, 1) := by decide +kernel
theorem dX5_beginCondition_14 : decode cX5_beginCondition 14 = .ok (.iload_n 2, 1) := by decide +kernel
theorem dX5_beginCondition_15 : decode cX5_beginCondition 15 = .ok (.iconst (-1), 1) := by decide +kernel
theorem dX5_beginCondition_16 : decode cX5_beginCondition 16 = .ok (.if_icmp .ne 12, 3) := by decide +kernel
theorem dX5_beginCondition_19 : decode cX5_beginCondition 19 = .ok (.aload_n 0, 1) := by decide +kernel
theorem dX5_beginCondition_20 : decode cX5_beginCondition 20 = .ok (.getfield 9, 3) := by decide +kernel
theorem dX5_beginCondition_23 : decode cX5_beginCondition 23 = .ok (.iconst 1, 1) := by decide +kernel
theorem dX5_beginCondition_24 : decode cX5_beginCondition 24 = .ok (.invokevirtual 41, 3) := by decide +kernel
theorem dX5_beginCondition_27 : decode cX5_beginCondition 27 = .ok (.ireturn, 1) := by decide +kernel
theorem dX5_beginCondition_28 : decode cX5_beginCondition 28 = .ok (.iload_n 2, 1) := by decide +kernel
theorem dX5_beginCondition_29 : decode cX5_beginCondition 29 = .ok (.iconst 4, 1) := by decide +kernel
theorem dX5_beginCondition_30 : decode cX5_beginCondition 30 = .ok (.if_icmp .eq 10, 3) := by decide +kernel
theorem dX5_beginCondition_33 : decode cX5_beginCondition 33 = .ok (.aload_n 0, 1) := by decide +kernel
theorem dX5_beginCondition_34 : decode cX5_beginCondition 34 = .ok (.getfield 9, 3) := by decide +kernel
theorem dX5_beginCondition_37 : decode cX5_beginCondition 37 = .ok (.invokevirtual 44, 3) := by decide +kernel
theorem dX5_beginCondition_40 : decode cX5_beginCondition 40 = .ok (.aload_n 0, 1) := by decide +kernel
theorem dX5_beginCondition_41 : decode cX5_beginCondition 41 = .ok (.iload_n 2, 1) := by decide +kernel
theorem dX5_beginCondition_42 : decode cX5_beginCondition 42 = .ok (.invokevirtual 61, 3) := by decide +kernel
theorem dX5_beginCondition_45 : decode cX5_beginCondition 45 = .ok (.aload_n 0, 1) := by decide +kernel
theorem dX5_beginCondition_46 : decode cX5_beginCondition 46 = .ok (.getfield 9, 3) := by decide +kernel
theorem dX5_beginCondition_49 : decode cX5_beginCondition 49 = .ok (.ldc 108, 2) := by decide +kernel
theorem dX5_beginCondition_51 : decode cX5_beginCondition 51 = .ok (.invokevirtual 110, 3) := by decide +kernel
theorem dX5_beginCondition_54 : decode cX5_beginCondition 54 = .ok (.ireturn, 1) := by decide +kernel
theorem dX5_beginPart_0 : decode cX5_beginPart 0 = .ok (.aload_n 0, 1) := by decide +kernel
theorem dX5_beginPart_1 : decode cX5_beginPart 1 = .ok (.iload_n 1, 1) := by decide +kernel
theorem dX5_beginPart_2 : decode cX5_beginPart 2 = .ok (.putfield 53, 3) := by decide +kernel
theorem dX5_beginPart_5 : decode cX5_beginPart 5 = .ok (.aload_n 0, 1) := by decide +kernel
theorem dX5_beginPart_6 : decode cX5_beginPart 6 = .ok (.getfield 15, 3) := by decide +kernel
theorem dX5_beginPart_9 : decode cX5_beginPart 9 = .ok (.aload_n 0, 1) := by decide +kernel
theorem dX5_beginPart_10 : decode cX5_beginPart 10 = .ok (.getfield 53, 3) := by decide +kernel
theorem dX5_beginPart_13 : decode cX5_beginPart 13 = .ok (.invokevirtual 113, 3) := by decide +kernel
theorem dX5_beginPart_16 : decode cX5_beginPart 16 = .ok (.return_, 1) := by decide +kernel
theorem dX5_either_0 : decode cX5_either 0 = .ok (.aload_n 0, 1) := by decide +kernel
theorem dX5_either_1 : decode cX5_either 1 = .ok (.iload_n 1, 1) := by decide +kernel
theorem dX5_either_2 : decode cX5_either 2 = .ok (.invokevirtual 114, 3) := by decide +kernel
theorem dX5_either_5 : decode cX5_either 5 = .ok (.istore_n 2, 1) := by decide +kernel
theorem dX5_either_6 : decode cX5_either 6 = .ok (.iconst 0, 1) := by decide +kernel
theorem dX5_either_7 : decode cX5_either 7 = .ok (.istore_n 3, 1) := by decide +kernel
theorem dX5_either_8 : decode cX5_either 8 = .ok (.iload_n 3, 1) := by decide +kernel
theorem dX5_either_9 : decode cX5_either 9 = .ok (.sipush 300, 3) := by decide +kernel
theorem dX5_either_12 : decode cX5_either 12 = .ok (.if_icmp .ge 48, 3) := by decide +kernel
theorem dX5_either_15 : decode cX5_either 15 = .ok (.iload_n 2, 1) := by decide +kernel
theorem dX5_either_16 : decode cX5_either 16 = .ok (.ifCond .eq 44, 3) := by decide +kernel
theorem dX5_either_19 : decode cX5_either 19 = .ok (.aload_n 0, 1) := by decide +kernel
theorem dX5_either_20 : decode cX5_either 20 = .ok (.getfield 9, 3) := by decide +kernel
theorem dX5_either_23 : decode cX5_either 23 = .ok (.ldc 117, 2) := by decide +kernel
theorem dX5_either_25 : decode cX5_either 25 = .ok (.invokevirtual 87, 3) := by decide +kernel
theorem dX5_either_28 : decode cX5_either 28 = .ok (.ifCond .eq 32, 3) := by decide +kernel
theorem dX5_either_31 : decode cX5_either 31 = .ok (.aload_n 0, 1) := by decide +kernel
theorem dX5_either_32 : decode cX5_either 32 = .ok (.getfield 9, 3) := by decide +kernel
theorem dX5_either_35 : decode cX5_either 35 = .ok (.invokevirtual 44, 3) := by decide +kernel
theorem dX5_either_38 : decode cX5_either 38 = .ok (.aload_n 0, 1) := by decide +kernel
theorem dX5_either_39 : decode cX5_either 39 = .ok (.iload_n 1, 1) := by decide +kernel
theorem dX5_either_40 : decode cX5_either 40 = .ok (.invokevirtual 114, 3) := by decide +kernel
theorem dX5_either_43 : decode cX5_either 43 = .ok (.istore_n 2, 1) := by decide +kernel
theorem dX5_either_44 : decode cX5_either 44 = .ok (.aload_n 0, 1) := by decide +kernel
theorem dX5_either_45 : decode cX5_either 45 = .ok (.getfield 15, 3) := by decide +kernel
theorem dX5_either_48 : decode cX5_either 48 = .ok (.bipush 10, 2) := by decide +kernel
theorem dX5_either_50 : decode cX5_either 50 = .ok (.iconst 0, 1) := by decide +kernel
theorem dX5_either_51 : decode cX5_either 51 = .ok (.invokevirtual 119, 3) := by decide +kernel
theorem dX5_either_54 : decode cX5_either 54 = .ok (.iinc 3 1, 3) := by decide +kernel
theorem dX5_either_57 : decode cX5_either 57 = .ok (.goto (-49), 3) := by decide +kernel
theorem dX5_either_60 : decode cX5_either 60 = .ok (.iload_n 2, 1) := by decide +kernel
theorem dX5_either_61 : decode cX5_either 61 = .ok (.ireturn, 1) := by decide +kernel
theorem dX5_both_0 : decode cX5_both 0 = .ok (.aload_n 0, 1) := by decide +kernel
theorem dX5_both_1 : decode cX5_both 1 = .ok (.iload_n 1, 1) := by decide +kernel
theorem dX5_both_2 : decode cX5_both 2 = .ok (.invokevirtual 123, 3) := by decide +kernel
theorem dX5_both_5 : decode cX5_both 5 = .ok (.istore_n 2, 1) := by decide +kernel
theorem dX5_both_6 : decode cX5_both 6 = .ok (.iconst 0, 1) := by decide +kernel
theorem dX5_both_7 : decode cX5_both 7 = .ok (.istore_n 3, 1) := by decide +kernel
theorem dX5_both_8 : decode cX5_both 8 = .ok (.iload_n 3, 1) := by decide +kernel
theorem dX5_both_9 : decode cX5_both 9 = .ok (.sipush 300, 3) := by decide +kernel
theorem dX5_both_12 : decode cX5_both 12 = .ok (.if_icmp .ge 48, 3) := by decide +kernel
theorem dX5_both_15 : decode cX5_both 15 = .ok (.iload_n 2, 1) := by decide +kernel
theorem dX5_both_16 : decode cX5_both 16 = .ok (.ifCond .eq 44, 3) := by decide +kernel
theorem dX5_both_19 : decode cX5_both 19 = .ok (.aload_n 0, 1) := by decide +kernel
theorem dX5_both_20 : decode cX5_both 20 = .ok (.getfield 9, 3) := by decide +kernel
theorem dX5_both_23 : decode cX5_both 23 = .ok (.ldc 126, 2) := by decide +kernel
theorem dX5_both_25 : decode cX5_both 25 = .ok (.invokevirtual 87, 3) := by decide +kernel
theorem dX5_both_28 : decode cX5_both 28 = .ok (.ifCond .eq 32, 3) := by decide +kernel
theorem dX5_both_31 : decode cX5_both 31 = .ok (.aload_n 0, 1) := by decide +kernel
theorem dX5_both_32 : decode cX5_both 32 = .ok (.getfield 9, 3) := by decide +kernel
theorem dX5_both_35 : decode cX5_both 35 = .ok (.invokevirtual 44, 3) := by decide +kernel
theorem dX5_both_38 : decode cX5_both 38 = .ok (.aload_n 0, 1) := by decide +kernel
theorem dX5_both_39 : decode cX5_both 39 = .ok (.iload_n 1, 1) := by decide +kernel
theorem dX5_both_40 : decode cX5_both 40 = .ok (.invokevirtual 123, 3) := by decide +kernel
theorem dX5_both_43 : decode cX5_both 43 = .ok (.istore_n 2, 1) := by decide +kernel
theorem dX5_both_44 : decode cX5_both 44 = .ok (.aload_n 0, 1) := by decide +kernel
theorem dX5_both_45 : decode cX5_both 45 = .ok (.getfield 15, 3) := by decide +kernel
theorem dX5_both_48 : decode cX5_both 48 = .ok (.bipush 9, 2) := by decide +kernel
theorem dX5_both_50 : decode cX5_both 50 = .ok (.iconst 0, 1) := by decide +kernel
theorem dX5_both_51 : decode cX5_both 51 = .ok (.invokevirtual 119, 3) := by decide +kernel
theorem dX5_both_54 : decode cX5_both 54 = .ok (.iinc 3 1, 3) := by decide +kernel
theorem dX5_both_57 : decode cX5_both 57 = .ok (.goto (-49), 3) := by decide +kernel
theorem dX5_both_60 : decode cX5_both 60 = .ok (.iload_n 2, 1) := by decide +kernel
theorem dX5_both_61 : decode cX5_both 61 = .ok (.ireturn, 1) := by decide +kernel
theorem dX5_piece_0 : decode cX5_piece 0 = .ok (.aload_n 0, 1) := by decide +kernel
theorem dX5_piece_1 : decode cX5_piece 1 = .ok (.invokevirtual 128, 3) := by decide +kernel
theorem dX5_piece_4 : decode cX5_piece 4 = .ok (.istore_n 2, 1) := by decide +kernel
theorem dX5_piece_5 : decode cX5_piece 5 = .ok (.aload_n 0, 1) := by decide +kernel
theorem dX5_piece_6 : decode cX5_piece 6 = .ok (.getfield 9, 3) := by decide +kernel
theorem dX5_piece_9 : decode cX5_piece 9 = .ok (.bipush 91, 2) := by decide +kernel
theorem dX5_piece_11 : decode cX5_piece 11 = .ok (.invokevirtual 131, 3) := by decide +kernel
theorem dX5_piece_14 : decode cX5_piece 14 = .ok (.ifCond .eq 12, 3) := by decide +kernel
theorem dX5_piece_17 : decode cX5_piece 17 = .ok (.aload_n 0, 1) := by decide +kernel
theorem dX5_piece_18 : decode cX5_piece 18 = .ok (.iload_n 1, 1) := by decide +kernel
theorem dX5_piece_19 : decode cX5_piece 19 = .ok (.invokevirtual 134, 3) := by decide +kernel
theorem dX5_piece_22 : decode cX5_piece 22 = .ok (.istore_n 3, 1) := by decide +kernel
theorem dX5_piece_23 : decode cX5_piece 23 = .ok (.goto 53, 3) := by decide +kernel
theorem dX5_piece_26 : decode cX5_piece 26 = .ok (.aload_n 0, 1) := by decide +kernel
theorem dX5_piece_27 : decode cX5_piece 27 = .ok (.iload_n 1, 1) := by decide +kernel
theorem dX5_piece_28 : decode cX5_piece 28 = .ok (.invokevirtual 64, 3) := by decide +kernel
theorem dX5_piece_31 : decode cX5_piece 31 = .ok (.istore_n 3, 1) := by decide +kernel
theorem dX5_piece_32 : decode cX5_piece 32 = .ok (.iload_n 3, 1) := by decide +kernel
theorem dX5_piece_33 : decode cX5_piece 33 = .ok (.ifCond .eq 10, 3) := by decide +kernel
theorem dX5_piece_36 : decode cX5_piece 36 = .ok (.aload_n 0, 1) := by decide +kernel
theorem dX5_piece_37 : decode cX5_piece 37 = .ok (.invokevirtual 137, 3) := by decide +kernel
theorem dX5_piece_40 : decode cX5_piece 40 = .ok (.goto 4, 3) := by decide +kernel
theorem dX5_piece_43 : decode cX5_piece 43 = .ok (.iconst (-1), 1) := by decide +kernel
theorem dX5_piece_44 : decode cX5_piece 44 = .ok (.istore 4, 2) := by decide +kernel
theorem dX5_piece_46 : decode cX5_piece 46 = .ok (.iload 4, 2) := by decide +kernel
theorem dX5_piece_48 : decode cX5_piece 48 = .ok (.iconst (-1), 1) := by decide +kernel
theorem dX5_piece_49 : decode cX5_piece 49 = .ok (.if_icmp .eq 15, 3) := by decide +kernel
theorem dX5_piece_52 : decode cX5_piece 52 = .ok (.aload_n 0, 1) := by decide +kernel
theorem dX5_piece_53 : decode cX5_piece 53 = .ok (.iload_n 1, 1) := by decide +kernel
theorem dX5_piece_54 : decode cX5_piece 54 = .ok (.invokevirtual 64, 3) := by decide +kernel
theorem dX5_piece_57 : decode cX5_piece 57 = .ok (.ifCond .eq 7, 3) := by decide +kernel
theorem dX5_piece_60 : decode cX5_piece 60 = .ok (.iconst 1, 1) := by decide +kernel
theorem dX5_piece_61 : decode cX5_piece 61 = .ok (.goto 4, 3) := by decide +kernel
theorem dX5_piece_64 : decode cX5_piece 64 = .ok (.iconst 0, 1) := by decide +kernel
theorem dX5_piece_65 : decode cX5_piece 65 = .ok (.istore_n 3, 1) := by decide +kernel
theorem dX5_piece_66 : decode cX5_piece 66 = .ok (.aload_n 0, 1) := by decide +kernel
theorem dX5_piece_67 : decode cX5_piece 67 = .ok (.getfield 15, 3) := by decide +kernel
theorem dX5_piece_70 : decode cX5_piece 70 = .ok (.iload 4, 2) := by decide +kernel
theorem dX5_piece_72 : decode cX5_piece 72 = .ok (.iconst 0, 1) := by decide +kernel
theorem dX5_piece_73 : decode cX5_piece 73 = .ok (.invokevirtual 119, 3) := by decide +kernel
theorem dX5_piece_76 : decode cX5_piece 76 = .ok (.iload_n 2, 1) := by decide +kernel
theorem dX5_piece_77 : decode cX5_piece 77 = .ok (.ifCond .eq 13, 3) := by decide +kernel
theorem dX5_piece_80 : decode cX5_piece 80 = .ok (.aload_n 0, 1) := by decide +kernel
theorem dX5_piece_81 : decode cX5_piece 81 = .ok (.getfield 15, 3) := by decide +kernel
theorem dX5_piece_84 : decode cX5_piece 84 = .ok (.bipush 11, 2) := by decide +kernel
theorem dX5_piece_86 : decode cX5_piece 86 = .ok (.iconst 0, 1) := by decide +kernel
theorem dX5_piece_87 : decode cX5_piece 87 = .ok (.invokevirtual 119, 3) := by decide +kernel
theorem dX5_piece_90 : decode cX5_piece 90 = .ok (.iload_n 3, 1) := by decide +kernel
theorem dX5_piece_91 : decode cX5_piece 91 = .ok (.ireturn, 1) := by decide +kernel
theorem dX5_skipNots_0 : decode cX5_skipNots 0 = .ok (.iconst 0, 1) := by decide +kernel
theorem dX5_skipNots_1 : decode cX5_skipNots 1 = .ok (.istore_n 1, 1) := by decide +kernel
theorem dX5_skipNots_2 : decode cX5_skipNots 2 = .ok (.iconst 0, 1) := by decide +kernel
theorem dX5_skipNots_3 : decode cX5_skipNots 3 = .ok (.istore_n 2, 1) := by decide +kernel
theorem dX5_skipNots_4 : decode cX5_skipNots 4 = .ok (.iload_n 2, 1) := by decide +kernel
theorem dX5_skipNots_5 : decode cX5_skipNots 5 = .ok (.sipush 300, 3) := by decide +kernel
theorem dX5_skipNots_8 : decode cX5_skipNots 8 = .ok (.if_icmp .ge 38, 3) := by decide +kernel
theorem dX5_skipNots_11 : decode cX5_skipNots 11 = .ok (.aload_n 0, 1) := by decide +kernel
theorem dX5_skipNots_12 : decode cX5_skipNots 12 = .ok (.getfield 9, 3) := by decide +kernel
theorem dX5_skipNots_15 : decode cX5_skipNots 15 = .ok (.ldc 140, 2) := by decide +kernel
theorem dX5_skipNots_17 : decode cX5_skipNots 17 = .ok (.invokevirtual 87, 3) := by decide +kernel
theorem dX5_skipNots_20 : decode cX5_skipNots 20 = .ok (.ifCond .eq 26, 3) := by decide +kernel
theorem dX5_skipNots_23 : decode cX5_skipNots 23 = .ok (.aload_n 0, 1) := by decide +kernel
theorem dX5_skipNots_24 : decode cX5_skipNots 24 = .ok (.getfield 9, 3) := by decide +kernel
theorem dX5_skipNots_27 : decode cX5_skipNots 27 = .ok (.invokevirtual 44, 3) := by decide +kernel
theorem dX5_skipNots_30 : decode cX5_skipNots 30 = .ok (.iload_n 1, 1) := by decide +kernel
theorem dX5_skipNots_31 : decode cX5_skipNots 31 = .ok (.ifCond .ne 7, 3) := by decide +kernel
theorem dX5_skipNots_34 : decode cX5_skipNots 34 = .ok (.iconst 1, 1) := by decide +kernel
theorem dX5_skipNots_35 : decode cX5_skipNots 35 = .ok (.goto 4, 3) := by decide +kernel
theorem dX5_skipNots_38 : decode cX5_skipNots 38 = .ok (.iconst 0, 1) := by decide +kernel
theorem dX5_skipNots_39 : decode cX5_skipNots 39 = .ok (.istore_n 1, 1) := by decide +kernel
theorem dX5_skipNots_40 : decode cX5_skipNots 40 = .ok (.iinc 2 1, 3) := by decide +kernel
theorem dX5_skipNots_43 : decode cX5_skipNots 43 = .ok (.goto (-39), 3) := by decide +kernel
theorem dX5_skipNots_46 : decode cX5_skipNots 46 = .ok (.iload_n 1, 1) := by decide +kernel
theorem dX5_skipNots_47 : decode cX5_skipNots 47 = .ok (.ireturn, 1) := by decide +kernel
theorem dX5_takeComparison_0 : decode cX5_takeComparison 0 = .ok (.aload_n 0, 1) := by decide +kernel
theorem dX5_takeComparison_1 : decode cX5_takeComparison 1 = .ok (.getfield 9, 3) := by decide +kernel
theorem dX5_takeComparison_4 : decode cX5_takeComparison 4 = .ok (.bipush 60, 2) := by decide +kernel
theorem dX5_takeComparison_6 : decode cX5_takeComparison 6 = .ok (.invokevirtual 131, 3) := by decide +kernel
theorem dX5_takeComparison_9 : decode cX5_takeComparison 9 = .ok (.ifCond .eq 8, 3) := by decide +kernel
theorem dX5_takeComparison_12 : decode cX5_takeComparison 12 = .ok (.bipush 6, 2) := by decide +kernel
theorem dX5_takeComparison_14 : decode cX5_takeComparison 14 = .ok (.goto 38, 3) := by decide +kernel
theorem dX5_takeComparison_17 : decode cX5_takeComparison 17 = .ok (.aload_n 0, 1) := by decide +kernel
theorem dX5_takeComparison_18 : decode cX5_takeComparison 18 = .ok (.getfield 9, 3) := by decide +kernel
theorem dX5_takeComparison_21 : decode cX5_takeComparison 21 = .ok (.bipush 62, 2) := by decide +kernel
theorem dX5_takeComparison_23 : decode cX5_takeComparison 23 = .ok (.invokevirtual 131, 3) := by decide +kernel
theorem dX5_takeComparison_26 : decode cX5_takeComparison 26 = .ok (.ifCond .eq 8, 3) := by decide +kernel
theorem dX5_takeComparison_29 : decode cX5_takeComparison 29 = .ok (.bipush 7, 2) := by decide +kernel
theorem dX5_takeComparison_31 : decode cX5_takeComparison 31 = .ok (.goto 21, 3) := by decide +kernel
theorem dX5_takeComparison_34 : decode cX5_takeComparison 34 = .ok (.aload_n 0, 1) := by decide +kernel
theorem dX5_takeComparison_35 : decode cX5_takeComparison 35 = .ok (.getfield 9, 3) := by decide +kernel
theorem dX5_takeComparison_38 : decode cX5_takeComparison 38 = .ok (.bipush 61, 2) := by decide +kernel
theorem dX5_takeComparison_40 : decode cX5_takeComparison 40 = .ok (.invokevirtual 131, 3) := by decide +kernel
theorem dX5_takeComparison_43 : decode cX5_takeComparison 43 = .ok (.ifCond .eq 8, 3) := by decide +kernel
theorem dX5_takeComparison_46 : decode cX5_takeComparison 46 = .ok (.bipush 8, 2) := by decide +kernel
theorem dX5_takeComparison_48 : decode cX5_takeComparison 48 = .ok (.goto 4, 3) := by decide +kernel
theorem dX5_takeComparison_51 : decode cX5_takeComparison 51 = .ok (.iconst (-1), 1) := by decide +kernel
theorem dX5_takeComparison_52 : decode cX5_takeComparison 52 = .ok (.istore_n 1, 1) := by decide +kernel
theorem dX5_takeComparison_53 : decode cX5_takeComparison 53 = .ok (.iload_n 1, 1) := by decide +kernel
theorem dX5_takeComparison_54 : decode cX5_takeComparison 54 = .ok (.iconst (-1), 1) := by decide +kernel
theorem dX5_takeComparison_55 : decode cX5_takeComparison 55 = .ok (.if_icmp .ne 15, 3) := by decide +kernel
theorem dX5_takeComparison_58 : decode cX5_takeComparison 58 = .ok (.aload_n 0, 1) := by decide +kernel
theorem dX5_takeComparison_59 : decode cX5_takeComparison 59 = .ok (.getfield 9, 3) := by decide +kernel
theorem dX5_takeComparison_62 : decode cX5_takeComparison 62 = .ok (.iconst 1, 1) := by decide +kernel
theorem dX5_takeComparison_63 : decode cX5_takeComparison 63 = .ok (.invokevirtual 41, 3) := by decide +kernel
theorem dX5_takeComparison_66 : decode cX5_takeComparison 66 = .ok (.pop, 1) := by decide +kernel
theorem dX5_takeComparison_67 : decode cX5_takeComparison 67 = .ok (.goto 10, 3) := by decide +kernel
theorem dX5_takeComparison_70 : decode cX5_takeComparison 70 = .ok (.aload_n 0, 1) := by decide +kernel
theorem dX5_takeComparison_71 : decode cX5_takeComparison 71 = .ok (.getfield 9, 3) := by decide +kernel
theorem dX5_takeComparison_74 : decode cX5_takeComparison 74 = .ok (.invokevirtual 44, 3) := by decide +kernel
theorem dX5_takeComparison_77 : decode cX5_takeComparison 77 = .ok (.iload_n 1, 1) := by decide +kernel
theorem dX5_takeComparison_78 : decode cX5_takeComparison 78 = .ok (.ireturn, 1) := by decide +kernel
theorem dX5_square_0 : decode cX5_square 0 = .ok (.iload_n 1, 1) := by decide +kernel
theorem dX5_square_1 : decode cX5_square 1 = .ok (.iconst 4, 1) := by decide +kernel
theorem dX5_square_2 : decode cX5_square 2 = .ok (.if_icmp .lt 12, 3) := by decide +kernel
theorem dX5_square_5 : decode cX5_square 5 = .ok (.aload_n 0, 1) := by decide +kernel
theorem dX5_square_6 : decode cX5_square 6 = .ok (.getfield 9, 3) := by decide +kernel
theorem dX5_square_9 : decode cX5_square 9 = .ok (.iconst 4, 1) := by decide +kernel
theorem dX5_square_10 : decode cX5_square 10 = .ok (.invokevirtual 41, 3) := by decide +kernel
theorem dX5_square_13 : decode cX5_square 13 = .ok (.ireturn, 1) := by decide +kernel
theorem dX5_square_14 : decode cX5_square 14 = .ok (.aload_n 0, 1) := by decide +kernel
theorem dX5_square_15 : decode cX5_square 15 = .ok (.getfield 9, 3) := by decide +kernel
theorem dX5_square_18 : decode cX5_square 18 = .ok (.invokevirtual 44, 3) := by decide +kernel
theorem dX5_square_21 : decode cX5_square 21 = .ok (.aload_n 0, 1) := by decide +kernel
theorem dX5_square_22 : decode cX5_square 22 = .ok (.iload_n 1, 1) := by decide +kernel
theorem dX5_square_23 : decode cX5_square 23 = .ok (.iconst 1, 1) := by decide +kernel
theorem dX5_square_24 : decode cX5_square 24 = .ok (.iadd, 1) := by decide +kernel
theorem dX5_square_25 : decode cX5_square 25 = .ok (.invokevirtual 50, 3) := by decide +kernel
theorem dX5_square_28 : decode cX5_square 28 = .ok (.ifCond .eq 19, 3) := by decide +kernel
theorem dX5_square_31 : decode cX5_square 31 = .ok (.aload_n 0, 1) := by decide +kernel
theorem dX5_square_32 : decode cX5_square 32 = .ok (.getfield 9, 3) := by decide +kernel
theorem dX5_square_35 : decode cX5_square 35 = .ok (.bipush 93, 2) := by decide +kernel
theorem dX5_square_37 : decode cX5_square 37 = .ok (.invokevirtual 81, 3) := by decide +kernel
theorem dX5_square_40 : decode cX5_square 40 = .ok (.ifCond .eq 7, 3) := by decide +kernel
theorem dX5_square_43 : decode cX5_square 43 = .ok (.iconst 1, 1) := by decide +kernel
theorem dX5_square_44 : decode cX5_square 44 = .ok (.goto 4, 3) := by decide +kernel
theorem dX5_square_47 : decode cX5_square 47 = .ok (.iconst 0, 1) := by decide +kernel
theorem dX5_square_48 : decode cX5_square 48 = .ok (.ireturn, 1) := by decide +kernel
theorem dX5_sum_0 : decode cX5_sum 0 = .ok (.aload_n 0, 1) := by decide +kernel
theorem dX5_sum_1 : decode cX5_sum 1 = .ok (.iload_n 1, 1) := by decide +kernel
theorem dX5_sum_2 : decode cX5_sum 2 = .ok (.invokevirtual 142, 3) := by decide +kernel
theorem dX5_sum_5 : decode cX5_sum 5 = .ok (.istore_n 2, 1) := by decide +kernel
theorem dX5_sum_6 : decode cX5_sum 6 = .ok (.iconst 0, 1) := by decide +kernel
theorem dX5_sum_7 : decode cX5_sum 7 = .ok (.istore_n 3, 1) := by decide +kernel
theorem dX5_sum_8 : decode cX5_sum 8 = .ok (.iload_n 3, 1) := by decide +kernel
theorem dX5_sum_9 : decode cX5_sum 9 = .ok (.sipush 300, 3) := by decide +kernel
theorem dX5_sum_12 : decode cX5_sum 12 = .ok (.if_icmp .ge 79, 3) := by decide +kernel
theorem dX5_sum_15 : decode cX5_sum 15 = .ok (.iload_n 2, 1) := by decide +kernel
theorem dX5_sum_16 : decode cX5_sum 16 = .ok (.ifCond .eq 75, 3) := by decide +kernel
theorem dX5_sum_19 : decode cX5_sum 19 = .ok (.aload_n 0, 1) := by decide +kernel
theorem dX5_sum_20 : decode cX5_sum 20 = .ok (.getfield 9, 3) := by decide +kernel
theorem dX5_sum_23 : decode cX5_sum 23 = .ok (.bipush 43, 2) := by decide +kernel
theorem dX5_sum_25 : decode cX5_sum 25 = .ok (.invokevirtual 131, 3) := by decide +kernel
theorem dX5_sum_28 : decode cX5_sum 28 = .ok (.ifCond .ne 15, 3) := by decide +kernel
theorem dX5_sum_31 : decode cX5_sum 31 = .ok (.aload_n 0, 1) := by decide +kernel
theorem dX5_sum_32 : decode cX5_sum 32 = .ok (.getfield 9, 3) := by decide +kernel
theorem dX5_sum_35 : decode cX5_sum 35 = .ok (.bipush 45, 2) := by decide +kernel
theorem dX5_sum_37 : decode cX5_sum 37 = .ok (.invokevirtual 131, 3) := by decide +kernel
theorem dX5_sum_40 : decode cX5_sum 40 = .ok (.ifCond .eq 51, 3) := by decide +kernel
theorem dX5_sum_43 : decode cX5_sum 43 = .ok (.aload_n 0, 1) := by decide +kernel
theorem dX5_sum_44 : decode cX5_sum 44 = .ok (.getfield 9, 3) := by decide +kernel
theorem dX5_sum_47 : decode cX5_sum 47 = .ok (.bipush 43, 2) := by decide +kernel
theorem dX5_sum_49 : decode cX5_sum 49 = .ok (.invokevirtual 131, 3) := by decide +kernel
theorem dX5_sum_52 : decode cX5_sum 52 = .ok (.ifCond .eq 7, 3) := by decide +kernel
theorem dX5_sum_55 : decode cX5_sum 55 = .ok (.iconst 2, 1) := by decide +kernel
theorem dX5_sum_56 : decode cX5_sum 56 = .ok (.goto 4, 3) := by decide +kernel
theorem dX5_sum_59 : decode cX5_sum 59 = .ok (.iconst 3, 1) := by decide +kernel
theorem dX5_sum_60 : decode cX5_sum 60 = .ok (.istore 4, 2) := by decide +kernel
theorem dX5_sum_62 : decode cX5_sum 62 = .ok (.aload_n 0, 1) := by decide +kernel
theorem dX5_sum_63 : decode cX5_sum 63 = .ok (.getfield 9, 3) := by decide +kernel
theorem dX5_sum_66 : decode cX5_sum 66 = .ok (.invokevirtual 44, 3) := by decide +kernel
theorem dX5_sum_69 : decode cX5_sum 69 = .ok (.aload_n 0, 1) := by decide +kernel
theorem dX5_sum_70 : decode cX5_sum 70 = .ok (.iload_n 1, 1) := by decide +kernel
theorem dX5_sum_71 : decode cX5_sum 71 = .ok (.invokevirtual 142, 3) := by decide +kernel
theorem dX5_sum_74 : decode cX5_sum 74 = .ok (.istore_n 2, 1) := by decide +kernel
theorem dX5_sum_75 : decode cX5_sum 75 = .ok (.aload_n 0, 1) := by decide +kernel
theorem dX5_sum_76 : decode cX5_sum 76 = .ok (.getfield 15, 3) := by decide +kernel
theorem dX5_sum_79 : decode cX5_sum 79 = .ok (.iload 4, 2) := by decide +kernel
theorem dX5_sum_81 : decode cX5_sum 81 = .ok (.iconst 0, 1) := by decide +kernel
theorem dX5_sum_82 : decode cX5_sum 82 = .ok (.invokevirtual 119, 3) := by decide +kernel
theorem dX5_sum_85 : decode cX5_sum 85 = .ok (.iinc 3 1, 3) := by decide +kernel
theorem dX5_sum_88 : decode cX5_sum 88 = .ok (.goto (-80), 3) := by decide +kernel
theorem dX5_sum_91 : decode cX5_sum 91 = .ok (.iload_n 2, 1) := by decide +kernel
theorem dX5_sum_92 : decode cX5_sum 92 = .ok (.ireturn, 1) := by decide +kernel
theorem dX5_product_0 : decode cX5_product 0 = .ok (.aload_n 0, 1) := by decide +kernel
theorem dX5_product_1 : decode cX5_product 1 = .ok (.iload_n 1, 1) := by decide +kernel
theorem dX5_product_2 : decode cX5_product 2 = .ok (.invokevirtual 145, 3) := by decide +kernel
theorem dX5_product_5 : decode cX5_product 5 = .ok (.istore_n 2, 1) := by decide +kernel
theorem dX5_product_6 : decode cX5_product 6 = .ok (.iconst 0, 1) := by decide +kernel
theorem dX5_product_7 : decode cX5_product 7 = .ok (.istore_n 3, 1) := by decide +kernel
theorem dX5_product_8 : decode cX5_product 8 = .ok (.iload_n 3, 1) := by decide +kernel
theorem dX5_product_9 : decode cX5_product 9 = .ok (.sipush 300, 3) := by decide +kernel
theorem dX5_product_12 : decode cX5_product 12 = .ok (.if_icmp .ge 79, 3) := by decide +kernel
theorem dX5_product_15 : decode cX5_product 15 = .ok (.iload_n 2, 1) := by decide +kernel
theorem dX5_product_16 : decode cX5_product 16 = .ok (.ifCond .eq 75, 3) := by decide +kernel
theorem dX5_product_19 : decode cX5_product 19 = .ok (.aload_n 0, 1) := by decide +kernel
theorem dX5_product_20 : decode cX5_product 20 = .ok (.getfield 9, 3) := by decide +kernel
theorem dX5_product_23 : decode cX5_product 23 = .ok (.bipush 42, 2) := by decide +kernel
theorem dX5_product_25 : decode cX5_product 25 = .ok (.invokevirtual 131, 3) := by decide +kernel
theorem dX5_product_28 : decode cX5_product 28 = .ok (.ifCond .ne 15, 3) := by decide +kernel
theorem dX5_product_31 : decode cX5_product 31 = .ok (.aload_n 0, 1) := by decide +kernel
theorem dX5_product_32 : decode cX5_product 32 = .ok (.getfield 9, 3) := by decide +kernel
theorem dX5_product_35 : decode cX5_product 35 = .ok (.bipush 47, 2) := by decide +kernel
theorem dX5_product_37 : decode cX5_product 37 = .ok (.invokevirtual 131, 3) := by decide +kernel
theorem dX5_product_40 : decode cX5_product 40 = .ok (.ifCond .eq 51, 3) := by decide +kernel
theorem dX5_product_43 : decode cX5_product 43 = .ok (.aload_n 0, 1) := by decide +kernel
theorem dX5_product_44 : decode cX5_product 44 = .ok (.getfield 9, 3) := by decide +kernel
theorem dX5_product_47 : decode cX5_product 47 = .ok (.bipush 42, 2) := by decide +kernel
theorem dX5_product_49 : decode cX5_product 49 = .ok (.invokevirtual 131, 3) := by decide +kernel
theorem dX5_product_52 : decode cX5_product 52 = .ok (.ifCond .eq 7, 3) := by decide +kernel
theorem dX5_product_55 : decode cX5_product 55 = .ok (.iconst 4, 1) := by decide +kernel
theorem dX5_product_56 : decode cX5_product 56 = .ok (.goto 4, 3) := by decide +kernel
theorem dX5_product_59 : decode cX5_product 59 = .ok (.iconst 5, 1) := by decide +kernel
theorem dX5_product_60 : decode cX5_product 60 = .ok (.istore 4, 2) := by decide +kernel
theorem dX5_product_62 : decode cX5_product 62 = .ok (.aload_n 0, 1) := by decide +kernel
theorem dX5_product_63 : decode cX5_product 63 = .ok (.getfield 9, 3) := by decide +kernel
theorem dX5_product_66 : decode cX5_product 66 = .ok (.invokevirtual 44, 3) := by decide +kernel
theorem dX5_product_69 : decode cX5_product 69 = .ok (.aload_n 0, 1) := by decide +kernel
theorem dX5_product_70 : decode cX5_product 70 = .ok (.iload_n 1, 1) := by decide +kernel
theorem dX5_product_71 : decode cX5_product 71 = .ok (.invokevirtual 145, 3) := by decide +kernel
theorem dX5_product_74 : decode cX5_product 74 = .ok (.istore_n 2, 1) := by decide +kernel
theorem dX5_product_75 : decode cX5_product 75 = .ok (.aload_n 0, 1) := by decide +kernel
theorem dX5_product_76 : decode cX5_product 76 = .ok (.getfield 15, 3) := by decide +kernel
theorem dX5_product_79 : decode cX5_product 79 = .ok (.iload 4, 2) := by decide +kernel
theorem dX5_product_81 : decode cX5_product 81 = .ok (.iconst 0, 1) := by decide +kernel
theorem dX5_product_82 : decode cX5_product 82 = .ok (.invokevirtual 119, 3) := by decide +kernel
theorem dX5_product_85 : decode cX5_product 85 = .ok (.iinc 3 1, 3) := by decide +kernel
theorem dX5_product_88 : decode cX5_product 88 = .ok (.goto (-80), 3) := by decide +kernel
theorem dX5_product_91 : decode cX5_product 91 = .ok (.iload_n 2, 1) := by decide +kernel
theorem dX5_product_92 : decode cX5_product 92 = .ok (.ireturn, 1) := by decide +kernel
theorem dX5_factor_0 : decode cX5_factor 0 = .ok (.aload_n 0, 1) := by decide +kernel
theorem dX5_factor_1 : decode cX5_factor 1 = .ok (.getfield 9, 3) := by decide +kernel
theorem dX5_factor_4 : decode cX5_factor 4 = .ok (.invokevirtual 148, 3) := by decide +kernel
theorem dX5_factor_7 : decode cX5_factor 7 = .ok (.ifCond .eq 27, 3) := by decide +kernel
theorem dX5_factor_10 : decode cX5_factor 10 = .ok (.aload_n 0, 1) := by decide +kernel
theorem dX5_factor_11 : decode cX5_factor 11 = .ok (.getfield 15, 3) := by decide +kernel
theorem dX5_factor_14 : decode cX5_factor 14 = .ok (.iconst 0, 1) := by decide +kernel
theorem dX5_factor_15 : decode cX5_factor 15 = .ok (.aload_n 0, 1) := by decide +kernel
theorem dX5_factor_16 : decode cX5_factor 16 = .ok (.getfield 9, 3) := by decide +kernel
theorem dX5_factor_19 : decode cX5_factor 19 = .ok (.getfield 151, 3) := by decide +kernel
theorem dX5_factor_22 : decode cX5_factor 22 = .ok (.invokevirtual 119, 3) := by decide +kernel
theorem dX5_factor_25 : decode cX5_factor 25 = .ok (.aload_n 0, 1) := by decide +kernel
theorem dX5_factor_26 : decode cX5_factor 26 = .ok (.getfield 9, 3) := by decide +kernel
theorem dX5_factor_29 : decode cX5_factor 29 = .ok (.invokevirtual 44, 3) := by decide +kernel
theorem dX5_factor_32 : decode cX5_factor 32 = .ok (.iconst 1, 1) := by decide +kernel
theorem dX5_factor_33 : decode cX5_factor 33 = .ok (.ireturn, 1) := by decide +kernel
theorem dX5_factor_34 : decode cX5_factor 34 = .ok (.aload_n 0, 1) := by decide +kernel
theorem dX5_factor_35 : decode cX5_factor 35 = .ok (.getfield 9, 3) := by decide +kernel
theorem dX5_factor_38 : decode cX5_factor 38 = .ok (.invokevirtual 154, 3) := by decide +kernel
theorem dX5_factor_41 : decode cX5_factor 41 = .ok (.ifCond .eq 8, 3) := by decide +kernel
theorem dX5_factor_44 : decode cX5_factor 44 = .ok (.aload_n 0, 1) := by decide +kernel
theorem dX5_factor_45 : decode cX5_factor 45 = .ok (.invokevirtual 157, 3) := by decide +kernel
theorem dX5_factor_48 : decode cX5_factor 48 = .ok (.ireturn, 1) := by decide +kernel
theorem dX5_factor_49 : decode cX5_factor 49 = .ok (.aload_n 0, 1) := by decide +kernel
theorem dX5_factor_50 : decode cX5_factor 50 = .ok (.getfield 9, 3) := by decide +kernel
theorem dX5_factor_53 : decode cX5_factor 53 = .ok (.bipush 40, 2) := by decide +kernel
theorem dX5_factor_55 : decode cX5_factor 55 = .ok (.invokevirtual 131, 3) := by decide +kernel
theorem dX5_factor_58 : decode cX5_factor 58 = .ok (.ifCond .ne 12, 3) := by decide +kernel
theorem dX5_factor_61 : decode cX5_factor 61 = .ok (.aload_n 0, 1) := by decide +kernel
theorem dX5_factor_62 : decode cX5_factor 62 = .ok (.getfield 9, 3) := by decide +kernel
theorem dX5_factor_65 : decode cX5_factor 65 = .ok (.iconst 1, 1) := by decide +kernel
theorem dX5_factor_66 : decode cX5_factor 66 = .ok (.invokevirtual 41, 3) := by decide +kernel
theorem dX5_factor_69 : decode cX5_factor 69 = .ok (.ireturn, 1) := by decide +kernel
theorem dX5_factor_70 : decode cX5_factor 70 = .ok (.iload_n 1, 1) := by decide +kernel
theorem dX5_factor_71 : decode cX5_factor 71 = .ok (.iconst 4, 1) := by decide +kernel
theorem dX5_factor_72 : decode cX5_factor 72 = .ok (.if_icmp .lt 12, 3) := by decide +kernel
theorem dX5_factor_75 : decode cX5_factor 75 = .ok (.aload_n 0, 1) := by decide +kernel
theorem dX5_factor_76 : decode cX5_factor 76 = .ok (.getfield 9, 3) := by decide +kernel
theorem dX5_factor_79 : decode cX5_factor 79 = .ok (.iconst 4, 1) := by decide +kernel
theorem dX5_factor_80 : decode cX5_factor 80 = .ok (.invokevirtual 41, 3) := by decide +kernel
theorem dX5_factor_83 : decode cX5_factor 83 = .ok (.ireturn, 1) := by decide +kernel
theorem dX5_factor_84 : decode cX5_factor 84 = .ok (.aload_n 0, 1) := by decide +kernel
theorem dX5_factor_85 : decode cX5_factor 85 = .ok (.getfield 9, 3) := by decide +kernel
theorem dX5_factor_88 : decode cX5_factor 88 = .ok (.invokevirtual 44, 3) := by decide +kernel
theorem dX5_factor_91 : decode cX5_factor 91 = .ok (.aload_n 0, 1) := by decide +kernel
theorem dX5_factor_92 : decode cX5_factor 92 = .ok (.iload_n 1, 1) := by decide +kernel
theorem dX5_factor_93 : decode cX5_factor 93 = .ok (.iconst 1, 1) := by decide +kernel
theorem dX5_factor_94 : decode cX5_factor 94 = .ok (.iadd, 1) := by decide +kernel
theorem dX5_factor_95 : decode cX5_factor 95 = .ok (.invokevirtual 64, 3) := by decide +kernel
theorem dX5_factor_98 : decode cX5_factor 98 = .ok (.ifCond .eq 19, 3) := by decide +kernel
theorem dX5_factor_101 : decode cX5_factor 101 = .ok (.aload_n 0, 1) := by decide +kernel
theorem dX5_factor_102 : decode cX5_factor 102 = .ok (.getfield 9, 3) := by decide +kernel
theorem dX5_factor_105 : decode cX5_factor 105 = .ok (.bipush 41, 2) := by decide +kernel
theorem dX5_factor_107 : decode cX5_factor 107 = .ok (.invokevirtual 81, 3) := by decide +kernel
theorem dX5_factor_110 : decode cX5_factor 110 = .ok (.ifCond .eq 7, 3) := by decide +kernel
theorem dX5_factor_113 : decode cX5_factor 113 = .ok (.iconst 1, 1) := by decide +kernel
theorem dX5_factor_114 : decode cX5_factor 114 = .ok (.goto 4, 3) := by decide +kernel
theorem dX5_factor_117 : decode cX5_factor 117 = .ok (.iconst 0, 1) := by decide +kernel
theorem dX5_factor_118 : decode cX5_factor 118 = .ok (.ireturn, 1) := by decide +kernel
theorem dX5_name_0 : decode cX5_name 0 = .ok (.aload_n 0, 1) := by decide +kernel
theorem dX5_name_1 : decode cX5_name 1 = .ok (.getfield 53, 3) := by decide +kernel
theorem dX5_name_4 : decode cX5_name 4 = .ok (.iconst 3, 1) := by decide +kernel
