theorem dX5_name_5 : decode cX5_name 5 = .ok (.if_icmp .ne 10, 3) := by decide +kernel
theorem dX5_name_8 : decode cX5_name 8 = .ok (.aload_n 0, 1) := by decide +kernel
theorem dX5_name_9 : decode cX5_name 9 = .ok (.invokevirtual 160, 3) := by decide +kernel
theorem dX5_name_12 : decode cX5_name 12 = .ok (.goto 22, 3) := by decide +kernel
theorem dX5_name_15 : decode cX5_name 15 = .ok (.aload_n 0, 1) := by decide +kernel
theorem dX5_name_16 : decode cX5_name 16 = .ok (.getfield 53, 3) := by decide +kernel
theorem dX5_name_19 : decode cX5_name 19 = .ok (.iconst 4, 1) := by decide +kernel
theorem dX5_name_20 : decode cX5_name 20 = .ok (.if_icmp .ne 10, 3) := by decide +kernel
theorem dX5_name_23 : decode cX5_name 23 = .ok (.aload_n 0, 1) := by decide +kernel
theorem dX5_name_24 : decode cX5_name 24 = .ok (.invokevirtual 163, 3) := by decide +kernel
theorem dX5_name_27 : decode cX5_name 27 = .ok (.goto 7, 3) := by decide +kernel
theorem dX5_name_30 : decode cX5_name 30 = .ok (.aload_n 0, 1) := by decide +kernel
theorem dX5_name_31 : decode cX5_name 31 = .ok (.invokevirtual 166, 3) := by decide +kernel
theorem dX5_name_34 : decode cX5_name 34 = .ok (.istore_n 1, 1) := by decide +kernel
theorem dX5_name_35 : decode cX5_name 35 = .ok (.iload_n 1, 1) := by decide +kernel
theorem dX5_name_36 : decode cX5_name 36 = .ok (.iconst (-1), 1) := by decide +kernel
theorem dX5_name_37 : decode cX5_name 37 = .ok (.if_icmp .ne 12, 3) := by decide +kernel
theorem dX5_name_40 : decode cX5_name 40 = .ok (.aload_n 0, 1) := by decide +kernel
theorem dX5_name_41 : decode cX5_name 41 = .ok (.getfield 9, 3) := by decide +kernel
theorem dX5_name_44 : decode cX5_name 44 = .ok (.iconst 3, 1) := by decide +kernel
theorem dX5_name_45 : decode cX5_name 45 = .ok (.invokevirtual 41, 3) := by decide +kernel
theorem dX5_name_48 : decode cX5_name 48 = .ok (.ireturn, 1) := by decide +kernel
theorem dX5_name_49 : decode cX5_name 49 = .ok (.aload_n 0, 1) := by decide +kernel
theorem dX5_name_50 : decode cX5_name 50 = .ok (.getfield 15, 3) := by decide +kernel
theorem dX5_name_53 : decode cX5_name 53 = .ok (.iconst 1, 1) := by decide +kernel
theorem dX5_name_54 : decode cX5_name 54 = .ok (.iload_n 1, 1) := by decide +kernel
theorem dX5_name_55 : decode cX5_name 55 = .ok (.invokevirtual 119, 3) := by decide +kernel
theorem dX5_name_58 : decode cX5_name 58 = .ok (.aload_n 0, 1) := by decide +kernel
theorem dX5_name_59 : decode cX5_name 59 = .ok (.getfield 9, 3) := by decide +kernel
theorem dX5_name_62 : decode cX5_name 62 = .ok (.invokevirtual 44, 3) := by decide +kernel
theorem dX5_name_65 : decode cX5_name 65 = .ok (.iconst 1, 1) := by decide +kernel
theorem dX5_name_66 : decode cX5_name 66 = .ok (.ireturn, 1) := by decide +kernel
theorem dX5_factOfPass_0 : decode cX5_factOfPass 0 = .ok (.aload_n 0, 1) := by decide +kernel
theorem dX5_factOfPass_1 : decode cX5_factOfPass 1 = .ok (.getfield 9, 3) := by decide +kernel
theorem dX5_factOfPass_4 : decode cX5_factOfPass 4 = .ok (.ldc 169, 2) := by decide +kernel
theorem dX5_factOfPass_6 : decode cX5_factOfPass 6 = .ok (.invokevirtual 87, 3) := by decide +kernel
theorem dX5_factOfPass_9 : decode cX5_factOfPass 9 = .ok (.ifCond .eq 7, 3) := by decide +kernel
theorem dX5_factOfPass_12 : decode cX5_factOfPass 12 = .ok (.iconst 0, 1) := by decide +kernel
theorem dX5_factOfPass_13 : decode cX5_factOfPass 13 = .ok (.goto 84, 3) := by decide +kernel
theorem dX5_factOfPass_16 : decode cX5_factOfPass 16 = .ok (.aload_n 0, 1) := by decide +kernel
theorem dX5_factOfPass_17 : decode cX5_factOfPass 17 = .ok (.getfield 9, 3) := by decide +kernel
theorem dX5_factOfPass_20 : decode cX5_factOfPass 20 = .ok (.ldc 171, 2) := by decide +kernel
theorem dX5_factOfPass_22 : decode cX5_factOfPass 22 = .ok (.invokevirtual 87, 3) := by decide +kernel
theorem dX5_factOfPass_25 : decode cX5_factOfPass 25 = .ok (.ifCond .eq 7, 3) := by decide +kernel
theorem dX5_factOfPass_28 : decode cX5_factOfPass 28 = .ok (.iconst 1, 1) := by decide +kernel
theorem dX5_factOfPass_29 : decode cX5_factOfPass 29 = .ok (.goto 68, 3) := by decide +kernel
theorem dX5_factOfPass_32 : decode cX5_factOfPass 32 = .ok (.aload_n 0, 1) := by decide +kernel
theorem dX5_factOfPass_33 : decode cX5_factOfPass 33 = .ok (.getfield 9, 3) := by decide +kernel
theorem dX5_factOfPass_36 : decode cX5_factOfPass 36 = .ok (.ldc 173, 2) := by decide +kernel
theorem dX5_factOfPass_38 : decode cX5_factOfPass 38 = .ok (.invokevirtual 87, 3) := by decide +kernel
theorem dX5_factOfPass_41 : decode cX5_factOfPass 41 = .ok (.ifCond .eq 7, 3) := by decide +kernel
theorem dX5_factOfPass_44 : decode cX5_factOfPass 44 = .ok (.iconst 2, 1) := by decide +kernel
theorem dX5_factOfPass_45 : decode cX5_factOfPass 45 = .ok (.goto 52, 3) := by decide +kernel
theorem dX5_factOfPass_48 : decode cX5_factOfPass 48 = .ok (.aload_n 0, 1) := by decide +kernel
theorem dX5_factOfPass_49 : decode cX5_factOfPass 49 = .ok (.getfield 9, 3) := by decide +kernel
theorem dX5_factOfPass_52 : decode cX5_factOfPass 52 = .ok (.ldc 175, 2) := by decide +kernel
theorem dX5_factOfPass_54 : decode cX5_factOfPass 54 = .ok (.invokevirtual 87, 3) := by decide +kernel
theorem dX5_factOfPass_57 : decode cX5_factOfPass 57 = .ok (.ifCond .eq 7, 3) := by decide +kernel
theorem dX5_factOfPass_60 : decode cX5_factOfPass 60 = .ok (.iconst 3, 1) := by decide +kernel
theorem dX5_factOfPass_61 : decode cX5_factOfPass 61 = .ok (.goto 36, 3) := by decide +kernel
theorem dX5_factOfPass_64 : decode cX5_factOfPass 64 = .ok (.aload_n 0, 1) := by decide +kernel
theorem dX5_factOfPass_65 : decode cX5_factOfPass 65 = .ok (.getfield 9, 3) := by decide +kernel
theorem dX5_factOfPass_68 : decode cX5_factOfPass 68 = .ok (.ldc 177, 2) := by decide +kernel
theorem dX5_factOfPass_70 : decode cX5_factOfPass 70 = .ok (.invokevirtual 87, 3) := by decide +kernel
theorem dX5_factOfPass_73 : decode cX5_factOfPass 73 = .ok (.ifCond .eq 7, 3) := by decide +kernel
theorem dX5_factOfPass_76 : decode cX5_factOfPass 76 = .ok (.iconst 4, 1) := by decide +kernel
theorem dX5_factOfPass_77 : decode cX5_factOfPass 77 = .ok (.goto 20, 3) := by decide +kernel
theorem dX5_factOfPass_80 : decode cX5_factOfPass 80 = .ok (.aload_n 0, 1) := by decide +kernel
theorem dX5_factOfPass_81 : decode cX5_factOfPass 81 = .ok (.getfield 9, 3) := by decide +kernel
theorem dX5_factOfPass_84 : decode cX5_factOfPass 84 = .ok (.ldc 179, 2) := by decide +kernel
theorem dX5_factOfPass_86 : decode cX5_factOfPass 86 = .ok (.invokevirtual 87, 3) := by decide +kernel
theorem dX5_factOfPass_89 : decode cX5_factOfPass 89 = .ok (.ifCond .eq 7, 3) := by decide +kernel
theorem dX5_factOfPass_92 : decode cX5_factOfPass 92 = .ok (.iconst 5, 1) := by decide +kernel
theorem dX5_factOfPass_93 : decode cX5_factOfPass 93 = .ok (.goto 4, 3) := by decide +kernel
theorem dX5_factOfPass_96 : decode cX5_factOfPass 96 = .ok (.iconst (-1), 1) := by decide +kernel
theorem dX5_factOfPass_97 : decode cX5_factOfPass 97 = .ok (.ireturn, 1) := by decide +kernel
theorem dX5_factOfCards_0 : decode cX5_factOfCards 0 = .ok (.aload_n 0, 1) := by decide +kernel
theorem dX5_factOfCards_1 : decode cX5_factOfCards 1 = .ok (.getfield 9, 3) := by decide +kernel
theorem dX5_factOfCards_4 : decode cX5_factOfCards 4 = .ok (.ldc 181, 2) := by decide +kernel
theorem dX5_factOfCards_6 : decode cX5_factOfCards 6 = .ok (.invokevirtual 87, 3) := by decide +kernel
theorem dX5_factOfCards_9 : decode cX5_factOfCards 9 = .ok (.ifCond .eq 7, 3) := by decide +kernel
theorem dX5_factOfCards_12 : decode cX5_factOfCards 12 = .ok (.iconst 0, 1) := by decide +kernel
theorem dX5_factOfCards_13 : decode cX5_factOfCards 13 = .ok (.goto 52, 3) := by decide +kernel
theorem dX5_factOfCards_16 : decode cX5_factOfCards 16 = .ok (.aload_n 0, 1) := by decide +kernel
theorem dX5_factOfCards_17 : decode cX5_factOfCards 17 = .ok (.getfield 9, 3) := by decide +kernel
theorem dX5_factOfCards_20 : decode cX5_factOfCards 20 = .ok (.ldc 183, 2) := by decide +kernel
theorem dX5_factOfCards_22 : decode cX5_factOfCards 22 = .ok (.invokevirtual 87, 3) := by decide +kernel
theorem dX5_factOfCards_25 : decode cX5_factOfCards 25 = .ok (.ifCond .eq 7, 3) := by decide +kernel
theorem dX5_factOfCards_28 : decode cX5_factOfCards 28 = .ok (.iconst 1, 1) := by decide +kernel
theorem dX5_factOfCards_29 : decode cX5_factOfCards 29 = .ok (.goto 36, 3) := by decide +kernel
theorem dX5_factOfCards_32 : decode cX5_factOfCards 32 = .ok (.aload_n 0, 1) := by decide +kernel
theorem dX5_factOfCards_33 : decode cX5_factOfCards 33 = .ok (.getfield 9, 3) := by decide +kernel
theorem dX5_factOfCards_36 : decode cX5_factOfCards 36 = .ok (.ldc 185, 2) := by decide +kernel
theorem dX5_factOfCards_38 : decode cX5_factOfCards 38 = .ok (.invokevirtual 87, 3) := by decide +kernel
theorem dX5_factOfCards_41 : decode cX5_factOfCards 41 = .ok (.ifCond .eq 7, 3) := by decide +kernel
theorem dX5_factOfCards_44 : decode cX5_factOfCards 44 = .ok (.iconst 2, 1) := by decide +kernel
theorem dX5_factOfCards_45 : decode cX5_factOfCards 45 = .ok (.goto 20, 3) := by decide +kernel
theorem dX5_factOfCards_48 : decode cX5_factOfCards 48 = .ok (.aload_n 0, 1) := by decide +kernel
theorem dX5_factOfCards_49 : decode cX5_factOfCards 49 = .ok (.getfield 9, 3) := by decide +kernel
theorem dX5_factOfCards_52 : decode cX5_factOfCards 52 = .ok (.ldc 187, 2) := by decide +kernel
theorem dX5_factOfCards_54 : decode cX5_factOfCards 54 = .ok (.invokevirtual 87, 3) := by decide +kernel
theorem dX5_factOfCards_57 : decode cX5_factOfCards 57 = .ok (.ifCond .eq 7, 3) := by decide +kernel
theorem dX5_factOfCards_60 : decode cX5_factOfCards 60 = .ok (.iconst 3, 1) := by decide +kernel
theorem dX5_factOfCards_61 : decode cX5_factOfCards 61 = .ok (.goto 4, 3) := by decide +kernel
theorem dX5_factOfCards_64 : decode cX5_factOfCards 64 = .ok (.iconst (-1), 1) := by decide +kernel
theorem dX5_factOfCards_65 : decode cX5_factOfCards 65 = .ok (.ireturn, 1) := by decide +kernel
theorem dX5_factOfLate_0 : decode cX5_factOfLate 0 = .ok (.aload_n 0, 1) := by decide +kernel
theorem dX5_factOfLate_1 : decode cX5_factOfLate 1 = .ok (.getfield 9, 3) := by decide +kernel
theorem dX5_factOfLate_4 : decode cX5_factOfLate 4 = .ok (.ldc 181, 2) := by decide +kernel
theorem dX5_factOfLate_6 : decode cX5_factOfLate 6 = .ok (.invokevirtual 87, 3) := by decide +kernel
theorem dX5_factOfLate_9 : decode cX5_factOfLate 9 = .ok (.ifCond .eq 7, 3) := by decide +kernel
theorem dX5_factOfLate_12 : decode cX5_factOfLate 12 = .ok (.iconst 0, 1) := by decide +kernel
theorem dX5_factOfLate_13 : decode cX5_factOfLate 13 = .ok (.goto 36, 3) := by decide +kernel
theorem dX5_factOfLate_16 : decode cX5_factOfLate 16 = .ok (.aload_n 0, 1) := by decide +kernel
theorem dX5_factOfLate_17 : decode cX5_factOfLate 17 = .ok (.getfield 9, 3) := by decide +kernel
theorem dX5_factOfLate_20 : decode cX5_factOfLate 20 = .ok (.ldc 189, 2) := by decide +kernel
theorem dX5_factOfLate_22 : decode cX5_factOfLate 22 = .ok (.invokevirtual 87, 3) := by decide +kernel
theorem dX5_factOfLate_25 : decode cX5_factOfLate 25 = .ok (.ifCond .eq 7, 3) := by decide +kernel
theorem dX5_factOfLate_28 : decode cX5_factOfLate 28 = .ok (.iconst 1, 1) := by decide +kernel
theorem dX5_factOfLate_29 : decode cX5_factOfLate 29 = .ok (.goto 20, 3) := by decide +kernel
theorem dX5_factOfLate_32 : decode cX5_factOfLate 32 = .ok (.aload_n 0, 1) := by decide +kernel
theorem dX5_factOfLate_33 : decode cX5_factOfLate 33 = .ok (.getfield 9, 3) := by decide +kernel
theorem dX5_factOfLate_36 : decode cX5_factOfLate 36 = .ok (.ldc 179, 2) := by decide +kernel
theorem dX5_factOfLate_38 : decode cX5_factOfLate 38 = .ok (.invokevirtual 87, 3) := by decide +kernel
theorem dX5_factOfLate_41 : decode cX5_factOfLate 41 = .ok (.ifCond .eq 7, 3) := by decide +kernel
theorem dX5_factOfLate_44 : decode cX5_factOfLate 44 = .ok (.iconst 2, 1) := by decide +kernel
theorem dX5_factOfLate_45 : decode cX5_factOfLate 45 = .ok (.goto 4, 3) := by decide +kernel
theorem dX5_factOfLate_48 : decode cX5_factOfLate 48 = .ok (.iconst (-1), 1) := by decide +kernel
theorem dX5_factOfLate_49 : decode cX5_factOfLate 49 = .ok (.ireturn, 1) := by decide +kernel
theorem dX6_init_0 : decode cX6_init 0 = .ok (.aload_n 0, 1) := by decide +kernel
theorem dX6_init_1 : decode cX6_init 1 = .ok (.invokespecial 3, 3) := by decide +kernel
theorem dX6_init_4 : decode cX6_init 4 = .ok (.aload_n 0, 1) := by decide +kernel
theorem dX6_init_5 : decode cX6_init 5 = .ok (.bipush 24, 2) := by decide +kernel
theorem dX6_init_7 : decode cX6_init 7 = .ok (.newarray .int, 2) := by decide +kernel
theorem dX6_init_9 : decode cX6_init 9 = .ok (.putfield 9, 3) := by decide +kernel
theorem dX6_init_12 : decode cX6_init 12 = .ok (.aload_n 0, 1) := by decide +kernel
theorem dX6_init_13 : decode cX6_init 13 = .ok (.bipush 40, 2) := by decide +kernel
theorem dX6_init_15 : decode cX6_init 15 = .ok (.newarray .int, 2) := by decide +kernel
theorem dX6_init_17 : decode cX6_init 17 = .ok (.putfield 15, 3) := by decide +kernel
theorem dX6_init_20 : decode cX6_init 20 = .ok (.aload_n 0, 1) := by decide +kernel
theorem dX6_init_21 : decode cX6_init 21 = .ok (.bipush 40, 2) := by decide +kernel
theorem dX6_init_23 : decode cX6_init 23 = .ok (.newarray .int, 2) := by decide +kernel
theorem dX6_init_25 : decode cX6_init 25 = .ok (.putfield 18, 3) := by decide +kernel
theorem dX6_init_28 : decode cX6_init 28 = .ok (.aload_n 0, 1) := by decide +kernel
theorem dX6_init_29 : decode cX6_init 29 = .ok (.sipush 240, 3) := by decide +kernel
theorem dX6_init_32 : decode cX6_init 32 = .ok (.newarray .int, 2) := by decide +kernel
theorem dX6_init_34 : decode cX6_init 34 = .ok (.putfield 21, 3) := by decide +kernel
theorem dX6_init_37 : decode cX6_init 37 = .ok (.aload_n 0, 1) := by decide +kernel
theorem dX6_init_38 : decode cX6_init 38 = .ok (.sipush 240, 3) := by decide +kernel
theorem dX6_init_41 : decode cX6_init 41 = .ok (.newarray .int, 2) := by decide +kernel
theorem dX6_init_43 : decode cX6_init 43 = .ok (.putfield 24, 3) := by decide +kernel
theorem dX6_init_46 : decode cX6_init 46 = .ok (.aload_n 0, 1) := by decide +kernel
theorem dX6_init_47 : decode cX6_init 47 = .ok (.bipush 10, 2) := by decide +kernel
theorem dX6_init_49 : decode cX6_init 49 = .ok (.anewarray 27, 3) := by decide +kernel
theorem dX6_init_52 : decode cX6_init 52 = .ok (.putfield 29, 3) := by decide +kernel
theorem dX6_init_55 : decode cX6_init 55 = .ok (.aload_n 0, 1) := by decide +kernel
theorem dX6_init_56 : decode cX6_init 56 = .ok (.new 27, 3) := by decide +kernel
theorem dX6_init_59 : decode cX6_init 59 = .ok (.dup, 1) := by decide +kernel
theorem dX6_init_60 : decode cX6_init 60 = .ok (.invokespecial 33, 3) := by decide +kernel
theorem dX6_init_63 : decode cX6_init 63 = .ok (.putfield 34, 3) := by decide +kernel
theorem dX6_init_66 : decode cX6_init 66 = .ok (.iconst 0, 1) := by decide +kernel
theorem dX6_init_67 : decode cX6_init 67 = .ok (.istore_n 1, 1) := by decide +kernel
theorem dX6_init_68 : decode cX6_init 68 = .ok (.iload_n 1, 1) := by decide +kernel
theorem dX6_init_69 : decode cX6_init 69 = .ok (.aload_n 0, 1) := by decide +kernel
theorem dX6_init_70 : decode cX6_init 70 = .ok (.getfield 29, 3) := by decide +kernel
theorem dX6_init_73 : decode cX6_init 73 = .ok (.arraylength, 1) := by decide +kernel
theorem dX6_init_74 : decode cX6_init 74 = .ok (.if_icmp .ge 22, 3) := by decide +kernel
theorem dX6_init_77 : decode cX6_init 77 = .ok (.aload_n 0, 1) := by decide +kernel
theorem dX6_init_78 : decode cX6_init 78 = .ok (.getfield 29, 3) := by decide +kernel
theorem dX6_init_81 : decode cX6_init 81 = .ok (.iload_n 1, 1) := by decide +kernel
theorem dX6_init_82 : decode cX6_init 82 = .ok (.new 27, 3) := by decide +kernel
theorem dX6_init_85 : decode cX6_init 85 = .ok (.dup, 1) := by decide +kernel
theorem dX6_init_86 : decode cX6_init 86 = .ok (.invokespecial 33, 3) := by decide +kernel
theorem dX6_init_89 : decode cX6_init 89 = .ok (.aastore, 1) := by decide +kernel
theorem dX6_init_90 : decode cX6_init 90 = .ok (.iinc 1 1, 3) := by decide +kernel
theorem dX6_init_93 : decode cX6_init 93 = .ok (.goto (-25), 3) := by decide +kernel
theorem dX6_init_96 : decode cX6_init 96 = .ok (.return_, 1) := by decide +kernel
theorem dX6_hasMotion_0 : decode cX6_hasMotion 0 = .ok (.iload_n 1, 1) := by decide +kernel
theorem dX6_hasMotion_1 : decode cX6_hasMotion 1 = .ok (.ifCond .lt 15, 3) := by decide +kernel
theorem dX6_hasMotion_4 : decode cX6_hasMotion 4 = .ok (.iload_n 1, 1) := by decide +kernel
theorem dX6_hasMotion_5 : decode cX6_hasMotion 5 = .ok (.aload_n 0, 1) := by decide +kernel
theorem dX6_hasMotion_6 : decode cX6_hasMotion 6 = .ok (.getfield 38, 3) := by decide +kernel
theorem dX6_hasMotion_9 : decode cX6_hasMotion 9 = .ok (.if_icmp .ge 7, 3) := by decide +kernel
theorem dX6_hasMotion_12 : decode cX6_hasMotion 12 = .ok (.iconst 1, 1) := by decide +kernel
theorem dX6_hasMotion_13 : decode cX6_hasMotion 13 = .ok (.goto 4, 3) := by decide +kernel
theorem dX6_hasMotion_16 : decode cX6_hasMotion 16 = .ok (.iconst 0, 1) := by decide +kernel
theorem dX6_hasMotion_17 : decode cX6_hasMotion 17 = .ok (.ireturn, 1) := by decide +kernel
theorem dX6_inForce_0 : decode cX6_inForce 0 = .ok (.iload_n 1, 1) := by decide +kernel
theorem dX6_inForce_1 : decode cX6_inForce 1 = .ok (.ifCond .lt 21, 3) := by decide +kernel
theorem dX6_inForce_4 : decode cX6_inForce 4 = .ok (.iload_n 1, 1) := by decide +kernel
theorem dX6_inForce_5 : decode cX6_inForce 5 = .ok (.aload_n 0, 1) := by decide +kernel
theorem dX6_inForce_6 : decode cX6_inForce 6 = .ok (.getfield 29, 3) := by decide +kernel
theorem dX6_inForce_9 : decode cX6_inForce 9 = .ok (.arraylength, 1) := by decide +kernel
theorem dX6_inForce_10 : decode cX6_inForce 10 = .ok (.if_icmp .ge 12, 3) := by decide +kernel
theorem dX6_inForce_13 : decode cX6_inForce 13 = .ok (.aload_n 0, 1) := by decide +kernel
theorem dX6_inForce_14 : decode cX6_inForce 14 = .ok (.getfield 29, 3) := by decide +kernel
theorem dX6_inForce_17 : decode cX6_inForce 17 = .ok (.iload_n 1, 1) := by decide +kernel
theorem dX6_inForce_18 : decode cX6_inForce 18 = .ok (.aaload, 1) := by decide +kernel
theorem dX6_inForce_19 : decode cX6_inForce 19 = .ok (.goto 7, 3) := by decide +kernel
theorem dX6_inForce_22 : decode cX6_inForce 22 = .ok (.aload_n 0, 1) := by decide +kernel
theorem dX6_inForce_23 : decode cX6_inForce 23 = .ok (.getfield 34, 3) := by decide +kernel
theorem dX6_inForce_26 : decode cX6_inForce 26 = .ok (.astore_n 2, 1) := by decide +kernel
theorem dX6_inForce_27 : decode cX6_inForce 27 = .ok (.aload_n 2, 1) := by decide +kernel
theorem dX6_inForce_28 : decode cX6_inForce 28 = .ok (.ifnonnull 10, 3) := by decide +kernel
theorem dX6_inForce_31 : decode cX6_inForce 31 = .ok (.aload_n 0, 1) := by decide +kernel
theorem dX6_inForce_32 : decode cX6_inForce 32 = .ok (.getfield 34, 3) := by decide +kernel
theorem dX6_inForce_35 : decode cX6_inForce 35 = .ok (.goto 4, 3) := by decide +kernel
theorem dX6_inForce_38 : decode cX6_inForce 38 = .ok (.aload_n 2, 1) := by decide +kernel
theorem dX6_inForce_39 : decode cX6_inForce 39 = .ok (.areturn, 1) := by decide +kernel
theorem dX6_draft_0 : decode cX6_draft 0 = .ok (.aload_n 0, 1) := by decide +kernel
theorem dX6_draft_1 : decode cX6_draft 1 = .ok (.aload_n 0, 1) := by decide +kernel
theorem dX6_draft_2 : decode cX6_draft 2 = .ok (.getfield 42, 3) := by decide +kernel
theorem dX6_draft_5 : decode cX6_draft 5 = .ok (.invokevirtual 45, 3) := by decide +kernel
theorem dX6_draft_8 : decode cX6_draft 8 = .ok (.areturn, 1) := by decide +kernel
theorem dX6_addMotion_0 : decode cX6_addMotion 0 = .ok (.aload_n 0, 1) := by decide +kernel
theorem dX6_addMotion_1 : decode cX6_addMotion 1 = .ok (.getfield 9, 3) := by decide +kernel
theorem dX6_addMotion_4 : decode cX6_addMotion 4 = .ok (.aload_n 0, 1) := by decide +kernel
theorem dX6_addMotion_5 : decode cX6_addMotion 5 = .ok (.getfield 38, 3) := by decide +kernel
theorem dX6_addMotion_8 : decode cX6_addMotion 8 = .ok (.iload_n 1, 1) := by decide +kernel
theorem dX6_addMotion_9 : decode cX6_addMotion 9 = .ok (.invokestatic 49, 3) := by decide +kernel
theorem dX6_addMotion_12 : decode cX6_addMotion 12 = .ok (.aload_n 0, 1) := by decide +kernel
theorem dX6_addMotion_13 : decode cX6_addMotion 13 = .ok (.dup, 1) := by decide +kernel
theorem dX6_addMotion_14 : decode cX6_addMotion 14 = .ok (.getfield 38, 3) := by decide +kernel
theorem dX6_addMotion_17 : decode cX6_addMotion 17 = .ok (.iconst 1, 1) := by decide +kernel
theorem dX6_addMotion_18 : decode cX6_addMotion 18 = .ok (.iadd, 1) := by decide +kernel
theorem dX6_addMotion_19 : decode cX6_addMotion 19 = .ok (.putfield 38, 3) := by decide +kernel
theorem dX6_addMotion_22 : decode cX6_addMotion 22 = .ok (.aload_n 0, 1) := by decide +kernel
theorem dX6_addMotion_23 : decode cX6_addMotion 23 = .ok (.getfield 38, 3) := by decide +kernel
theorem dX6_addMotion_26 : decode cX6_addMotion 26 = .ok (.iconst 1, 1) := by decide +kernel
theorem dX6_addMotion_27 : decode cX6_addMotion 27 = .ok (.isub, 1) := by decide +kernel
theorem dX6_addMotion_28 : decode cX6_addMotion 28 = .ok (.ireturn, 1) := by decide +kernel
theorem dX6_addAmendment_0 : decode cX6_addAmendment 0 = .ok (.aload_n 0, 1) := by decide +kernel
theorem dX6_addAmendment_1 : decode cX6_addAmendment 1 = .ok (.getfield 15, 3) := by decide +kernel
theorem dX6_addAmendment_4 : decode cX6_addAmendment 4 = .ok (.aload_n 0, 1) := by decide +kernel
theorem dX6_addAmendment_5 : decode cX6_addAmendment 5 = .ok (.getfield 53, 3) := by decide +kernel
theorem dX6_addAmendment_8 : decode cX6_addAmendment 8 = .ok (.iload_n 1, 1) := by decide +kernel
theorem dX6_addAmendment_9 : decode cX6_addAmendment 9 = .ok (.invokestatic 49, 3) := by decide +kernel
theorem dX6_addAmendment_12 : decode cX6_addAmendment 12 = .ok (.aload_n 0, 1) := by decide +kernel
theorem dX6_addAmendment_13 : decode cX6_addAmendment 13 = .ok (.getfield 18, 3) := by decide +kernel
theorem dX6_addAmendment_16 : decode cX6_addAmendment 16 = .ok (.aload_n 0, 1) := by decide +kernel
theorem dX6_addAmendment_17 : decode cX6_addAmendment 17 = .ok (.getfield 53, 3) := by decide +kernel
theorem dX6_addAmendment_20 : decode cX6_addAmendment 20 = .ok (.aload_n 2, 1) := by decide +kernel
theorem dX6_addAmendment_21 : decode cX6_addAmendment 21 = .ok (.getfield 56, 3) := by decide +kernel
theorem dX6_addAmendment_24 : decode cX6_addAmendment 24 = .ok (.invokestatic 49, 3) := by decide +kernel
theorem dX6_addAmendment_27 : decode cX6_addAmendment 27 = .ok (.iconst 0, 1) := by decide +kernel
theorem dX6_addAmendment_28 : decode cX6_addAmendment 28 = .ok (.istore_n 3, 1) := by decide +kernel
theorem dX6_addAmendment_29 : decode cX6_addAmendment 29 = .ok (.iload_n 3, 1) := by decide +kernel
theorem dX6_addAmendment_30 : decode cX6_addAmendment 30 = .ok (.aload_n 2, 1) := by decide +kernel
theorem dX6_addAmendment_31 : decode cX6_addAmendment 31 = .ok (.getfield 56, 3) := by decide +kernel
theorem dX6_addAmendment_34 : decode cX6_addAmendment 34 = .ok (.if_icmp .ge 57, 3) := by decide +kernel
theorem dX6_addAmendment_37 : decode cX6_addAmendment 37 = .ok (.aload_n 0, 1) := by decide +kernel
theorem dX6_addAmendment_38 : decode cX6_addAmendment 38 = .ok (.getfield 21, 3) := by decide +kernel
theorem dX6_addAmendment_41 : decode cX6_addAmendment 41 = .ok (.aload_n 0, 1) := by decide +kernel
theorem dX6_addAmendment_42 : decode cX6_addAmendment 42 = .ok (.getfield 53, 3) := by decide +kernel
theorem dX6_addAmendment_45 : decode cX6_addAmendment 45 = .ok (.bipush 6, 2) := by decide +kernel
theorem dX6_addAmendment_47 : decode cX6_addAmendment 47 = .ok (.imul, 1) := by decide +kernel
theorem dX6_addAmendment_48 : decode cX6_addAmendment 48 = .ok (.iload_n 3, 1) := by decide +kernel
theorem dX6_addAmendment_49 : decode cX6_addAmendment 49 = .ok (.iadd, 1) := by decide +kernel
theorem dX6_addAmendment_50 : decode cX6_addAmendment 50 = .ok (.aload_n 2, 1) := by decide +kernel
theorem dX6_addAmendment_51 : decode cX6_addAmendment 51 = .ok (.getfield 61, 3) := by decide +kernel
theorem dX6_addAmendment_54 : decode cX6_addAmendment 54 = .ok (.iload_n 3, 1) := by decide +kernel
theorem dX6_addAmendment_55 : decode cX6_addAmendment 55 = .ok (.invokestatic 64, 3) := by decide +kernel
theorem dX6_addAmendment_58 : decode cX6_addAmendment 58 = .ok (.invokestatic 49, 3) := by decide +kernel
theorem dX6_addAmendment_61 : decode cX6_addAmendment 61 = .ok (.aload_n 0, 1) := by decide +kernel
theorem dX6_addAmendment_62 : decode cX6_addAmendment 62 = .ok (.getfield 24, 3) := by decide +kernel
theorem dX6_addAmendment_65 : decode cX6_addAmendment 65 = .ok (.aload_n 0, 1) := by decide +kernel
theorem dX6_addAmendment_66 : decode cX6_addAmendment 66 = .ok (.getfield 53, 3) := by decide +kernel
theorem dX6_addAmendment_69 : decode cX6_addAmendment 69 = .ok (.bipush 6, 2) := by decide +kernel
theorem dX6_addAmendment_71 : decode cX6_addAmendment 71 = .ok (.imul, 1) := by decide +kernel
theorem dX6_addAmendment_72 : decode cX6_addAmendment 72 = .ok (.iload_n 3, 1) := by decide +kernel
theorem dX6_addAmendment_73 : decode cX6_addAmendment 73 = .ok (.iadd, 1) := by decide +kernel
theorem dX6_addAmendment_74 : decode cX6_addAmendment 74 = .ok (.aload_n 2, 1) := by decide +kernel
theorem dX6_addAmendment_75 : decode cX6_addAmendment 75 = .ok (.getfield 68, 3) := by decide +kernel
theorem dX6_addAmendment_78 : decode cX6_addAmendment 78 = .ok (.iload_n 3, 1) := by decide +kernel
theorem dX6_addAmendment_79 : decode cX6_addAmendment 79 = .ok (.invokestatic 64, 3) := by decide +kernel
theorem dX6_addAmendment_82 : decode cX6_addAmendment 82 = .ok (.invokestatic 49, 3) := by decide +kernel
theorem dX6_addAmendment_85 : decode cX6_addAmendment 85 = .ok (.iinc 3 1, 3) := by decide +kernel
theorem dX6_addAmendment_88 : decode cX6_addAmendment 88 = .ok (.goto (-59), 3) := by decide +kernel
theorem dX6_addAmendment_91 : decode cX6_addAmendment 91 = .ok (.aload_n 0, 1) := by decide +kernel
theorem dX6_addAmendment_92 : decode cX6_addAmendment 92 = .ok (.dup, 1) := by decide +kernel
theorem dX6_addAmendment_93 : decode cX6_addAmendment 93 = .ok (.getfield 53, 3) := by decide +kernel
theorem dX6_addAmendment_96 : decode cX6_addAmendment 96 = .ok (.iconst 1, 1) := by decide +kernel
theorem dX6_addAmendment_97 : decode cX6_addAmendment 97 = .ok (.iadd, 1) := by decide +kernel
theorem dX6_addAmendment_98 : decode cX6_addAmendment 98 = .ok (.putfield 53, 3) := by decide +kernel
theorem dX6_addAmendment_101 : decode cX6_addAmendment 101 = .ok (.aload_n 0, 1) := by decide +kernel
theorem dX6_addAmendment_102 : decode cX6_addAmendment 102 = .ok (.getfield 53, 3) := by decide +kernel
theorem dX6_addAmendment_105 : decode cX6_addAmendment 105 = .ok (.iconst 1, 1) := by decide +kernel
theorem dX6_addAmendment_106 : decode cX6_addAmendment 106 = .ok (.isub, 1) := by decide +kernel
theorem dX6_addAmendment_107 : decode cX6_addAmendment 107 = .ok (.ireturn, 1) := by decide +kernel
theorem dX7_init_0 : decode cX7_init 0 = .ok (.aload_n 0, 1) := by decide +kernel
theorem dX7_init_1 : decode cX7_init 1 = .ok (.invokespecial 3, 3) := by decide +kernel
theorem dX7_init_4 : decode cX7_init 4 = .ok (.aload_n 0, 1) := by decide +kernel
theorem dX7_init_5 : decode cX7_init 5 = .ok (.bipush 12, 2) := by decide +kernel
theorem dX7_init_7 : decode cX7_init 7 = .ok (.newarray .int, 2) := by decide +kernel
theorem dX7_init_9 : decode cX7_init 9 = .ok (.putfield 9, 3) := by decide +kernel
theorem dX7_init_12 : decode cX7_init 12 = .ok (.aload_n 0, 1) := by decide +kernel
theorem dX7_init_13 : decode cX7_init 13 = .ok (.bipush 48, 2) := by decide +kernel
theorem dX7_init_15 : decode cX7_init 15 = .ok (.newarray .int, 2) := by decide +kernel
theorem dX7_init_17 : decode cX7_init 17 = .ok (.putfield 15, 3) := by decide +kernel
theorem dX7_init_20 : decode cX7_init 20 = .ok (.aload_n 0, 1) := by decide +kernel
theorem dX7_init_21 : decode cX7_init 21 = .ok (.bipush 48, 2) := by decide +kernel
theorem dX7_init_23 : decode cX7_init 23 = .ok (.newarray .int, 2) := by decide +kernel
theorem dX7_init_25 : decode cX7_init 25 = .ok (.putfield 18, 3) := by decide +kernel
theorem dX7_init_28 : decode cX7_init 28 = .ok (.aload_n 0, 1) := by decide +kernel
theorem dX7_init_29 : decode cX7_init 29 = .ok (.sipush 600, 3) := by decide +kernel
theorem dX7_init_32 : decode cX7_init 32 = .ok (.newarray .int, 2) := by decide +kernel
theorem dX7_init_34 : decode cX7_init 34 = .ok (.putfield 21, 3) := by decide +kernel
theorem dX7_init_37 : decode cX7_init 37 = .ok (.aload_n 0, 1) := by decide +kernel
theorem dX7_init_38 : decode cX7_init 38 = .ok (.sipush 600, 3) := by decide +kernel
theorem dX7_init_41 : decode cX7_init 41 = .ok (.newarray .int, 2) := by decide +kernel
theorem dX7_init_43 : decode cX7_init 43 = .ok (.putfield 24, 3) := by decide +kernel
theorem dX7_init_46 : decode cX7_init 46 = .ok (.aload_n 0, 1) := by decide +kernel
theorem dX7_init_47 : decode cX7_init 47 = .ok (.sipush 600, 3) := by decide +kernel
theorem dX7_init_50 : decode cX7_init 50 = .ok (.newarray .int, 2) := by decide +kernel
theorem dX7_init_52 : decode cX7_init 52 = .ok (.putfield 27, 3) := by decide +kernel
theorem dX7_init_55 : decode cX7_init 55 = .ok (.aload_n 0, 1) := by decide +kernel
theorem dX7_init_56 : decode cX7_init 56 = .ok (.sipush 600, 3) := by decide +kernel
theorem dX7_init_59 : decode cX7_init 59 = .ok (.newarray .int, 2) := by decide +kernel
theorem dX7_init_61 : decode cX7_init 61 = .ok (.putfield 30, 3) := by decide +kernel
theorem dX7_init_64 : decode cX7_init 64 = .ok (.aload_n 0, 1) := by decide +kernel
theorem dX7_init_65 : decode cX7_init 65 = .ok (.sipush 600, 3) := by decide +kernel
theorem dX7_init_68 : decode cX7_init 68 = .ok (.newarray .int, 2) := by decide +kernel
theorem dX7_init_70 : decode cX7_init 70 = .ok (.putfield 33, 3) := by decide +kernel
theorem dX7_init_73 : decode cX7_init 73 = .ok (.aload_n 0, 1) := by decide +kernel
theorem dX7_init_74 : decode cX7_init 74 = .ok (.iconst (-1), 1) := by decide +kernel
theorem dX7_init_75 : decode cX7_init 75 = .ok (.putfield 36, 3) := by decide +kernel
theorem dX7_init_78 : decode cX7_init 78 = .ok (.return_, 1) := by decide +kernel
theorem dX7_hasAffiliate_0 : decode cX7_hasAffiliate 0 = .ok (.iload_n 1, 1) := by decide +kernel
theorem dX7_hasAffiliate_1 : decode cX7_hasAffiliate 1 = .ok (.ifCond .lt 15, 3) := by decide +kernel
theorem dX7_hasAffiliate_4 : decode cX7_hasAffiliate 4 = .ok (.iload_n 1, 1) := by decide +kernel
theorem dX7_hasAffiliate_5 : decode cX7_hasAffiliate 5 = .ok (.aload_n 0, 1) := by decide +kernel
theorem dX7_hasAffiliate_6 : decode cX7_hasAffiliate 6 = .ok (.getfield 40, 3) := by decide +kernel
theorem dX7_hasAffiliate_9 : decode cX7_hasAffiliate 9 = .ok (.if_icmp .ge 7, 3) := by decide +kernel
theorem dX7_hasAffiliate_12 : decode cX7_hasAffiliate 12 = .ok (.iconst 1, 1) := by decide +kernel
theorem dX7_hasAffiliate_13 : decode cX7_hasAffiliate 13 = .ok (.goto 4, 3) := by decide +kernel
theorem dX7_hasAffiliate_16 : decode cX7_hasAffiliate 16 = .ok (.iconst 0, 1) := by decide +kernel
theorem dX7_hasAffiliate_17 : decode cX7_hasAffiliate 17 = .ok (.ireturn, 1) := by decide +kernel
theorem dX7_hasBranch_0 : decode cX7_hasBranch 0 = .ok (.iload_n 1, 1) := by decide +kernel
theorem dX7_hasBranch_1 : decode cX7_hasBranch 1 = .ok (.ifCond .lt 15, 3) := by decide +kernel
theorem dX7_hasBranch_4 : decode cX7_hasBranch 4 = .ok (.iload_n 1, 1) := by decide +kernel
theorem dX7_hasBranch_5 : decode cX7_hasBranch 5 = .ok (.aload_n 0, 1) := by decide +kernel
theorem dX7_hasBranch_6 : decode cX7_hasBranch 6 = .ok (.getfield 43, 3) := by decide +kernel
theorem dX7_hasBranch_9 : decode cX7_hasBranch 9 = .ok (.if_icmp .ge 7, 3) := by decide +kernel
theorem dX7_hasBranch_12 : decode cX7_hasBranch 12 = .ok (.iconst 1, 1) := by decide +kernel
theorem dX7_hasBranch_13 : decode cX7_hasBranch 13 = .ok (.goto 4, 3) := by decide +kernel
theorem dX7_hasBranch_16 : decode cX7_hasBranch 16 = .ok (.iconst 0, 1) := by decide +kernel
theorem dX7_hasBranch_17 : decode cX7_hasBranch 17 = .ok (.ireturn, 1) := by decide +kernel
theorem dX7_isKnownDay_0 : decode cX7_isKnownDay 0 = .ok (.iload_n 1, 1) := by decide +kernel
theorem dX7_isKnownDay_1 : decode cX7_isKnownDay 1 = .ok (.ifCond .lt 15, 3) := by decide +kernel
theorem dX7_isKnownDay_4 : decode cX7_isKnownDay 4 = .ok (.iload_n 1, 1) := by decide +kernel
theorem dX7_isKnownDay_5 : decode cX7_isKnownDay 5 = .ok (.aload_n 0, 1) := by decide +kernel
theorem dX7_isKnownDay_6 : decode cX7_isKnownDay 6 = .ok (.getfield 46, 3) := by decide +kernel
theorem dX7_isKnownDay_9 : decode cX7_isKnownDay 9 = .ok (.if_icmp .gt 7, 3) := by decide +kernel
theorem dX7_isKnownDay_12 : decode cX7_isKnownDay 12 = .ok (.iconst 1, 1) := by decide +kernel
theorem dX7_isKnownDay_13 : decode cX7_isKnownDay 13 = .ok (.goto 4, 3) := by decide +kernel
theorem dX7_isKnownDay_16 : decode cX7_isKnownDay 16 = .ok (.iconst 0, 1) := by decide +kernel
theorem dX7_isKnownDay_17 : decode cX7_isKnownDay 17 = .ok (.ireturn, 1) := by decide +kernel
theorem dX7_addAffiliate_0 : decode cX7_addAffiliate 0 = .ok (.iload_n 1, 1) := by decide +kernel
theorem dX7_addAffiliate_1 : decode cX7_addAffiliate 1 = .ok (.ifCond .lt 18, 3) := by decide +kernel
theorem dX7_addAffiliate_4 : decode cX7_addAffiliate 4 = .ok (.iload_n 1, 1) := by decide +kernel
theorem dX7_addAffiliate_5 : decode cX7_addAffiliate 5 = .ok (.bipush 6, 2) := by decide +kernel
theorem dX7_addAffiliate_7 : decode cX7_addAffiliate 7 = .ok (.if_icmp .ge 12, 3) := by decide +kernel
theorem dX7_addAffiliate_10 : decode cX7_addAffiliate 10 = .ok (.aload_n 0, 1) := by decide +kernel
theorem dX7_addAffiliate_11 : decode cX7_addAffiliate 11 = .ok (.getfield 40, 3) := by decide +kernel
theorem dX7_addAffiliate_14 : decode cX7_addAffiliate 14 = .ok (.bipush 12, 2) := by decide +kernel
theorem dX7_addAffiliate_16 : decode cX7_addAffiliate 16 = .ok (.if_icmp .lt 5, 3) := by decide +kernel
theorem dX7_addAffiliate_19 : decode cX7_addAffiliate 19 = .ok (.iconst (-1), 1) := by decide +kernel
theorem dX7_addAffiliate_20 : decode cX7_addAffiliate 20 = .ok (.ireturn, 1) := by decide +kernel
theorem dX7_addAffiliate_21 : decode cX7_addAffiliate 21 = .ok (.aload_n 0, 1) := by decide +kernel
theorem dX7_addAffiliate_22 : decode cX7_addAffiliate 22 = .ok (.getfield 9, 3) := by decide +kernel
theorem dX7_addAffiliate_25 : decode cX7_addAffiliate 25 = .ok (.aload_n 0, 1) := by decide +kernel
theorem dX7_addAffiliate_26 : decode cX7_addAffiliate 26 = .ok (.getfield 40, 3) := by decide +kernel
theorem dX7_addAffiliate_29 : decode cX7_addAffiliate 29 = .ok (.iload_n 1, 1) := by decide +kernel
theorem dX7_addAffiliate_30 : decode cX7_addAffiliate 30 = .ok (.invokestatic 49, 3) := by decide +kernel
theorem dX7_addAffiliate_33 : decode cX7_addAffiliate 33 = .ok (.aload_n 0, 1) := by decide +kernel
theorem dX7_addAffiliate_34 : decode cX7_addAffiliate 34 = .ok (.dup, 1) := by decide +kernel
theorem dX7_addAffiliate_35 : decode cX7_addAffiliate 35 = .ok (.getfield 40, 3) := by decide +kernel
theorem dX7_addAffiliate_38 : decode cX7_addAffiliate 38 = .ok (.iconst 1, 1) := by decide +kernel
theorem dX7_addAffiliate_39 : decode cX7_addAffiliate 39 = .ok (.iadd, 1) := by decide +kernel
theorem dX7_addAffiliate_40 : decode cX7_addAffiliate 40 = .ok (.putfield 40, 3) := by decide +kernel
theorem dX7_addAffiliate_43 : decode cX7_addAffiliate 43 = .ok (.aload_n 0, 1) := by decide +kernel
theorem dX7_addAffiliate_44 : decode cX7_addAffiliate 44 = .ok (.getfield 40, 3) := by decide +kernel
theorem dX7_addAffiliate_47 : decode cX7_addAffiliate 47 = .ok (.iconst 1, 1) := by decide +kernel
theorem dX7_addAffiliate_48 : decode cX7_addAffiliate 48 = .ok (.isub, 1) := by decide +kernel
theorem dX7_addAffiliate_49 : decode cX7_addAffiliate 49 = .ok (.ireturn, 1) := by decide +kernel
theorem dX7_addBranch_0 : decode cX7_addBranch 0 = .ok (.aload_n 0, 1) := by decide +kernel
theorem dX7_addBranch_1 : decode cX7_addBranch 1 = .ok (.iload_n 1, 1) := by decide +kernel
theorem dX7_addBranch_2 : decode cX7_addBranch 2 = .ok (.invokevirtual 53, 3) := by decide +kernel
theorem dX7_addBranch_5 : decode cX7_addBranch 5 = .ok (.ifCond .eq 24, 3) := by decide +kernel
theorem dX7_addBranch_8 : decode cX7_addBranch 8 = .ok (.iload_n 2, 1) := by decide +kernel
theorem dX7_addBranch_9 : decode cX7_addBranch 9 = .ok (.iconst 1, 1) := by decide +kernel
theorem dX7_addBranch_10 : decode cX7_addBranch 10 = .ok (.if_icmp .lt 19, 3) := by decide +kernel
theorem dX7_addBranch_13 : decode cX7_addBranch 13 = .ok (.iload_n 2, 1) := by decide +kernel
theorem dX7_addBranch_14 : decode cX7_addBranch 14 = .ok (.sipush 999, 3) := by decide +kernel
theorem dX7_addBranch_17 : decode cX7_addBranch 17 = .ok (.if_icmp .gt 12, 3) := by decide +kernel
theorem dX7_addBranch_20 : decode cX7_addBranch 20 = .ok (.aload_n 0, 1) := by decide +kernel
theorem dX7_addBranch_21 : decode cX7_addBranch 21 = .ok (.getfield 43, 3) := by decide +kernel
theorem dX7_addBranch_24 : decode cX7_addBranch 24 = .ok (.bipush 48, 2) := by decide +kernel
theorem dX7_addBranch_26 : decode cX7_addBranch 26 = .ok (.if_icmp .lt 5, 3) := by decide +kernel
theorem dX7_addBranch_29 : decode cX7_addBranch 29 = .ok (.iconst (-1), 1) := by decide +kernel
theorem dX7_addBranch_30 : decode cX7_addBranch 30 = .ok (.ireturn, 1) := by decide +kernel
theorem dX7_addBranch_31 : decode cX7_addBranch 31 = .ok (.aload_n 0, 1) := by decide +kernel
theorem dX7_addBranch_32 : decode cX7_addBranch 32 = .ok (.getfield 15, 3) := by decide +kernel
theorem dX7_addBranch_35 : decode cX7_addBranch 35 = .ok (.aload_n 0, 1) := by decide +kernel
theorem dX7_addBranch_36 : decode cX7_addBranch 36 = .ok (.getfield 43, 3) := by decide +kernel
theorem dX7_addBranch_39 : decode cX7_addBranch 39 = .ok (.iload_n 1, 1) := by decide +kernel
theorem dX7_addBranch_40 : decode cX7_addBranch 40 = .ok (.invokestatic 49, 3) := by decide +kernel
theorem dX7_addBranch_43 : decode cX7_addBranch 43 = .ok (.aload_n 0, 1) := by decide +kernel
theorem dX7_addBranch_44 : decode cX7_addBranch 44 = .ok (.getfield 18, 3) := by decide +kernel
theorem dX7_addBranch_47 : decode cX7_addBranch 47 = .ok (.aload_n 0, 1) := by decide +kernel
theorem dX7_addBranch_48 : decode cX7_addBranch 48 = .ok (.getfield 43, 3) := by decide +kernel
theorem dX7_addBranch_51 : decode cX7_addBranch 51 = .ok (.iload_n 2, 1) := by decide +kernel
theorem dX7_addBranch_52 : decode cX7_addBranch 52 = .ok (.invokestatic 49, 3) := by decide +kernel
theorem dX7_addBranch_55 : decode cX7_addBranch 55 = .ok (.aload_n 0, 1) := by decide +kernel
theorem dX7_addBranch_56 : decode cX7_addBranch 56 = .ok (.dup, 1) := by decide +kernel
theorem dX7_addBranch_57 : decode cX7_addBranch 57 = .ok (.getfield 43, 3) := by decide +kernel
theorem dX7_addBranch_60 : decode cX7_addBranch 60 = .ok (.iconst 1, 1) := by decide +kernel
theorem dX7_addBranch_61 : decode cX7_addBranch 61 = .ok (.iadd, 1) := by decide +kernel
theorem dX7_addBranch_62 : decode cX7_addBranch 62 = .ok (.putfield 43, 3) := by decide +kernel
theorem dX7_addBranch_65 : decode cX7_addBranch 65 = .ok (.aload_n 0, 1) := by decide +kernel
theorem dX7_addBranch_66 : decode cX7_addBranch 66 = .ok (.getfield 43, 3) := by decide +kernel
theorem dX7_addBranch_69 : decode cX7_addBranch 69 = .ok (.iconst 1, 1) := by decide +kernel
theorem dX7_addBranch_70 : decode cX7_addBranch 70 = .ok (.isub, 1) := by decide +kernel
theorem dX7_addBranch_71 : decode cX7_addBranch 71 = .ok (.ireturn, 1) := by decide +kernel
theorem dX7_branchesOf_0 : decode cX7_branchesOf 0 = .ok (.iconst 0, 1) := by decide +kernel
theorem dX7_branchesOf_1 : decode cX7_branchesOf 1 = .ok (.istore_n 2, 1) := by decide +kernel
theorem dX7_branchesOf_2 : decode cX7_branchesOf 2 = .ok (.iconst 0, 1) := by decide +kernel
theorem dX7_branchesOf_3 : decode cX7_branchesOf 3 = .ok (.istore_n 3, 1) := by decide +kernel
theorem dX7_branchesOf_4 : decode cX7_branchesOf 4 = .ok (.iload_n 3, 1) := by decide +kernel
theorem dX7_branchesOf_5 : decode cX7_branchesOf 5 = .ok (.aload_n 0, 1) := by decide +kernel
theorem dX7_branchesOf_6 : decode cX7_branchesOf 6 = .ok (.getfield 43, 3) := by decide +kernel
theorem dX7_branchesOf_9 : decode cX7_branchesOf 9 = .ok (.if_icmp .ge 29, 3) := by decide +kernel
theorem dX7_branchesOf_12 : decode cX7_branchesOf 12 = .ok (.iload_n 2, 1) := by decide +kernel
theorem dX7_branchesOf_13 : decode cX7_branchesOf 13 = .ok (.aload_n 0, 1) := by decide +kernel
theorem dX7_branchesOf_14 : decode cX7_branchesOf 14 = .ok (.getfield 15, 3) := by decide +kernel
theorem dX7_branchesOf_17 : decode cX7_branchesOf 17 = .ok (.iload_n 3, 1) := by decide +kernel
theorem dX7_branchesOf_18 : decode cX7_branchesOf 18 = .ok (.invokestatic 57, 3) := by decide +kernel
theorem dX7_branchesOf_21 : decode cX7_branchesOf 21 = .ok (.iload_n 1, 1) := by decide +kernel
theorem dX7_branchesOf_22 : decode cX7_branchesOf 22 = .ok (.if_icmp .ne 7, 3) := by decide +kernel
theorem dX7_branchesOf_25 : decode cX7_branchesOf 25 = .ok (.iconst 1, 1) := by decide +kernel
theorem dX7_branchesOf_26 : decode cX7_branchesOf 26 = .ok (.goto 4, 3) := by decide +kernel
theorem dX7_branchesOf_29 : decode cX7_branchesOf 29 = .ok (.iconst 0, 1) := by decide +kernel
theorem dX7_branchesOf_30 : decode cX7_branchesOf 30 = .ok (.iadd, 1) := by decide +kernel
theorem dX7_branchesOf_31 : decode cX7_branchesOf 31 = .ok (.istore_n 2, 1) := by decide +kernel
theorem dX7_branchesOf_32 : decode cX7_branchesOf 32 = .ok (.iinc 3 1, 3) := by decide +kernel
theorem dX7_branchesOf_35 : decode cX7_branchesOf 35 = .ok (.goto (-31), 3) := by decide +kernel
theorem dX7_branchesOf_38 : decode cX7_branchesOf 38 = .ok (.iload_n 2, 1) := by decide +kernel
theorem dX7_branchesOf_39 : decode cX7_branchesOf 39 = .ok (.ireturn, 1) := by decide +kernel
theorem dX7_soulsOf_0 : decode cX7_soulsOf 0 = .ok (.iconst 0, 1) := by decide +kernel
theorem dX7_soulsOf_1 : decode cX7_soulsOf 1 = .ok (.istore_n 2, 1) := by decide +kernel
theorem dX7_soulsOf_2 : decode cX7_soulsOf 2 = .ok (.iconst 0, 1) := by decide +kernel
theorem dX7_soulsOf_3 : decode cX7_soulsOf 3 = .ok (.istore_n 3, 1) := by decide +kernel
theorem dX7_soulsOf_4 : decode cX7_soulsOf 4 = .ok (.iload_n 3, 1) := by decide +kernel
theorem dX7_soulsOf_5 : decode cX7_soulsOf 5 = .ok (.aload_n 0, 1) := by decide +kernel
theorem dX7_soulsOf_6 : decode cX7_soulsOf 6 = .ok (.getfield 43, 3) := by decide +kernel
theorem dX7_soulsOf_9 : decode cX7_soulsOf 9 = .ok (.if_icmp .ge 36, 3) := by decide +kernel
theorem dX7_soulsOf_12 : decode cX7_soulsOf 12 = .ok (.iload_n 2, 1) := by decide +kernel
theorem dX7_soulsOf_13 : decode cX7_soulsOf 13 = .ok (.aload_n 0, 1) := by decide +kernel
theorem dX7_soulsOf_14 : decode cX7_soulsOf 14 = .ok (.getfield 15, 3) := by decide +kernel
theorem dX7_soulsOf_17 : decode cX7_soulsOf 17 = .ok (.iload_n 3, 1) := by decide +kernel
theorem dX7_soulsOf_18 : decode cX7_soulsOf 18 = .ok (.invokestatic 57, 3) := by decide +kernel
theorem dX7_soulsOf_21 : decode cX7_soulsOf 21 = .ok (.iload_n 1, 1) := by decide +kernel
theorem dX7_soulsOf_22 : decode cX7_soulsOf 22 = .ok (.if_icmp .ne 14, 3) := by decide +kernel
theorem dX7_soulsOf_25 : decode cX7_soulsOf 25 = .ok (.aload_n 0, 1) := by decide +kernel
theorem dX7_soulsOf_26 : decode cX7_soulsOf 26 = .ok (.getfield 18, 3) := by decide +kernel
theorem dX7_soulsOf_29 : decode cX7_soulsOf 29 = .ok (.iload_n 3, 1) := by decide +kernel
theorem dX7_soulsOf_30 : decode cX7_soulsOf 30 = .ok (.invokestatic 57, 3) := by decide +kernel
theorem dX7_soulsOf_33 : decode cX7_soulsOf 33 = .ok (.goto 4, 3) := by decide +kernel
theorem dX7_soulsOf_36 : decode cX7_soulsOf 36 = .ok (.iconst 0, 1) := by decide +kernel
theorem dX7_soulsOf_37 : decode cX7_soulsOf 37 = .ok (.iadd, 1) := by decide +kernel
theorem dX7_soulsOf_38 : decode cX7_soulsOf 38 = .ok (.istore_n 2, 1) := by decide +kernel
theorem dX7_soulsOf_39 : decode cX7_soulsOf 39 = .ok (.iinc 3 1, 3) := by decide +kernel
theorem dX7_soulsOf_42 : decode cX7_soulsOf 42 = .ok (.goto (-38), 3) := by decide +kernel
theorem dX7_soulsOf_45 : decode cX7_soulsOf 45 = .ok (.iload_n 2, 1) := by decide +kernel
theorem dX7_soulsOf_46 : decode cX7_soulsOf 46 = .ok (.ireturn, 1) := by decide +kernel
theorem dX7_tell_0 : decode cX7_tell 0 = .ok (.aload_n 0, 1) := by decide +kernel
theorem dX7_tell_1 : decode cX7_tell 1 = .ok (.getfield 61, 3) := by decide +kernel
theorem dX7_tell_4 : decode cX7_tell 4 = .ok (.sipush 600, 3) := by decide +kernel
theorem dX7_tell_7 : decode cX7_tell 7 = .ok (.if_icmp .lt 5, 3) := by decide +kernel
theorem dX7_tell_10 : decode cX7_tell 10 = .ok (.iconst 0, 1) := by decide +kernel
theorem dX7_tell_11 : decode cX7_tell 11 = .ok (.ireturn, 1) := by decide +kernel
theorem dX7_tell_12 : decode cX7_tell 12 = .ok (.aload_n 0, 1) := by decide +kernel
theorem dX7_tell_13 : decode cX7_tell 13 = .ok (.getfield 21, 3) := by decide +kernel
theorem dX7_tell_16 : decode cX7_tell 16 = .ok (.aload_n 0, 1) := by decide +kernel
theorem dX7_tell_17 : decode cX7_tell 17 = .ok (.getfield 61, 3) := by decide +kernel
theorem dX7_tell_20 : decode cX7_tell 20 = .ok (.iload_n 1, 1) := by decide +kernel
theorem dX7_tell_21 : decode cX7_tell 21 = .ok (.invokestatic 49, 3) := by decide +kernel
theorem dX7_tell_24 : decode cX7_tell 24 = .ok (.aload_n 0, 1) := by decide +kernel
theorem dX7_tell_25 : decode cX7_tell 25 = .ok (.getfield 24, 3) := by decide +kernel
theorem dX7_tell_28 : decode cX7_tell 28 = .ok (.aload_n 0, 1) := by decide +kernel
theorem dX7_tell_29 : decode cX7_tell 29 = .ok (.getfield 61, 3) := by decide +kernel
theorem dX7_tell_32 : decode cX7_tell 32 = .ok (.iload_n 2, 1) := by decide +kernel
theorem dX7_tell_33 : decode cX7_tell 33 = .ok (.invokestatic 49, 3) := by decide +kernel
theorem dX7_tell_36 : decode cX7_tell 36 = .ok (.aload_n 0, 1) := by decide +kernel
theorem dX7_tell_37 : decode cX7_tell 37 = .ok (.getfield 27, 3) := by decide +kernel
theorem dX7_tell_40 : decode cX7_tell 40 = .ok (.aload_n 0, 1) := by decide +kernel
theorem dX7_tell_41 : decode cX7_tell 41 = .ok (.getfield 61, 3) := by decide +kernel
theorem dX7_tell_44 : decode cX7_tell 44 = .ok (.iload_n 3, 1) := by decide +kernel
theorem dX7_tell_45 : decode cX7_tell 45 = .ok (.invokestatic 49, 3) := by decide +kernel
theorem dX7_tell_48 : decode cX7_tell 48 = .ok (.aload_n 0, 1) := by decide +kernel
theorem dX7_tell_49 : decode cX7_tell 49 = .ok (.getfield 30, 3) := by decide +kernel
theorem dX7_tell_52 : decode cX7_tell 52 = .ok (.aload_n 0, 1) := by decide +kernel
theorem dX7_tell_53 : decode cX7_tell 53 = .ok (.getfield 61, 3) := by decide +kernel
theorem dX7_tell_56 : decode cX7_tell 56 = .ok (.aload_n 0, 1) := by decide +kernel
theorem dX7_tell_57 : decode cX7_tell 57 = .ok (.getfield 46, 3) := by decide +kernel
theorem dX7_tell_60 : decode cX7_tell 60 = .ok (.invokestatic 49, 3) := by decide +kernel
theorem dX7_tell_63 : decode cX7_tell 63 = .ok (.aload_n 0, 1) := by decide +kernel
theorem dX7_tell_64 : decode cX7_tell 64 = .ok (.getfield 33, 3) := by decide +kernel
theorem dX7_tell_67 : decode cX7_tell 67 = .ok (.aload_n 0, 1) := by decide +kernel
theorem dX7_tell_68 : decode cX7_tell 68 = .ok (.getfield 61, 3) := by decide +kernel
theorem dX7_tell_71 : decode cX7_tell 71 = .ok (.iload 4, 2) := by decide +kernel
theorem dX7_tell_73 : decode cX7_tell 73 = .ok (.invokestatic 49, 3) := by decide +kernel
theorem dX7_tell_76 : decode cX7_tell 76 = .ok (.aload_n 0, 1) := by decide +kernel
theorem dX7_tell_77 : decode cX7_tell 77 = .ok (.dup, 1) := by decide +kernel
theorem dX7_tell_78 : decode cX7_tell 78 = .ok (.getfield 61, 3) := by decide +kernel
theorem dX7_tell_81 : decode cX7_tell 81 = .ok (.iconst 1, 1) := by decide +kernel
theorem dX7_tell_82 : decode cX7_tell 82 = .ok (.iadd, 1) := by decide +kernel
theorem dX7_tell_83 : decode cX7_tell 83 = .ok (.putfield 61, 3) := by decide +kernel
theorem dX7_tell_86 : decode cX7_tell 86 = .ok (.iconst 1, 1) := by decide +kernel
theorem dX7_tell_87 : decode cX7_tell 87 = .ok (.ireturn, 1) := by decide +kernel
theorem dX8_init_0 : decode cX8_init 0 = .ok (.aload_n 0, 1) := by decide +kernel
theorem dX8_init_1 : decode cX8_init 1 = .ok (.invokespecial 3, 3) := by decide +kernel
theorem dX8_init_4 : decode cX8_init 4 = .ok (.aload_n 0, 1) := by decide +kernel
theorem dX8_init_5 : decode cX8_init 5 = .ok (.sipush 300, 3) := by decide +kernel
theorem dX8_init_8 : decode cX8_init 8 = .ok (.newarray .int, 2) := by decide +kernel
theorem dX8_init_10 : decode cX8_init 10 = .ok (.putfield 9, 3) := by decide +kernel
theorem dX8_init_13 : decode cX8_init 13 = .ok (.aload_n 0, 1) := by decide +kernel
theorem dX8_init_14 : decode cX8_init 14 = .ok (.iconst 5, 1) := by decide +kernel
theorem dX8_init_15 : decode cX8_init 15 = .ok (.newarray .int, 2) := by decide +kernel
theorem dX8_init_17 : decode cX8_init 17 = .ok (.putfield 15, 3) := by decide +kernel
theorem dX8_init_20 : decode cX8_init 20 = .ok (.aload_n 0, 1) := by decide +kernel
theorem dX8_init_21 : decode cX8_init 21 = .ok (.iconst 5, 1) := by decide +kernel
theorem dX8_init_22 : decode cX8_init 22 = .ok (.newarray .int, 2) := by decide +kernel
theorem dX8_init_24 : decode cX8_init 24 = .ok (.putfield 18, 3) := by decide +kernel
theorem dX8_init_27 : decode cX8_init 27 = .ok (.aload_n 0, 1) := by decide +kernel
theorem dX8_init_28 : decode cX8_init 28 = .ok (.bipush 10, 2) := by decide +kernel
theorem dX8_init_30 : decode cX8_init 30 = .ok (.putfield 21, 3) := by decide +kernel
theorem dX8_init_33 : decode cX8_init 33 = .ok (.aload_n 0, 1) := by decide +kernel
theorem dX8_init_34 : decode cX8_init 34 = .ok (.bipush 12, 2) := by decide +kernel
theorem dX8_init_36 : decode cX8_init 36 = .ok (.putfield 25, 3) := by decide +kernel
theorem dX8_init_39 : decode cX8_init 39 = .ok (.return_, 1) := by decide +kernel
theorem dX8_clear_0 : decode cX8_clear 0 = .ok (.aload_n 0, 1) := by decide +kernel
theorem dX8_clear_1 : decode cX8_clear 1 = .ok (.iconst 0, 1) := by decide +kernel
theorem dX8_clear_2 : decode cX8_clear 2 = .ok (.putfield 28, 3) := by decide +kernel
theorem dX8_clear_5 : decode cX8_clear 5 = .ok (.aload_n 0, 1) := by decide +kernel
theorem dX8_clear_6 : decode cX8_clear 6 = .ok (.getfield 15, 3) := by decide +kernel
theorem dX8_clear_9 : decode cX8_clear 9 = .ok (.iconst 0, 1) := by decide +kernel
theorem dX8_clear_10 : decode cX8_clear 10 = .ok (.invokestatic 31, 3) := by decide +kernel
theorem dX8_clear_13 : decode cX8_clear 13 = .ok (.aload_n 0, 1) := by decide +kernel
theorem dX8_clear_14 : decode cX8_clear 14 = .ok (.getfield 18, 3) := by decide +kernel
theorem dX8_clear_17 : decode cX8_clear 17 = .ok (.iconst 0, 1) := by decide +kernel
theorem dX8_clear_18 : decode cX8_clear 18 = .ok (.invokestatic 31, 3) := by decide +kernel
theorem dX8_clear_21 : decode cX8_clear 21 = .ok (.aload_n 0, 1) := by decide +kernel
theorem dX8_clear_22 : decode cX8_clear 22 = .ok (.bipush 10, 2) := by decide +kernel
theorem dX8_clear_24 : decode cX8_clear 24 = .ok (.putfield 21, 3) := by decide +kernel
theorem dX8_clear_27 : decode cX8_clear 27 = .ok (.aload_n 0, 1) := by decide +kernel
theorem dX8_clear_28 : decode cX8_clear 28 = .ok (.bipush 12, 2) := by decide +kernel
theorem dX8_clear_30 : decode cX8_clear 30 = .ok (.putfield 25, 3) := by decide +kernel
theorem dX8_clear_33 : decode cX8_clear 33 = .ok (.aload_n 0, 1) := by decide +kernel
theorem dX8_clear_34 : decode cX8_clear 34 = .ok (.iconst 0, 1) := by decide +kernel
theorem dX8_clear_35 : decode cX8_clear 35 = .ok (.putfield 35, 3) := by decide +kernel
theorem dX8_clear_38 : decode cX8_clear 38 = .ok (.return_, 1) := by decide +kernel
theorem dX8_beginPart_0 : decode cX8_beginPart 0 = .ok (.aload_n 0, 1) := by decide +kernel
theorem dX8_beginPart_1 : decode cX8_beginPart 1 = .ok (.getfield 15, 3) := by decide +kernel
theorem dX8_beginPart_4 : decode cX8_beginPart 4 = .ok (.iload_n 1, 1) := by decide +kernel
theorem dX8_beginPart_5 : decode cX8_beginPart 5 = .ok (.aload_n 0, 1) := by decide +kernel
theorem dX8_beginPart_6 : decode cX8_beginPart 6 = .ok (.getfield 28, 3) := by decide +kernel
theorem dX8_beginPart_9 : decode cX8_beginPart 9 = .ok (.invokestatic 39, 3) := by decide +kernel
theorem dX8_beginPart_12 : decode cX8_beginPart 12 = .ok (.return_, 1) := by decide +kernel
theorem dX8_endPart_0 : decode cX8_endPart 0 = .ok (.aload_n 0, 1) := by decide +kernel
theorem dX8_endPart_1 : decode cX8_endPart 1 = .ok (.getfield 18, 3) := by decide +kernel
theorem dX8_endPart_4 : decode cX8_endPart 4 = .ok (.iload_n 1, 1) := by decide +kernel
theorem dX8_endPart_5 : decode cX8_endPart 5 = .ok (.aload_n 0, 1) := by decide +kernel
theorem dX8_endPart_6 : decode cX8_endPart 6 = .ok (.getfield 28, 3) := by decide +kernel
theorem dX8_endPart_9 : decode cX8_endPart 9 = .ok (.invokestatic 39, 3) := by decide +kernel
theorem dX8_endPart_12 : decode cX8_endPart 12 = .ok (.return_, 1) := by decide +kernel
theorem dX8_addStep_0 : decode cX8_addStep 0 = .ok (.aload_n 0, 1) := by decide +kernel
theorem dX8_addStep_1 : decode cX8_addStep 1 = .ok (.getfield 28, 3) := by decide +kernel
theorem dX8_addStep_4 : decode cX8_addStep 4 = .ok (.ifCond .lt 40, 3) := by decide +kernel
theorem dX8_addStep_7 : decode cX8_addStep 7 = .ok (.aload_n 0, 1) := by decide +kernel
theorem dX8_addStep_8 : decode cX8_addStep 8 = .ok (.getfield 28, 3) := by decide +kernel
theorem dX8_addStep_11 : decode cX8_addStep 11 = .ok (.aload_n 0, 1) := by decide +kernel
theorem dX8_addStep_12 : decode cX8_addStep 12 = .ok (.getfield 9, 3) := by decide +kernel
theorem dX8_addStep_15 : decode cX8_addStep 15 = .ok (.arraylength, 1) := by decide +kernel
theorem dX8_addStep_16 : decode cX8_addStep 16 = .ok (.if_icmp .ge 28, 3) := by decide +kernel
theorem dX8_addStep_19 : decode cX8_addStep 19 = .ok (.aload_n 0, 1) := by decide +kernel
theorem dX8_addStep_20 : decode cX8_addStep 20 = .ok (.getfield 9, 3) := by decide +kernel
theorem dX8_addStep_23 : decode cX8_addStep 23 = .ok (.aload_n 0, 1) := by decide +kernel
theorem dX8_addStep_24 : decode cX8_addStep 24 = .ok (.getfield 28, 3) := by decide +kernel
theorem dX8_addStep_27 : decode cX8_addStep 27 = .ok (.iload_n 2, 1) := by decide +kernel
theorem dX8_addStep_28 : decode cX8_addStep 28 = .ok (.bipush 16, 2) := by decide +kernel
theorem dX8_addStep_30 : decode cX8_addStep 30 = .ok (.imul, 1) := by decide +kernel
theorem dX8_addStep_31 : decode cX8_addStep 31 = .ok (.iload_n 1, 1) := by decide +kernel
theorem dX8_addStep_32 : decode cX8_addStep 32 = .ok (.iadd, 1) := by decide +kernel
theorem dX8_addStep_33 : decode cX8_addStep 33 = .ok (.iastore, 1) := by decide +kernel
theorem dX8_addStep_34 : decode cX8_addStep 34 = .ok (.aload_n 0, 1) := by decide +kernel
theorem dX8_addStep_35 : decode cX8_addStep 35 = .ok (.dup, 1) := by decide +kernel
theorem dX8_addStep_36 : decode cX8_addStep 36 = .ok (.getfield 28, 3) := by decide +kernel
theorem dX8_addStep_39 : decode cX8_addStep 39 = .ok (.iconst 1, 1) := by decide +kernel
theorem dX8_addStep_40 : decode cX8_addStep 40 = .ok (.iadd, 1) := by decide +kernel
theorem dX8_addStep_41 : decode cX8_addStep 41 = .ok (.putfield 28, 3) := by decide +kernel
theorem dX8_addStep_44 : decode cX8_addStep 44 = .ok (.return_, 1) := by decide +kernel
theorem dX8_says_0 : decode cX8_says 0 = .ok (.aload_n 0, 1) := by decide +kernel
theorem dX8_says_1 : decode cX8_says 1 = .ok (.getfield 18, 3) := by decide +kernel
theorem dX8_says_4 : decode cX8_says 4 = .ok (.iload_n 1, 1) := by decide +kernel
theorem dX8_says_5 : decode cX8_says 5 = .ok (.invokestatic 43, 3) := by decide +kernel
theorem dX8_says_8 : decode cX8_says 8 = .ok (.aload_n 0, 1) := by decide +kernel
theorem dX8_says_9 : decode cX8_says 9 = .ok (.getfield 15, 3) := by decide +kernel
theorem dX8_says_12 : decode cX8_says 12 = .ok (.iload_n 1, 1) := by decide +kernel
theorem dX8_says_13 : decode cX8_says 13 = .ok (.invokestatic 43, 3) := by decide +kernel
theorem dX8_says_16 : decode cX8_says 16 = .ok (.if_icmp .le 7, 3) := by decide +kernel
theorem dX8_says_19 : decode cX8_says 19 = .ok (.iconst 1, 1) := by decide +kernel
theorem dX8_says_20 : decode cX8_says 20 = .ok (.goto 4, 3) := by decide +kernel
theorem dX8_says_23 : decode cX8_says 23 = .ok (.iconst 0, 1) := by decide +kernel
theorem dX8_says_24 : decode cX8_says 24 = .ok (.ireturn, 1) := by decide +kernel
theorem dX8_value_0 : decode cX8_value 0 = .ok (.iconst 0, 1) := by decide +kernel
theorem dX8_value_1 : decode cX8_value 1 = .ok (.istore 4, 2) := by decide +kernel
theorem dX8_value_3 : decode cX8_value 3 = .ok (.aload_n 0, 1) := by decide +kernel
theorem dX8_value_4 : decode cX8_value 4 = .ok (.getfield 18, 3) := by decide +kernel
theorem dX8_value_7 : decode cX8_value 7 = .ok (.iload_n 1, 1) := by decide +kernel
theorem dX8_value_8 : decode cX8_value 8 = .ok (.invokestatic 43, 3) := by decide +kernel
theorem dX8_value_11 : decode cX8_value 11 = .ok (.istore 5, 2) := by decide +kernel
theorem dX8_value_13 : decode cX8_value 13 = .ok (.aload_n 0, 1) := by decide +kernel
theorem dX8_value_14 : decode cX8_value 14 = .ok (.getfield 15, 3) := by decide +kernel
theorem dX8_value_17 : decode cX8_value 17 = .ok (.iload_n 1, 1) := by decide +kernel
theorem dX8_value_18 : decode cX8_value 18 = .ok (.invokestatic 43, 3) := by decide +kernel
theorem dX8_value_21 : decode cX8_value 21 = .ok (.istore 6, 2) := by decide +kernel
theorem dX8_value_23 : decode cX8_value 23 = .ok (.iload 6, 2) := by decide +kernel
theorem dX8_value_25 : decode cX8_value 25 = .ok (.iload 5, 2) := by decide +kernel
theorem dX8_value_27 : decode cX8_value 27 = .ok (.if_icmp .ge 140, 3) := by decide +kernel
theorem dX8_value_30 : decode cX8_value 30 = .ok (.aload_n 0, 1) := by decide +kernel
theorem dX8_value_31 : decode cX8_value 31 = .ok (.getfield 9, 3) := by decide +kernel
theorem dX8_value_34 : decode cX8_value 34 = .ok (.iload 6, 2) := by decide +kernel
theorem dX8_value_36 : decode cX8_value 36 = .ok (.invokestatic 43, 3) := by decide +kernel
theorem dX8_value_39 : decode cX8_value 39 = .ok (.bipush 15, 2) := by decide +kernel
theorem dX8_value_41 : decode cX8_value 41 = .ok (.iand, 1) := by decide +kernel
theorem dX8_value_42 : decode cX8_value 42 = .ok (.istore 7, 2) := by decide +kernel
theorem dX8_value_44 : decode cX8_value 44 = .ok (.aload_n 0, 1) := by decide +kernel
theorem dX8_value_45 : decode cX8_value 45 = .ok (.getfield 9, 3) := by decide +kernel
theorem dX8_value_48 : decode cX8_value 48 = .ok (.iload 6, 2) := by decide +kernel
theorem dX8_value_50 : decode cX8_value 50 = .ok (.invokestatic 43, 3) := by decide +kernel
theorem dX8_value_53 : decode cX8_value 53 = .ok (.iconst 4, 1) := by decide +kernel
theorem dX8_value_54 : decode cX8_value 54 = .ok (.ishr, 1) := by decide +kernel
theorem dX8_value_55 : decode cX8_value 55 = .ok (.istore 8, 2) := by decide +kernel
theorem dX8_value_57 : decode cX8_value 57 = .ok (.iload 7, 2) := by decide +kernel
theorem dX8_value_59 : decode cX8_value 59 = .ok (.ifCond .eq 9, 3) := by decide +kernel
theorem dX8_value_62 : decode cX8_value 62 = .ok (.iload 7, 2) := by decide +kernel
theorem dX8_value_64 : decode cX8_value 64 = .ok (.iconst 1, 1) := by decide +kernel
theorem dX8_value_65 : decode cX8_value 65 = .ok (.if_icmp .ne 31, 3) := by decide +kernel
theorem dX8_value_68 : decode cX8_value 68 = .ok (.aload_n 3, 1) := by decide +kernel
theorem dX8_value_69 : decode cX8_value 69 = .ok (.iload 4, 2) := by decide +kernel
theorem dX8_value_71 : decode cX8_value 71 = .ok (.iload 7, 2) := by decide +kernel
theorem dX8_value_73 : decode cX8_value 73 = .ok (.ifCond .ne 8, 3) := by decide +kernel
theorem dX8_value_76 : decode cX8_value 76 = .ok (.iload 8, 2) := by decide +kernel
theorem dX8_value_78 : decode cX8_value 78 = .ok (.goto 9, 3) := by decide +kernel
theorem dX8_value_81 : decode cX8_value 81 = .ok (.aload_n 2, 1) := by decide +kernel
theorem dX8_value_82 : decode cX8_value 82 = .ok (.iload 8, 2) := by decide +kernel
theorem dX8_value_84 : decode cX8_value 84 = .ok (.invokestatic 43, 3) := by decide +kernel
theorem dX8_value_87 : decode cX8_value 87 = .ok (.invokestatic 39, 3) := by decide +kernel
theorem dX8_value_90 : decode cX8_value 90 = .ok (.iinc 4 1, 3) := by decide +kernel
theorem dX8_value_93 : decode cX8_value 93 = .ok (.goto 68, 3) := by decide +kernel
theorem dX8_value_96 : decode cX8_value 96 = .ok (.iload 7, 2) := by decide +kernel
theorem dX8_value_98 : decode cX8_value 98 = .ok (.bipush 11, 2) := by decide +kernel
theorem dX8_value_100 : decode cX8_value 100 = .ok (.if_icmp .ne 24, 3) := by decide +kernel
theorem dX8_value_103 : decode cX8_value 103 = .ok (.aload_n 3, 1) := by decide +kernel
theorem dX8_value_104 : decode cX8_value 104 = .ok (.iload 4, 2) := by decide +kernel
theorem dX8_value_106 : decode cX8_value 106 = .ok (.iconst 1, 1) := by decide +kernel
theorem dX8_value_107 : decode cX8_value 107 = .ok (.isub, 1) := by decide +kernel
theorem dX8_value_108 : decode cX8_value 108 = .ok (.iconst 1, 1) := by decide +kernel
theorem dX8_value_109 : decode cX8_value 109 = .ok (.aload_n 3, 1) := by decide +kernel
theorem dX8_value_110 : decode cX8_value 110 = .ok (.iload 4, 2) := by decide +kernel
theorem dX8_value_112 : decode cX8_value 112 = .ok (.iconst 1, 1) := by decide +kernel
theorem dX8_value_113 : decode cX8_value 113 = .ok (.isub, 1) := by decide +kernel
theorem dX8_value_114 : decode cX8_value 114 = .ok (.invokestatic 43, 3) := by decide +kernel
theorem dX8_value_117 : decode cX8_value 117 = .ok (.isub, 1) := by decide +kernel
theorem dX8_value_118 : decode cX8_value 118 = .ok (.invokestatic 39, 3) := by decide +kernel
theorem dX8_value_121 : decode cX8_value 121 = .ok (.goto 40, 3) := by decide +kernel
theorem dX8_value_124 : decode cX8_value 124 = .ok (.aload_n 3, 1) := by decide +kernel
theorem dX8_value_125 : decode cX8_value 125 = .ok (.iload 4, 2) := by decide +kernel
theorem dX8_value_127 : decode cX8_value 127 = .ok (.iconst 2, 1) := by decide +kernel
theorem dX8_value_128 : decode cX8_value 128 = .ok (.isub, 1) := by decide +kernel
theorem dX8_value_129 : decode cX8_value 129 = .ok (.iload 7, 2) := by decide +kernel
theorem dX8_value_131 : decode cX8_value 131 = .ok (.aload_n 3, 1) := by decide +kernel
theorem dX8_value_132 : decode cX8_value 132 = .ok (.iload 4, 2) := by decide +kernel
theorem dX8_value_134 : decode cX8_value 134 = .ok (.iconst 2, 1) := by decide +kernel
theorem dX8_value_135 : decode cX8_value 135 = .ok (.isub, 1) := by decide +kernel
theorem dX8_value_136 : decode cX8_value 136 = .ok (.invokestatic 43, 3) := by decide +kernel
theorem dX8_value_139 : decode cX8_value 139 = .ok (.i2l, 1) := by decide +kernel
theorem dX8_value_140 : decode cX8_value 140 = .ok (.aload_n 3, 1) := by decide +kernel
theorem dX8_value_141 : decode cX8_value 141 = .ok (.iload 4, 2) := by decide +kernel
theorem dX8_value_143 : decode cX8_value 143 = .ok (.iconst 1, 1) := by decide +kernel
theorem dX8_value_144 : decode cX8_value 144 = .ok (.isub, 1) := by decide +kernel
theorem dX8_value_145 : decode cX8_value 145 = .ok (.invokestatic 43, 3) := by decide +kernel
theorem dX8_value_148 : decode cX8_value 148 = .ok (.i2l, 1) := by decide +kernel
theorem dX8_value_149 : decode cX8_value 149 = .ok (.invokestatic 47, 3) := by decide +kernel
theorem dX8_value_152 : decode cX8_value 152 = .ok (.invokestatic 51, 3) := by decide +kernel
theorem dX8_value_155 : decode cX8_value 155 = .ok (.invokestatic 39, 3) := by decide +kernel
theorem dX8_value_158 : decode cX8_value 158 = .ok (.iinc 4 (-1), 3) := by decide +kernel
theorem dX8_value_161 : decode cX8_value 161 = .ok (.iinc 6 1, 3) := by decide +kernel
theorem dX8_value_164 : decode cX8_value 164 = .ok (.goto (-141), 3) := by decide +kernel
theorem dX8_value_167 : decode cX8_value 167 = .ok (.aload_n 3, 1) := by decide +kernel
theorem dX8_value_168 : decode cX8_value 168 = .ok (.iconst 0, 1) := by decide +kernel
theorem dX8_value_169 : decode cX8_value 169 = .ok (.invokestatic 43, 3) := by decide +kernel
theorem dX8_value_172 : decode cX8_value 172 = .ok (.ireturn, 1) := by decide +kernel
theorem dX8_joined_0 : decode cX8_joined 0 = .ok (.iload_n 0, 1) := by decide +kernel
theorem dX8_joined_1 : decode cX8_joined 1 = .ok (.tableswitch 113 2 9 #[47, 51, 55, 59, 73, 85, 97, 109], 47) := by decide +kernel
theorem dX8_joined_48 : decode cX8_joined 48 = .ok (.lload_n 1, 1) := by decide +kernel
theorem dX8_joined_49 : decode cX8_joined 49 = .ok (.lload_n 3, 1) := by decide +kernel
theorem dX8_joined_50 : decode cX8_joined 50 = .ok (.ladd, 1) := by decide +kernel
theorem dX8_joined_51 : decode cX8_joined 51 = .ok (.lreturn, 1) := by decide +kernel
theorem dX8_joined_52 : decode cX8_joined 52 = .ok (.lload_n 1, 1) := by decide +kernel
theorem dX8_joined_53 : decode cX8_joined 53 = .ok (.lload_n 3, 1) := by decide +kernel
theorem dX8_joined_54 : decode cX8_joined 54 = .ok (.lsub, 1) := by decide +kernel
theorem dX8_joined_55 : decode cX8_joined 55 = .ok (.lreturn, 1) := by decide +kernel
theorem dX8_joined_56 : decode cX8_joined 56 = .ok (.lload_n 1, 1) := by decide +kernel
theorem dX8_joined_57 : decode cX8_joined 57 = .ok (.lload_n 3, 1) := by decide +kernel
theorem dX8_joined_58 : decode cX8_joined 58 = .ok (.lmul, 1) := by decide +kernel
theorem dX8_joined_59 : decode cX8_joined 59 = .ok (.lreturn, 1) := by decide +kernel
theorem dX8_joined_60 : decode cX8_joined 60 = .ok (.lload_n 3, 1) := by decide +kernel
theorem dX8_joined_61 : decode cX8_joined 61 = .ok (.lconst 0, 1) := by decide +kernel
theorem dX8_joined_62 : decode cX8_joined 62 = .ok (.lcmp, 1) := by decide +kernel
theorem dX8_joined_63 : decode cX8_joined 63 = .ok (.ifCond .ne 7, 3) := by decide +kernel
theorem dX8_joined_66 : decode cX8_joined 66 = .ok (.lconst 0, 1) := by decide +kernel
theorem dX8_joined_67 : decode cX8_joined 67 = .ok (.goto 6, 3) := by decide +kernel
theorem dX8_joined_70 : decode cX8_joined 70 = .ok (.lload_n 1, 1) := by decide +kernel
theorem dX8_joined_71 : decode cX8_joined 71 = .ok (.lload_n 3, 1) := by decide +kernel
theorem dX8_joined_72 : decode cX8_joined 72 = .ok (.ldiv, 1) := by decide +kernel
theorem dX8_joined_73 : decode cX8_joined 73 = .ok (.lreturn, 1) := by decide +kernel
theorem dX8_joined_74 : decode cX8_joined 74 = .ok (.lload_n 1, 1) := by decide +kernel
theorem dX8_joined_75 : decode cX8_joined 75 = .ok (.lload_n 3, 1) := by decide +kernel
theorem dX8_joined_76 : decode cX8_joined 76 = .ok (.lcmp, 1) := by decide +kernel
theorem dX8_joined_77 : decode cX8_joined 77 = .ok (.ifCond .ge 7, 3) := by decide +kernel
theorem dX8_joined_80 : decode cX8_joined 80 = .ok (.lconst 1, 1) := by decide +kernel
theorem dX8_joined_81 : decode cX8_joined 81 = .ok (.goto 4, 3) := by decide +kernel
theorem dX8_joined_84 : decode cX8_joined 84 = .ok (.lconst 0, 1) := by decide +kernel
theorem dX8_joined_85 : decode cX8_joined 85 = .ok (.lreturn, 1) := by decide +kernel
theorem dX8_joined_86 : decode cX8_joined 86 = .ok (.lload_n 1, 1) := by decide +kernel
theorem dX8_joined_87 : decode cX8_joined 87 = .ok (.lload_n 3, 1) := by decide +kernel
theorem dX8_joined_88 : decode cX8_joined 88 = .ok (.lcmp, 1) := by decide +kernel
theorem dX8_joined_89 : decode cX8_joined 89 = .ok (.ifCond .le 7, 3) := by decide +kernel
theorem dX8_joined_92 : decode cX8_joined 92 = .ok (.lconst 1, 1) := by decide +kernel
theorem dX8_joined_93 : decode cX8_joined 93 = .ok (.goto 4, 3) := by decide +kernel
theorem dX8_joined_96 : decode cX8_joined 96 = .ok (.lconst 0, 1) := by decide +kernel
theorem dX8_joined_97 : decode cX8_joined 97 = .ok (.lreturn, 1) := by decide +kernel
theorem dX8_joined_98 : decode cX8_joined 98 = .ok (.lload_n 1, 1) := by decide +kernel
theorem dX8_joined_99 : decode cX8_joined 99 = .ok (.lload_n 3, 1) := by decide +kernel
theorem dX8_joined_100 : decode cX8_joined 100 = .ok (.lcmp, 1) := by decide +kernel
theorem dX8_joined_101 : decode cX8_joined 101 = .ok (.ifCond .ne 7, 3) := by decide +kernel
theorem dX8_joined_104 : decode cX8_joined 104 = .ok (.lconst 1, 1) := by decide +kernel
theorem dX8_joined_105 : decode cX8_joined 105 = .ok (.goto 4, 3) := by decide +kernel
theorem dX8_joined_108 : decode cX8_joined 108 = .ok (.lconst 0, 1) := by decide +kernel
theorem dX8_joined_109 : decode cX8_joined 109 = .ok (.lreturn, 1) := by decide +kernel
theorem dX8_joined_110 : decode cX8_joined 110 = .ok (.lload_n 1, 1) := by decide +kernel
theorem dX8_joined_111 : decode cX8_joined 111 = .ok (.lload_n 3, 1) := by decide +kernel
theorem dX8_joined_112 : decode cX8_joined 112 = .ok (.land, 1) := by decide +kernel
theorem dX8_joined_113 : decode cX8_joined 113 = .ok (.lreturn, 1) := by decide +kernel
theorem dX8_joined_114 : decode cX8_joined 114 = .ok (.lload_n 1, 1) := by decide +kernel
theorem dX8_joined_115 : decode cX8_joined 115 = .ok (.lload_n 3, 1) := by decide +kernel
theorem dX8_joined_116 : decode cX8_joined 116 = .ok (.lor, 1) := by decide +kernel
theorem dX8_joined_117 : decode cX8_joined 117 = .ok (.lreturn, 1) := by decide +kernel
theorem dX8_bounded_0 : decode cX8_bounded 0 = .ok (.lload_n 0, 1) := by decide +kernel
theorem dX8_bounded_1 : decode cX8_bounded 1 = .ok (.ldc2_w 55, 3) := by decide +kernel
theorem dX8_bounded_4 : decode cX8_bounded 4 = .ok (.lcmp, 1) := by decide +kernel
theorem dX8_bounded_5 : decode cX8_bounded 5 = .ok (.ifCond .le 8, 3) := by decide +kernel
theorem dX8_bounded_8 : decode cX8_bounded 8 = .ok (.ldc 57, 2) := by decide +kernel
theorem dX8_bounded_10 : decode cX8_bounded 10 = .ok (.goto 18, 3) := by decide +kernel
theorem dX8_bounded_13 : decode cX8_bounded 13 = .ok (.lload_n 0, 1) := by decide +kernel
theorem dX8_bounded_14 : decode cX8_bounded 14 = .ok (.ldc2_w 58, 3) := by decide +kernel
theorem dX8_bounded_17 : decode cX8_bounded 17 = .ok (.lcmp, 1) := by decide +kernel
theorem dX8_bounded_18 : decode cX8_bounded 18 = .ok (.ifCond .ge 8, 3) := by decide +kernel
theorem dX8_bounded_21 : decode cX8_bounded 21 = .ok (.ldc 60, 2) := by decide +kernel
theorem dX8_bounded_23 : decode cX8_bounded 23 = .ok (.goto 5, 3) := by decide +kernel
theorem dX8_bounded_26 : decode cX8_bounded 26 = .ok (.lload_n 0, 1) := by decide +kernel
theorem dX8_bounded_27 : decode cX8_bounded 27 = .ok (.l2i, 1) := by decide +kernel
theorem dX8_bounded_28 : decode cX8_bounded 28 = .ok (.ireturn, 1) := by decide +kernel
theorem dX9_init_0 : decode cX9_init 0 = .ok (.aload_n 0, 1) := by decide +kernel
theorem dX9_init_1 : decode cX9_init 1 = .ok (.invokespecial 3, 3) := by decide +kernel
theorem dX9_init_4 : decode cX9_init 4 = .ok (.aload_n 0, 1) := by decide +kernel
theorem dX9_init_5 : decode cX9_init 5 = .ok (.sipush 300, 3) := by decide +kernel
theorem dX9_init_8 : decode cX9_init 8 = .ok (.newarray .int, 2) := by decide +kernel
theorem dX9_init_10 : decode cX9_init 10 = .ok (.putfield 9, 3) := by decide +kernel
theorem dX9_init_13 : decode cX9_init 13 = .ok (.aload_n 0, 1) := by decide +kernel
theorem dX9_init_14 : decode cX9_init 14 = .ok (.iconst (-1), 1) := by decide +kernel
theorem dX9_init_15 : decode cX9_init 15 = .ok (.putfield 15, 3) := by decide +kernel
theorem dX9_init_18 : decode cX9_init 18 = .ok (.return_, 1) := by decide +kernel
theorem dX9_append_0 : decode cX9_append 0 = .ok (.bipush 24, 2) := by decide +kernel
theorem dX9_append_2 : decode cX9_append 2 = .ok (.istore_n 2, 1) := by decide +kernel
theorem dX9_append_3 : decode cX9_append 3 = .ok (.iload_n 2, 1) := by decide +kernel
theorem dX9_append_4 : decode cX9_append 4 = .ok (.ifCond .lt 47, 3) := by decide +kernel
theorem dX9_append_7 : decode cX9_append 7 = .ok (.aload_n 0, 1) := by decide +kernel
theorem dX9_append_8 : decode cX9_append 8 = .ok (.getfield 19, 3) := by decide +kernel
theorem dX9_append_11 : decode cX9_append 11 = .ok (.sipush 300, 3) := by decide +kernel
theorem dX9_append_14 : decode cX9_append 14 = .ok (.if_icmp .ge 31, 3) := by decide +kernel
theorem dX9_append_17 : decode cX9_append 17 = .ok (.aload_n 0, 1) := by decide +kernel
theorem dX9_append_18 : decode cX9_append 18 = .ok (.getfield 9, 3) := by decide +kernel
theorem dX9_append_21 : decode cX9_append 21 = .ok (.aload_n 0, 1) := by decide +kernel
theorem dX9_append_22 : decode cX9_append 22 = .ok (.getfield 19, 3) := by decide +kernel
theorem dX9_append_25 : decode cX9_append 25 = .ok (.iload_n 1, 1) := by decide +kernel
theorem dX9_append_26 : decode cX9_append 26 = .ok (.iload_n 2, 1) := by decide +kernel
theorem dX9_append_27 : decode cX9_append 27 = .ok (.iushr, 1) := by decide +kernel
theorem dX9_append_28 : decode cX9_append 28 = .ok (.sipush 255, 3) := by decide +kernel
theorem dX9_append_31 : decode cX9_append 31 = .ok (.iand, 1) := by decide +kernel
theorem dX9_append_32 : decode cX9_append 32 = .ok (.invokestatic 22, 3) := by decide +kernel
theorem dX9_append_35 : decode cX9_append 35 = .ok (.aload_n 0, 1) := by decide +kernel
theorem dX9_append_36 : decode cX9_append 36 = .ok (.dup, 1) := by decide +kernel
theorem dX9_append_37 : decode cX9_append 37 = .ok (.getfield 19, 3) := by decide +kernel
theorem dX9_append_40 : decode cX9_append 40 = .ok (.iconst 1, 1) := by decide +kernel
theorem dX9_append_41 : decode cX9_append 41 = .ok (.iadd, 1) := by decide +kernel
theorem dX9_append_42 : decode cX9_append 42 = .ok (.putfield 19, 3) := by decide +kernel
theorem dX9_append_45 : decode cX9_append 45 = .ok (.iinc 2 (-8), 3) := by decide +kernel
theorem dX9_append_48 : decode cX9_append 48 = .ok (.goto (-45), 3) := by decide +kernel
theorem dX9_append_51 : decode cX9_append 51 = .ok (.return_, 1) := by decide +kernel
theorem dX9_begin_0 : decode cX9_begin 0 = .ok (.aload_n 0, 1) := by decide +kernel
theorem dX9_begin_1 : decode cX9_begin 1 = .ok (.iconst 0, 1) := by decide +kernel
theorem dX9_begin_2 : decode cX9_begin 2 = .ok (.putfield 26, 3) := by decide +kernel
theorem dX9_begin_5 : decode cX9_begin 5 = .ok (.aload_n 0, 1) := by decide +kernel
theorem dX9_begin_6 : decode cX9_begin 6 = .ok (.iconst (-1), 1) := by decide +kernel
theorem dX9_begin_7 : decode cX9_begin 7 = .ok (.putfield 15, 3) := by decide +kernel
theorem dX9_begin_10 : decode cX9_begin 10 = .ok (.aload_n 0, 1) := by decide +kernel
theorem dX9_begin_11 : decode cX9_begin 11 = .ok (.iconst 0, 1) := by decide +kernel
theorem dX9_begin_12 : decode cX9_begin 12 = .ok (.putfield 29, 3) := by decide +kernel
theorem dX9_begin_15 : decode cX9_begin 15 = .ok (.aload_n 0, 1) := by decide +kernel
theorem dX9_begin_16 : decode cX9_begin 16 = .ok (.invokevirtual 32, 3) := by decide +kernel
theorem dX9_begin_19 : decode cX9_begin 19 = .ok (.return_, 1) := by decide +kernel
theorem dX9_next_0 : decode cX9_next 0 = .ok (.aload_n 0, 1) := by decide +kernel
theorem dX9_next_1 : decode cX9_next 1 = .ok (.aload_n 0, 1) := by decide +kernel
theorem dX9_next_2 : decode cX9_next 2 = .ok (.getfield 29, 3) := by decide +kernel
theorem dX9_next_5 : decode cX9_next 5 = .ok (.putfield 35, 3) := by decide +kernel
theorem dX9_next_8 : decode cX9_next 8 = .ok (.aload_n 0, 1) := by decide +kernel
theorem dX9_next_9 : decode cX9_next 9 = .ok (.getfield 35, 3) := by decide +kernel
theorem dX9_next_12 : decode cX9_next 12 = .ok (.aload_n 0, 1) := by decide +kernel
theorem dX9_next_13 : decode cX9_next 13 = .ok (.getfield 19, 3) := by decide +kernel
theorem dX9_next_16 : decode cX9_next 16 = .ok (.if_icmp .ge 48, 3) := by decide +kernel
theorem dX9_next_19 : decode cX9_next 19 = .ok (.aload_n 0, 1) := by decide +kernel
theorem dX9_next_20 : decode cX9_next 20 = .ok (.getfield 9, 3) := by decide +kernel
theorem dX9_next_23 : decode cX9_next 23 = .ok (.aload_n 0, 1) := by decide +kernel
theorem dX9_next_24 : decode cX9_next 24 = .ok (.getfield 35, 3) := by decide +kernel
theorem dX9_next_27 : decode cX9_next 27 = .ok (.invokestatic 38, 3) := by decide +kernel
theorem dX9_next_30 : decode cX9_next 30 = .ok (.bipush 32, 2) := by decide +kernel
theorem dX9_next_32 : decode cX9_next 32 = .ok (.if_icmp .eq 19, 3) := by decide +kernel
theorem dX9_next_35 : decode cX9_next 35 = .ok (.aload_n 0, 1) := by decide +kernel
theorem dX9_next_36 : decode cX9_next 36 = .ok (.getfield 9, 3) := by decide +kernel
theorem dX9_next_39 : decode cX9_next 39 = .ok (.aload_n 0, 1) := by decide +kernel
theorem dX9_next_40 : decode cX9_next 40 = .ok (.getfield 35, 3) := by decide +kernel
theorem dX9_next_43 : decode cX9_next 43 = .ok (.invokestatic 38, 3) := by decide +kernel
theorem dX9_next_46 : decode cX9_next 46 = .ok (.bipush 10, 2) := by decide +kernel
theorem dX9_next_48 : decode cX9_next 48 = .ok (.if_icmp .ne 16, 3) := by decide +kernel
theorem dX9_next_51 : decode cX9_next 51 = .ok (.aload_n 0, 1) := by decide +kernel
theorem dX9_next_52 : decode cX9_next 52 = .ok (.dup, 1) := by decide +kernel
theorem dX9_next_53 : decode cX9_next 53 = .ok (.getfield 35, 3) := by decide +kernel
theorem dX9_next_56 : decode cX9_next 56 = .ok (.iconst 1, 1) := by decide +kernel
theorem dX9_next_57 : decode cX9_next 57 = .ok (.iadd, 1) := by decide +kernel
theorem dX9_next_58 : decode cX9_next 58 = .ok (.putfield 35, 3) := by decide +kernel
theorem dX9_next_61 : decode cX9_next 61 = .ok (.goto (-53), 3) := by decide +kernel
theorem dX9_next_64 : decode cX9_next 64 = .ok (.aload_n 0, 1) := by decide +kernel
theorem dX9_next_65 : decode cX9_next 65 = .ok (.aload_n 0, 1) := by decide +kernel
theorem dX9_next_66 : decode cX9_next 66 = .ok (.getfield 35, 3) := by decide +kernel
theorem dX9_next_69 : decode cX9_next 69 = .ok (.putfield 29, 3) := by decide +kernel
theorem dX9_next_72 : decode cX9_next 72 = .ok (.aload_n 0, 1) := by decide +kernel
theorem dX9_next_73 : decode cX9_next 73 = .ok (.aload_n 0, 1) := by decide +kernel
theorem dX9_next_74 : decode cX9_next 74 = .ok (.getfield 35, 3) := by decide +kernel
theorem dX9_next_77 : decode cX9_next 77 = .ok (.aload_n 0, 1) := by decide +kernel
theorem dX9_next_78 : decode cX9_next 78 = .ok (.getfield 19, 3) := by decide +kernel
theorem dX9_next_81 : decode cX9_next 81 = .ok (.if_icmp .ge 17, 3) := by decide +kernel
theorem dX9_next_84 : decode cX9_next 84 = .ok (.aload_n 0, 1) := by decide +kernel
theorem dX9_next_85 : decode cX9_next 85 = .ok (.getfield 9, 3) := by decide +kernel
theorem dX9_next_88 : decode cX9_next 88 = .ok (.aload_n 0, 1) := by decide +kernel
theorem dX9_next_89 : decode cX9_next 89 = .ok (.getfield 35, 3) := by decide +kernel
theorem dX9_next_92 : decode cX9_next 92 = .ok (.invokestatic 38, 3) := by decide +kernel
theorem dX9_next_95 : decode cX9_next 95 = .ok (.goto 4, 3) := by decide +kernel
theorem dX9_next_98 : decode cX9_next 98 = .ok (.iconst (-1), 1) := by decide +kernel
theorem dX9_next_99 : decode cX9_next 99 = .ok (.invokestatic 42, 3) := by decide +kernel
theorem dX9_next_102 : decode cX9_next 102 = .ok (.putfield 46, 3) := by decide +kernel
theorem dX9_next_105 : decode cX9_next 105 = .ok (.aload_n 0, 1) := by decide +kernel
theorem dX9_next_106 : decode cX9_next 106 = .ok (.aload_n 0, 1) := by decide +kernel
theorem dX9_next_107 : decode cX9_next 107 = .ok (.getfield 46, 3) := by decide +kernel
theorem dX9_next_110 : decode cX9_next 110 = .ok (.iconst 3, 1) := by decide +kernel
theorem dX9_next_111 : decode cX9_next 111 = .ok (.if_icmp .ne 17, 3) := by decide +kernel
theorem dX9_next_114 : decode cX9_next 114 = .ok (.aload_n 0, 1) := by decide +kernel
theorem dX9_next_115 : decode cX9_next 115 = .ok (.getfield 9, 3) := by decide +kernel
theorem dX9_next_118 : decode cX9_next 118 = .ok (.aload_n 0, 1) := by decide +kernel
theorem dX9_next_119 : decode cX9_next 119 = .ok (.getfield 35, 3) := by decide +kernel
theorem dX9_next_122 : decode cX9_next 122 = .ok (.invokestatic 38, 3) := by decide +kernel
theorem dX9_next_125 : decode cX9_next 125 = .ok (.goto 4, 3) := by decide +kernel
theorem dX9_next_128 : decode cX9_next 128 = .ok (.iconst 0, 1) := by decide +kernel
theorem dX9_next_129 : decode cX9_next 129 = .ok (.putfield 49, 3) := by decide +kernel
theorem dX9_next_132 : decode cX9_next 132 = .ok (.aload_n 0, 1) := by decide +kernel
theorem dX9_next_133 : decode cX9_next 133 = .ok (.getfield 46, 3) := by decide +kernel
theorem dX9_next_136 : decode cX9_next 136 = .ok (.iconst 3, 1) := by decide +kernel
theorem dX9_next_137 : decode cX9_next 137 = .ok (.if_icmp .ne 13, 3) := by decide +kernel
theorem dX9_next_140 : decode cX9_next 140 = .ok (.aload_n 0, 1) := by decide +kernel
theorem dX9_next_141 : decode cX9_next 141 = .ok (.dup, 1) := by decide +kernel
theorem dX9_next_142 : decode cX9_next 142 = .ok (.getfield 29, 3) := by decide +kernel
theorem dX9_next_145 : decode cX9_next 145 = .ok (.iconst 1, 1) := by decide +kernel
theorem dX9_next_146 : decode cX9_next 146 = .ok (.iadd, 1) := by decide +kernel
theorem dX9_next_147 : decode cX9_next 147 = .ok (.putfield 29, 3) := by decide +kernel
theorem dX9_next_150 : decode cX9_next 150 = .ok (.aload_n 0, 1) := by decide +kernel
theorem dX9_next_151 : decode cX9_next 151 = .ok (.getfield 46, 3) := by decide +kernel
theorem dX9_next_154 : decode cX9_next 154 = .ok (.iconst 1, 1) := by decide +kernel
theorem dX9_next_155 : decode cX9_next 155 = .ok (.if_icmp .ne 44, 3) := by decide +kernel
theorem dX9_next_158 : decode cX9_next 158 = .ok (.aload_n 0, 1) := by decide +kernel
theorem dX9_next_159 : decode cX9_next 159 = .ok (.getfield 29, 3) := by decide +kernel
theorem dX9_next_162 : decode cX9_next 162 = .ok (.aload_n 0, 1) := by decide +kernel
theorem dX9_next_163 : decode cX9_next 163 = .ok (.getfield 19, 3) := by decide +kernel
theorem dX9_next_166 : decode cX9_next 166 = .ok (.if_icmp .ge 33, 3) := by decide +kernel
theorem dX9_next_169 : decode cX9_next 169 = .ok (.aload_n 0, 1) := by decide +kernel
theorem dX9_next_170 : decode cX9_next 170 = .ok (.getfield 9, 3) := by decide +kernel
theorem dX9_next_173 : decode cX9_next 173 = .ok (.aload_n 0, 1) := by decide +kernel
theorem dX9_next_174 : decode cX9_next 174 = .ok (.getfield 29, 3) := by decide +kernel
theorem dX9_next_177 : decode cX9_next 177 = .ok (.invokestatic 38, 3) := by decide +kernel
theorem dX9_next_180 : decode cX9_next 180 = .ok (.invokestatic 52, 3) := by decide +kernel
theorem dX9_next_183 : decode cX9_next 183 = .ok (.ifCond .eq 16, 3) := by decide +kernel
theorem dX9_next_186 : decode cX9_next 186 = .ok (.aload_n 0, 1) := by decide +kernel
theorem dX9_next_187 : decode cX9_next 187 = .ok (.dup, 1) := by decide +kernel
theorem dX9_next_188 : decode cX9_next 188 = .ok (.getfield 29, 3) := by decide +kernel
theorem dX9_next_191 : decode cX9_next 191 = .ok (.iconst 1, 1) := by decide +kernel
theorem dX9_next_192 : decode cX9_next 192 = .ok (.iadd, 1) := by decide +kernel
theorem dX9_next_193 : decode cX9_next 193 = .ok (.putfield 29, 3) := by decide +kernel
theorem dX9_next_196 : decode cX9_next 196 = .ok (.goto (-46), 3) := by decide +kernel
theorem dX9_next_199 : decode cX9_next 199 = .ok (.aload_n 0, 1) := by decide +kernel
theorem dX9_next_200 : decode cX9_next 200 = .ok (.getfield 46, 3) := by decide +kernel
theorem dX9_next_203 : decode cX9_next 203 = .ok (.iconst 2, 1) := by decide +kernel
theorem dX9_next_204 : decode cX9_next 204 = .ok (.if_icmp .ne 90, 3) := by decide +kernel
theorem dX9_next_207 : decode cX9_next 207 = .ok (.aload_n 0, 1) := by decide +kernel
theorem dX9_next_208 : decode cX9_next 208 = .ok (.getfield 29, 3) := by decide +kernel
theorem dX9_next_211 : decode cX9_next 211 = .ok (.aload_n 0, 1) := by decide +kernel
theorem dX9_next_212 : decode cX9_next 212 = .ok (.getfield 19, 3) := by decide +kernel
theorem dX9_next_215 : decode cX9_next 215 = .ok (.if_icmp .ge 79, 3) := by decide +kernel
theorem dX9_next_218 : decode cX9_next 218 = .ok (.aload_n 0, 1) := by decide +kernel
theorem dX9_next_219 : decode cX9_next 219 = .ok (.getfield 9, 3) := by decide +kernel
theorem dX9_next_222 : decode cX9_next 222 = .ok (.aload_n 0, 1) := by decide +kernel
theorem dX9_next_223 : decode cX9_next 223 = .ok (.getfield 29, 3) := by decide +kernel
theorem dX9_next_226 : decode cX9_next 226 = .ok (.invokestatic 38, 3) := by decide +kernel
theorem dX9_next_229 : decode cX9_next 229 = .ok (.invokestatic 56, 3) := by decide +kernel
theorem dX9_next_232 : decode cX9_next 232 = .ok (.ifCond .eq 62, 3) := by decide +kernel
theorem dX9_next_235 : decode cX9_next 235 = .ok (.aload_n 0, 1) := by decide +kernel
theorem dX9_next_236 : decode cX9_next 236 = .ok (.aload_n 0, 1) := by decide +kernel
theorem dX9_next_237 : decode cX9_next 237 = .ok (.getfield 29, 3) := by decide +kernel
theorem dX9_next_240 : decode cX9_next 240 = .ok (.aload_n 0, 1) := by decide +kernel
theorem dX9_next_241 : decode cX9_next 241 = .ok (.getfield 35, 3) := by decide +kernel
theorem dX9_next_244 : decode cX9_next 244 = .ok (.isub, 1) := by decide +kernel
theorem dX9_next_245 : decode cX9_next 245 = .ok (.iconst 4, 1) := by decide +kernel
theorem dX9_next_246 : decode cX9_next 246 = .ok (.if_icmp .ge 28, 3) := by decide +kernel
theorem dX9_next_249 : decode cX9_next 249 = .ok (.aload_n 0, 1) := by decide +kernel
theorem dX9_next_250 : decode cX9_next 250 = .ok (.getfield 49, 3) := by decide +kernel
theorem dX9_next_253 : decode cX9_next 253 = .ok (.bipush 10, 2) := by decide +kernel
theorem dX9_next_255 : decode cX9_next 255 = .ok (.imul, 1) := by decide +kernel
theorem dX9_next_256 : decode cX9_next 256 = .ok (.aload_n 0, 1) := by decide +kernel
theorem dX9_next_257 : decode cX9_next 257 = .ok (.getfield 9, 3) := by decide +kernel
theorem dX9_next_260 : decode cX9_next 260 = .ok (.aload_n 0, 1) := by decide +kernel
theorem dX9_next_261 : decode cX9_next 261 = .ok (.getfield 29, 3) := by decide +kernel
theorem dX9_next_264 : decode cX9_next 264 = .ok (.invokestatic 38, 3) := by decide +kernel
theorem dX9_next_267 : decode cX9_next 267 = .ok (.iadd, 1) := by decide +kernel
theorem dX9_next_268 : decode cX9_next 268 = .ok (.bipush 48, 2) := by decide +kernel
theorem dX9_next_270 : decode cX9_next 270 = .ok (.isub, 1) := by decide +kernel
theorem dX9_next_271 : decode cX9_next 271 = .ok (.goto 7, 3) := by decide +kernel
theorem dX9_next_274 : decode cX9_next 274 = .ok (.aload_n 0, 1) := by decide +kernel
theorem dX9_next_275 : decode cX9_next 275 = .ok (.getfield 49, 3) := by decide +kernel
theorem dX9_next_278 : decode cX9_next 278 = .ok (.putfield 49, 3) := by decide +kernel
theorem dX9_next_281 : decode cX9_next 281 = .ok (.aload_n 0, 1) := by decide +kernel
theorem dX9_next_282 : decode cX9_next 282 = .ok (.dup, 1) := by decide +kernel
theorem dX9_next_283 : decode cX9_next 283 = .ok (.getfield 29, 3) := by decide +kernel
theorem dX9_next_286 : decode cX9_next 286 = .ok (.iconst 1, 1) := by decide +kernel
theorem dX9_next_287 : decode cX9_next 287 = .ok (.iadd, 1) := by decide +kernel
theorem dX9_next_288 : decode cX9_next 288 = .ok (.putfield 29, 3) := by decide +kernel
theorem dX9_next_291 : decode cX9_next 291 = .ok (.goto (-92), 3) := by decide +kernel
theorem dX9_next_294 : decode cX9_next 294 = .ok (.aload_n 0, 1) := by decide +kernel
theorem dX9_next_295 : decode cX9_next 295 = .ok (.getfield 46, 3) := by decide +kernel
theorem dX9_next_298 : decode cX9_next 298 = .ok (.iconst 2, 1) := by decide +kernel
theorem dX9_next_299 : decode cX9_next 299 = .ok (.if_icmp .ne 21, 3) := by decide +kernel
theorem dX9_next_302 : decode cX9_next 302 = .ok (.aload_n 0, 1) := by decide +kernel
theorem dX9_next_303 : decode cX9_next 303 = .ok (.getfield 29, 3) := by decide +kernel
theorem dX9_next_306 : decode cX9_next 306 = .ok (.aload_n 0, 1) := by decide +kernel
theorem dX9_next_307 : decode cX9_next 307 = .ok (.getfield 35, 3) := by decide +kernel
theorem dX9_next_310 : decode cX9_next 310 = .ok (.isub, 1) := by decide +kernel
theorem dX9_next_311 : decode cX9_next 311 = .ok (.iconst 4, 1) := by decide +kernel
theorem dX9_next_312 : decode cX9_next 312 = .ok (.if_icmp .le 8, 3) := by decide +kernel
theorem dX9_next_315 : decode cX9_next 315 = .ok (.aload_n 0, 1) := by decide +kernel
theorem dX9_next_316 : decode cX9_next 316 = .ok (.iconst 4, 1) := by decide +kernel
theorem dX9_next_317 : decode cX9_next 317 = .ok (.putfield 46, 3) := by decide +kernel
theorem dX9_next_320 : decode cX9_next 320 = .ok (.return_, 1) := by decide +kernel
theorem dX9_sortOf_0 : decode cX9_sortOf 0 = .ok (.iload_n 0, 1) := by decide +kernel
theorem dX9_sortOf_1 : decode cX9_sortOf 1 = .ok (.iconst (-1), 1) := by decide +kernel
theorem dX9_sortOf_2 : decode cX9_sortOf 2 = .ok (.if_icmp .ne 7, 3) := by decide +kernel
theorem dX9_sortOf_5 : decode cX9_sortOf 5 = .ok (.iconst 0, 1) := by decide +kernel
theorem dX9_sortOf_6 : decode cX9_sortOf 6 = .ok (.goto 36, 3) := by decide +kernel
theorem dX9_sortOf_9 : decode cX9_sortOf 9 = .ok (.iload_n 0, 1) := by decide +kernel
theorem dX9_sortOf_10 : decode cX9_sortOf 10 = .ok (.bipush 97, 2) := by decide +kernel
theorem dX9_sortOf_12 : decode cX9_sortOf 12 = .ok (.if_icmp .lt 13, 3) := by decide +kernel
theorem dX9_sortOf_15 : decode cX9_sortOf 15 = .ok (.iload_n 0, 1) := by decide +kernel
theorem dX9_sortOf_16 : decode cX9_sortOf 16 = .ok (.bipush 122, 2) := by decide +kernel
theorem dX9_sortOf_18 : decode cX9_sortOf 18 = .ok (.if_icmp .gt 7, 3) := by decide +kernel
theorem dX9_sortOf_21 : decode cX9_sortOf 21 = .ok (.iconst 1, 1) := by decide +kernel
theorem dX9_sortOf_22 : decode cX9_sortOf 22 = .ok (.goto 20, 3) := by decide +kernel
theorem dX9_sortOf_25 : decode cX9_sortOf 25 = .ok (.iload_n 0, 1) := by decide +kernel
theorem dX9_sortOf_26 : decode cX9_sortOf 26 = .ok (.bipush 48, 2) := by decide +kernel
theorem dX9_sortOf_28 : decode cX9_sortOf 28 = .ok (.if_icmp .lt 13, 3) := by decide +kernel
theorem dX9_sortOf_31 : decode cX9_sortOf 31 = .ok (.iload_n 0, 1) := by decide +kernel
theorem dX9_sortOf_32 : decode cX9_sortOf 32 = .ok (.bipush 57, 2) := by decide +kernel
theorem dX9_sortOf_34 : decode cX9_sortOf 34 = .ok (.if_icmp .gt 7, 3) := by decide +kernel
theorem dX9_sortOf_37 : decode cX9_sortOf 37 = .ok (.iconst 2, 1) := by decide +kernel
theorem dX9_sortOf_38 : decode cX9_sortOf 38 = .ok (.goto 4, 3) := by decide +kernel
theorem dX9_sortOf_41 : decode cX9_sortOf 41 = .ok (.iconst 3, 1) := by decide +kernel
theorem dX9_sortOf_42 : decode cX9_sortOf 42 = .ok (.ireturn, 1) := by decide +kernel
theorem dX9_isLetter_0 : decode cX9_isLetter 0 = .ok (.iload_n 0, 1) := by decide +kernel
theorem dX9_isLetter_1 : decode cX9_isLetter 1 = .ok (.bipush 97, 2) := by decide +kernel
theorem dX9_isLetter_3 : decode cX9_isLetter 3 = .ok (.if_icmp .lt 13, 3) := by decide +kernel
theorem dX9_isLetter_6 : decode cX9_isLetter 6 = .ok (.iload_n 0, 1) := by decide +kernel
theorem dX9_isLetter_7 : decode cX9_isLetter 7 = .ok (.bipush 122, 2) := by decide +kernel
theorem dX9_isLetter_9 : decode cX9_isLetter 9 = .ok (.if_icmp .gt 7, 3) := by decide +kernel
theorem dX9_isLetter_12 : decode cX9_isLetter 12 = .ok (.iconst 1, 1) := by decide +kernel
theorem dX9_isLetter_13 : decode cX9_isLetter 13 = .ok (.goto 4, 3) := by decide +kernel
theorem dX9_isLetter_16 : decode cX9_isLetter 16 = .ok (.iconst 0, 1) := by decide +kernel
theorem dX9_isLetter_17 : decode cX9_isLetter 17 = .ok (.ireturn, 1) := by decide +kernel
theorem dX9_isFigure_0 : decode cX9_isFigure 0 = .ok (.iload_n 0, 1) := by decide +kernel
theorem dX9_isFigure_1 : decode cX9_isFigure 1 = .ok (.bipush 48, 2) := by decide +kernel
theorem dX9_isFigure_3 : decode cX9_isFigure 3 = .ok (.if_icmp .lt 13, 3) := by decide +kernel
theorem dX9_isFigure_6 : decode cX9_isFigure 6 = .ok (.iload_n 0, 1) := by decide +kernel
theorem dX9_isFigure_7 : decode cX9_isFigure 7 = .ok (.bipush 57, 2) := by decide +kernel
theorem dX9_isFigure_9 : decode cX9_isFigure 9 = .ok (.if_icmp .gt 7, 3) := by decide +kernel
theorem dX9_isFigure_12 : decode cX9_isFigure 12 = .ok (.iconst 1, 1) := by decide +kernel
theorem dX9_isFigure_13 : decode cX9_isFigure 13 = .ok (.goto 4, 3) := by decide +kernel
theorem dX9_isFigure_16 : decode cX9_isFigure 16 = .ok (.iconst 0, 1) := by decide +kernel
theorem dX9_isFigure_17 : decode cX9_isFigure 17 = .ok (.ireturn, 1) := by decide +kernel
theorem dX9_isEnd_0 : decode cX9_isEnd 0 = .ok (.aload_n 0, 1) := by decide +kernel
theorem dX9_isEnd_1 : decode cX9_isEnd 1 = .ok (.getfield 46, 3) := by decide +kernel
theorem dX9_isEnd_4 : decode cX9_isEnd 4 = .ok (.ifCond .ne 7, 3) := by decide +kernel
theorem dX9_isEnd_7 : decode cX9_isEnd 7 = .ok (.iconst 1, 1) := by decide +kernel
theorem dX9_isEnd_8 : decode cX9_isEnd 8 = .ok (.goto 4, 3) := by decide +kernel
theorem dX9_isEnd_11 : decode cX9_isEnd 11 = .ok (.iconst 0, 1) := by decide +kernel
theorem dX9_isEnd_12 : decode cX9_isEnd 12 = .ok (.ireturn, 1) := by decide +kernel
theorem dX9_isNumber_0 : decode cX9_isNumber 0 = .ok (.aload_n 0, 1) := by decide +kernel
theorem dX9_isNumber_1 : decode cX9_isNumber 1 = .ok (.getfield 46, 3) := by decide +kernel
theorem dX9_isNumber_4 : decode cX9_isNumber 4 = .ok (.iconst 2, 1) := by decide +kernel
theorem dX9_isNumber_5 : decode cX9_isNumber 5 = .ok (.if_icmp .ne 7, 3) := by decide +kernel
theorem dX9_isNumber_8 : decode cX9_isNumber 8 = .ok (.iconst 1, 1) := by decide +kernel
theorem dX9_isNumber_9 : decode cX9_isNumber 9 = .ok (.goto 4, 3) := by decide +kernel
theorem dX9_isNumber_12 : decode cX9_isNumber 12 = .ok (.iconst 0, 1) := by decide +kernel
theorem dX9_isNumber_13 : decode cX9_isNumber 13 = .ok (.ireturn, 1) := by decide +kernel
theorem dX9_isAnyWord_0 : decode cX9_isAnyWord 0 = .ok (.aload_n 0, 1) := by decide +kernel
theorem dX9_isAnyWord_1 : decode cX9_isAnyWord 1 = .ok (.getfield 46, 3) := by decide +kernel
theorem dX9_isAnyWord_4 : decode cX9_isAnyWord 4 = .ok (.iconst 1, 1) := by decide +kernel
theorem dX9_isAnyWord_5 : decode cX9_isAnyWord 5 = .ok (.if_icmp .ne 7, 3) := by decide +kernel
theorem dX9_isAnyWord_8 : decode cX9_isAnyWord 8 = .ok (.iconst 1, 1) := by decide +kernel
theorem dX9_isAnyWord_9 : decode cX9_isAnyWord 9 = .ok (.goto 4, 3) := by decide +kernel
theorem dX9_isAnyWord_12 : decode cX9_isAnyWord 12 = .ok (.iconst 0, 1) := by decide +kernel
theorem dX9_isAnyWord_13 : decode cX9_isAnyWord 13 = .ok (.ireturn, 1) := by decide +kernel
theorem dX9_isSign_0 : decode cX9_isSign 0 = .ok (.aload_n 0, 1) := by decide +kernel
theorem dX9_isSign_1 : decode cX9_isSign 1 = .ok (.getfield 46, 3) := by decide +kernel
theorem dX9_isSign_4 : decode cX9_isSign 4 = .ok (.iconst 3, 1) := by decide +kernel
theorem dX9_isSign_5 : decode cX9_isSign 5 = .ok (.if_icmp .ne 15, 3) := by decide +kernel
theorem dX9_isSign_8 : decode cX9_isSign 8 = .ok (.aload_n 0, 1) := by decide +kernel
theorem dX9_isSign_9 : decode cX9_isSign 9 = .ok (.getfield 49, 3) := by decide +kernel
theorem dX9_isSign_12 : decode cX9_isSign 12 = .ok (.iload_n 1, 1) := by decide +kernel
theorem dX9_isSign_13 : decode cX9_isSign 13 = .ok (.if_icmp .ne 7, 3) := by decide +kernel
theorem dX9_isSign_16 : decode cX9_isSign 16 = .ok (.iconst 1, 1) := by decide +kernel
theorem dX9_isSign_17 : decode cX9_isSign 17 = .ok (.goto 4, 3) := by decide +kernel
theorem dX9_isSign_20 : decode cX9_isSign 20 = .ok (.iconst 0, 1) := by decide +kernel
theorem dX9_isSign_21 : decode cX9_isSign 21 = .ok (.ireturn, 1) := by decide +kernel
theorem dX9_isWord_0 : decode cX9_isWord 0 = .ok (.aload_n 0, 1) := by decide +kernel
theorem dX9_isWord_1 : decode cX9_isWord 1 = .ok (.getfield 46, 3) := by decide +kernel
theorem dX9_isWord_4 : decode cX9_isWord 4 = .ok (.iconst 1, 1) := by decide +kernel
theorem dX9_isWord_5 : decode cX9_isWord 5 = .ok (.if_icmp .ne 19, 3) := by decide +kernel
theorem dX9_isWord_8 : decode cX9_isWord 8 = .ok (.aload_n 0, 1) := by decide +kernel
theorem dX9_isWord_9 : decode cX9_isWord 9 = .ok (.getfield 29, 3) := by decide +kernel
theorem dX9_isWord_12 : decode cX9_isWord 12 = .ok (.aload_n 0, 1) := by decide +kernel
theorem dX9_isWord_13 : decode cX9_isWord 13 = .ok (.getfield 35, 3) := by decide +kernel
theorem dX9_isWord_16 : decode cX9_isWord 16 = .ok (.isub, 1) := by decide +kernel
theorem dX9_isWord_17 : decode cX9_isWord 17 = .ok (.aload_n 1, 1) := by decide +kernel
theorem dX9_isWord_18 : decode cX9_isWord 18 = .ok (.invokevirtual 59, 3) := by decide +kernel
theorem dX9_isWord_21 : decode cX9_isWord 21 = .ok (.if_icmp .eq 5, 3) := by decide +kernel
theorem dX9_isWord_24 : decode cX9_isWord 24 = .ok (.iconst 0, 1) := by decide +kernel
theorem dX9_isWord_25 : decode cX9_isWord 25 = .ok (.ireturn, 1) := by decide +kernel
theorem dX9_isWord_26 : decode cX9_isWord 26 = .ok (.iconst 0, 1) := by decide +kernel
theorem dX9_isWord_27 : decode cX9_isWord 27 = .ok (.istore_n 2, 1) := by decide +kernel
theorem dX9_isWord_28 : decode cX9_isWord 28 = .ok (.iload_n 2, 1) := by decide +kernel
theorem dX9_isWord_29 : decode cX9_isWord 29 = .ok (.aload_n 1, 1) := by decide +kernel
theorem dX9_isWord_30 : decode cX9_isWord 30 = .ok (.invokevirtual 59, 3) := by decide +kernel
theorem dX9_isWord_33 : decode cX9_isWord 33 = .ok (.if_icmp .ge 45, 3) := by decide +kernel
theorem dX9_isWord_36 : decode cX9_isWord 36 = .ok (.aload_n 0, 1) := by decide +kernel
theorem dX9_isWord_37 : decode cX9_isWord 37 = .ok (.getfield 35, 3) := by decide +kernel
theorem dX9_isWord_40 : decode cX9_isWord 40 = .ok (.iload_n 2, 1) := by decide +kernel
theorem dX9_isWord_41 : decode cX9_isWord 41 = .ok (.iadd, 1) := by decide +kernel
theorem dX9_isWord_42 : decode cX9_isWord 42 = .ok (.istore_n 3, 1) := by decide +kernel
theorem dX9_isWord_43 : decode cX9_isWord 43 = .ok (.iload_n 3, 1) := by decide +kernel
theorem dX9_isWord_44 : decode cX9_isWord 44 = .ok (.ifCond .lt 26, 3) := by decide +kernel
theorem dX9_isWord_47 : decode cX9_isWord 47 = .ok (.iload_n 3, 1) := by decide +kernel
theorem dX9_isWord_48 : decode cX9_isWord 48 = .ok (.aload_n 0, 1) := by decide +kernel
theorem dX9_isWord_49 : decode cX9_isWord 49 = .ok (.getfield 9, 3) := by decide +kernel
theorem dX9_isWord_52 : decode cX9_isWord 52 = .ok (.arraylength, 1) := by decide +kernel
theorem dX9_isWord_53 : decode cX9_isWord 53 = .ok (.if_icmp .ge 17, 3) := by decide +kernel
theorem dX9_isWord_56 : decode cX9_isWord 56 = .ok (.aload_n 0, 1) := by decide +kernel
theorem dX9_isWord_57 : decode cX9_isWord 57 = .ok (.getfield 9, 3) := by decide +kernel
theorem dX9_isWord_60 : decode cX9_isWord 60 = .ok (.iload_n 3, 1) := by decide +kernel
theorem dX9_isWord_61 : decode cX9_isWord 61 = .ok (.iaload, 1) := by decide +kernel
theorem dX9_isWord_62 : decode cX9_isWord 62 = .ok (.aload_n 1, 1) := by decide +kernel
theorem dX9_isWord_63 : decode cX9_isWord 63 = .ok (.iload_n 2, 1) := by decide +kernel
theorem dX9_isWord_64 : decode cX9_isWord 64 = .ok (.invokevirtual 64, 3) := by decide +kernel
theorem dX9_isWord_67 : decode cX9_isWord 67 = .ok (.if_icmp .eq 5, 3) := by decide +kernel
theorem dX9_isWord_70 : decode cX9_isWord 70 = .ok (.iconst 0, 1) := by decide +kernel
theorem dX9_isWord_71 : decode cX9_isWord 71 = .ok (.ireturn, 1) := by decide +kernel
theorem dX9_isWord_72 : decode cX9_isWord 72 = .ok (.iinc 2 1, 3) := by decide +kernel
theorem dX9_isWord_75 : decode cX9_isWord 75 = .ok (.goto (-47), 3) := by decide +kernel
theorem dX9_isWord_78 : decode cX9_isWord 78 = .ok (.iconst 1, 1) := by decide +kernel
theorem dX9_isWord_79 : decode cX9_isWord 79 = .ok (.ireturn, 1) := by decide +kernel
theorem dX9_fail_0 : decode cX9_fail 0 = .ok (.aload_n 0, 1) := by decide +kernel
theorem dX9_fail_1 : decode cX9_fail 1 = .ok (.iload_n 1, 1) := by decide +kernel
theorem dX9_fail_2 : decode cX9_fail 2 = .ok (.putfield 26, 3) := by decide +kernel
theorem dX9_fail_5 : decode cX9_fail 5 = .ok (.aload_n 0, 1) := by decide +kernel
theorem dX9_fail_6 : decode cX9_fail 6 = .ok (.aload_n 0, 1) := by decide +kernel
theorem dX9_fail_7 : decode cX9_fail 7 = .ok (.getfield 35, 3) := by decide +kernel
theorem dX9_fail_10 : decode cX9_fail 10 = .ok (.putfield 15, 3) := by decide +kernel
theorem dX9_fail_13 : decode cX9_fail 13 = .ok (.iconst 0, 1) := by decide +kernel
theorem dX9_fail_14 : decode cX9_fail 14 = .ok (.ireturn, 1) := by decide +kernel
theorem dX9_skipSign_0 : decode cX9_skipSign 0 = .ok (.aload_n 0, 1) := by decide +kernel
theorem dX9_skipSign_1 : decode cX9_skipSign 1 = .ok (.iload_n 1, 1) := by decide +kernel
theorem dX9_skipSign_2 : decode cX9_skipSign 2 = .ok (.invokevirtual 68, 3) := by decide +kernel
theorem dX9_skipSign_5 : decode cX9_skipSign 5 = .ok (.ifCond .ne 9, 3) := by decide +kernel
theorem dX9_skipSign_8 : decode cX9_skipSign 8 = .ok (.aload_n 0, 1) := by decide +kernel
theorem dX9_skipSign_9 : decode cX9_skipSign 9 = .ok (.iconst 1, 1) := by decide +kernel
theorem dX9_skipSign_10 : decode cX9_skipSign 10 = .ok (.invokevirtual 72, 3) := by decide +kernel
theorem dX9_skipSign_13 : decode cX9_skipSign 13 = .ok (.ireturn, 1) := by decide +kernel
theorem dX9_skipSign_14 : decode cX9_skipSign 14 = .ok (.aload_n 0, 1) := by decide +kernel
theorem dX9_skipSign_15 : decode cX9_skipSign 15 = .ok (.invokevirtual 32, 3) := by decide +kernel
theorem dX9_skipSign_18 : decode cX9_skipSign 18 = .ok (.iconst 1, 1) := by decide +kernel
theorem dX9_skipSign_19 : decode cX9_skipSign 19 = .ok (.ireturn, 1) := by decide +kernel
theorem dX9_skipWord_0 : decode cX9_skipWord 0 = .ok (.aload_n 0, 1) := by decide +kernel
theorem dX9_skipWord_1 : decode cX9_skipWord 1 = .ok (.aload_n 1, 1) := by decide +kernel
theorem dX9_skipWord_2 : decode cX9_skipWord 2 = .ok (.invokevirtual 75, 3) := by decide +kernel
theorem dX9_skipWord_5 : decode cX9_skipWord 5 = .ok (.ifCond .ne 9, 3) := by decide +kernel
theorem dX9_skipWord_8 : decode cX9_skipWord 8 = .ok (.aload_n 0, 1) := by decide +kernel
theorem dX9_skipWord_9 : decode cX9_skipWord 9 = .ok (.iconst 1, 1) := by decide +kernel
theorem dX9_skipWord_10 : decode cX9_skipWord 10 = .ok (.invokevirtual 72, 3) := by decide +kernel
theorem dX9_skipWord_13 : decode cX9_skipWord 13 = .ok (.ireturn, 1) := by decide +kernel
theorem dX9_skipWord_14 : decode cX9_skipWord 14 = .ok (.aload_n 0, 1) := by decide +kernel
theorem dX9_skipWord_15 : decode cX9_skipWord 15 = .ok (.invokevirtual 32, 3) := by decide +kernel
theorem dX9_skipWord_18 : decode cX9_skipWord 18 = .ok (.iconst 1, 1) := by decide +kernel
theorem dX9_skipWord_19 : decode cX9_skipWord 19 = .ok (.ireturn, 1) := by decide +kernel
theorem dX9_takeN_0 : decode cX9_takeN 0 = .ok (.aload_n 0, 1) := by decide +kernel
theorem dX9_takeN_1 : decode cX9_takeN 1 = .ok (.getfield 46, 3) := by decide +kernel
theorem dX9_takeN_4 : decode cX9_takeN 4 = .ok (.iconst 2, 1) := by decide +kernel
theorem dX9_takeN_5 : decode cX9_takeN 5 = .ok (.if_icmp .eq 11, 3) := by decide +kernel
theorem dX9_takeN_8 : decode cX9_takeN 8 = .ok (.aload_n 0, 1) := by decide +kernel
theorem dX9_takeN_9 : decode cX9_takeN 9 = .ok (.iconst 1, 1) := by decide +kernel
theorem dX9_takeN_10 : decode cX9_takeN 10 = .ok (.invokevirtual 72, 3) := by decide +kernel
theorem dX9_takeN_13 : decode cX9_takeN 13 = .ok (.pop, 1) := by decide +kernel
theorem dX9_takeN_14 : decode cX9_takeN 14 = .ok (.iconst 0, 1) := by decide +kernel
theorem dX9_takeN_15 : decode cX9_takeN 15 = .ok (.ireturn, 1) := by decide +kernel
theorem dX9_takeN_16 : decode cX9_takeN 16 = .ok (.aload_n 0, 1) := by decide +kernel
theorem dX9_takeN_17 : decode cX9_takeN 17 = .ok (.getfield 49, 3) := by decide +kernel
theorem dX9_takeN_20 : decode cX9_takeN 20 = .ok (.iconst 1, 1) := by decide +kernel
theorem dX9_takeN_21 : decode cX9_takeN 21 = .ok (.if_icmp .lt 33, 3) := by decide +kernel
theorem dX9_takeN_24 : decode cX9_takeN 24 = .ok (.aload_n 0, 1) := by decide +kernel
theorem dX9_takeN_25 : decode cX9_takeN 25 = .ok (.getfield 49, 3) := by decide +kernel
theorem dX9_takeN_28 : decode cX9_takeN 28 = .ok (.iload_n 1, 1) := by decide +kernel
theorem dX9_takeN_29 : decode cX9_takeN 29 = .ok (.if_icmp .gt 25, 3) := by decide +kernel
theorem dX9_takeN_32 : decode cX9_takeN 32 = .ok (.aload_n 0, 1) := by decide +kernel
theorem dX9_takeN_33 : decode cX9_takeN 33 = .ok (.getfield 49, 3) := by decide +kernel
theorem dX9_takeN_36 : decode cX9_takeN 36 = .ok (.bipush 60, 2) := by decide +kernel
theorem dX9_takeN_38 : decode cX9_takeN 38 = .ok (.if_icmp .gt 24, 3) := by decide +kernel
theorem dX9_takeN_41 : decode cX9_takeN 41 = .ok (.lload_n 2, 1) := by decide +kernel
theorem dX9_takeN_42 : decode cX9_takeN 42 = .ok (.aload_n 0, 1) := by decide +kernel
theorem dX9_takeN_43 : decode cX9_takeN 43 = .ok (.getfield 49, 3) := by decide +kernel
theorem dX9_takeN_46 : decode cX9_takeN 46 = .ok (.lushr, 1) := by decide +kernel
theorem dX9_takeN_47 : decode cX9_takeN 47 = .ok (.lconst 1, 1) := by decide +kernel
theorem dX9_takeN_48 : decode cX9_takeN 48 = .ok (.land, 1) := by decide +kernel
theorem dX9_takeN_49 : decode cX9_takeN 49 = .ok (.lconst 0, 1) := by decide +kernel
theorem dX9_takeN_50 : decode cX9_takeN 50 = .ok (.lcmp, 1) := by decide +kernel
theorem dX9_takeN_51 : decode cX9_takeN 51 = .ok (.ifCond .eq 11, 3) := by decide +kernel
theorem dX9_takeN_54 : decode cX9_takeN 54 = .ok (.aload_n 0, 1) := by decide +kernel
theorem dX9_takeN_55 : decode cX9_takeN 55 = .ok (.iconst 2, 1) := by decide +kernel
theorem dX9_takeN_56 : decode cX9_takeN 56 = .ok (.invokevirtual 72, 3) := by decide +kernel
theorem dX9_takeN_59 : decode cX9_takeN 59 = .ok (.pop, 1) := by decide +kernel
theorem dX9_takeN_60 : decode cX9_takeN 60 = .ok (.iconst 0, 1) := by decide +kernel
theorem dX9_takeN_61 : decode cX9_takeN 61 = .ok (.ireturn, 1) := by decide +kernel
theorem dX9_takeN_62 : decode cX9_takeN 62 = .ok (.aload_n 0, 1) := by decide +kernel
theorem dX9_takeN_63 : decode cX9_takeN 63 = .ok (.getfield 49, 3) := by decide +kernel
theorem dX9_takeN_66 : decode cX9_takeN 66 = .ok (.istore 4, 2) := by decide +kernel
theorem dX9_takeN_68 : decode cX9_takeN 68 = .ok (.aload_n 0, 1) := by decide +kernel
theorem dX9_takeN_69 : decode cX9_takeN 69 = .ok (.invokevirtual 32, 3) := by decide +kernel
theorem dX9_takeN_72 : decode cX9_takeN 72 = .ok (.iload 4, 2) := by decide +kernel
theorem dX9_takeN_74 : decode cX9_takeN 74 = .ok (.ireturn, 1) := by decide +kernel
theorem dX10_init_0 : decode cX10_init 0 = .ok (.aload_n 0, 1) := by decide +kernel
theorem dX10_init_1 : decode cX10_init 1 = .ok (.invokespecial 3, 3) := by decide +kernel
theorem dX10_init_4 : decode cX10_init 4 = .ok (.aload_n 0, 1) := by decide +kernel
theorem dX10_init_5 : decode cX10_init 5 = .ok (.sipush 288, 3) := by decide +kernel
theorem dX10_init_8 : decode cX10_init 8 = .ok (.newarray .int, 2) := by decide +kernel
theorem dX10_init_10 : decode cX10_init 10 = .ok (.putfield 9, 3) := by decide +kernel
theorem dX10_init_13 : decode cX10_init 13 = .ok (.aload_n 0, 1) := by decide +kernel
theorem dX10_init_14 : decode cX10_init 14 = .ok (.bipush 6, 2) := by decide +kernel
theorem dX10_init_16 : decode cX10_init 16 = .ok (.newarray .int, 2) := by decide +kernel
theorem dX10_init_18 : decode cX10_init 18 = .ok (.putfield 15, 3) := by decide +kernel
theorem dX10_init_21 : decode cX10_init 21 = .ok (.aload_n 0, 1) := by decide +kernel
theorem dX10_init_22 : decode cX10_init 22 = .ok (.bipush 6, 2) := by decide +kernel
theorem dX10_init_24 : decode cX10_init 24 = .ok (.newarray .int, 2) := by decide +kernel
theorem dX10_init_26 : decode cX10_init 26 = .ok (.putfield 18, 3) := by decide +kernel
theorem dX10_init_29 : decode cX10_init 29 = .ok (.aload_n 0, 1) := by decide +kernel
theorem dX10_init_30 : decode cX10_init 30 = .ok (.bipush 6, 2) := by decide +kernel
theorem dX10_init_32 : decode cX10_init 32 = .ok (.newarray .int, 2) := by decide +kernel
theorem dX10_init_34 : decode cX10_init 34 = .ok (.putfield 21, 3) := by decide +kernel
theorem dX10_init_37 : decode cX10_init 37 = .ok (.aload_n 0, 1) := by decide +kernel
theorem dX10_init_38 : decode cX10_init 38 = .ok (.bipush 6, 2) := by decide +kernel
theorem dX10_init_40 : decode cX10_init 40 = .ok (.newarray .int, 2) := by decide +kernel
theorem dX10_init_42 : decode cX10_init 42 = .ok (.putfield 24, 3) := by decide +kernel
theorem dX10_init_45 : decode cX10_init 45 = .ok (.aload_n 0, 1) := by decide +kernel
theorem dX10_init_46 : decode cX10_init 46 = .ok (.bipush 6, 2) := by decide +kernel
theorem dX10_init_48 : decode cX10_init 48 = .ok (.newarray .long, 2) := by decide +kernel
theorem dX10_init_50 : decode cX10_init 50 = .ok (.putfield 27, 3) := by decide +kernel
theorem dX10_init_53 : decode cX10_init 53 = .ok (.aload_n 0, 1) := by decide +kernel
theorem dX10_init_54 : decode cX10_init 54 = .ok (.bipush 6, 2) := by decide +kernel
theorem dX10_init_56 : decode cX10_init 56 = .ok (.newarray .long, 2) := by decide +kernel
theorem dX10_init_58 : decode cX10_init 58 = .ok (.putfield 31, 3) := by decide +kernel
theorem dX10_init_61 : decode cX10_init 61 = .ok (.aload_n 0, 1) := by decide +kernel
theorem dX10_init_62 : decode cX10_init 62 = .ok (.bipush 6, 2) := by decide +kernel
theorem dX10_init_64 : decode cX10_init 64 = .ok (.newarray .int, 2) := by decide +kernel
theorem dX10_init_66 : decode cX10_init 66 = .ok (.putfield 34, 3) := by decide +kernel
theorem dX10_init_69 : decode cX10_init 69 = .ok (.aload_n 0, 1) := by decide +kernel
theorem dX10_init_70 : decode cX10_init 70 = .ok (.bipush 6, 2) := by decide +kernel
theorem dX10_init_72 : decode cX10_init 72 = .ok (.newarray .int, 2) := by decide +kernel
theorem dX10_init_74 : decode cX10_init 74 = .ok (.putfield 37, 3) := by decide +kernel
theorem dX10_init_77 : decode cX10_init 77 = .ok (.aload_n 0, 1) := by decide +kernel
theorem dX10_init_78 : decode cX10_init 78 = .ok (.sipush 288, 3) := by decide +kernel
theorem dX10_init_81 : decode cX10_init 81 = .ok (.newarray .int, 2) := by decide +kernel
theorem dX10_init_83 : decode cX10_init 83 = .ok (.putfield 40, 3) := by decide +kernel
theorem dX10_init_86 : decode cX10_init 86 = .ok (.aload_n 0, 1) := by decide +kernel
theorem dX10_init_87 : decode cX10_init 87 = .ok (.bipush 6, 2) := by decide +kernel
theorem dX10_init_89 : decode cX10_init 89 = .ok (.newarray .int, 2) := by decide +kernel
theorem dX10_init_91 : decode cX10_init 91 = .ok (.putfield 43, 3) := by decide +kernel
theorem dX10_init_94 : decode cX10_init 94 = .ok (.aload_n 0, 1) := by decide +kernel
theorem dX10_init_95 : decode cX10_init 95 = .ok (.aload_n 1, 1) := by decide +kernel
theorem dX10_init_96 : decode cX10_init 96 = .ok (.putfield 46, 3) := by decide +kernel
theorem dX10_init_99 : decode cX10_init 99 = .ok (.aload_n 0, 1) := by decide +kernel
theorem dX10_init_100 : decode cX10_init 100 = .ok (.aload_n 2, 1) := by decide +kernel
theorem dX10_init_101 : decode cX10_init 101 = .ok (.putfield 50, 3) := by decide +kernel
theorem dX10_init_104 : decode cX10_init 104 = .ok (.aload_n 0, 1) := by decide +kernel
theorem dX10_init_105 : decode cX10_init 105 = .ok (.aload_n 3, 1) := by decide +kernel
theorem dX10_init_106 : decode cX10_init 106 = .ok (.putfield 54, 3) := by decide +kernel
theorem dX10_init_109 : decode cX10_init 109 = .ok (.aload_n 0, 1) := by decide +kernel
theorem dX10_init_110 : decode cX10_init 110 = .ok (.aload 4, 2) := by decide +kernel
theorem dX10_init_112 : decode cX10_init 112 = .ok (.putfield 58, 3) := by decide +kernel
theorem dX10_init_115 : decode cX10_init 115 = .ok (.return_, 1) := by decide +kernel
theorem dX10_tell_0 : decode cX10_tell 0 = .ok (.aload_n 0, 1) := by decide +kernel
theorem dX10_tell_1 : decode cX10_tell 1 = .ok (.getfield 9, 3) := by decide +kernel
theorem dX10_tell_4 : decode cX10_tell 4 = .ok (.iload_n 1, 1) := by decide +kernel
theorem dX10_tell_5 : decode cX10_tell 5 = .ok (.bipush 24, 2) := by decide +kernel
theorem dX10_tell_7 : decode cX10_tell 7 = .ok (.imul, 1) := by decide +kernel
theorem dX10_tell_8 : decode cX10_tell 8 = .ok (.iload_n 2, 1) := by decide +kernel
theorem dX10_tell_9 : decode cX10_tell 9 = .ok (.iadd, 1) := by decide +kernel
theorem dX10_tell_10 : decode cX10_tell 10 = .ok (.iload_n 3, 1) := by decide +kernel
theorem dX10_tell_11 : decode cX10_tell 11 = .ok (.invokestatic 62, 3) := by decide +kernel
theorem dX10_tell_14 : decode cX10_tell 14 = .ok (.iconst 1, 1) := by decide +kernel
theorem dX10_tell_15 : decode cX10_tell 15 = .ok (.ireturn, 1) := by decide +kernel
theorem dX10_worthFor_0 : decode cX10_worthFor 0 = .ok (.aload_n 0, 1) := by decide +kernel
theorem dX10_worthFor_1 : decode cX10_worthFor 1 = .ok (.getfield 9, 3) := by decide +kernel
theorem dX10_worthFor_4 : decode cX10_worthFor 4 = .ok (.iload_n 1, 1) := by decide +kernel
theorem dX10_worthFor_5 : decode cX10_worthFor 5 = .ok (.bipush 24, 2) := by decide +kernel
theorem dX10_worthFor_7 : decode cX10_worthFor 7 = .ok (.imul, 1) := by decide +kernel
theorem dX10_worthFor_8 : decode cX10_worthFor 8 = .ok (.iload_n 2, 1) := by decide +kernel
theorem dX10_worthFor_9 : decode cX10_worthFor 9 = .ok (.iadd, 1) := by decide +kernel
theorem dX10_worthFor_10 : decode cX10_worthFor 10 = .ok (.invokestatic 66, 3) := by decide +kernel
theorem dX10_worthFor_13 : decode cX10_worthFor 13 = .ok (.ireturn, 1) := by decide +kernel
theorem dX10_countMotion_0 : decode cX10_countMotion 0 = .ok (.aload_n 0, 1) := by decide +kernel
theorem dX10_countMotion_1 : decode cX10_countMotion 1 = .ok (.getfield 58, 3) := by decide +kernel
theorem dX10_countMotion_4 : decode cX10_countMotion 4 = .ok (.iload_n 1, 1) := by decide +kernel
theorem dX10_countMotion_5 : decode cX10_countMotion 5 = .ok (.aload_n 0, 1) := by decide +kernel
theorem dX10_countMotion_6 : decode cX10_countMotion 6 = .ok (.getfield 46, 3) := by decide +kernel
theorem dX10_countMotion_9 : decode cX10_countMotion 9 = .ok (.getfield 70, 3) := by decide +kernel
theorem dX10_countMotion_12 : decode cX10_countMotion 12 = .ok (.invokevirtual 76, 3) := by decide +kernel
theorem dX10_countMotion_15 : decode cX10_countMotion 15 = .ok (.aload_n 0, 1) := by decide +kernel
theorem dX10_countMotion_16 : decode cX10_countMotion 16 = .ok (.getfield 58, 3) := by decide +kernel
theorem dX10_countMotion_19 : decode cX10_countMotion 19 = .ok (.aload_n 2, 1) := by decide +kernel
theorem dX10_countMotion_20 : decode cX10_countMotion 20 = .ok (.iconst 0, 1) := by decide +kernel
theorem dX10_countMotion_21 : decode cX10_countMotion 21 = .ok (.invokevirtual 82, 3) := by decide +kernel
theorem dX10_countMotion_24 : decode cX10_countMotion 24 = .ok (.aload_n 0, 1) := by decide +kernel
theorem dX10_countMotion_25 : decode cX10_countMotion 25 = .ok (.getfield 58, 3) := by decide +kernel
theorem dX10_countMotion_28 : decode cX10_countMotion 28 = .ok (.iconst (-1), 1) := by decide +kernel
theorem dX10_countMotion_29 : decode cX10_countMotion 29 = .ok (.invokevirtual 86, 3) := by decide +kernel
theorem dX10_countMotion_32 : decode cX10_countMotion 32 = .ok (.return_, 1) := by decide +kernel
theorem dX10_passesNow_0 : decode cX10_passesNow 0 = .ok (.aload_n 0, 1) := by decide +kernel
theorem dX10_passesNow_1 : decode cX10_passesNow 1 = .ok (.getfield 58, 3) := by decide +kernel
theorem dX10_passesNow_4 : decode cX10_passesNow 4 = .ok (.aload_n 1, 1) := by decide +kernel
theorem dX10_passesNow_5 : decode cX10_passesNow 5 = .ok (.iconst 0, 1) := by decide +kernel
theorem dX10_passesNow_6 : decode cX10_passesNow 6 = .ok (.iload_n 2, 1) := by decide +kernel
theorem dX10_passesNow_7 : decode cX10_passesNow 7 = .ok (.aload_n 0, 1) := by decide +kernel
theorem dX10_passesNow_8 : decode cX10_passesNow 8 = .ok (.getfield 46, 3) := by decide +kernel
theorem dX10_passesNow_11 : decode cX10_passesNow 11 = .ok (.getfield 70, 3) := by decide +kernel
theorem dX10_passesNow_14 : decode cX10_passesNow 14 = .ok (.invokevirtual 90, 3) := by decide +kernel
theorem dX10_passesNow_17 : decode cX10_passesNow 17 = .ok (.ifCond .eq 7, 3) := by decide +kernel
theorem dX10_passesNow_20 : decode cX10_passesNow 20 = .ok (.iconst 1, 1) := by decide +kernel
theorem dX10_passesNow_21 : decode cX10_passesNow 21 = .ok (.goto 4, 3) := by decide +kernel
theorem dX10_passesNow_24 : decode cX10_passesNow 24 = .ok (.iconst 0, 1) := by decide +kernel
theorem dX10_passesNow_25 : decode cX10_passesNow 25 = .ok (.ireturn, 1) := by decide +kernel
theorem dX10_prepare_0 : decode cX10_prepare 0 = .ok (.aload_n 0, 1) := by decide +kernel
theorem dX10_prepare_1 : decode cX10_prepare 1 = .ok (.aload_n 0, 1) := by decide +kernel
theorem dX10_prepare_2 : decode cX10_prepare 2 = .ok (.getfield 54, 3) := by decide +kernel
theorem dX10_prepare_5 : decode cX10_prepare 5 = .ok (.iload_n 1, 1) := by decide +kernel
theorem dX10_prepare_6 : decode cX10_prepare 6 = .ok (.aload_n 0, 1) := by decide +kernel
theorem dX10_prepare_7 : decode cX10_prepare 7 = .ok (.getfield 15, 3) := by decide +kernel
theorem dX10_prepare_10 : decode cX10_prepare 10 = .ok (.invokevirtual 94, 3) := by decide +kernel
theorem dX10_prepare_13 : decode cX10_prepare 13 = .ok (.putfield 100, 3) := by decide +kernel
theorem dX10_prepare_16 : decode cX10_prepare 16 = .ok (.aload_n 0, 1) := by decide +kernel
theorem dX10_prepare_17 : decode cX10_prepare 17 = .ok (.getfield 50, 3) := by decide +kernel
theorem dX10_prepare_20 : decode cX10_prepare 20 = .ok (.aload_n 0, 1) := by decide +kernel
theorem dX10_prepare_21 : decode cX10_prepare 21 = .ok (.getfield 54, 3) := by decide +kernel
theorem dX10_prepare_24 : decode cX10_prepare 24 = .ok (.getfield 103, 3) := by decide +kernel
theorem dX10_prepare_27 : decode cX10_prepare 27 = .ok (.invokevirtual 106, 3) := by decide +kernel
theorem dX10_prepare_30 : decode cX10_prepare 30 = .ok (.astore_n 2, 1) := by decide +kernel
theorem dX10_prepare_31 : decode cX10_prepare 31 = .ok (.iconst 0, 1) := by decide +kernel
theorem dX10_prepare_32 : decode cX10_prepare 32 = .ok (.istore_n 3, 1) := by decide +kernel
theorem dX10_prepare_33 : decode cX10_prepare 33 = .ok (.iload_n 3, 1) := by decide +kernel
theorem dX10_prepare_34 : decode cX10_prepare 34 = .ok (.aload_n 0, 1) := by decide +kernel
theorem dX10_prepare_35 : decode cX10_prepare 35 = .ok (.getfield 100, 3) := by decide +kernel
theorem dX10_prepare_38 : decode cX10_prepare 38 = .ok (.if_icmp .ge 104, 3) := by decide +kernel
theorem dX10_prepare_41 : decode cX10_prepare 41 = .ok (.aload_n 0, 1) := by decide +kernel
theorem dX10_prepare_42 : decode cX10_prepare 42 = .ok (.getfield 15, 3) := by decide +kernel
theorem dX10_prepare_45 : decode cX10_prepare 45 = .ok (.iload_n 3, 1) := by decide +kernel
theorem dX10_prepare_46 : decode cX10_prepare 46 = .ok (.invokestatic 66, 3) := by decide +kernel
theorem dX10_prepare_49 : decode cX10_prepare 49 = .ok (.istore 4, 2) := by decide +kernel
theorem dX10_prepare_51 : decode cX10_prepare 51 = .ok (.aload_n 0, 1) := by decide +kernel
theorem dX10_prepare_52 : decode cX10_prepare 52 = .ok (.iload 4, 2) := by decide +kernel
theorem dX10_prepare_54 : decode cX10_prepare 54 = .ok (.aload_n 2, 1) := by decide +kernel
theorem dX10_prepare_55 : decode cX10_prepare 55 = .ok (.invokevirtual 112, 3) := by decide +kernel
theorem dX10_prepare_58 : decode cX10_prepare 58 = .ok (.aload_n 0, 1) := by decide +kernel
theorem dX10_prepare_59 : decode cX10_prepare 59 = .ok (.getfield 18, 3) := by decide +kernel
theorem dX10_prepare_62 : decode cX10_prepare 62 = .ok (.iload_n 3, 1) := by decide +kernel
theorem dX10_prepare_63 : decode cX10_prepare 63 = .ok (.aload_n 0, 1) := by decide +kernel
theorem dX10_prepare_64 : decode cX10_prepare 64 = .ok (.aload_n 2, 1) := by decide +kernel
theorem dX10_prepare_65 : decode cX10_prepare 65 = .ok (.iconst 0, 1) := by decide +kernel
theorem dX10_prepare_66 : decode cX10_prepare 66 = .ok (.invokevirtual 116, 3) := by decide +kernel
theorem dX10_prepare_69 : decode cX10_prepare 69 = .ok (.invokestatic 62, 3) := by decide +kernel
theorem dX10_prepare_72 : decode cX10_prepare 72 = .ok (.aload_n 0, 1) := by decide +kernel
theorem dX10_prepare_73 : decode cX10_prepare 73 = .ok (.getfield 21, 3) := by decide +kernel
theorem dX10_prepare_76 : decode cX10_prepare 76 = .ok (.iload_n 3, 1) := by decide +kernel
theorem dX10_prepare_77 : decode cX10_prepare 77 = .ok (.aload_n 0, 1) := by decide +kernel
theorem dX10_prepare_78 : decode cX10_prepare 78 = .ok (.aload_n 2, 1) := by decide +kernel
theorem dX10_prepare_79 : decode cX10_prepare 79 = .ok (.iconst 1, 1) := by decide +kernel
theorem dX10_prepare_80 : decode cX10_prepare 80 = .ok (.invokevirtual 116, 3) := by decide +kernel
theorem dX10_prepare_83 : decode cX10_prepare 83 = .ok (.invokestatic 62, 3) := by decide +kernel
theorem dX10_prepare_86 : decode cX10_prepare 86 = .ok (.aload_n 0, 1) := by decide +kernel
theorem dX10_prepare_87 : decode cX10_prepare 87 = .ok (.getfield 24, 3) := by decide +kernel
theorem dX10_prepare_90 : decode cX10_prepare 90 = .ok (.iload_n 3, 1) := by decide +kernel
theorem dX10_prepare_91 : decode cX10_prepare 91 = .ok (.aload_n 0, 1) := by decide +kernel
theorem dX10_prepare_92 : decode cX10_prepare 92 = .ok (.iload 4, 2) := by decide +kernel
theorem dX10_prepare_94 : decode cX10_prepare 94 = .ok (.invokevirtual 120, 3) := by decide +kernel
theorem dX10_prepare_97 : decode cX10_prepare 97 = .ok (.invokestatic 62, 3) := by decide +kernel
theorem dX10_prepare_100 : decode cX10_prepare 100 = .ok (.aload_n 0, 1) := by decide +kernel
theorem dX10_prepare_101 : decode cX10_prepare 101 = .ok (.getfield 27, 3) := by decide +kernel
theorem dX10_prepare_104 : decode cX10_prepare 104 = .ok (.iload_n 3, 1) := by decide +kernel
theorem dX10_prepare_105 : decode cX10_prepare 105 = .ok (.aload_n 0, 1) := by decide +kernel
theorem dX10_prepare_106 : decode cX10_prepare 106 = .ok (.getfield 54, 3) := by decide +kernel
theorem dX10_prepare_109 : decode cX10_prepare 109 = .ok (.iload 4, 2) := by decide +kernel
theorem dX10_prepare_111 : decode cX10_prepare 111 = .ok (.iconst 1, 1) := by decide +kernel
theorem dX10_prepare_112 : decode cX10_prepare 112 = .ok (.invokevirtual 124, 3) := by decide +kernel
theorem dX10_prepare_115 : decode cX10_prepare 115 = .ok (.invokestatic 128, 3) := by decide +kernel
theorem dX10_prepare_118 : decode cX10_prepare 118 = .ok (.aload_n 0, 1) := by decide +kernel
theorem dX10_prepare_119 : decode cX10_prepare 119 = .ok (.getfield 31, 3) := by decide +kernel
theorem dX10_prepare_122 : decode cX10_prepare 122 = .ok (.iload_n 3, 1) := by decide +kernel
theorem dX10_prepare_123 : decode cX10_prepare 123 = .ok (.aload_n 0, 1) := by decide +kernel
theorem dX10_prepare_124 : decode cX10_prepare 124 = .ok (.getfield 54, 3) := by decide +kernel
theorem dX10_prepare_127 : decode cX10_prepare 127 = .ok (.iload 4, 2) := by decide +kernel
theorem dX10_prepare_129 : decode cX10_prepare 129 = .ok (.iconst (-1), 1) := by decide +kernel
theorem dX10_prepare_130 : decode cX10_prepare 130 = .ok (.invokevirtual 124, 3) := by decide +kernel
theorem dX10_prepare_133 : decode cX10_prepare 133 = .ok (.invokestatic 128, 3) := by decide +kernel
theorem dX10_prepare_136 : decode cX10_prepare 136 = .ok (.iinc 3 1, 3) := by decide +kernel
theorem dX10_prepare_139 : decode cX10_prepare 139 = .ok (.goto (-106), 3) := by decide +kernel
theorem dX10_prepare_142 : decode cX10_prepare 142 = .ok (.aload_n 0, 1) := by decide +kernel
theorem dX10_prepare_143 : decode cX10_prepare 143 = .ok (.getfield 100, 3) := by decide +kernel
theorem dX10_prepare_146 : decode cX10_prepare 146 = .ok (.ifCond .le 7, 3) := by decide +kernel
theorem dX10_prepare_149 : decode cX10_prepare 149 = .ok (.iconst 1, 1) := by decide +kernel
theorem dX10_prepare_150 : decode cX10_prepare 150 = .ok (.goto 4, 3) := by decide +kernel
theorem dX10_prepare_153 : decode cX10_prepare 153 = .ok (.iconst 0, 1) := by decide +kernel
theorem dX10_prepare_154 : decode cX10_prepare 154 = .ok (.ireturn, 1) := by decide +kernel
theorem dX10_contraryTo_0 : decode cX10_contraryTo 0 = .ok (.iconst 0, 1) := by decide +kernel
theorem dX10_contraryTo_1 : decode cX10_contraryTo 1 = .ok (.istore_n 2, 1) := by decide +kernel
theorem dX10_contraryTo_2 : decode cX10_contraryTo 2 = .ok (.iconst 0, 1) := by decide +kernel
theorem dX10_contraryTo_3 : decode cX10_contraryTo 3 = .ok (.istore_n 3, 1) := by decide +kernel
theorem dX10_contraryTo_4 : decode cX10_contraryTo 4 = .ok (.iload_n 3, 1) := by decide +kernel
theorem dX10_contraryTo_5 : decode cX10_contraryTo 5 = .ok (.aload_n 0, 1) := by decide +kernel
theorem dX10_contraryTo_6 : decode cX10_contraryTo 6 = .ok (.getfield 100, 3) := by decide +kernel
theorem dX10_contraryTo_9 : decode cX10_contraryTo 9 = .ok (.if_icmp .ge 38, 3) := by decide +kernel
theorem dX10_contraryTo_12 : decode cX10_contraryTo 12 = .ok (.iload_n 2, 1) := by decide +kernel
theorem dX10_contraryTo_13 : decode cX10_contraryTo 13 = .ok (.aload_n 0, 1) := by decide +kernel
theorem dX10_contraryTo_14 : decode cX10_contraryTo 14 = .ok (.getfield 54, 3) := by decide +kernel
theorem dX10_contraryTo_17 : decode cX10_contraryTo 17 = .ok (.iload_n 1, 1) := by decide +kernel
theorem dX10_contraryTo_18 : decode cX10_contraryTo 18 = .ok (.aload_n 0, 1) := by decide +kernel
theorem dX10_contraryTo_19 : decode cX10_contraryTo 19 = .ok (.getfield 15, 3) := by decide +kernel
theorem dX10_contraryTo_22 : decode cX10_contraryTo 22 = .ok (.iload_n 3, 1) := by decide +kernel
theorem dX10_contraryTo_23 : decode cX10_contraryTo 23 = .ok (.invokestatic 66, 3) := by decide +kernel
theorem dX10_contraryTo_26 : decode cX10_contraryTo 26 = .ok (.invokevirtual 131, 3) := by decide +kernel
theorem dX10_contraryTo_29 : decode cX10_contraryTo 29 = .ok (.ifCond .eq 9, 3) := by decide +kernel
theorem dX10_contraryTo_32 : decode cX10_contraryTo 32 = .ok (.iconst 1, 1) := by decide +kernel
theorem dX10_contraryTo_33 : decode cX10_contraryTo 33 = .ok (.iload_n 3, 1) := by decide +kernel
theorem dX10_contraryTo_34 : decode cX10_contraryTo 34 = .ok (.ishl, 1) := by decide +kernel
theorem dX10_contraryTo_35 : decode cX10_contraryTo 35 = .ok (.goto 4, 3) := by decide +kernel
theorem dX10_contraryTo_38 : decode cX10_contraryTo 38 = .ok (.iconst 0, 1) := by decide +kernel
theorem dX10_contraryTo_39 : decode cX10_contraryTo 39 = .ok (.ior, 1) := by decide +kernel
theorem dX10_contraryTo_40 : decode cX10_contraryTo 40 = .ok (.istore_n 2, 1) := by decide +kernel
theorem dX10_contraryTo_41 : decode cX10_contraryTo 41 = .ok (.iinc 3 1, 3) := by decide +kernel
theorem dX10_contraryTo_44 : decode cX10_contraryTo 44 = .ok (.goto (-40), 3) := by decide +kernel
theorem dX10_contraryTo_47 : decode cX10_contraryTo 47 = .ok (.iload_n 2, 1) := by decide +kernel
theorem dX10_contraryTo_48 : decode cX10_contraryTo 48 = .ok (.ireturn, 1) := by decide +kernel
theorem dX10_readOrder_0 : decode cX10_readOrder 0 = .ok (.iload_n 1, 1) := by decide +kernel
theorem dX10_readOrder_1 : decode cX10_readOrder 1 = .ok (.istore_n 2, 1) := by decide +kernel
theorem dX10_readOrder_2 : decode cX10_readOrder 2 = .ok (.iconst 0, 1) := by decide +kernel
theorem dX10_readOrder_3 : decode cX10_readOrder 3 = .ok (.istore_n 3, 1) := by decide +kernel
theorem dX10_readOrder_4 : decode cX10_readOrder 4 = .ok (.aload_n 0, 1) := by decide +kernel
theorem dX10_readOrder_5 : decode cX10_readOrder 5 = .ok (.getfield 100, 3) := by decide +kernel
theorem dX10_readOrder_8 : decode cX10_readOrder 8 = .ok (.iconst 1, 1) := by decide +kernel
theorem dX10_readOrder_9 : decode cX10_readOrder 9 = .ok (.isub, 1) := by decide +kernel
theorem dX10_readOrder_10 : decode cX10_readOrder 10 = .ok (.istore 4, 2) := by decide +kernel
theorem dX10_readOrder_12 : decode cX10_readOrder 12 = .ok (.iload 4, 2) := by decide +kernel
theorem dX10_readOrder_14 : decode cX10_readOrder 14 = .ok (.ifCond .lt 65, 3) := by decide +kernel
theorem dX10_readOrder_17 : decode cX10_readOrder 17 = .ok (.iload_n 2, 1) := by decide +kernel
theorem dX10_readOrder_18 : decode cX10_readOrder 18 = .ok (.bipush 10, 2) := by decide +kernel
theorem dX10_readOrder_20 : decode cX10_readOrder 20 = .ok (.irem, 1) := by decide +kernel
theorem dX10_readOrder_21 : decode cX10_readOrder 21 = .ok (.iconst 1, 1) := by decide +kernel
theorem dX10_readOrder_22 : decode cX10_readOrder 22 = .ok (.isub, 1) := by decide +kernel
theorem dX10_readOrder_23 : decode cX10_readOrder 23 = .ok (.istore 5, 2) := by decide +kernel
theorem dX10_readOrder_25 : decode cX10_readOrder 25 = .ok (.iload 5, 2) := by decide +kernel
theorem dX10_readOrder_27 : decode cX10_readOrder 27 = .ok (.ifCond .lt 21, 3) := by decide +kernel
theorem dX10_readOrder_30 : decode cX10_readOrder 30 = .ok (.iload 5, 2) := by decide +kernel
theorem dX10_readOrder_32 : decode cX10_readOrder 32 = .ok (.aload_n 0, 1) := by decide +kernel
theorem dX10_readOrder_33 : decode cX10_readOrder 33 = .ok (.getfield 100, 3) := by decide +kernel
theorem dX10_readOrder_36 : decode cX10_readOrder 36 = .ok (.if_icmp .ge 12, 3) := by decide +kernel
theorem dX10_readOrder_39 : decode cX10_readOrder 39 = .ok (.iload_n 3, 1) := by decide +kernel
theorem dX10_readOrder_40 : decode cX10_readOrder 40 = .ok (.iload 5, 2) := by decide +kernel
theorem dX10_readOrder_42 : decode cX10_readOrder 42 = .ok (.iushr, 1) := by decide +kernel
theorem dX10_readOrder_43 : decode cX10_readOrder 43 = .ok (.iconst 1, 1) := by decide +kernel
theorem dX10_readOrder_44 : decode cX10_readOrder 44 = .ok (.iand, 1) := by decide +kernel
theorem dX10_readOrder_45 : decode cX10_readOrder 45 = .ok (.ifCond .eq 5, 3) := by decide +kernel
theorem dX10_readOrder_48 : decode cX10_readOrder 48 = .ok (.iconst 0, 1) := by decide +kernel
theorem dX10_readOrder_49 : decode cX10_readOrder 49 = .ok (.ireturn, 1) := by decide +kernel
theorem dX10_readOrder_50 : decode cX10_readOrder 50 = .ok (.iload_n 3, 1) := by decide +kernel
theorem dX10_readOrder_51 : decode cX10_readOrder 51 = .ok (.iconst 1, 1) := by decide +kernel
theorem dX10_readOrder_52 : decode cX10_readOrder 52 = .ok (.iload 5, 2) := by decide +kernel
theorem dX10_readOrder_54 : decode cX10_readOrder 54 = .ok (.ishl, 1) := by decide +kernel
theorem dX10_readOrder_55 : decode cX10_readOrder 55 = .ok (.ior, 1) := by decide +kernel
theorem dX10_readOrder_56 : decode cX10_readOrder 56 = .ok (.istore_n 3, 1) := by decide +kernel
theorem dX10_readOrder_57 : decode cX10_readOrder 57 = .ok (.aload_n 0, 1) := by decide +kernel
theorem dX10_readOrder_58 : decode cX10_readOrder 58 = .ok (.getfield 34, 3) := by decide +kernel
theorem dX10_readOrder_61 : decode cX10_readOrder 61 = .ok (.iload 4, 2) := by decide +kernel
theorem dX10_readOrder_63 : decode cX10_readOrder 63 = .ok (.iload 5, 2) := by decide +kernel
theorem dX10_readOrder_65 : decode cX10_readOrder 65 = .ok (.invokestatic 62, 3) := by decide +kernel
theorem dX10_readOrder_68 : decode cX10_readOrder 68 = .ok (.iload_n 2, 1) := by decide +kernel
theorem dX10_readOrder_69 : decode cX10_readOrder 69 = .ok (.bipush 10, 2) := by decide +kernel
theorem dX10_readOrder_71 : decode cX10_readOrder 71 = .ok (.idiv, 1) := by decide +kernel
theorem dX10_readOrder_72 : decode cX10_readOrder 72 = .ok (.istore_n 2, 1) := by decide +kernel
theorem dX10_readOrder_73 : decode cX10_readOrder 73 = .ok (.iinc 4 (-1), 3) := by decide +kernel
theorem dX10_readOrder_76 : decode cX10_readOrder 76 = .ok (.goto (-64), 3) := by decide +kernel
theorem dX10_readOrder_79 : decode cX10_readOrder 79 = .ok (.iload_n 2, 1) := by decide +kernel
theorem dX10_readOrder_80 : decode cX10_readOrder 80 = .ok (.ifCond .ne 7, 3) := by decide +kernel
theorem dX10_readOrder_83 : decode cX10_readOrder 83 = .ok (.iconst 1, 1) := by decide +kernel
theorem dX10_readOrder_84 : decode cX10_readOrder 84 = .ok (.goto 4, 3) := by decide +kernel
theorem dX10_readOrder_87 : decode cX10_readOrder 87 = .ok (.iconst 0, 1) := by decide +kernel
theorem dX10_readOrder_88 : decode cX10_readOrder 88 = .ok (.ireturn, 1) := by decide +kernel
theorem dX10_along_0 : decode cX10_along 0 = .ok (.aload_n 0, 1) := by decide +kernel
theorem dX10_along_1 : decode cX10_along 1 = .ok (.getfield 54, 3) := by decide +kernel
theorem dX10_along_4 : decode cX10_along 4 = .ok (.getfield 135, 3) := by decide +kernel
theorem dX10_along_7 : decode cX10_along 7 = .ok (.lstore_n 2, 1) := by decide +kernel
theorem dX10_along_8 : decode cX10_along 8 = .ok (.aload_n 0, 1) := by decide +kernel
theorem dX10_along_9 : decode cX10_along 9 = .ok (.getfield 54, 3) := by decide +kernel
theorem dX10_along_12 : decode cX10_along 12 = .ok (.getfield 139, 3) := by decide +kernel
theorem dX10_along_15 : decode cX10_along 15 = .ok (.lstore 4, 2) := by decide +kernel
theorem dX10_along_17 : decode cX10_along 17 = .ok (.iconst 0, 1) := by decide +kernel
theorem dX10_along_18 : decode cX10_along 18 = .ok (.istore 6, 2) := by decide +kernel
theorem dX10_along_20 : decode cX10_along 20 = .ok (.iconst 0, 1) := by decide +kernel
theorem dX10_along_21 : decode cX10_along 21 = .ok (.istore 7, 2) := by decide +kernel
theorem dX10_along_23 : decode cX10_along 23 = .ok (.iconst 0, 1) := by decide +kernel
theorem dX10_along_24 : decode cX10_along 24 = .ok (.istore 8, 2) := by decide +kernel
theorem dX10_along_26 : decode cX10_along 26 = .ok (.iload 8, 2) := by decide +kernel
theorem dX10_along_28 : decode cX10_along 28 = .ok (.aload_n 0, 1) := by decide +kernel
theorem dX10_along_29 : decode cX10_along 29 = .ok (.getfield 100, 3) := by decide +kernel
theorem dX10_along_32 : decode cX10_along 32 = .ok (.if_icmp .ge 158, 3) := by decide +kernel
theorem dX10_along_35 : decode cX10_along 35 = .ok (.aload_n 0, 1) := by decide +kernel
theorem dX10_along_36 : decode cX10_along 36 = .ok (.getfield 34, 3) := by decide +kernel
theorem dX10_along_39 : decode cX10_along 39 = .ok (.iload 8, 2) := by decide +kernel
theorem dX10_along_41 : decode cX10_along 41 = .ok (.invokestatic 66, 3) := by decide +kernel
theorem dX10_along_44 : decode cX10_along 44 = .ok (.istore 9, 2) := by decide +kernel
theorem dX10_along_46 : decode cX10_along 46 = .ok (.aload_n 0, 1) := by decide +kernel
theorem dX10_along_47 : decode cX10_along 47 = .ok (.getfield 27, 3) := by decide +kernel
theorem dX10_along_50 : decode cX10_along 50 = .ok (.iload 9, 2) := by decide +kernel
theorem dX10_along_52 : decode cX10_along 52 = .ok (.invokestatic 142, 3) := by decide +kernel
theorem dX10_along_55 : decode cX10_along 55 = .ok (.lstore 10, 2) := by decide +kernel
theorem dX10_along_57 : decode cX10_along 57 = .ok (.aload_n 0, 1) := by decide +kernel
theorem dX10_along_58 : decode cX10_along 58 = .ok (.getfield 31, 3) := by decide +kernel
theorem dX10_along_61 : decode cX10_along 61 = .ok (.iload 9, 2) := by decide +kernel
theorem dX10_along_63 : decode cX10_along 63 = .ok (.invokestatic 142, 3) := by decide +kernel
theorem dX10_along_66 : decode cX10_along 66 = .ok (.lstore 12, 2) := by decide +kernel
theorem dX10_along_68 : decode cX10_along 68 = .ok (.lload 10, 2) := by decide +kernel
theorem dX10_along_70 : decode cX10_along 70 = .ok (.lload 4, 2) := by decide +kernel
theorem dX10_along_72 : decode cX10_along 72 = .ok (.land, 1) := by decide +kernel
theorem dX10_along_73 : decode cX10_along 73 = .ok (.lload 12, 2) := by decide +kernel
theorem dX10_along_75 : decode cX10_along 75 = .ok (.lload_n 2, 1) := by decide +kernel
theorem dX10_along_76 : decode cX10_along 76 = .ok (.land, 1) := by decide +kernel
theorem dX10_along_77 : decode cX10_along 77 = .ok (.lor, 1) := by decide +kernel
theorem dX10_along_78 : decode cX10_along 78 = .ok (.lconst 0, 1) := by decide +kernel
theorem dX10_along_79 : decode cX10_along 79 = .ok (.lcmp, 1) := by decide +kernel
theorem dX10_along_80 : decode cX10_along 80 = .ok (.ifCond .eq 7, 3) := by decide +kernel
theorem dX10_along_83 : decode cX10_along 83 = .ok (.iconst 1, 1) := by decide +kernel
theorem dX10_along_84 : decode cX10_along 84 = .ok (.goto 4, 3) := by decide +kernel
theorem dX10_along_87 : decode cX10_along 87 = .ok (.iconst 0, 1) := by decide +kernel
theorem dX10_along_88 : decode cX10_along 88 = .ok (.istore 14, 2) := by decide +kernel
theorem dX10_along_90 : decode cX10_along 90 = .ok (.iload 6, 2) := by decide +kernel
theorem dX10_along_92 : decode cX10_along 92 = .ok (.iload 9, 2) := by decide +kernel
theorem dX10_along_94 : decode cX10_along 94 = .ok (.iushr, 1) := by decide +kernel
theorem dX10_along_95 : decode cX10_along 95 = .ok (.iconst 1, 1) := by decide +kernel
theorem dX10_along_96 : decode cX10_along 96 = .ok (.iand, 1) := by decide +kernel
theorem dX10_along_97 : decode cX10_along 97 = .ok (.ifCond .ne 87, 3) := by decide +kernel
theorem dX10_along_100 : decode cX10_along 100 = .ok (.iload 14, 2) := by decide +kernel
theorem dX10_along_102 : decode cX10_along 102 = .ok (.ifCond .eq 10, 3) := by decide +kernel
theorem dX10_along_105 : decode cX10_along 105 = .ok (.aload_n 0, 1) := by decide +kernel
theorem dX10_along_106 : decode cX10_along 106 = .ok (.getfield 21, 3) := by decide +kernel
theorem dX10_along_109 : decode cX10_along 109 = .ok (.goto 7, 3) := by decide +kernel
theorem dX10_along_112 : decode cX10_along 112 = .ok (.aload_n 0, 1) := by decide +kernel
theorem dX10_along_113 : decode cX10_along 113 = .ok (.getfield 18, 3) := by decide +kernel
theorem dX10_along_116 : decode cX10_along 116 = .ok (.iload 9, 2) := by decide +kernel
theorem dX10_along_118 : decode cX10_along 118 = .ok (.invokestatic 66, 3) := by decide +kernel
theorem dX10_along_121 : decode cX10_along 121 = .ok (.iconst 1, 1) := by decide +kernel
theorem dX10_along_122 : decode cX10_along 122 = .ok (.if_icmp .ne 62, 3) := by decide +kernel
theorem dX10_along_125 : decode cX10_along 125 = .ok (.iload 7, 2) := by decide +kernel
theorem dX10_along_127 : decode cX10_along 127 = .ok (.aload_n 0, 1) := by decide +kernel
theorem dX10_along_128 : decode cX10_along 128 = .ok (.iload_n 1, 1) := by decide +kernel
theorem dX10_along_129 : decode cX10_along 129 = .ok (.aload_n 0, 1) := by decide +kernel
theorem dX10_along_130 : decode cX10_along 130 = .ok (.getfield 15, 3) := by decide +kernel
theorem dX10_along_133 : decode cX10_along 133 = .ok (.iload 9, 2) := by decide +kernel
theorem dX10_along_135 : decode cX10_along 135 = .ok (.invokestatic 66, 3) := by decide +kernel
theorem dX10_along_138 : decode cX10_along 138 = .ok (.invokevirtual 145, 3) := by decide +kernel
theorem dX10_along_141 : decode cX10_along 141 = .ok (.iadd, 1) := by decide +kernel
theorem dX10_along_142 : decode cX10_along 142 = .ok (.istore 7, 2) := by decide +kernel
theorem dX10_along_144 : decode cX10_along 144 = .ok (.lload_n 2, 1) := by decide +kernel
theorem dX10_along_145 : decode cX10_along 145 = .ok (.lload 12, 2) := by decide +kernel
theorem dX10_along_147 : decode cX10_along 147 = .ok (.ldc2_w 149, 3) := by decide +kernel
theorem dX10_along_150 : decode cX10_along 150 = .ok (.lxor, 1) := by decide +kernel
theorem dX10_along_151 : decode cX10_along 151 = .ok (.land, 1) := by decide +kernel
theorem dX10_along_152 : decode cX10_along 152 = .ok (.lload 10, 2) := by decide +kernel
theorem dX10_along_154 : decode cX10_along 154 = .ok (.lor, 1) := by decide +kernel
theorem dX10_along_155 : decode cX10_along 155 = .ok (.lstore_n 2, 1) := by decide +kernel
theorem dX10_along_156 : decode cX10_along 156 = .ok (.lload 4, 2) := by decide +kernel
theorem dX10_along_158 : decode cX10_along 158 = .ok (.lload 10, 2) := by decide +kernel
theorem dX10_along_160 : decode cX10_along 160 = .ok (.ldc2_w 149, 3) := by decide +kernel
theorem dX10_along_163 : decode cX10_along 163 = .ok (.lxor, 1) := by decide +kernel
theorem dX10_along_164 : decode cX10_along 164 = .ok (.land, 1) := by decide +kernel
theorem dX10_along_165 : decode cX10_along 165 = .ok (.lload 12, 2) := by decide +kernel
theorem dX10_along_167 : decode cX10_along 167 = .ok (.lor, 1) := by decide +kernel
theorem dX10_along_168 : decode cX10_along 168 = .ok (.lstore 4, 2) := by decide +kernel
theorem dX10_along_170 : decode cX10_along 170 = .ok (.iload 6, 2) := by decide +kernel
theorem dX10_along_172 : decode cX10_along 172 = .ok (.aload_n 0, 1) := by decide +kernel
theorem dX10_along_173 : decode cX10_along 173 = .ok (.getfield 24, 3) := by decide +kernel
theorem dX10_along_176 : decode cX10_along 176 = .ok (.iload 9, 2) := by decide +kernel
theorem dX10_along_178 : decode cX10_along 178 = .ok (.invokestatic 66, 3) := by decide +kernel
theorem dX10_along_181 : decode cX10_along 181 = .ok (.ior, 1) := by decide +kernel
theorem dX10_along_182 : decode cX10_along 182 = .ok (.istore 6, 2) := by decide +kernel
theorem dX10_along_184 : decode cX10_along 184 = .ok (.iinc 8 1, 3) := by decide +kernel
theorem dX10_along_187 : decode cX10_along 187 = .ok (.goto (-161), 3) := by decide +kernel
theorem dX10_along_190 : decode cX10_along 190 = .ok (.iload 7, 2) := by decide +kernel
theorem dX10_along_192 : decode cX10_along 192 = .ok (.ireturn, 1) := by decide +kernel
theorem dX10_findBest_0 : decode cX10_findBest 0 = .ok (.iconst 0, 1) := by decide +kernel
theorem dX10_findBest_1 : decode cX10_findBest 1 = .ok (.istore_n 2, 1) := by decide +kernel
theorem dX10_findBest_2 : decode cX10_findBest 2 = .ok (.iload_n 2, 1) := by decide +kernel
theorem dX10_findBest_3 : decode cX10_findBest 3 = .ok (.aload_n 0, 1) := by decide +kernel
theorem dX10_findBest_4 : decode cX10_findBest 4 = .ok (.getfield 100, 3) := by decide +kernel
theorem dX10_findBest_7 : decode cX10_findBest 7 = .ok (.if_icmp .ge 18, 3) := by decide +kernel
theorem dX10_findBest_10 : decode cX10_findBest 10 = .ok (.aload_n 0, 1) := by decide +kernel
theorem dX10_findBest_11 : decode cX10_findBest 11 = .ok (.getfield 34, 3) := by decide +kernel
theorem dX10_findBest_14 : decode cX10_findBest 14 = .ok (.iload_n 2, 1) := by decide +kernel
theorem dX10_findBest_15 : decode cX10_findBest 15 = .ok (.iload_n 2, 1) := by decide +kernel
theorem dX10_findBest_16 : decode cX10_findBest 16 = .ok (.invokestatic 62, 3) := by decide +kernel
theorem dX10_findBest_19 : decode cX10_findBest 19 = .ok (.iinc 2 1, 3) := by decide +kernel
theorem dX10_findBest_22 : decode cX10_findBest 22 = .ok (.goto (-20), 3) := by decide +kernel
theorem dX10_findBest_25 : decode cX10_findBest 25 = .ok (.aload_n 0, 1) := by decide +kernel
theorem dX10_findBest_26 : decode cX10_findBest 26 = .ok (.iload_n 1, 1) := by decide +kernel
theorem dX10_findBest_27 : decode cX10_findBest 27 = .ok (.invokevirtual 151, 3) := by decide +kernel
theorem dX10_findBest_30 : decode cX10_findBest 30 = .ok (.istore_n 2, 1) := by decide +kernel
theorem dX10_findBest_31 : decode cX10_findBest 31 = .ok (.aload_n 0, 1) := by decide +kernel
theorem dX10_findBest_32 : decode cX10_findBest 32 = .ok (.getfield 34, 3) := by decide +kernel
theorem dX10_findBest_35 : decode cX10_findBest 35 = .ok (.aload_n 0, 1) := by decide +kernel
theorem dX10_findBest_36 : decode cX10_findBest 36 = .ok (.getfield 37, 3) := by decide +kernel
theorem dX10_findBest_39 : decode cX10_findBest 39 = .ok (.invokestatic 154, 3) := by decide +kernel
theorem dX10_findBest_42 : decode cX10_findBest 42 = .ok (.iconst 0, 1) := by decide +kernel
theorem dX10_findBest_43 : decode cX10_findBest 43 = .ok (.istore_n 3, 1) := by decide +kernel
theorem dX10_findBest_44 : decode cX10_findBest 44 = .ok (.iload_n 3, 1) := by decide +kernel
theorem dX10_findBest_45 : decode cX10_findBest 45 = .ok (.sipush 720, 3) := by decide +kernel
theorem dX10_findBest_48 : decode cX10_findBest 48 = .ok (.if_icmp .ge 43, 3) := by decide +kernel
theorem dX10_findBest_51 : decode cX10_findBest 51 = .ok (.aload_n 0, 1) := by decide +kernel
theorem dX10_findBest_52 : decode cX10_findBest 52 = .ok (.invokevirtual 158, 3) := by decide +kernel
theorem dX10_findBest_55 : decode cX10_findBest 55 = .ok (.ifCond .eq 36, 3) := by decide +kernel
theorem dX10_findBest_58 : decode cX10_findBest 58 = .ok (.aload_n 0, 1) := by decide +kernel
theorem dX10_findBest_59 : decode cX10_findBest 59 = .ok (.iload_n 1, 1) := by decide +kernel
theorem dX10_findBest_60 : decode cX10_findBest 60 = .ok (.invokevirtual 151, 3) := by decide +kernel
theorem dX10_findBest_63 : decode cX10_findBest 63 = .ok (.istore 4, 2) := by decide +kernel
theorem dX10_findBest_65 : decode cX10_findBest 65 = .ok (.iload 4, 2) := by decide +kernel
theorem dX10_findBest_67 : decode cX10_findBest 67 = .ok (.iload_n 2, 1) := by decide +kernel
theorem dX10_findBest_68 : decode cX10_findBest 68 = .ok (.if_icmp .le 17, 3) := by decide +kernel
theorem dX10_findBest_71 : decode cX10_findBest 71 = .ok (.iload 4, 2) := by decide +kernel
theorem dX10_findBest_73 : decode cX10_findBest 73 = .ok (.istore_n 2, 1) := by decide +kernel
theorem dX10_findBest_74 : decode cX10_findBest 74 = .ok (.aload_n 0, 1) := by decide +kernel
theorem dX10_findBest_75 : decode cX10_findBest 75 = .ok (.getfield 34, 3) := by decide +kernel
theorem dX10_findBest_78 : decode cX10_findBest 78 = .ok (.aload_n 0, 1) := by decide +kernel
theorem dX10_findBest_79 : decode cX10_findBest 79 = .ok (.getfield 37, 3) := by decide +kernel
theorem dX10_findBest_82 : decode cX10_findBest 82 = .ok (.invokestatic 154, 3) := by decide +kernel
theorem dX10_findBest_85 : decode cX10_findBest 85 = .ok (.iinc 3 1, 3) := by decide +kernel
theorem dX10_findBest_88 : decode cX10_findBest 88 = .ok (.goto (-44), 3) := by decide +kernel
theorem dX10_findBest_91 : decode cX10_findBest 91 = .ok (.iload_n 2, 1) := by decide +kernel
theorem dX10_findBest_92 : decode cX10_findBest 92 = .ok (.ireturn, 1) := by decide +kernel
theorem dX10_nextOrder_0 : decode cX10_nextOrder 0 = .ok (.aload_n 0, 1) := by decide +kernel
theorem dX10_nextOrder_1 : decode cX10_nextOrder 1 = .ok (.getfield 100, 3) := by decide +kernel
theorem dX10_nextOrder_4 : decode cX10_nextOrder 4 = .ok (.iconst 2, 1) := by decide +kernel
theorem dX10_nextOrder_5 : decode cX10_nextOrder 5 = .ok (.isub, 1) := by decide +kernel
theorem dX10_nextOrder_6 : decode cX10_nextOrder 6 = .ok (.istore_n 1, 1) := by decide +kernel
theorem dX10_nextOrder_7 : decode cX10_nextOrder 7 = .ok (.iload_n 1, 1) := by decide +kernel
theorem dX10_nextOrder_8 : decode cX10_nextOrder 8 = .ok (.ifCond .lt 30, 3) := by decide +kernel
theorem dX10_nextOrder_11 : decode cX10_nextOrder 11 = .ok (.aload_n 0, 1) := by decide +kernel
theorem dX10_nextOrder_12 : decode cX10_nextOrder 12 = .ok (.getfield 34, 3) := by decide +kernel
theorem dX10_nextOrder_15 : decode cX10_nextOrder 15 = .ok (.iload_n 1, 1) := by decide +kernel
theorem dX10_nextOrder_16 : decode cX10_nextOrder 16 = .ok (.invokestatic 66, 3) := by decide +kernel
theorem dX10_nextOrder_19 : decode cX10_nextOrder 19 = .ok (.aload_n 0, 1) := by decide +kernel
theorem dX10_nextOrder_20 : decode cX10_nextOrder 20 = .ok (.getfield 34, 3) := by decide +kernel
theorem dX10_nextOrder_23 : decode cX10_nextOrder 23 = .ok (.iload_n 1, 1) := by decide +kernel
theorem dX10_nextOrder_24 : decode cX10_nextOrder 24 = .ok (.iconst 1, 1) := by decide +kernel
theorem dX10_nextOrder_25 : decode cX10_nextOrder 25 = .ok (.iadd, 1) := by decide +kernel
theorem dX10_nextOrder_26 : decode cX10_nextOrder 26 = .ok (.invokestatic 66, 3) := by decide +kernel
theorem dX10_nextOrder_29 : decode cX10_nextOrder 29 = .ok (.if_icmp .le 9, 3) := by decide +kernel
theorem dX10_nextOrder_32 : decode cX10_nextOrder 32 = .ok (.iinc 1 (-1), 3) := by decide +kernel
theorem dX10_nextOrder_35 : decode cX10_nextOrder 35 = .ok (.goto (-28), 3) := by decide +kernel
theorem dX10_nextOrder_38 : decode cX10_nextOrder 38 = .ok (.iload_n 1, 1) := by decide +kernel
theorem dX10_nextOrder_39 : decode cX10_nextOrder 39 = .ok (.ifCond .ge 5, 3) := by decide +kernel
theorem dX10_nextOrder_42 : decode cX10_nextOrder 42 = .ok (.iconst 0, 1) := by decide +kernel
theorem dX10_nextOrder_43 : decode cX10_nextOrder 43 = .ok (.ireturn, 1) := by decide +kernel
theorem dX10_nextOrder_44 : decode cX10_nextOrder 44 = .ok (.aload_n 0, 1) := by decide +kernel
theorem dX10_nextOrder_45 : decode cX10_nextOrder 45 = .ok (.getfield 100, 3) := by decide +kernel
theorem dX10_nextOrder_48 : decode cX10_nextOrder 48 = .ok (.iconst 1, 1) := by decide +kernel
theorem dX10_nextOrder_49 : decode cX10_nextOrder 49 = .ok (.isub, 1) := by decide +kernel
theorem dX10_nextOrder_50 : decode cX10_nextOrder 50 = .ok (.istore_n 2, 1) := by decide +kernel
theorem dX10_nextOrder_51 : decode cX10_nextOrder 51 = .ok (.iload_n 2, 1) := by decide +kernel
theorem dX10_nextOrder_52 : decode cX10_nextOrder 52 = .ok (.iload_n 1, 1) := by decide +kernel
theorem dX10_nextOrder_53 : decode cX10_nextOrder 53 = .ok (.if_icmp .le 28, 3) := by decide +kernel
theorem dX10_nextOrder_56 : decode cX10_nextOrder 56 = .ok (.aload_n 0, 1) := by decide +kernel
theorem dX10_nextOrder_57 : decode cX10_nextOrder 57 = .ok (.getfield 34, 3) := by decide +kernel
theorem dX10_nextOrder_60 : decode cX10_nextOrder 60 = .ok (.iload_n 2, 1) := by decide +kernel
theorem dX10_nextOrder_61 : decode cX10_nextOrder 61 = .ok (.invokestatic 66, 3) := by decide +kernel
theorem dX10_nextOrder_64 : decode cX10_nextOrder 64 = .ok (.aload_n 0, 1) := by decide +kernel
theorem dX10_nextOrder_65 : decode cX10_nextOrder 65 = .ok (.getfield 34, 3) := by decide +kernel
theorem dX10_nextOrder_68 : decode cX10_nextOrder 68 = .ok (.iload_n 1, 1) := by decide +kernel
theorem dX10_nextOrder_69 : decode cX10_nextOrder 69 = .ok (.invokestatic 66, 3) := by decide +kernel
theorem dX10_nextOrder_72 : decode cX10_nextOrder 72 = .ok (.if_icmp .ge 9, 3) := by decide +kernel
theorem dX10_nextOrder_75 : decode cX10_nextOrder 75 = .ok (.iinc 2 (-1), 3) := by decide +kernel
theorem dX10_nextOrder_78 : decode cX10_nextOrder 78 = .ok (.goto (-27), 3) := by decide +kernel
theorem dX10_nextOrder_81 : decode cX10_nextOrder 81 = .ok (.aload_n 0, 1) := by decide +kernel
theorem dX10_nextOrder_82 : decode cX10_nextOrder 82 = .ok (.iload_n 1, 1) := by decide +kernel
theorem dX10_nextOrder_83 : decode cX10_nextOrder 83 = .ok (.iload_n 2, 1) := by decide +kernel
theorem dX10_nextOrder_84 : decode cX10_nextOrder 84 = .ok (.invokevirtual 162, 3) := by decide +kernel
theorem dX10_nextOrder_87 : decode cX10_nextOrder 87 = .ok (.aload_n 0, 1) := by decide +kernel
theorem dX10_nextOrder_88 : decode cX10_nextOrder 88 = .ok (.getfield 100, 3) := by decide +kernel
theorem dX10_nextOrder_91 : decode cX10_nextOrder 91 = .ok (.iconst 1, 1) := by decide +kernel
theorem dX10_nextOrder_92 : decode cX10_nextOrder 92 = .ok (.isub, 1) := by decide +kernel
theorem dX10_nextOrder_93 : decode cX10_nextOrder 93 = .ok (.istore_n 3, 1) := by decide +kernel
theorem dX10_nextOrder_94 : decode cX10_nextOrder 94 = .ok (.iload_n 1, 1) := by decide +kernel
theorem dX10_nextOrder_95 : decode cX10_nextOrder 95 = .ok (.iconst 1, 1) := by decide +kernel
theorem dX10_nextOrder_96 : decode cX10_nextOrder 96 = .ok (.iadd, 1) := by decide +kernel
theorem dX10_nextOrder_97 : decode cX10_nextOrder 97 = .ok (.istore 4, 2) := by decide +kernel
theorem dX10_nextOrder_99 : decode cX10_nextOrder 99 = .ok (.iload 4, 2) := by decide +kernel
theorem dX10_nextOrder_101 : decode cX10_nextOrder 101 = .ok (.iload_n 3, 1) := by decide +kernel
theorem dX10_nextOrder_102 : decode cX10_nextOrder 102 = .ok (.if_icmp .ge 19, 3) := by decide +kernel
theorem dX10_nextOrder_105 : decode cX10_nextOrder 105 = .ok (.aload_n 0, 1) := by decide +kernel
theorem dX10_nextOrder_106 : decode cX10_nextOrder 106 = .ok (.iload 4, 2) := by decide +kernel
theorem dX10_nextOrder_108 : decode cX10_nextOrder 108 = .ok (.iload_n 3, 1) := by decide +kernel
theorem dX10_nextOrder_109 : decode cX10_nextOrder 109 = .ok (.invokevirtual 162, 3) := by decide +kernel
theorem dX10_nextOrder_112 : decode cX10_nextOrder 112 = .ok (.iinc 3 (-1), 3) := by decide +kernel
theorem dX10_nextOrder_115 : decode cX10_nextOrder 115 = .ok (.iinc 4 1, 3) := by decide +kernel
theorem dX10_nextOrder_118 : decode cX10_nextOrder 118 = .ok (.goto (-19), 3) := by decide +kernel
theorem dX10_nextOrder_121 : decode cX10_nextOrder 121 = .ok (.iconst 1, 1) := by decide +kernel
theorem dX10_nextOrder_122 : decode cX10_nextOrder 122 = .ok (.ireturn, 1) := by decide +kernel
theorem dX10_swap_0 : decode cX10_swap 0 = .ok (.aload_n 0, 1) := by decide +kernel
theorem dX10_swap_1 : decode cX10_swap 1 = .ok (.getfield 34, 3) := by decide +kernel
theorem dX10_swap_4 : decode cX10_swap 4 = .ok (.iload_n 1, 1) := by decide +kernel
theorem dX10_swap_5 : decode cX10_swap 5 = .ok (.invokestatic 66, 3) := by decide +kernel
theorem dX10_swap_8 : decode cX10_swap 8 = .ok (.istore_n 3, 1) := by decide +kernel
theorem dX10_swap_9 : decode cX10_swap 9 = .ok (.aload_n 0, 1) := by decide +kernel
theorem dX10_swap_10 : decode cX10_swap 10 = .ok (.getfield 34, 3) := by decide +kernel
theorem dX10_swap_13 : decode cX10_swap 13 = .ok (.iload_n 1, 1) := by decide +kernel
theorem dX10_swap_14 : decode cX10_swap 14 = .ok (.aload_n 0, 1) := by decide +kernel
theorem dX10_swap_15 : decode cX10_swap 15 = .ok (.getfield 34, 3) := by decide +kernel
theorem dX10_swap_18 : decode cX10_swap 18 = .ok (.iload_n 2, 1) := by decide +kernel
theorem dX10_swap_19 : decode cX10_swap 19 = .ok (.invokestatic 66, 3) := by decide +kernel
theorem dX10_swap_22 : decode cX10_swap 22 = .ok (.invokestatic 62, 3) := by decide +kernel
theorem dX10_swap_25 : decode cX10_swap 25 = .ok (.aload_n 0, 1) := by decide +kernel
theorem dX10_swap_26 : decode cX10_swap 26 = .ok (.getfield 34, 3) := by decide +kernel
theorem dX10_swap_29 : decode cX10_swap 29 = .ok (.iload_n 2, 1) := by decide +kernel
theorem dX10_swap_30 : decode cX10_swap 30 = .ok (.iload_n 3, 1) := by decide +kernel
theorem dX10_swap_31 : decode cX10_swap 31 = .ok (.invokestatic 62, 3) := by decide +kernel
theorem dX10_swap_34 : decode cX10_swap 34 = .ok (.return_, 1) := by decide +kernel
theorem dX10_bestMotionAt_0 : decode cX10_bestMotionAt 0 = .ok (.aload_n 0, 1) := by decide +kernel
theorem dX10_bestMotionAt_1 : decode cX10_bestMotionAt 1 = .ok (.getfield 15, 3) := by decide +kernel
theorem dX10_bestMotionAt_4 : decode cX10_bestMotionAt 4 = .ok (.aload_n 0, 1) := by decide +kernel
theorem dX10_bestMotionAt_5 : decode cX10_bestMotionAt 5 = .ok (.getfield 37, 3) := by decide +kernel
theorem dX10_bestMotionAt_8 : decode cX10_bestMotionAt 8 = .ok (.iload_n 1, 1) := by decide +kernel
theorem dX10_bestMotionAt_9 : decode cX10_bestMotionAt 9 = .ok (.invokestatic 66, 3) := by decide +kernel
theorem dX10_bestMotionAt_12 : decode cX10_bestMotionAt 12 = .ok (.invokestatic 66, 3) := by decide +kernel
theorem dX10_bestMotionAt_15 : decode cX10_bestMotionAt 15 = .ok (.ireturn, 1) := by decide +kernel
theorem dX10_dealField_0 : decode cX10_dealField 0 = .ok (.aload_n 0, 1) := by decide +kernel
theorem dX10_dealField_1 : decode cX10_dealField 1 = .ok (.getfield 43, 3) := by decide +kernel
theorem dX10_dealField_4 : decode cX10_dealField 4 = .ok (.iload_n 1, 1) := by decide +kernel
theorem dX10_dealField_5 : decode cX10_dealField 5 = .ok (.invokestatic 66, 3) := by decide +kernel
theorem dX10_dealField_8 : decode cX10_dealField 8 = .ok (.ireturn, 1) := by decide +kernel
theorem dX10_findDeal_0 : decode cX10_findDeal 0 = .ok (.iconst 0, 1) := by decide +kernel
theorem dX10_findDeal_1 : decode cX10_findDeal 1 = .ok (.istore_n 1, 1) := by decide +kernel
theorem dX10_findDeal_2 : decode cX10_findDeal 2 = .ok (.iload_n 1, 1) := by decide +kernel
theorem dX10_findDeal_3 : decode cX10_findDeal 3 = .ok (.aload_n 0, 1) := by decide +kernel
theorem dX10_findDeal_4 : decode cX10_findDeal 4 = .ok (.getfield 50, 3) := by decide +kernel
theorem dX10_findDeal_7 : decode cX10_findDeal 7 = .ok (.getfield 165, 3) := by decide +kernel
theorem dX10_findDeal_10 : decode cX10_findDeal 10 = .ok (.if_icmp .ge 14, 3) := by decide +kernel
theorem dX10_findDeal_13 : decode cX10_findDeal 13 = .ok (.aload_n 0, 1) := by decide +kernel
theorem dX10_findDeal_14 : decode cX10_findDeal 14 = .ok (.iload_n 1, 1) := by decide +kernel
theorem dX10_findDeal_15 : decode cX10_findDeal 15 = .ok (.invokevirtual 167, 3) := by decide +kernel
theorem dX10_findDeal_18 : decode cX10_findDeal 18 = .ok (.iinc 1 1, 3) := by decide +kernel
theorem dX10_findDeal_21 : decode cX10_findDeal 21 = .ok (.goto (-19), 3) := by decide +kernel
theorem dX10_findDeal_24 : decode cX10_findDeal 24 = .ok (.aload_n 0, 1) := by decide +kernel
theorem dX10_findDeal_25 : decode cX10_findDeal 25 = .ok (.getfield 43, 3) := by decide +kernel
theorem dX10_findDeal_28 : decode cX10_findDeal 28 = .ok (.iconst 0, 1) := by decide +kernel
theorem dX10_findDeal_29 : decode cX10_findDeal 29 = .ok (.invokestatic 170, 3) := by decide +kernel
theorem dX10_findDeal_32 : decode cX10_findDeal 32 = .ok (.iconst 0, 1) := by decide +kernel
theorem dX10_findDeal_33 : decode cX10_findDeal 33 = .ok (.istore_n 1, 1) := by decide +kernel
theorem dX10_findDeal_34 : decode cX10_findDeal 34 = .ok (.iload_n 1, 1) := by decide +kernel
theorem dX10_findDeal_35 : decode cX10_findDeal 35 = .ok (.aload_n 0, 1) := by decide +kernel
theorem dX10_findDeal_36 : decode cX10_findDeal 36 = .ok (.getfield 46, 3) := by decide +kernel
theorem dX10_findDeal_39 : decode cX10_findDeal 39 = .ok (.getfield 174, 3) := by decide +kernel
theorem dX10_findDeal_42 : decode cX10_findDeal 42 = .ok (.if_icmp .ge 36, 3) := by decide +kernel
theorem dX10_findDeal_45 : decode cX10_findDeal 45 = .ok (.iload_n 1, 1) := by decide +kernel
theorem dX10_findDeal_46 : decode cX10_findDeal 46 = .ok (.iconst 1, 1) := by decide +kernel
theorem dX10_findDeal_47 : decode cX10_findDeal 47 = .ok (.iadd, 1) := by decide +kernel
theorem dX10_findDeal_48 : decode cX10_findDeal 48 = .ok (.istore_n 2, 1) := by decide +kernel
theorem dX10_findDeal_49 : decode cX10_findDeal 49 = .ok (.iload_n 2, 1) := by decide +kernel
theorem dX10_findDeal_50 : decode cX10_findDeal 50 = .ok (.aload_n 0, 1) := by decide +kernel
theorem dX10_findDeal_51 : decode cX10_findDeal 51 = .ok (.getfield 46, 3) := by decide +kernel
theorem dX10_findDeal_54 : decode cX10_findDeal 54 = .ok (.getfield 174, 3) := by decide +kernel
theorem dX10_findDeal_57 : decode cX10_findDeal 57 = .ok (.if_icmp .ge 15, 3) := by decide +kernel
theorem dX10_findDeal_60 : decode cX10_findDeal 60 = .ok (.aload_n 0, 1) := by decide +kernel
theorem dX10_findDeal_61 : decode cX10_findDeal 61 = .ok (.iload_n 1, 1) := by decide +kernel
theorem dX10_findDeal_62 : decode cX10_findDeal 62 = .ok (.iload_n 2, 1) := by decide +kernel
theorem dX10_findDeal_63 : decode cX10_findDeal 63 = .ok (.invokevirtual 177, 3) := by decide +kernel
theorem dX10_findDeal_66 : decode cX10_findDeal 66 = .ok (.iinc 2 1, 3) := by decide +kernel
theorem dX10_findDeal_69 : decode cX10_findDeal 69 = .ok (.goto (-20), 3) := by decide +kernel
theorem dX10_findDeal_72 : decode cX10_findDeal 72 = .ok (.iinc 1 1, 3) := by decide +kernel
theorem dX10_findDeal_75 : decode cX10_findDeal 75 = .ok (.goto (-41), 3) := by decide +kernel
theorem dX10_findDeal_78 : decode cX10_findDeal 78 = .ok (.aload_n 0, 1) := by decide +kernel
theorem dX10_findDeal_79 : decode cX10_findDeal 79 = .ok (.getfield 43, 3) := by decide +kernel
theorem dX10_findDeal_82 : decode cX10_findDeal 82 = .ok (.iconst 4, 1) := by decide +kernel
theorem dX10_findDeal_83 : decode cX10_findDeal 83 = .ok (.invokestatic 66, 3) := by decide +kernel
theorem dX10_findDeal_86 : decode cX10_findDeal 86 = .ok (.ifCond .le 7, 3) := by decide +kernel
theorem dX10_findDeal_89 : decode cX10_findDeal 89 = .ok (.iconst 1, 1) := by decide +kernel
theorem dX10_findDeal_90 : decode cX10_findDeal 90 = .ok (.goto 4, 3) := by decide +kernel
theorem dX10_findDeal_93 : decode cX10_findDeal 93 = .ok (.iconst 0, 1) := by decide +kernel
theorem dX10_findDeal_94 : decode cX10_findDeal 94 = .ok (.ireturn, 1) := by decide +kernel
theorem dX10_findChanges_0 : decode cX10_findChanges 0 = .ok (.iconst 0, 1) := by decide +kernel
theorem dX10_findChanges_1 : decode cX10_findChanges 1 = .ok (.istore_n 2, 1) := by decide +kernel
theorem dX10_findChanges_2 : decode cX10_findChanges 2 = .ok (.iload_n 2, 1) := by decide +kernel
theorem dX10_findChanges_3 : decode cX10_findChanges 3 = .ok (.aload_n 0, 1) := by decide +kernel
theorem dX10_findChanges_4 : decode cX10_findChanges 4 = .ok (.getfield 46, 3) := by decide +kernel
theorem dX10_findChanges_7 : decode cX10_findChanges 7 = .ok (.getfield 174, 3) := by decide +kernel
theorem dX10_findChanges_10 : decode cX10_findChanges 10 = .ok (.if_icmp .ge 23, 3) := by decide +kernel
theorem dX10_findChanges_13 : decode cX10_findChanges 13 = .ok (.aload_n 0, 1) := by decide +kernel
theorem dX10_findChanges_14 : decode cX10_findChanges 14 = .ok (.getfield 40, 3) := by decide +kernel
theorem dX10_findChanges_17 : decode cX10_findChanges 17 = .ok (.iload_n 2, 1) := by decide +kernel
theorem dX10_findChanges_18 : decode cX10_findChanges 18 = .ok (.bipush 24, 2) := by decide +kernel
theorem dX10_findChanges_20 : decode cX10_findChanges 20 = .ok (.imul, 1) := by decide +kernel
theorem dX10_findChanges_21 : decode cX10_findChanges 21 = .ok (.iload_n 1, 1) := by decide +kernel
theorem dX10_findChanges_22 : decode cX10_findChanges 22 = .ok (.iadd, 1) := by decide +kernel
theorem dX10_findChanges_23 : decode cX10_findChanges 23 = .ok (.iconst 2, 1) := by decide +kernel
theorem dX10_findChanges_24 : decode cX10_findChanges 24 = .ok (.invokestatic 62, 3) := by decide +kernel
theorem dX10_findChanges_27 : decode cX10_findChanges 27 = .ok (.iinc 2 1, 3) := by decide +kernel
theorem dX10_findChanges_30 : decode cX10_findChanges 30 = .ok (.goto (-28), 3) := by decide +kernel
theorem dX10_findChanges_33 : decode cX10_findChanges 33 = .ok (.aload_n 0, 1) := by decide +kernel
theorem dX10_findChanges_34 : decode cX10_findChanges 34 = .ok (.getfield 54, 3) := by decide +kernel
theorem dX10_findChanges_37 : decode cX10_findChanges 37 = .ok (.iload_n 1, 1) := by decide +kernel
theorem dX10_findChanges_38 : decode cX10_findChanges 38 = .ok (.invokevirtual 180, 3) := by decide +kernel
theorem dX10_findChanges_41 : decode cX10_findChanges 41 = .ok (.ifCond .eq 4, 3) := by decide +kernel
theorem dX10_findChanges_44 : decode cX10_findChanges 44 = .ok (.return_, 1) := by decide +kernel
theorem dX10_findChanges_45 : decode cX10_findChanges 45 = .ok (.aload_n 0, 1) := by decide +kernel
theorem dX10_findChanges_46 : decode cX10_findChanges 46 = .ok (.getfield 50, 3) := by decide +kernel
theorem dX10_findChanges_49 : decode cX10_findChanges 49 = .ok (.aload_n 0, 1) := by decide +kernel
theorem dX10_findChanges_50 : decode cX10_findChanges 50 = .ok (.getfield 54, 3) := by decide +kernel
theorem dX10_findChanges_53 : decode cX10_findChanges 53 = .ok (.getfield 103, 3) := by decide +kernel
theorem dX10_findChanges_56 : decode cX10_findChanges 56 = .ok (.invokevirtual 106, 3) := by decide +kernel
theorem dX10_findChanges_59 : decode cX10_findChanges 59 = .ok (.astore_n 2, 1) := by decide +kernel
theorem dX10_findChanges_60 : decode cX10_findChanges 60 = .ok (.aload_n 0, 1) := by decide +kernel
theorem dX10_findChanges_61 : decode cX10_findChanges 61 = .ok (.getfield 54, 3) := by decide +kernel
theorem dX10_findChanges_64 : decode cX10_findChanges 64 = .ok (.iload_n 1, 1) := by decide +kernel
theorem dX10_findChanges_65 : decode cX10_findChanges 65 = .ok (.invokevirtual 183, 3) := by decide +kernel
theorem dX10_findChanges_68 : decode cX10_findChanges 68 = .ok (.istore_n 3, 1) := by decide +kernel
theorem dX10_findChanges_69 : decode cX10_findChanges 69 = .ok (.aload_n 0, 1) := by decide +kernel
theorem dX10_findChanges_70 : decode cX10_findChanges 70 = .ok (.iload_n 1, 1) := by decide +kernel
theorem dX10_findChanges_71 : decode cX10_findChanges 71 = .ok (.aload_n 2, 1) := by decide +kernel
theorem dX10_findChanges_72 : decode cX10_findChanges 72 = .ok (.invokevirtual 112, 3) := by decide +kernel
theorem dX10_findChanges_75 : decode cX10_findChanges 75 = .ok (.aload_n 0, 1) := by decide +kernel
theorem dX10_findChanges_76 : decode cX10_findChanges 76 = .ok (.aload_n 2, 1) := by decide +kernel
theorem dX10_findChanges_77 : decode cX10_findChanges 77 = .ok (.iload_n 3, 1) := by decide +kernel
theorem dX10_findChanges_78 : decode cX10_findChanges 78 = .ok (.invokevirtual 116, 3) := by decide +kernel
theorem dX10_findChanges_81 : decode cX10_findChanges 81 = .ok (.istore 4, 2) := by decide +kernel
theorem dX10_findChanges_83 : decode cX10_findChanges 83 = .ok (.iconst 0, 1) := by decide +kernel
theorem dX10_findChanges_84 : decode cX10_findChanges 84 = .ok (.istore 5, 2) := by decide +kernel
theorem dX10_findChanges_86 : decode cX10_findChanges 86 = .ok (.iload 5, 2) := by decide +kernel
theorem dX10_findChanges_88 : decode cX10_findChanges 88 = .ok (.aload_n 0, 1) := by decide +kernel
theorem dX10_findChanges_89 : decode cX10_findChanges 89 = .ok (.getfield 46, 3) := by decide +kernel
theorem dX10_findChanges_92 : decode cX10_findChanges 92 = .ok (.getfield 174, 3) := by decide +kernel
theorem dX10_findChanges_95 : decode cX10_findChanges 95 = .ok (.if_icmp .ge 54, 3) := by decide +kernel
theorem dX10_findChanges_98 : decode cX10_findChanges 98 = .ok (.aload_n 0, 1) := by decide +kernel
theorem dX10_findChanges_99 : decode cX10_findChanges 99 = .ok (.getfield 58, 3) := by decide +kernel
theorem dX10_findChanges_102 : decode cX10_findChanges 102 = .ok (.iload 5, 2) := by decide +kernel
theorem dX10_findChanges_104 : decode cX10_findChanges 104 = .ok (.invokevirtual 186, 3) := by decide +kernel
theorem dX10_findChanges_107 : decode cX10_findChanges 107 = .ok (.iconst 2, 1) := by decide +kernel
theorem dX10_findChanges_108 : decode cX10_findChanges 108 = .ok (.if_icmp .eq 35, 3) := by decide +kernel
theorem dX10_findChanges_111 : decode cX10_findChanges 111 = .ok (.aload_n 0, 1) := by decide +kernel
theorem dX10_findChanges_112 : decode cX10_findChanges 112 = .ok (.getfield 58, 3) := by decide +kernel
theorem dX10_findChanges_115 : decode cX10_findChanges 115 = .ok (.iload 5, 2) := by decide +kernel
theorem dX10_findChanges_117 : decode cX10_findChanges 117 = .ok (.invokevirtual 86, 3) := by decide +kernel
theorem dX10_findChanges_120 : decode cX10_findChanges 120 = .ok (.aload_n 0, 1) := by decide +kernel
theorem dX10_findChanges_121 : decode cX10_findChanges 121 = .ok (.getfield 40, 3) := by decide +kernel
theorem dX10_findChanges_124 : decode cX10_findChanges 124 = .ok (.iload 5, 2) := by decide +kernel
theorem dX10_findChanges_126 : decode cX10_findChanges 126 = .ok (.bipush 24, 2) := by decide +kernel
theorem dX10_findChanges_128 : decode cX10_findChanges 128 = .ok (.imul, 1) := by decide +kernel
theorem dX10_findChanges_129 : decode cX10_findChanges 129 = .ok (.iload_n 1, 1) := by decide +kernel
theorem dX10_findChanges_130 : decode cX10_findChanges 130 = .ok (.iadd, 1) := by decide +kernel
theorem dX10_findChanges_131 : decode cX10_findChanges 131 = .ok (.aload_n 0, 1) := by decide +kernel
theorem dX10_findChanges_132 : decode cX10_findChanges 132 = .ok (.aload_n 2, 1) := by decide +kernel
theorem dX10_findChanges_133 : decode cX10_findChanges 133 = .ok (.iload_n 3, 1) := by decide +kernel
theorem dX10_findChanges_134 : decode cX10_findChanges 134 = .ok (.invokevirtual 116, 3) := by decide +kernel
theorem dX10_findChanges_137 : decode cX10_findChanges 137 = .ok (.iload 4, 2) := by decide +kernel
theorem dX10_findChanges_139 : decode cX10_findChanges 139 = .ok (.isub, 1) := by decide +kernel
theorem dX10_findChanges_140 : decode cX10_findChanges 140 = .ok (.invokestatic 62, 3) := by decide +kernel
theorem dX10_findChanges_143 : decode cX10_findChanges 143 = .ok (.iinc 5 1, 3) := by decide +kernel
theorem dX10_findChanges_146 : decode cX10_findChanges 146 = .ok (.goto (-60), 3) := by decide +kernel
theorem dX10_findChanges_149 : decode cX10_findChanges 149 = .ok (.return_, 1) := by decide +kernel
theorem dX10_findDealOf_0 : decode cX10_findDealOf 0 = .ok (.iconst 0, 1) := by decide +kernel
theorem dX10_findDealOf_1 : decode cX10_findDealOf 1 = .ok (.istore_n 3, 1) := by decide +kernel
theorem dX10_findDealOf_2 : decode cX10_findDealOf 2 = .ok (.iload_n 3, 1) := by decide +kernel
theorem dX10_findDealOf_3 : decode cX10_findDealOf 3 = .ok (.aload_n 0, 1) := by decide +kernel
theorem dX10_findDealOf_4 : decode cX10_findDealOf 4 = .ok (.getfield 50, 3) := by decide +kernel
theorem dX10_findDealOf_7 : decode cX10_findDealOf 7 = .ok (.getfield 165, 3) := by decide +kernel
theorem dX10_findDealOf_10 : decode cX10_findDealOf 10 = .ok (.if_icmp .ge 83, 3) := by decide +kernel
theorem dX10_findDealOf_13 : decode cX10_findDealOf 13 = .ok (.aload_n 0, 1) := by decide +kernel
theorem dX10_findDealOf_14 : decode cX10_findDealOf 14 = .ok (.getfield 40, 3) := by decide +kernel
theorem dX10_findDealOf_17 : decode cX10_findDealOf 17 = .ok (.iload_n 1, 1) := by decide +kernel
theorem dX10_findDealOf_18 : decode cX10_findDealOf 18 = .ok (.bipush 24, 2) := by decide +kernel
theorem dX10_findDealOf_20 : decode cX10_findDealOf 20 = .ok (.imul, 1) := by decide +kernel
theorem dX10_findDealOf_21 : decode cX10_findDealOf 21 = .ok (.iload_n 3, 1) := by decide +kernel
theorem dX10_findDealOf_22 : decode cX10_findDealOf 22 = .ok (.iadd, 1) := by decide +kernel
theorem dX10_findDealOf_23 : decode cX10_findDealOf 23 = .ok (.invokestatic 66, 3) := by decide +kernel
theorem dX10_findDealOf_26 : decode cX10_findDealOf 26 = .ok (.iconst 2, 1) := by decide +kernel
theorem dX10_findDealOf_27 : decode cX10_findDealOf 27 = .ok (.if_icmp .ne 6, 3) := by decide +kernel
theorem dX10_findDealOf_30 : decode cX10_findDealOf 30 = .ok (.goto 57, 3) := by decide +kernel
theorem dX10_findDealOf_33 : decode cX10_findDealOf 33 = .ok (.iconst 0, 1) := by decide +kernel
theorem dX10_findDealOf_34 : decode cX10_findDealOf 34 = .ok (.istore 4, 2) := by decide +kernel
theorem dX10_findDealOf_36 : decode cX10_findDealOf 36 = .ok (.iload 4, 2) := by decide +kernel
theorem dX10_findDealOf_38 : decode cX10_findDealOf 38 = .ok (.aload_n 0, 1) := by decide +kernel
theorem dX10_findDealOf_39 : decode cX10_findDealOf 39 = .ok (.getfield 50, 3) := by decide +kernel
theorem dX10_findDealOf_42 : decode cX10_findDealOf 42 = .ok (.getfield 165, 3) := by decide +kernel
theorem dX10_findDealOf_45 : decode cX10_findDealOf 45 = .ok (.if_icmp .ge 42, 3) := by decide +kernel
theorem dX10_findDealOf_48 : decode cX10_findDealOf 48 = .ok (.iload 4, 2) := by decide +kernel
theorem dX10_findDealOf_50 : decode cX10_findDealOf 50 = .ok (.iload_n 3, 1) := by decide +kernel
theorem dX10_findDealOf_51 : decode cX10_findDealOf 51 = .ok (.if_icmp .eq 30, 3) := by decide +kernel
theorem dX10_findDealOf_54 : decode cX10_findDealOf 54 = .ok (.aload_n 0, 1) := by decide +kernel
theorem dX10_findDealOf_55 : decode cX10_findDealOf 55 = .ok (.getfield 40, 3) := by decide +kernel
theorem dX10_findDealOf_58 : decode cX10_findDealOf 58 = .ok (.iload_n 2, 1) := by decide +kernel
theorem dX10_findDealOf_59 : decode cX10_findDealOf 59 = .ok (.bipush 24, 2) := by decide +kernel
theorem dX10_findDealOf_61 : decode cX10_findDealOf 61 = .ok (.imul, 1) := by decide +kernel
theorem dX10_findDealOf_62 : decode cX10_findDealOf 62 = .ok (.iload 4, 2) := by decide +kernel
theorem dX10_findDealOf_64 : decode cX10_findDealOf 64 = .ok (.iadd, 1) := by decide +kernel
theorem dX10_findDealOf_65 : decode cX10_findDealOf 65 = .ok (.invokestatic 66, 3) := by decide +kernel
theorem dX10_findDealOf_68 : decode cX10_findDealOf 68 = .ok (.iconst 2, 1) := by decide +kernel
theorem dX10_findDealOf_69 : decode cX10_findDealOf 69 = .ok (.if_icmp .eq 12, 3) := by decide +kernel
theorem dX10_findDealOf_72 : decode cX10_findDealOf 72 = .ok (.aload_n 0, 1) := by decide +kernel
theorem dX10_findDealOf_73 : decode cX10_findDealOf 73 = .ok (.iload_n 1, 1) := by decide +kernel
theorem dX10_findDealOf_74 : decode cX10_findDealOf 74 = .ok (.iload_n 2, 1) := by decide +kernel
theorem dX10_findDealOf_75 : decode cX10_findDealOf 75 = .ok (.iload_n 3, 1) := by decide +kernel
theorem dX10_findDealOf_76 : decode cX10_findDealOf 76 = .ok (.iload 4, 2) := by decide +kernel
theorem dX10_findDealOf_78 : decode cX10_findDealOf 78 = .ok (.invokevirtual 189, 3) := by decide +kernel
theorem dX10_findDealOf_81 : decode cX10_findDealOf 81 = .ok (.iinc 4 1, 3) := by decide +kernel
theorem dX10_findDealOf_84 : decode cX10_findDealOf 84 = .ok (.goto (-48), 3) := by decide +kernel
theorem dX10_findDealOf_87 : decode cX10_findDealOf 87 = .ok (.iinc 3 1, 3) := by decide +kernel
theorem dX10_findDealOf_90 : decode cX10_findDealOf 90 = .ok (.goto (-88), 3) := by decide +kernel
theorem dX10_findDealOf_93 : decode cX10_findDealOf 93 = .ok (.return_, 1) := by decide +kernel
theorem dX10_keepIfBetter_0 : decode cX10_keepIfBetter 0 = .ok (.aload_n 0, 1) := by decide +kernel
theorem dX10_keepIfBetter_1 : decode cX10_keepIfBetter 1 = .ok (.getfield 40, 3) := by decide +kernel
theorem dX10_keepIfBetter_4 : decode cX10_keepIfBetter 4 = .ok (.iload_n 1, 1) := by decide +kernel
theorem dX10_keepIfBetter_5 : decode cX10_keepIfBetter 5 = .ok (.bipush 24, 2) := by decide +kernel
theorem dX10_keepIfBetter_7 : decode cX10_keepIfBetter 7 = .ok (.imul, 1) := by decide +kernel
theorem dX10_keepIfBetter_8 : decode cX10_keepIfBetter 8 = .ok (.iload_n 3, 1) := by decide +kernel
theorem dX10_keepIfBetter_9 : decode cX10_keepIfBetter 9 = .ok (.iadd, 1) := by decide +kernel
theorem dX10_keepIfBetter_10 : decode cX10_keepIfBetter 10 = .ok (.invokestatic 66, 3) := by decide +kernel
theorem dX10_keepIfBetter_13 : decode cX10_keepIfBetter 13 = .ok (.istore 5, 2) := by decide +kernel
theorem dX10_keepIfBetter_15 : decode cX10_keepIfBetter 15 = .ok (.aload_n 0, 1) := by decide +kernel
theorem dX10_keepIfBetter_16 : decode cX10_keepIfBetter 16 = .ok (.getfield 40, 3) := by decide +kernel
theorem dX10_keepIfBetter_19 : decode cX10_keepIfBetter 19 = .ok (.iload_n 2, 1) := by decide +kernel
theorem dX10_keepIfBetter_20 : decode cX10_keepIfBetter 20 = .ok (.bipush 24, 2) := by decide +kernel
theorem dX10_keepIfBetter_22 : decode cX10_keepIfBetter 22 = .ok (.imul, 1) := by decide +kernel
theorem dX10_keepIfBetter_23 : decode cX10_keepIfBetter 23 = .ok (.iload 4, 2) := by decide +kernel
theorem dX10_keepIfBetter_25 : decode cX10_keepIfBetter 25 = .ok (.iadd, 1) := by decide +kernel
theorem dX10_keepIfBetter_26 : decode cX10_keepIfBetter 26 = .ok (.invokestatic 66, 3) := by decide +kernel
theorem dX10_keepIfBetter_29 : decode cX10_keepIfBetter 29 = .ok (.istore 6, 2) := by decide +kernel
theorem dX10_keepIfBetter_31 : decode cX10_keepIfBetter 31 = .ok (.iload 5, 2) := by decide +kernel
theorem dX10_keepIfBetter_33 : decode cX10_keepIfBetter 33 = .ok (.ifCond .ne 9, 3) := by decide +kernel
theorem dX10_keepIfBetter_36 : decode cX10_keepIfBetter 36 = .ok (.iload 6, 2) := by decide +kernel
theorem dX10_keepIfBetter_38 : decode cX10_keepIfBetter 38 = .ok (.ifCond .ne 4, 3) := by decide +kernel
theorem dX10_keepIfBetter_41 : decode cX10_keepIfBetter 41 = .ok (.return_, 1) := by decide +kernel
theorem dX10_keepIfBetter_42 : decode cX10_keepIfBetter 42 = .ok (.aload_n 0, 1) := by decide +kernel
theorem dX10_keepIfBetter_43 : decode cX10_keepIfBetter 43 = .ok (.iload_n 1, 1) := by decide +kernel
theorem dX10_keepIfBetter_44 : decode cX10_keepIfBetter 44 = .ok (.iload_n 3, 1) := by decide +kernel
theorem dX10_keepIfBetter_45 : decode cX10_keepIfBetter 45 = .ok (.invokevirtual 145, 3) := by decide +kernel
theorem dX10_keepIfBetter_48 : decode cX10_keepIfBetter 48 = .ok (.iload 5, 2) := by decide +kernel
theorem dX10_keepIfBetter_50 : decode cX10_keepIfBetter 50 = .ok (.imul, 1) := by decide +kernel
theorem dX10_keepIfBetter_51 : decode cX10_keepIfBetter 51 = .ok (.aload_n 0, 1) := by decide +kernel
theorem dX10_keepIfBetter_52 : decode cX10_keepIfBetter 52 = .ok (.iload_n 1, 1) := by decide +kernel
theorem dX10_keepIfBetter_53 : decode cX10_keepIfBetter 53 = .ok (.iload 4, 2) := by decide +kernel
theorem dX10_keepIfBetter_55 : decode cX10_keepIfBetter 55 = .ok (.invokevirtual 145, 3) := by decide +kernel
theorem dX10_keepIfBetter_58 : decode cX10_keepIfBetter 58 = .ok (.iload 6, 2) := by decide +kernel
theorem dX10_keepIfBetter_60 : decode cX10_keepIfBetter 60 = .ok (.imul, 1) := by decide +kernel
theorem dX10_keepIfBetter_61 : decode cX10_keepIfBetter 61 = .ok (.iadd, 1) := by decide +kernel
theorem dX10_keepIfBetter_62 : decode cX10_keepIfBetter 62 = .ok (.istore 7, 2) := by decide +kernel
theorem dX10_keepIfBetter_64 : decode cX10_keepIfBetter 64 = .ok (.aload_n 0, 1) := by decide +kernel
theorem dX10_keepIfBetter_65 : decode cX10_keepIfBetter 65 = .ok (.iload_n 2, 1) := by decide +kernel
theorem dX10_keepIfBetter_66 : decode cX10_keepIfBetter 66 = .ok (.iload_n 3, 1) := by decide +kernel
theorem dX10_keepIfBetter_67 : decode cX10_keepIfBetter 67 = .ok (.invokevirtual 145, 3) := by decide +kernel
theorem dX10_keepIfBetter_70 : decode cX10_keepIfBetter 70 = .ok (.iload 5, 2) := by decide +kernel
theorem dX10_keepIfBetter_72 : decode cX10_keepIfBetter 72 = .ok (.imul, 1) := by decide +kernel
theorem dX10_keepIfBetter_73 : decode cX10_keepIfBetter 73 = .ok (.aload_n 0, 1) := by decide +kernel
theorem dX10_keepIfBetter_74 : decode cX10_keepIfBetter 74 = .ok (.iload_n 2, 1) := by decide +kernel
theorem dX10_keepIfBetter_75 : decode cX10_keepIfBetter 75 = .ok (.iload 4, 2) := by decide +kernel
theorem dX10_keepIfBetter_77 : decode cX10_keepIfBetter 77 = .ok (.invokevirtual 145, 3) := by decide +kernel
theorem dX10_keepIfBetter_80 : decode cX10_keepIfBetter 80 = .ok (.iload 6, 2) := by decide +kernel
theorem dX10_keepIfBetter_82 : decode cX10_keepIfBetter 82 = .ok (.imul, 1) := by decide +kernel
theorem dX10_keepIfBetter_83 : decode cX10_keepIfBetter 83 = .ok (.iadd, 1) := by decide +kernel
theorem dX10_keepIfBetter_84 : decode cX10_keepIfBetter 84 = .ok (.istore 8, 2) := by decide +kernel
theorem dX10_keepIfBetter_86 : decode cX10_keepIfBetter 86 = .ok (.iload 7, 2) := by decide +kernel
theorem dX10_keepIfBetter_88 : decode cX10_keepIfBetter 88 = .ok (.ifCond .le 90, 3) := by decide +kernel
theorem dX10_keepIfBetter_91 : decode cX10_keepIfBetter 91 = .ok (.iload 8, 2) := by decide +kernel
theorem dX10_keepIfBetter_93 : decode cX10_keepIfBetter 93 = .ok (.ifCond .le 85, 3) := by decide +kernel
theorem dX10_keepIfBetter_96 : decode cX10_keepIfBetter 96 = .ok (.iload 7, 2) := by decide +kernel
theorem dX10_keepIfBetter_98 : decode cX10_keepIfBetter 98 = .ok (.iload 8, 2) := by decide +kernel
theorem dX10_keepIfBetter_100 : decode cX10_keepIfBetter 100 = .ok (.iadd, 1) := by decide +kernel
theorem dX10_keepIfBetter_101 : decode cX10_keepIfBetter 101 = .ok (.aload_n 0, 1) := by decide +kernel
theorem dX10_keepIfBetter_102 : decode cX10_keepIfBetter 102 = .ok (.getfield 43, 3) := by decide +kernel
theorem dX10_keepIfBetter_105 : decode cX10_keepIfBetter 105 = .ok (.iconst 4, 1) := by decide +kernel
theorem dX10_keepIfBetter_106 : decode cX10_keepIfBetter 106 = .ok (.invokestatic 66, 3) := by decide +kernel
theorem dX10_keepIfBetter_109 : decode cX10_keepIfBetter 109 = .ok (.aload_n 0, 1) := by decide +kernel
theorem dX10_keepIfBetter_110 : decode cX10_keepIfBetter 110 = .ok (.getfield 43, 3) := by decide +kernel
theorem dX10_keepIfBetter_113 : decode cX10_keepIfBetter 113 = .ok (.iconst 5, 1) := by decide +kernel
theorem dX10_keepIfBetter_114 : decode cX10_keepIfBetter 114 = .ok (.invokestatic 66, 3) := by decide +kernel
theorem dX10_keepIfBetter_117 : decode cX10_keepIfBetter 117 = .ok (.iadd, 1) := by decide +kernel
theorem dX10_keepIfBetter_118 : decode cX10_keepIfBetter 118 = .ok (.if_icmp .le 60, 3) := by decide +kernel
theorem dX10_keepIfBetter_121 : decode cX10_keepIfBetter 121 = .ok (.aload_n 0, 1) := by decide +kernel
theorem dX10_keepIfBetter_122 : decode cX10_keepIfBetter 122 = .ok (.getfield 43, 3) := by decide +kernel
theorem dX10_keepIfBetter_125 : decode cX10_keepIfBetter 125 = .ok (.iconst 0, 1) := by decide +kernel
theorem dX10_keepIfBetter_126 : decode cX10_keepIfBetter 126 = .ok (.iload_n 1, 1) := by decide +kernel
theorem dX10_keepIfBetter_127 : decode cX10_keepIfBetter 127 = .ok (.invokestatic 62, 3) := by decide +kernel
theorem dX10_keepIfBetter_130 : decode cX10_keepIfBetter 130 = .ok (.aload_n 0, 1) := by decide +kernel
theorem dX10_keepIfBetter_131 : decode cX10_keepIfBetter 131 = .ok (.getfield 43, 3) := by decide +kernel
theorem dX10_keepIfBetter_134 : decode cX10_keepIfBetter 134 = .ok (.iconst 1, 1) := by decide +kernel
theorem dX10_keepIfBetter_135 : decode cX10_keepIfBetter 135 = .ok (.iload_n 2, 1) := by decide +kernel
theorem dX10_keepIfBetter_136 : decode cX10_keepIfBetter 136 = .ok (.invokestatic 62, 3) := by decide +kernel
theorem dX10_keepIfBetter_139 : decode cX10_keepIfBetter 139 = .ok (.aload_n 0, 1) := by decide +kernel
theorem dX10_keepIfBetter_140 : decode cX10_keepIfBetter 140 = .ok (.getfield 43, 3) := by decide +kernel
theorem dX10_keepIfBetter_143 : decode cX10_keepIfBetter 143 = .ok (.iconst 2, 1) := by decide +kernel
theorem dX10_keepIfBetter_144 : decode cX10_keepIfBetter 144 = .ok (.iload_n 3, 1) := by decide +kernel
theorem dX10_keepIfBetter_145 : decode cX10_keepIfBetter 145 = .ok (.invokestatic 62, 3) := by decide +kernel
theorem dX10_keepIfBetter_148 : decode cX10_keepIfBetter 148 = .ok (.aload_n 0, 1) := by decide +kernel
theorem dX10_keepIfBetter_149 : decode cX10_keepIfBetter 149 = .ok (.getfield 43, 3) := by decide +kernel
theorem dX10_keepIfBetter_152 : decode cX10_keepIfBetter 152 = .ok (.iconst 3, 1) := by decide +kernel
theorem dX10_keepIfBetter_153 : decode cX10_keepIfBetter 153 = .ok (.iload 4, 2) := by decide +kernel
theorem dX10_keepIfBetter_155 : decode cX10_keepIfBetter 155 = .ok (.invokestatic 62, 3) := by decide +kernel
theorem dX10_keepIfBetter_158 : decode cX10_keepIfBetter 158 = .ok (.aload_n 0, 1) := by decide +kernel
theorem dX10_keepIfBetter_159 : decode cX10_keepIfBetter 159 = .ok (.getfield 43, 3) := by decide +kernel
theorem dX10_keepIfBetter_162 : decode cX10_keepIfBetter 162 = .ok (.iconst 4, 1) := by decide +kernel
theorem dX10_keepIfBetter_163 : decode cX10_keepIfBetter 163 = .ok (.iload 7, 2) := by decide +kernel
theorem dX10_keepIfBetter_165 : decode cX10_keepIfBetter 165 = .ok (.invokestatic 62, 3) := by decide +kernel
theorem dX10_keepIfBetter_168 : decode cX10_keepIfBetter 168 = .ok (.aload_n 0, 1) := by decide +kernel
theorem dX10_keepIfBetter_169 : decode cX10_keepIfBetter 169 = .ok (.getfield 43, 3) := by decide +kernel
theorem dX10_keepIfBetter_172 : decode cX10_keepIfBetter 172 = .ok (.iconst 5, 1) := by decide +kernel
theorem dX10_keepIfBetter_173 : decode cX10_keepIfBetter 173 = .ok (.iload 8, 2) := by decide +kernel
theorem dX10_keepIfBetter_175 : decode cX10_keepIfBetter 175 = .ok (.invokestatic 62, 3) := by decide +kernel
theorem dX10_keepIfBetter_178 : decode cX10_keepIfBetter 178 = .ok (.return_, 1) := by decide +kernel
theorem dX11_init_0 : decode cX11_init 0 = .ok (.aload_n 0, 1) := by decide +kernel
theorem dX11_init_1 : decode cX11_init 1 = .ok (.invokespecial 3, 3) := by decide +kernel
theorem dX11_init_4 : decode cX11_init 4 = .ok (.aload_n 0, 1) := by decide +kernel
theorem dX11_init_5 : decode cX11_init 5 = .ok (.new 9, 3) := by decide +kernel
theorem dX11_init_8 : decode cX11_init 8 = .ok (.dup, 1) := by decide +kernel
theorem dX11_init_9 : decode cX11_init 9 = .ok (.invokespecial 11, 3) := by decide +kernel
theorem dX11_init_12 : decode cX11_init 12 = .ok (.putfield 12, 3) := by decide +kernel
theorem dX11_init_15 : decode cX11_init 15 = .ok (.aload_n 0, 1) := by decide +kernel
theorem dX11_init_16 : decode cX11_init 16 = .ok (.new 16, 3) := by decide +kernel
theorem dX11_init_19 : decode cX11_init 19 = .ok (.dup, 1) := by decide +kernel
theorem dX11_init_20 : decode cX11_init 20 = .ok (.invokespecial 18, 3) := by decide +kernel
theorem dX11_init_23 : decode cX11_init 23 = .ok (.putfield 19, 3) := by decide +kernel
theorem dX11_init_26 : decode cX11_init 26 = .ok (.aload_n 0, 1) := by decide +kernel
theorem dX11_init_27 : decode cX11_init 27 = .ok (.new 23, 3) := by decide +kernel
theorem dX11_init_30 : decode cX11_init 30 = .ok (.dup, 1) := by decide +kernel
theorem dX11_init_31 : decode cX11_init 31 = .ok (.invokespecial 25, 3) := by decide +kernel
theorem dX11_init_34 : decode cX11_init 34 = .ok (.putfield 26, 3) := by decide +kernel
theorem dX11_init_37 : decode cX11_init 37 = .ok (.aload_n 0, 1) := by decide +kernel
theorem dX11_init_38 : decode cX11_init 38 = .ok (.new 30, 3) := by decide +kernel
theorem dX11_init_41 : decode cX11_init 41 = .ok (.dup, 1) := by decide +kernel
theorem dX11_init_42 : decode cX11_init 42 = .ok (.aload_n 0, 1) := by decide +kernel
theorem dX11_init_43 : decode cX11_init 43 = .ok (.getfield 19, 3) := by decide +kernel
theorem dX11_init_46 : decode cX11_init 46 = .ok (.aload_n 0, 1) := by decide +kernel
theorem dX11_init_47 : decode cX11_init 47 = .ok (.getfield 26, 3) := by decide +kernel
theorem dX11_init_50 : decode cX11_init 50 = .ok (.getfield 32, 3) := by decide +kernel
theorem dX11_init_53 : decode cX11_init 53 = .ok (.invokespecial 36, 3) := by decide +kernel
theorem dX11_init_56 : decode cX11_init 56 = .ok (.putfield 39, 3) := by decide +kernel
theorem dX11_init_59 : decode cX11_init 59 = .ok (.aload_n 0, 1) := by decide +kernel
theorem dX11_init_60 : decode cX11_init 60 = .ok (.new 43, 3) := by decide +kernel
theorem dX11_init_63 : decode cX11_init 63 = .ok (.dup, 1) := by decide +kernel
theorem dX11_init_64 : decode cX11_init 64 = .ok (.aload_n 0, 1) := by decide +kernel
theorem dX11_init_65 : decode cX11_init 65 = .ok (.getfield 19, 3) := by decide +kernel
theorem dX11_init_68 : decode cX11_init 68 = .ok (.invokespecial 45, 3) := by decide +kernel
theorem dX11_init_71 : decode cX11_init 71 = .ok (.putfield 48, 3) := by decide +kernel
theorem dX11_init_74 : decode cX11_init 74 = .ok (.aload_n 0, 1) := by decide +kernel
theorem dX11_init_75 : decode cX11_init 75 = .ok (.new 52, 3) := by decide +kernel
theorem dX11_init_78 : decode cX11_init 78 = .ok (.dup, 1) := by decide +kernel
theorem dX11_init_79 : decode cX11_init 79 = .ok (.aload_n 0, 1) := by decide +kernel
theorem dX11_init_80 : decode cX11_init 80 = .ok (.getfield 26, 3) := by decide +kernel
theorem dX11_init_83 : decode cX11_init 83 = .ok (.invokespecial 54, 3) := by decide +kernel
theorem dX11_init_86 : decode cX11_init 86 = .ok (.putfield 57, 3) := by decide +kernel
theorem dX11_init_89 : decode cX11_init 89 = .ok (.aload_n 0, 1) := by decide +kernel
theorem dX11_init_90 : decode cX11_init 90 = .ok (.new 61, 3) := by decide +kernel
theorem dX11_init_93 : decode cX11_init 93 = .ok (.dup, 1) := by decide +kernel
theorem dX11_init_94 : decode cX11_init 94 = .ok (.aload_n 0, 1) := by decide +kernel
theorem dX11_init_95 : decode cX11_init 95 = .ok (.getfield 12, 3) := by decide +kernel
theorem dX11_init_98 : decode cX11_init 98 = .ok (.invokespecial 63, 3) := by decide +kernel
theorem dX11_init_101 : decode cX11_init 101 = .ok (.putfield 66, 3) := by decide +kernel
theorem dX11_init_104 : decode cX11_init 104 = .ok (.aload_n 0, 1) := by decide +kernel
theorem dX11_init_105 : decode cX11_init 105 = .ok (.new 70, 3) := by decide +kernel
theorem dX11_init_108 : decode cX11_init 108 = .ok (.dup, 1) := by decide +kernel
theorem dX11_init_109 : decode cX11_init 109 = .ok (.aload_n 0, 1) := by decide +kernel
theorem dX11_init_110 : decode cX11_init 110 = .ok (.getfield 12, 3) := by decide +kernel
theorem dX11_init_113 : decode cX11_init 113 = .ok (.aload_n 0, 1) := by decide +kernel
theorem dX11_init_114 : decode cX11_init 114 = .ok (.getfield 26, 3) := by decide +kernel
theorem dX11_init_117 : decode cX11_init 117 = .ok (.aload_n 0, 1) := by decide +kernel
theorem dX11_init_118 : decode cX11_init 118 = .ok (.getfield 57, 3) := by decide +kernel
theorem dX11_init_121 : decode cX11_init 121 = .ok (.aload_n 0, 1) := by decide +kernel
theorem dX11_init_122 : decode cX11_init 122 = .ok (.getfield 66, 3) := by decide +kernel
theorem dX11_init_125 : decode cX11_init 125 = .ok (.invokespecial 72, 3) := by decide +kernel
theorem dX11_init_128 : decode cX11_init 128 = .ok (.putfield 75, 3) := by decide +kernel
theorem dX11_init_131 : decode cX11_init 131 = .ok (.aload_n 0, 1) := by decide +kernel
theorem dX11_init_132 : decode cX11_init 132 = .ok (.new 79, 3) := by decide +kernel
theorem dX11_init_135 : decode cX11_init 135 = .ok (.dup, 1) := by decide +kernel
theorem dX11_init_136 : decode cX11_init 136 = .ok (.aload_n 0, 1) := by decide +kernel
theorem dX11_init_137 : decode cX11_init 137 = .ok (.getfield 26, 3) := by decide +kernel
theorem dX11_init_140 : decode cX11_init 140 = .ok (.aload_n 0, 1) := by decide +kernel
theorem dX11_init_141 : decode cX11_init 141 = .ok (.getfield 57, 3) := by decide +kernel
theorem dX11_init_144 : decode cX11_init 144 = .ok (.invokespecial 81, 3) := by decide +kernel
theorem dX11_init_147 : decode cX11_init 147 = .ok (.putfield 84, 3) := by decide +kernel
theorem dX11_init_150 : decode cX11_init 150 = .ok (.aload_n 0, 1) := by decide +kernel
theorem dX11_init_151 : decode cX11_init 151 = .ok (.new 88, 3) := by decide +kernel
theorem dX11_init_154 : decode cX11_init 154 = .ok (.dup, 1) := by decide +kernel
theorem dX11_init_155 : decode cX11_init 155 = .ok (.aload_n 0, 1) := by decide +kernel
theorem dX11_init_156 : decode cX11_init 156 = .ok (.getfield 12, 3) := by decide +kernel
theorem dX11_init_159 : decode cX11_init 159 = .ok (.aload_n 0, 1) := by decide +kernel
theorem dX11_init_160 : decode cX11_init 160 = .ok (.getfield 26, 3) := by decide +kernel
theorem dX11_init_163 : decode cX11_init 163 = .ok (.aload_n 0, 1) := by decide +kernel
theorem dX11_init_164 : decode cX11_init 164 = .ok (.getfield 57, 3) := by decide +kernel
theorem dX11_init_167 : decode cX11_init 167 = .ok (.aload_n 0, 1) := by decide +kernel
theorem dX11_init_168 : decode cX11_init 168 = .ok (.getfield 66, 3) := by decide +kernel
theorem dX11_init_171 : decode cX11_init 171 = .ok (.invokespecial 90, 3) := by decide +kernel
theorem dX11_init_174 : decode cX11_init 174 = .ok (.putfield 91, 3) := by decide +kernel
theorem dX11_init_177 : decode cX11_init 177 = .ok (.return_, 1) := by decide +kernel
theorem dX11_affiliate_0 : decode cX11_affiliate 0 = .ok (.aload_n 0, 1) := by decide +kernel
theorem dX11_affiliate_1 : decode cX11_affiliate 1 = .ok (.getfield 12, 3) := by decide +kernel
theorem dX11_affiliate_4 : decode cX11_affiliate 4 = .ok (.iload_n 1, 1) := by decide +kernel
theorem dX11_affiliate_5 : decode cX11_affiliate 5 = .ok (.invokevirtual 95, 3) := by decide +kernel
theorem dX11_affiliate_8 : decode cX11_affiliate 8 = .ok (.ireturn, 1) := by decide +kernel
theorem dX11_branch_0 : decode cX11_branch 0 = .ok (.aload_n 0, 1) := by decide +kernel
theorem dX11_branch_1 : decode cX11_branch 1 = .ok (.getfield 12, 3) := by decide +kernel
theorem dX11_branch_4 : decode cX11_branch 4 = .ok (.iload_n 1, 1) := by decide +kernel
theorem dX11_branch_5 : decode cX11_branch 5 = .ok (.iload_n 2, 1) := by decide +kernel
theorem dX11_branch_6 : decode cX11_branch 6 = .ok (.invokevirtual 99, 3) := by decide +kernel
theorem dX11_branch_9 : decode cX11_branch 9 = .ok (.ireturn, 1) := by decide +kernel
theorem dX11_heads_0 : decode cX11_heads 0 = .ok (.aload_n 0, 1) := by decide +kernel
theorem dX11_heads_1 : decode cX11_heads 1 = .ok (.getfield 12, 3) := by decide +kernel
theorem dX11_heads_4 : decode cX11_heads 4 = .ok (.iload_n 1, 1) := by decide +kernel
theorem dX11_heads_5 : decode cX11_heads 5 = .ok (.invokevirtual 103, 3) := by decide +kernel
theorem dX11_heads_8 : decode cX11_heads 8 = .ok (.ifCond .eq 32, 3) := by decide +kernel
theorem dX11_heads_11 : decode cX11_heads 11 = .ok (.iload_n 2, 1) := by decide +kernel
theorem dX11_heads_12 : decode cX11_heads 12 = .ok (.ifCond .lt 28, 3) := by decide +kernel
theorem dX11_heads_15 : decode cX11_heads 15 = .ok (.iload_n 2, 1) := by decide +kernel
theorem dX11_heads_16 : decode cX11_heads 16 = .ok (.sipush 9999, 3) := by decide +kernel
theorem dX11_heads_19 : decode cX11_heads 19 = .ok (.if_icmp .gt 21, 3) := by decide +kernel
theorem dX11_heads_22 : decode cX11_heads 22 = .ok (.aload_n 0, 1) := by decide +kernel
theorem dX11_heads_23 : decode cX11_heads 23 = .ok (.getfield 12, 3) := by decide +kernel
theorem dX11_heads_26 : decode cX11_heads 26 = .ok (.iconst 0, 1) := by decide +kernel
theorem dX11_heads_27 : decode cX11_heads 27 = .ok (.iload_n 1, 1) := by decide +kernel
theorem dX11_heads_28 : decode cX11_heads 28 = .ok (.iconst (-1), 1) := by decide +kernel
theorem dX11_heads_29 : decode cX11_heads 29 = .ok (.iload_n 2, 1) := by decide +kernel
theorem dX11_heads_30 : decode cX11_heads 30 = .ok (.invokevirtual 107, 3) := by decide +kernel
theorem dX11_heads_33 : decode cX11_heads 33 = .ok (.ifCond .eq 7, 3) := by decide +kernel
theorem dX11_heads_36 : decode cX11_heads 36 = .ok (.iconst 1, 1) := by decide +kernel
theorem dX11_heads_37 : decode cX11_heads 37 = .ok (.goto 4, 3) := by decide +kernel
theorem dX11_heads_40 : decode cX11_heads 40 = .ok (.iconst 0, 1) := by decide +kernel
theorem dX11_heads_41 : decode cX11_heads 41 = .ok (.ireturn, 1) := by decide +kernel
theorem dX11_dues_0 : decode cX11_dues 0 = .ok (.aload_n 0, 1) := by decide +kernel
theorem dX11_dues_1 : decode cX11_dues 1 = .ok (.getfield 12, 3) := by decide +kernel
theorem dX11_dues_4 : decode cX11_dues 4 = .ok (.iload_n 1, 1) := by decide +kernel
theorem dX11_dues_5 : decode cX11_dues 5 = .ok (.invokevirtual 103, 3) := by decide +kernel
theorem dX11_dues_8 : decode cX11_dues 8 = .ok (.ifCond .eq 31, 3) := by decide +kernel
theorem dX11_dues_11 : decode cX11_dues 11 = .ok (.iload_n 2, 1) := by decide +kernel
theorem dX11_dues_12 : decode cX11_dues 12 = .ok (.ifCond .lt 27, 3) := by decide +kernel
theorem dX11_dues_15 : decode cX11_dues 15 = .ok (.iload_n 2, 1) := by decide +kernel
theorem dX11_dues_16 : decode cX11_dues 16 = .ok (.ldc 111, 2) := by decide +kernel
theorem dX11_dues_18 : decode cX11_dues 18 = .ok (.if_icmp .gt 21, 3) := by decide +kernel
theorem dX11_dues_21 : decode cX11_dues 21 = .ok (.aload_n 0, 1) := by decide +kernel
theorem dX11_dues_22 : decode cX11_dues 22 = .ok (.getfield 12, 3) := by decide +kernel
theorem dX11_dues_25 : decode cX11_dues 25 = .ok (.iconst 1, 1) := by decide +kernel
theorem dX11_dues_26 : decode cX11_dues 26 = .ok (.iload_n 1, 1) := by decide +kernel
theorem dX11_dues_27 : decode cX11_dues 27 = .ok (.iconst (-1), 1) := by decide +kernel
theorem dX11_dues_28 : decode cX11_dues 28 = .ok (.iload_n 2, 1) := by decide +kernel
theorem dX11_dues_29 : decode cX11_dues 29 = .ok (.invokevirtual 107, 3) := by decide +kernel
theorem dX11_dues_32 : decode cX11_dues 32 = .ok (.ifCond .eq 7, 3) := by decide +kernel
theorem dX11_dues_35 : decode cX11_dues 35 = .ok (.iconst 1, 1) := by decide +kernel
theorem dX11_dues_36 : decode cX11_dues 36 = .ok (.goto 4, 3) := by decide +kernel
theorem dX11_dues_39 : decode cX11_dues 39 = .ok (.iconst 0, 1) := by decide +kernel
theorem dX11_dues_40 : decode cX11_dues 40 = .ok (.ireturn, 1) := by decide +kernel
theorem dX11_mandate_0 : decode cX11_mandate 0 = .ok (.aload_n 0, 1) := by decide +kernel
theorem dX11_mandate_1 : decode cX11_mandate 1 = .ok (.getfield 12, 3) := by decide +kernel
theorem dX11_mandate_4 : decode cX11_mandate 4 = .ok (.iload_n 1, 1) := by decide +kernel
theorem dX11_mandate_5 : decode cX11_mandate 5 = .ok (.invokevirtual 112, 3) := by decide +kernel
theorem dX11_mandate_8 : decode cX11_mandate 8 = .ok (.ifCond .eq 41, 3) := by decide +kernel
theorem dX11_mandate_11 : decode cX11_mandate 11 = .ok (.aload_n 0, 1) := by decide +kernel
theorem dX11_mandate_12 : decode cX11_mandate 12 = .ok (.getfield 57, 3) := by decide +kernel
theorem dX11_mandate_15 : decode cX11_mandate 15 = .ok (.iload_n 2, 1) := by decide +kernel
theorem dX11_mandate_16 : decode cX11_mandate 16 = .ok (.invokevirtual 115, 3) := by decide +kernel
theorem dX11_mandate_19 : decode cX11_mandate 19 = .ok (.ifCond .eq 30, 3) := by decide +kernel
theorem dX11_mandate_22 : decode cX11_mandate 22 = .ok (.iload_n 3, 1) := by decide +kernel
theorem dX11_mandate_23 : decode cX11_mandate 23 = .ok (.ifCond .lt 26, 3) := by decide +kernel
theorem dX11_mandate_26 : decode cX11_mandate 26 = .ok (.iload_n 3, 1) := by decide +kernel
theorem dX11_mandate_27 : decode cX11_mandate 27 = .ok (.iconst 2, 1) := by decide +kernel
theorem dX11_mandate_28 : decode cX11_mandate 28 = .ok (.if_icmp .gt 21, 3) := by decide +kernel
theorem dX11_mandate_31 : decode cX11_mandate 31 = .ok (.aload_n 0, 1) := by decide +kernel
theorem dX11_mandate_32 : decode cX11_mandate 32 = .ok (.getfield 12, 3) := by decide +kernel
theorem dX11_mandate_35 : decode cX11_mandate 35 = .ok (.iconst 2, 1) := by decide +kernel
theorem dX11_mandate_36 : decode cX11_mandate 36 = .ok (.iload_n 1, 1) := by decide +kernel
theorem dX11_mandate_37 : decode cX11_mandate 37 = .ok (.iload_n 2, 1) := by decide +kernel
theorem dX11_mandate_38 : decode cX11_mandate 38 = .ok (.iload_n 3, 1) := by decide +kernel
theorem dX11_mandate_39 : decode cX11_mandate 39 = .ok (.invokevirtual 107, 3) := by decide +kernel
theorem dX11_mandate_42 : decode cX11_mandate 42 = .ok (.ifCond .eq 7, 3) := by decide +kernel
theorem dX11_mandate_45 : decode cX11_mandate 45 = .ok (.iconst 1, 1) := by decide +kernel
theorem dX11_mandate_46 : decode cX11_mandate 46 = .ok (.goto 4, 3) := by decide +kernel
theorem dX11_mandate_49 : decode cX11_mandate 49 = .ok (.iconst 0, 1) := by decide +kernel
theorem dX11_mandate_50 : decode cX11_mandate 50 = .ok (.ireturn, 1) := by decide +kernel
theorem dX11_casts_0 : decode cX11_casts 0 = .ok (.aload_n 0, 1) := by decide +kernel
theorem dX11_casts_1 : decode cX11_casts 1 = .ok (.getfield 12, 3) := by decide +kernel
theorem dX11_casts_4 : decode cX11_casts 4 = .ok (.iload_n 1, 1) := by decide +kernel
theorem dX11_casts_5 : decode cX11_casts 5 = .ok (.invokevirtual 103, 3) := by decide +kernel
theorem dX11_casts_8 : decode cX11_casts 8 = .ok (.ifCond .eq 23, 3) := by decide +kernel
theorem dX11_casts_11 : decode cX11_casts 11 = .ok (.aload_n 0, 1) := by decide +kernel
theorem dX11_casts_12 : decode cX11_casts 12 = .ok (.getfield 57, 3) := by decide +kernel
theorem dX11_casts_15 : decode cX11_casts 15 = .ok (.iload_n 2, 1) := by decide +kernel
theorem dX11_casts_16 : decode cX11_casts 16 = .ok (.invokevirtual 118, 3) := by decide +kernel
theorem dX11_casts_19 : decode cX11_casts 19 = .ok (.ifCond .ne 12, 3) := by decide +kernel
theorem dX11_casts_22 : decode cX11_casts 22 = .ok (.iload_n 3, 1) := by decide +kernel
theorem dX11_casts_23 : decode cX11_casts 23 = .ok (.ifCond .lt 8, 3) := by decide +kernel
theorem dX11_casts_26 : decode cX11_casts 26 = .ok (.iload_n 3, 1) := by decide +kernel
theorem dX11_casts_27 : decode cX11_casts 27 = .ok (.iconst 3, 1) := by decide +kernel
theorem dX11_casts_28 : decode cX11_casts 28 = .ok (.if_icmp .le 5, 3) := by decide +kernel
theorem dX11_casts_31 : decode cX11_casts 31 = .ok (.iconst 0, 1) := by decide +kernel
theorem dX11_casts_32 : decode cX11_casts 32 = .ok (.ireturn, 1) := by decide +kernel
theorem dX11_casts_33 : decode cX11_casts 33 = .ok (.aload_n 0, 1) := by decide +kernel
theorem dX11_casts_34 : decode cX11_casts 34 = .ok (.iload_n 1, 1) := by decide +kernel
theorem dX11_casts_35 : decode cX11_casts 35 = .ok (.iload_n 2, 1) := by decide +kernel
theorem dX11_casts_36 : decode cX11_casts 36 = .ok (.iload_n 3, 1) := by decide +kernel
theorem dX11_casts_37 : decode cX11_casts 37 = .ok (.invokevirtual 121, 3) := by decide +kernel
theorem dX11_casts_40 : decode cX11_casts 40 = .ok (.ifCond .ne 21, 3) := by decide +kernel
theorem dX11_casts_43 : decode cX11_casts 43 = .ok (.aload_n 0, 1) := by decide +kernel
theorem dX11_casts_44 : decode cX11_casts 44 = .ok (.getfield 12, 3) := by decide +kernel
theorem dX11_casts_47 : decode cX11_casts 47 = .ok (.iconst 3, 1) := by decide +kernel
theorem dX11_casts_48 : decode cX11_casts 48 = .ok (.iload_n 1, 1) := by decide +kernel
theorem dX11_casts_49 : decode cX11_casts 49 = .ok (.iload_n 2, 1) := by decide +kernel
theorem dX11_casts_50 : decode cX11_casts 50 = .ok (.iload_n 3, 1) := by decide +kernel
theorem dX11_casts_51 : decode cX11_casts 51 = .ok (.invokevirtual 107, 3) := by decide +kernel
theorem dX11_casts_54 : decode cX11_casts 54 = .ok (.ifCond .eq 7, 3) := by decide +kernel
theorem dX11_casts_57 : decode cX11_casts 57 = .ok (.iconst 1, 1) := by decide +kernel
theorem dX11_casts_58 : decode cX11_casts 58 = .ok (.goto 4, 3) := by decide +kernel
theorem dX11_casts_61 : decode cX11_casts 61 = .ok (.iconst 0, 1) := by decide +kernel
theorem dX11_casts_62 : decode cX11_casts 62 = .ok (.ireturn, 1) := by decide +kernel
theorem dX11_isBarred_0 : decode cX11_isBarred 0 = .ok (.iload_n 3, 1) := by decide +kernel
theorem dX11_isBarred_1 : decode cX11_isBarred 1 = .ok (.iconst 3, 1) := by decide +kernel
theorem dX11_isBarred_2 : decode cX11_isBarred 2 = .ok (.if_icmp .eq 23, 3) := by decide +kernel
theorem dX11_isBarred_5 : decode cX11_isBarred 5 = .ok (.aload_n 0, 1) := by decide +kernel
theorem dX11_isBarred_6 : decode cX11_isBarred 6 = .ok (.getfield 26, 3) := by decide +kernel
theorem dX11_isBarred_9 : decode cX11_isBarred 9 = .ok (.aload_n 0, 1) := by decide +kernel
theorem dX11_isBarred_10 : decode cX11_isBarred 10 = .ok (.getfield 57, 3) := by decide +kernel
theorem dX11_isBarred_13 : decode cX11_isBarred 13 = .ok (.getfield 125, 3) := by decide +kernel
theorem dX11_isBarred_16 : decode cX11_isBarred 16 = .ok (.invokevirtual 129, 3) := by decide +kernel
theorem dX11_isBarred_19 : decode cX11_isBarred 19 = .ok (.getfield 133, 3) := by decide +kernel
theorem dX11_isBarred_22 : decode cX11_isBarred 22 = .ok (.ifCond .ne 5, 3) := by decide +kernel
theorem dX11_isBarred_25 : decode cX11_isBarred 25 = .ok (.iconst 0, 1) := by decide +kernel
theorem dX11_isBarred_26 : decode cX11_isBarred 26 = .ok (.ireturn, 1) := by decide +kernel
theorem dX11_isBarred_27 : decode cX11_isBarred 27 = .ok (.aload_n 0, 1) := by decide +kernel
theorem dX11_isBarred_28 : decode cX11_isBarred 28 = .ok (.getfield 66, 3) := by decide +kernel
theorem dX11_isBarred_31 : decode cX11_isBarred 31 = .ok (.iload_n 2, 1) := by decide +kernel
theorem dX11_isBarred_32 : decode cX11_isBarred 32 = .ok (.aload_n 0, 1) := by decide +kernel
theorem dX11_isBarred_33 : decode cX11_isBarred 33 = .ok (.getfield 12, 3) := by decide +kernel
theorem dX11_isBarred_36 : decode cX11_isBarred 36 = .ok (.getfield 139, 3) := by decide +kernel
theorem dX11_isBarred_39 : decode cX11_isBarred 39 = .ok (.invokevirtual 142, 3) := by decide +kernel
theorem dX11_isBarred_42 : decode cX11_isBarred 42 = .ok (.aload_n 0, 1) := by decide +kernel
theorem dX11_isBarred_43 : decode cX11_isBarred 43 = .ok (.getfield 66, 3) := by decide +kernel
theorem dX11_isBarred_46 : decode cX11_isBarred 46 = .ok (.iload_n 1, 1) := by decide +kernel
theorem dX11_isBarred_47 : decode cX11_isBarred 47 = .ok (.invokevirtual 146, 3) := by decide +kernel
theorem dX11_isBarred_50 : decode cX11_isBarred 50 = .ok (.istore 4, 2) := by decide +kernel
theorem dX11_isBarred_52 : decode cX11_isBarred 52 = .ok (.iload 4, 2) := by decide +kernel
theorem dX11_isBarred_54 : decode cX11_isBarred 54 = .ok (.iconst 2, 1) := by decide +kernel
theorem dX11_isBarred_55 : decode cX11_isBarred 55 = .ok (.if_icmp .eq 13, 3) := by decide +kernel
theorem dX11_isBarred_58 : decode cX11_isBarred 58 = .ok (.iload 4, 2) := by decide +kernel
theorem dX11_isBarred_60 : decode cX11_isBarred 60 = .ok (.iload_n 3, 1) := by decide +kernel
theorem dX11_isBarred_61 : decode cX11_isBarred 61 = .ok (.if_icmp .eq 7, 3) := by decide +kernel
theorem dX11_isBarred_64 : decode cX11_isBarred 64 = .ok (.iconst 1, 1) := by decide +kernel
theorem dX11_isBarred_65 : decode cX11_isBarred 65 = .ok (.goto 4, 3) := by decide +kernel
theorem dX11_isBarred_68 : decode cX11_isBarred 68 = .ok (.iconst 0, 1) := by decide +kernel
theorem dX11_isBarred_69 : decode cX11_isBarred 69 = .ok (.ireturn, 1) := by decide +kernel
theorem dX11_day_0 : decode cX11_day 0 = .ok (.iload_n 1, 1) := by decide +kernel
theorem dX11_day_1 : decode cX11_day 1 = .ok (.ifCond .lt 24, 3) := by decide +kernel
theorem dX11_day_4 : decode cX11_day 4 = .ok (.iload_n 1, 1) := by decide +kernel
theorem dX11_day_5 : decode cX11_day 5 = .ok (.sipush 1000, 3) := by decide +kernel
theorem dX11_day_8 : decode cX11_day 8 = .ok (.if_icmp .gt 17, 3) := by decide +kernel
theorem dX11_day_11 : decode cX11_day 11 = .ok (.aload_n 0, 1) := by decide +kernel
theorem dX11_day_12 : decode cX11_day 12 = .ok (.getfield 12, 3) := by decide +kernel
theorem dX11_day_15 : decode cX11_day 15 = .ok (.getfield 139, 3) := by decide +kernel
theorem dX11_day_18 : decode cX11_day 18 = .ok (.iload_n 1, 1) := by decide +kernel
theorem dX11_day_19 : decode cX11_day 19 = .ok (.iadd, 1) := by decide +kernel
theorem dX11_day_20 : decode cX11_day 20 = .ok (.ldc 149, 2) := by decide +kernel
theorem dX11_day_22 : decode cX11_day 22 = .ok (.if_icmp .le 5, 3) := by decide +kernel
theorem dX11_day_25 : decode cX11_day 25 = .ok (.iconst (-1), 1) := by decide +kernel
theorem dX11_day_26 : decode cX11_day 26 = .ok (.ireturn, 1) := by decide +kernel
theorem dX11_day_27 : decode cX11_day 27 = .ok (.aload_n 0, 1) := by decide +kernel
theorem dX11_day_28 : decode cX11_day 28 = .ok (.getfield 12, 3) := by decide +kernel
theorem dX11_day_31 : decode cX11_day 31 = .ok (.dup, 1) := by decide +kernel
theorem dX11_day_32 : decode cX11_day 32 = .ok (.getfield 139, 3) := by decide +kernel
theorem dX11_day_35 : decode cX11_day 35 = .ok (.iload_n 1, 1) := by decide +kernel
theorem dX11_day_36 : decode cX11_day 36 = .ok (.iadd, 1) := by decide +kernel
theorem dX11_day_37 : decode cX11_day 37 = .ok (.putfield 139, 3) := by decide +kernel
theorem dX11_day_40 : decode cX11_day 40 = .ok (.aload_n 0, 1) := by decide +kernel
theorem dX11_day_41 : decode cX11_day 41 = .ok (.getfield 12, 3) := by decide +kernel
theorem dX11_day_44 : decode cX11_day 44 = .ok (.getfield 139, 3) := by decide +kernel
theorem dX11_day_47 : decode cX11_day 47 = .ok (.ireturn, 1) := by decide +kernel
theorem dX11_closing_0 : decode cX11_closing 0 = .ok (.iload_n 1, 1) := by decide +kernel
theorem dX11_closing_1 : decode cX11_closing 1 = .ok (.iconst (-1), 1) := by decide +kernel
theorem dX11_closing_2 : decode cX11_closing 2 = .ok (.if_icmp .lt 9, 3) := by decide +kernel
theorem dX11_closing_5 : decode cX11_closing 5 = .ok (.iload_n 1, 1) := by decide +kernel
theorem dX11_closing_6 : decode cX11_closing 6 = .ok (.ldc 149, 2) := by decide +kernel
theorem dX11_closing_8 : decode cX11_closing 8 = .ok (.if_icmp .le 5, 3) := by decide +kernel
theorem dX11_closing_11 : decode cX11_closing 11 = .ok (.iconst 0, 1) := by decide +kernel
theorem dX11_closing_12 : decode cX11_closing 12 = .ok (.ireturn, 1) := by decide +kernel
theorem dX11_closing_13 : decode cX11_closing 13 = .ok (.aload_n 0, 1) := by decide +kernel
theorem dX11_closing_14 : decode cX11_closing 14 = .ok (.getfield 12, 3) := by decide +kernel
theorem dX11_closing_17 : decode cX11_closing 17 = .ok (.iload_n 1, 1) := by decide +kernel
theorem dX11_closing_18 : decode cX11_closing 18 = .ok (.putfield 150, 3) := by decide +kernel
theorem dX11_closing_21 : decode cX11_closing 21 = .ok (.iconst 1, 1) := by decide +kernel
theorem dX11_closing_22 : decode cX11_closing 22 = .ok (.ireturn, 1) := by decide +kernel
theorem dX11_feed_0 : decode cX11_feed 0 = .ok (.aload_n 0, 1) := by decide +kernel
theorem dX11_feed_1 : decode cX11_feed 1 = .ok (.getfield 19, 3) := by decide +kernel
theorem dX11_feed_4 : decode cX11_feed 4 = .ok (.getfield 153, 3) := by decide +kernel
theorem dX11_feed_7 : decode cX11_feed 7 = .ok (.bipush 20, 2) := by decide +kernel
theorem dX11_feed_9 : decode cX11_feed 9 = .ok (.iadd, 1) := by decide +kernel
theorem dX11_feed_10 : decode cX11_feed 10 = .ok (.sipush 300, 3) := by decide +kernel
theorem dX11_feed_13 : decode cX11_feed 13 = .ok (.if_icmp .le 5, 3) := by decide +kernel
theorem dX11_feed_16 : decode cX11_feed 16 = .ok (.iconst (-1), 1) := by decide +kernel
theorem dX11_feed_17 : decode cX11_feed 17 = .ok (.ireturn, 1) := by decide +kernel
theorem dX11_feed_18 : decode cX11_feed 18 = .ok (.aload_n 0, 1) := by decide +kernel
theorem dX11_feed_19 : decode cX11_feed 19 = .ok (.getfield 19, 3) := by decide +kernel
theorem dX11_feed_22 : decode cX11_feed 22 = .ok (.iload_n 1, 1) := by decide +kernel
theorem dX11_feed_23 : decode cX11_feed 23 = .ok (.invokevirtual 156, 3) := by decide +kernel
theorem dX11_feed_26 : decode cX11_feed 26 = .ok (.aload_n 0, 1) := by decide +kernel
theorem dX11_feed_27 : decode cX11_feed 27 = .ok (.getfield 19, 3) := by decide +kernel
theorem dX11_feed_30 : decode cX11_feed 30 = .ok (.iload_n 2, 1) := by decide +kernel
theorem dX11_feed_31 : decode cX11_feed 31 = .ok (.invokevirtual 156, 3) := by decide +kernel
theorem dX11_feed_34 : decode cX11_feed 34 = .ok (.aload_n 0, 1) := by decide +kernel
theorem dX11_feed_35 : decode cX11_feed 35 = .ok (.getfield 19, 3) := by decide +kernel
theorem dX11_feed_38 : decode cX11_feed 38 = .ok (.iload_n 3, 1) := by decide +kernel
theorem dX11_feed_39 : decode cX11_feed 39 = .ok (.invokevirtual 156, 3) := by decide +kernel
theorem dX11_feed_42 : decode cX11_feed 42 = .ok (.aload_n 0, 1) := by decide +kernel
theorem dX11_feed_43 : decode cX11_feed 43 = .ok (.getfield 19, 3) := by decide +kernel
theorem dX11_feed_46 : decode cX11_feed 46 = .ok (.iload 4, 2) := by decide +kernel
theorem dX11_feed_48 : decode cX11_feed 48 = .ok (.invokevirtual 156, 3) := by decide +kernel
theorem dX11_feed_51 : decode cX11_feed 51 = .ok (.aload_n 0, 1) := by decide +kernel
theorem dX11_feed_52 : decode cX11_feed 52 = .ok (.getfield 19, 3) := by decide +kernel
theorem dX11_feed_55 : decode cX11_feed 55 = .ok (.iload 5, 2) := by decide +kernel
theorem dX11_feed_57 : decode cX11_feed 57 = .ok (.invokevirtual 156, 3) := by decide +kernel
theorem dX11_feed_60 : decode cX11_feed 60 = .ok (.aload_n 0, 1) := by decide +kernel
theorem dX11_feed_61 : decode cX11_feed 61 = .ok (.getfield 19, 3) := by decide +kernel
theorem dX11_feed_64 : decode cX11_feed 64 = .ok (.getfield 153, 3) := by decide +kernel
theorem dX11_feed_67 : decode cX11_feed 67 = .ok (.ireturn, 1) := by decide +kernel
theorem dX11_end_0 : decode cX11_end 0 = .ok (.iload_n 1, 1) := by decide +kernel
theorem dX11_end_1 : decode cX11_end 1 = .ok (.ifCond .lt 14, 3) := by decide +kernel
theorem dX11_end_4 : decode cX11_end 4 = .ok (.iload_n 1, 1) := by decide +kernel
theorem dX11_end_5 : decode cX11_end 5 = .ok (.aload_n 0, 1) := by decide +kernel
theorem dX11_end_6 : decode cX11_end 6 = .ok (.getfield 19, 3) := by decide +kernel
theorem dX11_end_9 : decode cX11_end 9 = .ok (.getfield 153, 3) := by decide +kernel
theorem dX11_end_12 : decode cX11_end 12 = .ok (.if_icmp .le 5, 3) := by decide +kernel
theorem dX11_end_15 : decode cX11_end 15 = .ok (.iconst (-1), 1) := by decide +kernel
theorem dX11_end_16 : decode cX11_end 16 = .ok (.ireturn, 1) := by decide +kernel
theorem dX11_end_17 : decode cX11_end 17 = .ok (.aload_n 0, 1) := by decide +kernel
theorem dX11_end_18 : decode cX11_end 18 = .ok (.getfield 19, 3) := by decide +kernel
theorem dX11_end_21 : decode cX11_end 21 = .ok (.iload_n 1, 1) := by decide +kernel
theorem dX11_end_22 : decode cX11_end 22 = .ok (.putfield 153, 3) := by decide +kernel
theorem dX11_end_25 : decode cX11_end 25 = .ok (.iload_n 1, 1) := by decide +kernel
theorem dX11_end_26 : decode cX11_end 26 = .ok (.ireturn, 1) := by decide +kernel
theorem dX11_orders_0 : decode cX11_orders 0 = .ok (.aload_n 0, 1) := by decide +kernel
theorem dX11_orders_1 : decode cX11_orders 1 = .ok (.getfield 26, 3) := by decide +kernel
theorem dX11_orders_4 : decode cX11_orders 4 = .ok (.getfield 160, 3) := by decide +kernel
theorem dX11_orders_7 : decode cX11_orders 7 = .ok (.bipush 10, 2) := by decide +kernel
theorem dX11_orders_9 : decode cX11_orders 9 = .ok (.if_icmp .lt 5, 3) := by decide +kernel
theorem dX11_orders_12 : decode cX11_orders 12 = .ok (.iconst (-1), 1) := by decide +kernel
theorem dX11_orders_13 : decode cX11_orders 13 = .ok (.ireturn, 1) := by decide +kernel
theorem dX11_orders_14 : decode cX11_orders 14 = .ok (.aload_n 0, 1) := by decide +kernel
theorem dX11_orders_15 : decode cX11_orders 15 = .ok (.getfield 39, 3) := by decide +kernel
theorem dX11_orders_18 : decode cX11_orders 18 = .ok (.aload_n 0, 1) := by decide +kernel
theorem dX11_orders_19 : decode cX11_orders 19 = .ok (.getfield 26, 3) := by decide +kernel
theorem dX11_orders_22 : decode cX11_orders 22 = .ok (.invokevirtual 163, 3) := by decide +kernel
theorem dX11_orders_25 : decode cX11_orders 25 = .ok (.invokevirtual 167, 3) := by decide +kernel
theorem dX11_orders_28 : decode cX11_orders 28 = .ok (.istore_n 1, 1) := by decide +kernel
theorem dX11_orders_29 : decode cX11_orders 29 = .ok (.aload_n 0, 1) := by decide +kernel
theorem dX11_orders_30 : decode cX11_orders 30 = .ok (.getfield 19, 3) := by decide +kernel
theorem dX11_orders_33 : decode cX11_orders 33 = .ok (.iconst 0, 1) := by decide +kernel
theorem dX11_orders_34 : decode cX11_orders 34 = .ok (.putfield 153, 3) := by decide +kernel
theorem dX11_orders_37 : decode cX11_orders 37 = .ok (.iload_n 1, 1) := by decide +kernel
theorem dX11_orders_38 : decode cX11_orders 38 = .ok (.ifCond .ne 13, 3) := by decide +kernel
theorem dX11_orders_41 : decode cX11_orders 41 = .ok (.iconst (-1), 1) := by decide +kernel
theorem dX11_orders_42 : decode cX11_orders 42 = .ok (.aload_n 0, 1) := by decide +kernel
theorem dX11_orders_43 : decode cX11_orders 43 = .ok (.getfield 19, 3) := by decide +kernel
theorem dX11_orders_46 : decode cX11_orders 46 = .ok (.getfield 171, 3) := by decide +kernel
theorem dX11_orders_49 : decode cX11_orders 49 = .ok (.isub, 1) := by decide +kernel
theorem dX11_orders_50 : decode cX11_orders 50 = .ok (.ireturn, 1) := by decide +kernel
theorem dX11_orders_51 : decode cX11_orders 51 = .ok (.aload_n 0, 1) := by decide +kernel
theorem dX11_orders_52 : decode cX11_orders 52 = .ok (.getfield 26, 3) := by decide +kernel
theorem dX11_orders_55 : decode cX11_orders 55 = .ok (.getfield 160, 3) := by decide +kernel
theorem dX11_orders_58 : decode cX11_orders 58 = .ok (.istore_n 2, 1) := by decide +kernel
theorem dX11_orders_59 : decode cX11_orders 59 = .ok (.aload_n 0, 1) := by decide +kernel
theorem dX11_orders_60 : decode cX11_orders 60 = .ok (.getfield 26, 3) := by decide +kernel
theorem dX11_orders_63 : decode cX11_orders 63 = .ok (.dup, 1) := by decide +kernel
theorem dX11_orders_64 : decode cX11_orders 64 = .ok (.getfield 160, 3) := by decide +kernel
theorem dX11_orders_67 : decode cX11_orders 67 = .ok (.iconst 1, 1) := by decide +kernel
theorem dX11_orders_68 : decode cX11_orders 68 = .ok (.iadd, 1) := by decide +kernel
theorem dX11_orders_69 : decode cX11_orders 69 = .ok (.putfield 160, 3) := by decide +kernel
theorem dX11_orders_72 : decode cX11_orders 72 = .ok (.aload_n 0, 1) := by decide +kernel
theorem dX11_orders_73 : decode cX11_orders 73 = .ok (.getfield 57, 3) := by decide +kernel
theorem dX11_orders_76 : decode cX11_orders 76 = .ok (.sipush 200, 3) := by decide +kernel
theorem dX11_orders_79 : decode cX11_orders 79 = .ok (.iload_n 2, 1) := by decide +kernel
theorem dX11_orders_80 : decode cX11_orders 80 = .ok (.iadd, 1) := by decide +kernel
theorem dX11_orders_81 : decode cX11_orders 81 = .ok (.invokevirtual 174, 3) := by decide +kernel
theorem dX11_orders_84 : decode cX11_orders 84 = .ok (.iload_n 2, 1) := by decide +kernel
theorem dX11_orders_85 : decode cX11_orders 85 = .ok (.ifCond .ne 22, 3) := by decide +kernel
theorem dX11_orders_88 : decode cX11_orders 88 = .ok (.aload_n 0, 1) := by decide +kernel
theorem dX11_orders_89 : decode cX11_orders 89 = .ok (.getfield 57, 3) := by decide +kernel
theorem dX11_orders_92 : decode cX11_orders 92 = .ok (.sipush 200, 3) := by decide +kernel
theorem dX11_orders_95 : decode cX11_orders 95 = .ok (.iconst 1, 1) := by decide +kernel
theorem dX11_orders_96 : decode cX11_orders 96 = .ok (.invokevirtual 177, 3) := by decide +kernel
theorem dX11_orders_99 : decode cX11_orders 99 = .ok (.aload_n 0, 1) := by decide +kernel
theorem dX11_orders_100 : decode cX11_orders 100 = .ok (.getfield 57, 3) := by decide +kernel
theorem dX11_orders_103 : decode cX11_orders 103 = .ok (.iconst 0, 1) := by decide +kernel
theorem dX11_orders_104 : decode cX11_orders 104 = .ok (.putfield 125, 3) := by decide +kernel
theorem dX11_orders_107 : decode cX11_orders 107 = .ok (.aload_n 0, 1) := by decide +kernel
theorem dX11_orders_108 : decode cX11_orders 108 = .ok (.getfield 75, 3) := by decide +kernel
theorem dX11_orders_111 : decode cX11_orders 111 = .ok (.invokevirtual 180, 3) := by decide +kernel
theorem dX11_orders_114 : decode cX11_orders 114 = .ok (.iload_n 2, 1) := by decide +kernel
theorem dX11_orders_115 : decode cX11_orders 115 = .ok (.ireturn, 1) := by decide +kernel
theorem dX11_motion_0 : decode cX11_motion 0 = .ok (.aload_n 0, 1) := by decide +kernel
theorem dX11_motion_1 : decode cX11_motion 1 = .ok (.getfield 12, 3) := by decide +kernel
theorem dX11_motion_4 : decode cX11_motion 4 = .ok (.iload_n 1, 1) := by decide +kernel
theorem dX11_motion_5 : decode cX11_motion 5 = .ok (.invokevirtual 103, 3) := by decide +kernel
theorem dX11_motion_8 : decode cX11_motion 8 = .ok (.ifCond .eq 15, 3) := by decide +kernel
theorem dX11_motion_11 : decode cX11_motion 11 = .ok (.aload_n 0, 1) := by decide +kernel
theorem dX11_motion_12 : decode cX11_motion 12 = .ok (.getfield 26, 3) := by decide +kernel
theorem dX11_motion_15 : decode cX11_motion 15 = .ok (.getfield 183, 3) := by decide +kernel
theorem dX11_motion_18 : decode cX11_motion 18 = .ok (.bipush 24, 2) := by decide +kernel
theorem dX11_motion_20 : decode cX11_motion 20 = .ok (.if_icmp .lt 5, 3) := by decide +kernel
theorem dX11_motion_23 : decode cX11_motion 23 = .ok (.iconst (-1), 1) := by decide +kernel
theorem dX11_motion_24 : decode cX11_motion 24 = .ok (.ireturn, 1) := by decide +kernel
theorem dX11_motion_25 : decode cX11_motion 25 = .ok (.aload_n 0, 1) := by decide +kernel
theorem dX11_motion_26 : decode cX11_motion 26 = .ok (.getfield 48, 3) := by decide +kernel
theorem dX11_motion_29 : decode cX11_motion 29 = .ok (.invokevirtual 186, 3) := by decide +kernel
theorem dX11_motion_32 : decode cX11_motion 32 = .ok (.istore_n 2, 1) := by decide +kernel
theorem dX11_motion_33 : decode cX11_motion 33 = .ok (.aload_n 0, 1) := by decide +kernel
theorem dX11_motion_34 : decode cX11_motion 34 = .ok (.getfield 19, 3) := by decide +kernel
theorem dX11_motion_37 : decode cX11_motion 37 = .ok (.iconst 0, 1) := by decide +kernel
theorem dX11_motion_38 : decode cX11_motion 38 = .ok (.putfield 153, 3) := by decide +kernel
theorem dX11_motion_41 : decode cX11_motion 41 = .ok (.iload_n 2, 1) := by decide +kernel
theorem dX11_motion_42 : decode cX11_motion 42 = .ok (.ifCond .ne 13, 3) := by decide +kernel
theorem dX11_motion_45 : decode cX11_motion 45 = .ok (.iconst (-1), 1) := by decide +kernel
theorem dX11_motion_46 : decode cX11_motion 46 = .ok (.aload_n 0, 1) := by decide +kernel
theorem dX11_motion_47 : decode cX11_motion 47 = .ok (.getfield 19, 3) := by decide +kernel
theorem dX11_motion_50 : decode cX11_motion 50 = .ok (.getfield 171, 3) := by decide +kernel
theorem dX11_motion_53 : decode cX11_motion 53 = .ok (.isub, 1) := by decide +kernel
theorem dX11_motion_54 : decode cX11_motion 54 = .ok (.ireturn, 1) := by decide +kernel
theorem dX11_motion_55 : decode cX11_motion 55 = .ok (.aload_n 0, 1) := by decide +kernel
theorem dX11_motion_56 : decode cX11_motion 56 = .ok (.invokevirtual 190, 3) := by decide +kernel
theorem dX11_motion_59 : decode cX11_motion 59 = .ok (.ifCond .eq 21, 3) := by decide +kernel
theorem dX11_motion_62 : decode cX11_motion 62 = .ok (.aload_n 0, 1) := by decide +kernel
theorem dX11_motion_63 : decode cX11_motion 63 = .ok (.iload_n 1, 1) := by decide +kernel
theorem dX11_motion_64 : decode cX11_motion 64 = .ok (.aload_n 0, 1) := by decide +kernel
theorem dX11_motion_65 : decode cX11_motion 65 = .ok (.getfield 48, 3) := by decide +kernel
theorem dX11_motion_68 : decode cX11_motion 68 = .ok (.getfield 193, 3) := by decide +kernel
theorem dX11_motion_71 : decode cX11_motion 71 = .ok (.invokevirtual 196, 3) := by decide +kernel
theorem dX11_motion_74 : decode cX11_motion 74 = .ok (.ifCond .ne 6, 3) := by decide +kernel
theorem dX11_motion_77 : decode cX11_motion 77 = .ok (.bipush (-6), 2) := by decide +kernel
theorem dX11_motion_79 : decode cX11_motion 79 = .ok (.ireturn, 1) := by decide +kernel
theorem dX11_motion_80 : decode cX11_motion 80 = .ok (.aload_n 0, 1) := by decide +kernel
theorem dX11_motion_81 : decode cX11_motion 81 = .ok (.getfield 26, 3) := by decide +kernel
theorem dX11_motion_84 : decode cX11_motion 84 = .ok (.iload_n 1, 1) := by decide +kernel
theorem dX11_motion_85 : decode cX11_motion 85 = .ok (.invokevirtual 200, 3) := by decide +kernel
theorem dX11_motion_88 : decode cX11_motion 88 = .ok (.istore_n 3, 1) := by decide +kernel
theorem dX11_motion_89 : decode cX11_motion 89 = .ok (.aload_n 0, 1) := by decide +kernel
theorem dX11_motion_90 : decode cX11_motion 90 = .ok (.getfield 57, 3) := by decide +kernel
theorem dX11_motion_93 : decode cX11_motion 93 = .ok (.iload_n 3, 1) := by decide +kernel
theorem dX11_motion_94 : decode cX11_motion 94 = .ok (.invokevirtual 174, 3) := by decide +kernel
theorem dX11_motion_97 : decode cX11_motion 97 = .ok (.iconst 0, 1) := by decide +kernel
theorem dX11_motion_98 : decode cX11_motion 98 = .ok (.istore 4, 2) := by decide +kernel
theorem dX11_motion_100 : decode cX11_motion 100 = .ok (.iload 4, 2) := by decide +kernel
theorem dX11_motion_102 : decode cX11_motion 102 = .ok (.aload_n 0, 1) := by decide +kernel
theorem dX11_motion_103 : decode cX11_motion 103 = .ok (.getfield 48, 3) := by decide +kernel
theorem dX11_motion_106 : decode cX11_motion 106 = .ok (.getfield 193, 3) := by decide +kernel
theorem dX11_motion_109 : decode cX11_motion 109 = .ok (.if_icmp .ge 42, 3) := by decide +kernel
theorem dX11_motion_112 : decode cX11_motion 112 = .ok (.aload_n 0, 1) := by decide +kernel
theorem dX11_motion_113 : decode cX11_motion 113 = .ok (.getfield 57, 3) := by decide +kernel
theorem dX11_motion_116 : decode cX11_motion 116 = .ok (.iload_n 3, 1) := by decide +kernel
theorem dX11_motion_117 : decode cX11_motion 117 = .ok (.aload_n 0, 1) := by decide +kernel
theorem dX11_motion_118 : decode cX11_motion 118 = .ok (.getfield 48, 3) := by decide +kernel
theorem dX11_motion_121 : decode cX11_motion 121 = .ok (.getfield 203, 3) := by decide +kernel
theorem dX11_motion_124 : decode cX11_motion 124 = .ok (.iload 4, 2) := by decide +kernel
theorem dX11_motion_126 : decode cX11_motion 126 = .ok (.invokestatic 207, 3) := by decide +kernel
theorem dX11_motion_129 : decode cX11_motion 129 = .ok (.aload_n 0, 1) := by decide +kernel
theorem dX11_motion_130 : decode cX11_motion 130 = .ok (.getfield 48, 3) := by decide +kernel
theorem dX11_motion_133 : decode cX11_motion 133 = .ok (.getfield 211, 3) := by decide +kernel
theorem dX11_motion_136 : decode cX11_motion 136 = .ok (.iload 4, 2) := by decide +kernel
theorem dX11_motion_138 : decode cX11_motion 138 = .ok (.invokestatic 207, 3) := by decide +kernel
theorem dX11_motion_141 : decode cX11_motion 141 = .ok (.iconst (-1), 1) := by decide +kernel
theorem dX11_motion_142 : decode cX11_motion 142 = .ok (.invokevirtual 214, 3) := by decide +kernel
theorem dX11_motion_145 : decode cX11_motion 145 = .ok (.iinc 4 1, 3) := by decide +kernel
theorem dX11_motion_148 : decode cX11_motion 148 = .ok (.goto (-48), 3) := by decide +kernel
theorem dX11_motion_151 : decode cX11_motion 151 = .ok (.aload_n 0, 1) := by decide +kernel
theorem dX11_motion_152 : decode cX11_motion 152 = .ok (.getfield 75, 3) := by decide +kernel
theorem dX11_motion_155 : decode cX11_motion 155 = .ok (.invokevirtual 180, 3) := by decide +kernel
theorem dX11_motion_158 : decode cX11_motion 158 = .ok (.iload_n 3, 1) := by decide +kernel
theorem dX11_motion_159 : decode cX11_motion 159 = .ok (.ireturn, 1) := by decide +kernel
theorem dX11_isLate_0 : decode cX11_isLate 0 = .ok (.aload_n 0, 1) := by decide +kernel
theorem dX11_isLate_1 : decode cX11_isLate 1 = .ok (.getfield 12, 3) := by decide +kernel
theorem dX11_isLate_4 : decode cX11_isLate 4 = .ok (.getfield 150, 3) := by decide +kernel
theorem dX11_isLate_7 : decode cX11_isLate 7 = .ok (.iconst (-1), 1) := by decide +kernel
theorem dX11_isLate_8 : decode cX11_isLate 8 = .ok (.if_icmp .eq 24, 3) := by decide +kernel
theorem dX11_isLate_11 : decode cX11_isLate 11 = .ok (.aload_n 0, 1) := by decide +kernel
theorem dX11_isLate_12 : decode cX11_isLate 12 = .ok (.getfield 12, 3) := by decide +kernel
theorem dX11_isLate_15 : decode cX11_isLate 15 = .ok (.getfield 139, 3) := by decide +kernel
theorem dX11_isLate_18 : decode cX11_isLate 18 = .ok (.aload_n 0, 1) := by decide +kernel
theorem dX11_isLate_19 : decode cX11_isLate 19 = .ok (.getfield 12, 3) := by decide +kernel
theorem dX11_isLate_22 : decode cX11_isLate 22 = .ok (.getfield 150, 3) := by decide +kernel
theorem dX11_isLate_25 : decode cX11_isLate 25 = .ok (.if_icmp .le 7, 3) := by decide +kernel
theorem dX11_isLate_28 : decode cX11_isLate 28 = .ok (.iconst 1, 1) := by decide +kernel
theorem dX11_isLate_29 : decode cX11_isLate 29 = .ok (.goto 4, 3) := by decide +kernel
theorem dX11_isLate_32 : decode cX11_isLate 32 = .ok (.iconst 0, 1) := by decide +kernel
theorem dX11_isLate_33 : decode cX11_isLate 33 = .ok (.ireturn, 1) := by decide +kernel
theorem dX11_isTakenLate_0 : decode cX11_isTakenLate 0 = .ok (.aload_n 0, 1) := by decide +kernel
theorem dX11_isTakenLate_1 : decode cX11_isTakenLate 1 = .ok (.getfield 66, 3) := by decide +kernel
theorem dX11_isTakenLate_4 : decode cX11_isTakenLate 4 = .ok (.iconst (-1), 1) := by decide +kernel
theorem dX11_isTakenLate_5 : decode cX11_isTakenLate 5 = .ok (.aload_n 0, 1) := by decide +kernel
theorem dX11_isTakenLate_6 : decode cX11_isTakenLate 6 = .ok (.getfield 12, 3) := by decide +kernel
theorem dX11_isTakenLate_9 : decode cX11_isTakenLate 9 = .ok (.getfield 139, 3) := by decide +kernel
theorem dX11_isTakenLate_12 : decode cX11_isTakenLate 12 = .ok (.invokevirtual 142, 3) := by decide +kernel
theorem dX11_isTakenLate_15 : decode cX11_isTakenLate 15 = .ok (.aload_n 0, 1) := by decide +kernel
theorem dX11_isTakenLate_16 : decode cX11_isTakenLate 16 = .ok (.getfield 66, 3) := by decide +kernel
theorem dX11_isTakenLate_19 : decode cX11_isTakenLate 19 = .ok (.aload_n 0, 1) := by decide +kernel
theorem dX11_isTakenLate_20 : decode cX11_isTakenLate 20 = .ok (.getfield 26, 3) := by decide +kernel
theorem dX11_isTakenLate_23 : decode cX11_isTakenLate 23 = .ok (.aload_n 0, 1) := by decide +kernel
theorem dX11_isTakenLate_24 : decode cX11_isTakenLate 24 = .ok (.getfield 57, 3) := by decide +kernel
theorem dX11_isTakenLate_27 : decode cX11_isTakenLate 27 = .ok (.getfield 125, 3) := by decide +kernel
theorem dX11_isTakenLate_30 : decode cX11_isTakenLate 30 = .ok (.invokevirtual 129, 3) := by decide +kernel
theorem dX11_isTakenLate_33 : decode cX11_isTakenLate 33 = .ok (.iload_n 1, 1) := by decide +kernel
theorem dX11_isTakenLate_34 : decode cX11_isTakenLate 34 = .ok (.iload_n 2, 1) := by decide +kernel
theorem dX11_isTakenLate_35 : decode cX11_isTakenLate 35 = .ok (.aload_n 0, 1) := by decide +kernel
theorem dX11_isTakenLate_36 : decode cX11_isTakenLate 36 = .ok (.getfield 12, 3) := by decide +kernel
theorem dX11_isTakenLate_39 : decode cX11_isTakenLate 39 = .ok (.getfield 139, 3) := by decide +kernel
theorem dX11_isTakenLate_42 : decode cX11_isTakenLate 42 = .ok (.invokevirtual 218, 3) := by decide +kernel
theorem dX11_isTakenLate_45 : decode cX11_isTakenLate 45 = .ok (.ireturn, 1) := by decide +kernel
theorem dX11_amend_0 : decode cX11_amend 0 = .ok (.aload_n 0, 1) := by decide +kernel
theorem dX11_amend_1 : decode cX11_amend 1 = .ok (.getfield 26, 3) := by decide +kernel
theorem dX11_amend_4 : decode cX11_amend 4 = .ok (.iload_n 1, 1) := by decide +kernel
theorem dX11_amend_5 : decode cX11_amend 5 = .ok (.invokevirtual 222, 3) := by decide +kernel
theorem dX11_amend_8 : decode cX11_amend 8 = .ok (.ifCond .eq 26, 3) := by decide +kernel
theorem dX11_amend_11 : decode cX11_amend 11 = .ok (.aload_n 0, 1) := by decide +kernel
theorem dX11_amend_12 : decode cX11_amend 12 = .ok (.getfield 57, 3) := by decide +kernel
theorem dX11_amend_15 : decode cX11_amend 15 = .ok (.iload_n 1, 1) := by decide +kernel
theorem dX11_amend_16 : decode cX11_amend 16 = .ok (.invokevirtual 118, 3) := by decide +kernel
theorem dX11_amend_19 : decode cX11_amend 19 = .ok (.ifCond .ne 15, 3) := by decide +kernel
theorem dX11_amend_22 : decode cX11_amend 22 = .ok (.aload_n 0, 1) := by decide +kernel
theorem dX11_amend_23 : decode cX11_amend 23 = .ok (.getfield 26, 3) := by decide +kernel
theorem dX11_amend_26 : decode cX11_amend 26 = .ok (.getfield 225, 3) := by decide +kernel
theorem dX11_amend_29 : decode cX11_amend 29 = .ok (.bipush 40, 2) := by decide +kernel
theorem dX11_amend_31 : decode cX11_amend 31 = .ok (.if_icmp .lt 5, 3) := by decide +kernel
theorem dX11_amend_34 : decode cX11_amend 34 = .ok (.iconst (-1), 1) := by decide +kernel
theorem dX11_amend_35 : decode cX11_amend 35 = .ok (.ireturn, 1) := by decide +kernel
theorem dX11_amend_36 : decode cX11_amend 36 = .ok (.aload_n 0, 1) := by decide +kernel
theorem dX11_amend_37 : decode cX11_amend 37 = .ok (.getfield 48, 3) := by decide +kernel
theorem dX11_amend_40 : decode cX11_amend 40 = .ok (.invokevirtual 228, 3) := by decide +kernel
theorem dX11_amend_43 : decode cX11_amend 43 = .ok (.istore_n 2, 1) := by decide +kernel
theorem dX11_amend_44 : decode cX11_amend 44 = .ok (.aload_n 0, 1) := by decide +kernel
theorem dX11_amend_45 : decode cX11_amend 45 = .ok (.getfield 19, 3) := by decide +kernel
theorem dX11_amend_48 : decode cX11_amend 48 = .ok (.iconst 0, 1) := by decide +kernel
theorem dX11_amend_49 : decode cX11_amend 49 = .ok (.putfield 153, 3) := by decide +kernel
theorem dX11_amend_52 : decode cX11_amend 52 = .ok (.iload_n 2, 1) := by decide +kernel
theorem dX11_amend_53 : decode cX11_amend 53 = .ok (.ifCond .ne 13, 3) := by decide +kernel
theorem dX11_amend_56 : decode cX11_amend 56 = .ok (.iconst (-1), 1) := by decide +kernel
theorem dX11_amend_57 : decode cX11_amend 57 = .ok (.aload_n 0, 1) := by decide +kernel
theorem dX11_amend_58 : decode cX11_amend 58 = .ok (.getfield 19, 3) := by decide +kernel
theorem dX11_amend_61 : decode cX11_amend 61 = .ok (.getfield 171, 3) := by decide +kernel
theorem dX11_amend_64 : decode cX11_amend 64 = .ok (.isub, 1) := by decide +kernel
theorem dX11_amend_65 : decode cX11_amend 65 = .ok (.ireturn, 1) := by decide +kernel
theorem dX11_amend_66 : decode cX11_amend 66 = .ok (.aload_n 0, 1) := by decide +kernel
theorem dX11_amend_67 : decode cX11_amend 67 = .ok (.getfield 26, 3) := by decide +kernel
theorem dX11_amend_70 : decode cX11_amend 70 = .ok (.iload_n 1, 1) := by decide +kernel
theorem dX11_amend_71 : decode cX11_amend 71 = .ok (.aload_n 0, 1) := by decide +kernel
theorem dX11_amend_72 : decode cX11_amend 72 = .ok (.getfield 48, 3) := by decide +kernel
theorem dX11_amend_75 : decode cX11_amend 75 = .ok (.invokevirtual 231, 3) := by decide +kernel
theorem dX11_amend_78 : decode cX11_amend 78 = .ok (.istore_n 3, 1) := by decide +kernel
theorem dX11_amend_79 : decode cX11_amend 79 = .ok (.aload_n 0, 1) := by decide +kernel
theorem dX11_amend_80 : decode cX11_amend 80 = .ok (.getfield 57, 3) := by decide +kernel
theorem dX11_amend_83 : decode cX11_amend 83 = .ok (.bipush 100, 2) := by decide +kernel
theorem dX11_amend_85 : decode cX11_amend 85 = .ok (.iload_n 3, 1) := by decide +kernel
theorem dX11_amend_86 : decode cX11_amend 86 = .ok (.iadd, 1) := by decide +kernel
theorem dX11_amend_87 : decode cX11_amend 87 = .ok (.invokevirtual 174, 3) := by decide +kernel
theorem dX11_amend_90 : decode cX11_amend 90 = .ok (.aload_n 0, 1) := by decide +kernel
theorem dX11_amend_91 : decode cX11_amend 91 = .ok (.getfield 75, 3) := by decide +kernel
theorem dX11_amend_94 : decode cX11_amend 94 = .ok (.invokevirtual 180, 3) := by decide +kernel
theorem dX11_amend_97 : decode cX11_amend 97 = .ok (.iload_n 3, 1) := by decide +kernel
theorem dX11_amend_98 : decode cX11_amend 98 = .ok (.ireturn, 1) := by decide +kernel
theorem dX11_place_0 : decode cX11_place 0 = .ok (.aload_n 0, 1) := by decide +kernel
theorem dX11_place_1 : decode cX11_place 1 = .ok (.getfield 19, 3) := by decide +kernel
theorem dX11_place_4 : decode cX11_place 4 = .ok (.getfield 235, 3) := by decide +kernel
theorem dX11_place_7 : decode cX11_place 7 = .ok (.ireturn, 1) := by decide +kernel
theorem dX11_paid_0 : decode cX11_paid 0 = .ok (.aload_n 0, 1) := by decide +kernel
theorem dX11_paid_1 : decode cX11_paid 1 = .ok (.getfield 12, 3) := by decide +kernel
theorem dX11_paid_4 : decode cX11_paid 4 = .ok (.iload_n 1, 1) := by decide +kernel
theorem dX11_paid_5 : decode cX11_paid 5 = .ok (.invokevirtual 103, 3) := by decide +kernel
theorem dX11_paid_8 : decode cX11_paid 8 = .ok (.ifCond .eq 14, 3) := by decide +kernel
theorem dX11_paid_11 : decode cX11_paid 11 = .ok (.aload_n 0, 1) := by decide +kernel
theorem dX11_paid_12 : decode cX11_paid 12 = .ok (.getfield 12, 3) := by decide +kernel
theorem dX11_paid_15 : decode cX11_paid 15 = .ok (.iload_n 2, 1) := by decide +kernel
theorem dX11_paid_16 : decode cX11_paid 16 = .ok (.invokevirtual 238, 3) := by decide +kernel
theorem dX11_paid_19 : decode cX11_paid 19 = .ok (.ifCond .ne 5, 3) := by decide +kernel
theorem dX11_paid_22 : decode cX11_paid 22 = .ok (.iconst (-1), 1) := by decide +kernel
theorem dX11_paid_23 : decode cX11_paid 23 = .ok (.ireturn, 1) := by decide +kernel
theorem dX11_paid_24 : decode cX11_paid 24 = .ok (.aload_n 0, 1) := by decide +kernel
theorem dX11_paid_25 : decode cX11_paid 25 = .ok (.getfield 66, 3) := by decide +kernel
theorem dX11_paid_28 : decode cX11_paid 28 = .ok (.iconst (-1), 1) := by decide +kernel
theorem dX11_paid_29 : decode cX11_paid 29 = .ok (.iload_n 2, 1) := by decide +kernel
theorem dX11_paid_30 : decode cX11_paid 30 = .ok (.invokevirtual 142, 3) := by decide +kernel
theorem dX11_paid_33 : decode cX11_paid 33 = .ok (.aload_n 0, 1) := by decide +kernel
theorem dX11_paid_34 : decode cX11_paid 34 = .ok (.getfield 66, 3) := by decide +kernel
theorem dX11_paid_37 : decode cX11_paid 37 = .ok (.iload_n 1, 1) := by decide +kernel
theorem dX11_paid_38 : decode cX11_paid 38 = .ok (.aload_n 0, 1) := by decide +kernel
theorem dX11_paid_39 : decode cX11_paid 39 = .ok (.getfield 26, 3) := by decide +kernel
theorem dX11_paid_42 : decode cX11_paid 42 = .ok (.aload_n 0, 1) := by decide +kernel
theorem dX11_paid_43 : decode cX11_paid 43 = .ok (.getfield 57, 3) := by decide +kernel
theorem dX11_paid_46 : decode cX11_paid 46 = .ok (.getfield 125, 3) := by decide +kernel
theorem dX11_paid_49 : decode cX11_paid 49 = .ok (.invokevirtual 129, 3) := by decide +kernel
theorem dX11_paid_52 : decode cX11_paid 52 = .ok (.getfield 241, 3) := by decide +kernel
theorem dX11_paid_55 : decode cX11_paid 55 = .ok (.invokevirtual 244, 3) := by decide +kernel
theorem dX11_paid_58 : decode cX11_paid 58 = .ok (.ireturn, 1) := by decide +kernel
theorem dX11_cards_0 : decode cX11_cards 0 = .ok (.aload_n 0, 1) := by decide +kernel
theorem dX11_cards_1 : decode cX11_cards 1 = .ok (.getfield 12, 3) := by decide +kernel
theorem dX11_cards_4 : decode cX11_cards 4 = .ok (.iload_n 1, 1) := by decide +kernel
theorem dX11_cards_5 : decode cX11_cards 5 = .ok (.invokevirtual 103, 3) := by decide +kernel
theorem dX11_cards_8 : decode cX11_cards 8 = .ok (.ifCond .eq 14, 3) := by decide +kernel
theorem dX11_cards_11 : decode cX11_cards 11 = .ok (.aload_n 0, 1) := by decide +kernel
theorem dX11_cards_12 : decode cX11_cards 12 = .ok (.getfield 12, 3) := by decide +kernel
theorem dX11_cards_15 : decode cX11_cards 15 = .ok (.iload_n 2, 1) := by decide +kernel
theorem dX11_cards_16 : decode cX11_cards 16 = .ok (.invokevirtual 238, 3) := by decide +kernel
theorem dX11_cards_19 : decode cX11_cards 19 = .ok (.ifCond .ne 5, 3) := by decide +kernel
theorem dX11_cards_22 : decode cX11_cards 22 = .ok (.iconst (-1), 1) := by decide +kernel
theorem dX11_cards_23 : decode cX11_cards 23 = .ok (.ireturn, 1) := by decide +kernel
theorem dX11_cards_24 : decode cX11_cards 24 = .ok (.aload_n 0, 1) := by decide +kernel
theorem dX11_cards_25 : decode cX11_cards 25 = .ok (.getfield 66, 3) := by decide +kernel
theorem dX11_cards_28 : decode cX11_cards 28 = .ok (.iconst (-1), 1) := by decide +kernel
theorem dX11_cards_29 : decode cX11_cards 29 = .ok (.iload_n 2, 1) := by decide +kernel
theorem dX11_cards_30 : decode cX11_cards 30 = .ok (.invokevirtual 142, 3) := by decide +kernel
theorem dX11_cards_33 : decode cX11_cards 33 = .ok (.aload_n 0, 1) := by decide +kernel
theorem dX11_cards_34 : decode cX11_cards 34 = .ok (.getfield 66, 3) := by decide +kernel
theorem dX11_cards_37 : decode cX11_cards 37 = .ok (.iload_n 1, 1) := by decide +kernel
theorem dX11_cards_38 : decode cX11_cards 38 = .ok (.aload_n 0, 1) := by decide +kernel
theorem dX11_cards_39 : decode cX11_cards 39 = .ok (.getfield 26, 3) := by decide +kernel
theorem dX11_cards_42 : decode cX11_cards 42 = .ok (.aload_n 0, 1) := by decide +kernel
theorem dX11_cards_43 : decode cX11_cards 43 = .ok (.getfield 57, 3) := by decide +kernel
theorem dX11_cards_46 : decode cX11_cards 46 = .ok (.getfield 125, 3) := by decide +kernel
theorem dX11_cards_49 : decode cX11_cards 49 = .ok (.invokevirtual 129, 3) := by decide +kernel
theorem dX11_cards_52 : decode cX11_cards 52 = .ok (.invokevirtual 247, 3) := by decide +kernel
theorem dX11_cards_55 : decode cX11_cards 55 = .ok (.ireturn, 1) := by decide +kernel
theorem dX11_voice_0 : decode cX11_voice 0 = .ok (.aload_n 0, 1) := by decide +kernel
theorem dX11_voice_1 : decode cX11_voice 1 = .ok (.getfield 12, 3) := by decide +kernel
theorem dX11_voice_4 : decode cX11_voice 4 = .ok (.iload_n 1, 1) := by decide +kernel
theorem dX11_voice_5 : decode cX11_voice 5 = .ok (.invokevirtual 103, 3) := by decide +kernel
theorem dX11_voice_8 : decode cX11_voice 8 = .ok (.ifCond .eq 36, 3) := by decide +kernel
theorem dX11_voice_11 : decode cX11_voice 11 = .ok (.aload_n 0, 1) := by decide +kernel
theorem dX11_voice_12 : decode cX11_voice 12 = .ok (.getfield 57, 3) := by decide +kernel
theorem dX11_voice_15 : decode cX11_voice 15 = .ok (.iload_n 2, 1) := by decide +kernel
theorem dX11_voice_16 : decode cX11_voice 16 = .ok (.invokevirtual 115, 3) := by decide +kernel
theorem dX11_voice_19 : decode cX11_voice 19 = .ok (.ifCond .eq 25, 3) := by decide +kernel
theorem dX11_voice_22 : decode cX11_voice 22 = .ok (.aload_n 0, 1) := by decide +kernel
theorem dX11_voice_23 : decode cX11_voice 23 = .ok (.getfield 12, 3) := by decide +kernel
theorem dX11_voice_26 : decode cX11_voice 26 = .ok (.iload_n 3, 1) := by decide +kernel
theorem dX11_voice_27 : decode cX11_voice 27 = .ok (.invokevirtual 238, 3) := by decide +kernel
theorem dX11_voice_30 : decode cX11_voice 30 = .ok (.ifCond .eq 14, 3) := by decide +kernel
theorem dX11_voice_33 : decode cX11_voice 33 = .ok (.iload 4, 2) := by decide +kernel
theorem dX11_voice_35 : decode cX11_voice 35 = .ok (.ifCond .lt 9, 3) := by decide +kernel
theorem dX11_voice_38 : decode cX11_voice 38 = .ok (.iload 4, 2) := by decide +kernel
theorem dX11_voice_40 : decode cX11_voice 40 = .ok (.iconst 1, 1) := by decide +kernel
theorem dX11_voice_41 : decode cX11_voice 41 = .ok (.if_icmp .le 5, 3) := by decide +kernel
theorem dX11_voice_44 : decode cX11_voice 44 = .ok (.iconst (-1), 1) := by decide +kernel
theorem dX11_voice_45 : decode cX11_voice 45 = .ok (.ireturn, 1) := by decide +kernel
theorem dX11_voice_46 : decode cX11_voice 46 = .ok (.aload_n 0, 1) := by decide +kernel
theorem dX11_voice_47 : decode cX11_voice 47 = .ok (.getfield 66, 3) := by decide +kernel
theorem dX11_voice_50 : decode cX11_voice 50 = .ok (.iload_n 2, 1) := by decide +kernel
theorem dX11_voice_51 : decode cX11_voice 51 = .ok (.iload_n 3, 1) := by decide +kernel
theorem dX11_voice_52 : decode cX11_voice 52 = .ok (.invokevirtual 142, 3) := by decide +kernel
theorem dX11_voice_55 : decode cX11_voice 55 = .ok (.iload 4, 2) := by decide +kernel
theorem dX11_voice_57 : decode cX11_voice 57 = .ok (.ifCond .ne 14, 3) := by decide +kernel
theorem dX11_voice_60 : decode cX11_voice 60 = .ok (.aload_n 0, 1) := by decide +kernel
theorem dX11_voice_61 : decode cX11_voice 61 = .ok (.getfield 66, 3) := by decide +kernel
theorem dX11_voice_64 : decode cX11_voice 64 = .ok (.iload_n 1, 1) := by decide +kernel
theorem dX11_voice_65 : decode cX11_voice 65 = .ok (.invokevirtual 251, 3) := by decide +kernel
theorem dX11_voice_68 : decode cX11_voice 68 = .ok (.goto 11, 3) := by decide +kernel
theorem dX11_voice_71 : decode cX11_voice 71 = .ok (.aload_n 0, 1) := by decide +kernel
theorem dX11_voice_72 : decode cX11_voice 72 = .ok (.getfield 66, 3) := by decide +kernel
theorem dX11_voice_75 : decode cX11_voice 75 = .ok (.iload_n 1, 1) := by decide +kernel
theorem dX11_voice_76 : decode cX11_voice 76 = .ok (.invokevirtual 146, 3) := by decide +kernel
theorem dX11_voice_79 : decode cX11_voice 79 = .ok (.ireturn, 1) := by decide +kernel
theorem dX11_counted_0 : decode cX11_counted 0 = .ok (.aload_n 0, 1) := by decide +kernel
theorem dX11_counted_1 : decode cX11_counted 1 = .ok (.getfield 57, 3) := by decide +kernel
theorem dX11_counted_4 : decode cX11_counted 4 = .ok (.iload_n 1, 1) := by decide +kernel
theorem dX11_counted_5 : decode cX11_counted 5 = .ok (.invokevirtual 115, 3) := by decide +kernel
theorem dX11_counted_8 : decode cX11_counted 8 = .ok (.ifCond .eq 23, 3) := by decide +kernel
theorem dX11_counted_11 : decode cX11_counted 11 = .ok (.aload_n 0, 1) := by decide +kernel
theorem dX11_counted_12 : decode cX11_counted 12 = .ok (.getfield 12, 3) := by decide +kernel
theorem dX11_counted_15 : decode cX11_counted 15 = .ok (.iload_n 2, 1) := by decide +kernel
theorem dX11_counted_16 : decode cX11_counted 16 = .ok (.invokevirtual 238, 3) := by decide +kernel
theorem dX11_counted_19 : decode cX11_counted 19 = .ok (.ifCond .eq 12, 3) := by decide +kernel
theorem dX11_counted_22 : decode cX11_counted 22 = .ok (.iload_n 3, 1) := by decide +kernel
theorem dX11_counted_23 : decode cX11_counted 23 = .ok (.ifCond .lt 8, 3) := by decide +kernel
theorem dX11_counted_26 : decode cX11_counted 26 = .ok (.iload_n 3, 1) := by decide +kernel
theorem dX11_counted_27 : decode cX11_counted 27 = .ok (.iconst 3, 1) := by decide +kernel
theorem dX11_counted_28 : decode cX11_counted 28 = .ok (.if_icmp .le 5, 3) := by decide +kernel
theorem dX11_counted_31 : decode cX11_counted 31 = .ok (.iconst (-1), 1) := by decide +kernel
theorem dX11_counted_32 : decode cX11_counted 32 = .ok (.ireturn, 1) := by decide +kernel
theorem dX11_counted_33 : decode cX11_counted 33 = .ok (.aload_n 0, 1) := by decide +kernel
theorem dX11_counted_34 : decode cX11_counted 34 = .ok (.getfield 66, 3) := by decide +kernel
theorem dX11_counted_37 : decode cX11_counted 37 = .ok (.iload_n 1, 1) := by decide +kernel
theorem dX11_counted_38 : decode cX11_counted 38 = .ok (.iload_n 2, 1) := by decide +kernel
theorem dX11_counted_39 : decode cX11_counted 39 = .ok (.invokevirtual 142, 3) := by decide +kernel
theorem dX11_counted_42 : decode cX11_counted 42 = .ok (.aload_n 0, 1) := by decide +kernel
theorem dX11_counted_43 : decode cX11_counted 43 = .ok (.getfield 66, 3) := by decide +kernel
theorem dX11_counted_46 : decode cX11_counted 46 = .ok (.aload_n 0, 1) := by decide +kernel
theorem dX11_counted_47 : decode cX11_counted 47 = .ok (.getfield 26, 3) := by decide +kernel
theorem dX11_counted_50 : decode cX11_counted 50 = .ok (.aload_n 0, 1) := by decide +kernel
theorem dX11_counted_51 : decode cX11_counted 51 = .ok (.getfield 57, 3) := by decide +kernel
theorem dX11_counted_54 : decode cX11_counted 54 = .ok (.getfield 125, 3) := by decide +kernel
theorem dX11_counted_57 : decode cX11_counted 57 = .ok (.invokevirtual 129, 3) := by decide +kernel
theorem dX11_counted_60 : decode cX11_counted 60 = .ok (.iconst 0, 1) := by decide +kernel
theorem dX11_counted_61 : decode cX11_counted 61 = .ok (.invokevirtual 254, 3) := by decide +kernel
theorem dX11_counted_64 : decode cX11_counted 64 = .ok (.aload_n 0, 1) := by decide +kernel
theorem dX11_counted_65 : decode cX11_counted 65 = .ok (.getfield 66, 3) := by decide +kernel
theorem dX11_counted_68 : decode cX11_counted 68 = .ok (.iconst (-1), 1) := by decide +kernel
theorem dX11_counted_69 : decode cX11_counted 69 = .ok (.invokevirtual 258, 3) := by decide +kernel
theorem dX11_counted_72 : decode cX11_counted 72 = .ok (.iload_n 3, 1) := by decide +kernel
theorem dX11_counted_73 : decode cX11_counted 73 = .ok (.tableswitch 51 0 2 #[27, 35, 43], 27) := by decide +kernel
theorem dX11_counted_100 : decode cX11_counted 100 = .ok (.aload_n 0, 1) := by decide +kernel
theorem dX11_counted_101 : decode cX11_counted 101 = .ok (.getfield 66, 3) := by decide +kernel
theorem dX11_counted_104 : decode cX11_counted 104 = .ok (.getfield 261, 3) := by decide +kernel
theorem dX11_counted_107 : decode cX11_counted 107 = .ok (.ireturn, 1) := by decide +kernel
theorem dX11_counted_108 : decode cX11_counted 108 = .ok (.aload_n 0, 1) := by decide +kernel
theorem dX11_counted_109 : decode cX11_counted 109 = .ok (.getfield 66, 3) := by decide +kernel
theorem dX11_counted_112 : decode cX11_counted 112 = .ok (.getfield 264, 3) := by decide +kernel
theorem dX11_counted_115 : decode cX11_counted 115 = .ok (.ireturn, 1) := by decide +kernel
theorem dX11_counted_116 : decode cX11_counted 116 = .ok (.aload_n 0, 1) := by decide +kernel
theorem dX11_counted_117 : decode cX11_counted 117 = .ok (.getfield 66, 3) := by decide +kernel
theorem dX11_counted_120 : decode cX11_counted 120 = .ok (.getfield 267, 3) := by decide +kernel
theorem dX11_counted_123 : decode cX11_counted 123 = .ok (.ireturn, 1) := by decide +kernel
theorem dX11_counted_124 : decode cX11_counted 124 = .ok (.aload_n 0, 1) := by decide +kernel
theorem dX11_counted_125 : decode cX11_counted 125 = .ok (.getfield 66, 3) := by decide +kernel
theorem dX11_counted_128 : decode cX11_counted 128 = .ok (.getfield 270, 3) := by decide +kernel
theorem dX11_counted_131 : decode cX11_counted 131 = .ok (.ireturn, 1) := by decide +kernel
theorem dX11_broken_0 : decode cX11_broken 0 = .ok (.aload_n 0, 1) := by decide +kernel
theorem dX11_broken_1 : decode cX11_broken 1 = .ok (.getfield 57, 3) := by decide +kernel
theorem dX11_broken_4 : decode cX11_broken 4 = .ok (.iload_n 1, 1) := by decide +kernel
theorem dX11_broken_5 : decode cX11_broken 5 = .ok (.invokevirtual 115, 3) := by decide +kernel
theorem dX11_broken_8 : decode cX11_broken 8 = .ok (.ifCond .eq 14, 3) := by decide +kernel
theorem dX11_broken_11 : decode cX11_broken 11 = .ok (.aload_n 0, 1) := by decide +kernel
theorem dX11_broken_12 : decode cX11_broken 12 = .ok (.getfield 12, 3) := by decide +kernel
theorem dX11_broken_15 : decode cX11_broken 15 = .ok (.iload_n 2, 1) := by decide +kernel
theorem dX11_broken_16 : decode cX11_broken 16 = .ok (.invokevirtual 238, 3) := by decide +kernel
theorem dX11_broken_19 : decode cX11_broken 19 = .ok (.ifCond .ne 5, 3) := by decide +kernel
theorem dX11_broken_22 : decode cX11_broken 22 = .ok (.iconst (-1), 1) := by decide +kernel
theorem dX11_broken_23 : decode cX11_broken 23 = .ok (.ireturn, 1) := by decide +kernel
theorem dX11_broken_24 : decode cX11_broken 24 = .ok (.aload_n 0, 1) := by decide +kernel
theorem dX11_broken_25 : decode cX11_broken 25 = .ok (.getfield 66, 3) := by decide +kernel
theorem dX11_broken_28 : decode cX11_broken 28 = .ok (.iload_n 1, 1) := by decide +kernel
theorem dX11_broken_29 : decode cX11_broken 29 = .ok (.iload_n 2, 1) := by decide +kernel
theorem dX11_broken_30 : decode cX11_broken 30 = .ok (.invokevirtual 142, 3) := by decide +kernel
theorem dX11_broken_33 : decode cX11_broken 33 = .ok (.aload_n 0, 1) := by decide +kernel
theorem dX11_broken_34 : decode cX11_broken 34 = .ok (.getfield 66, 3) := by decide +kernel
theorem dX11_broken_37 : decode cX11_broken 37 = .ok (.invokevirtual 273, 3) := by decide +kernel
theorem dX11_broken_40 : decode cX11_broken 40 = .ok (.ireturn, 1) := by decide +kernel
theorem dX11_decide_0 : decode cX11_decide 0 = .ok (.aload_n 0, 1) := by decide +kernel
theorem dX11_decide_1 : decode cX11_decide 1 = .ok (.getfield 75, 3) := by decide +kernel
theorem dX11_decide_4 : decode cX11_decide 4 = .ok (.iload_n 1, 1) := by decide +kernel
theorem dX11_decide_5 : decode cX11_decide 5 = .ok (.invokevirtual 277, 3) := by decide +kernel
theorem dX11_decide_8 : decode cX11_decide 8 = .ok (.ireturn, 1) := by decide +kernel
theorem dX11_voids_0 : decode cX11_voids 0 = .ok (.aload_n 0, 1) := by decide +kernel
theorem dX11_voids_1 : decode cX11_voids 1 = .ok (.getfield 75, 3) := by decide +kernel
theorem dX11_voids_4 : decode cX11_voids 4 = .ok (.iload_n 1, 1) := by decide +kernel
theorem dX11_voids_5 : decode cX11_voids 5 = .ok (.invokevirtual 280, 3) := by decide +kernel
theorem dX11_voids_8 : decode cX11_voids 8 = .ok (.ireturn, 1) := by decide +kernel
theorem dX11_row_0 : decode cX11_row 0 = .ok (.iload_n 1, 1) := by decide +kernel
theorem dX11_row_1 : decode cX11_row 1 = .ok (.ifCond .lt 24, 3) := by decide +kernel
theorem dX11_row_4 : decode cX11_row 4 = .ok (.iload_n 1, 1) := by decide +kernel
theorem dX11_row_5 : decode cX11_row 5 = .ok (.aload_n 0, 1) := by decide +kernel
theorem dX11_row_6 : decode cX11_row 6 = .ok (.getfield 75, 3) := by decide +kernel
theorem dX11_row_9 : decode cX11_row 9 = .ok (.getfield 283, 3) := by decide +kernel
theorem dX11_row_12 : decode cX11_row 12 = .ok (.if_icmp .ge 13, 3) := by decide +kernel
theorem dX11_row_15 : decode cX11_row 15 = .ok (.iload_n 2, 1) := by decide +kernel
theorem dX11_row_16 : decode cX11_row 16 = .ok (.ifCond .lt 9, 3) := by decide +kernel
theorem dX11_row_19 : decode cX11_row 19 = .ok (.iload_n 2, 1) := by decide +kernel
theorem dX11_row_20 : decode cX11_row 20 = .ok (.bipush 7, 2) := by decide +kernel
theorem dX11_row_22 : decode cX11_row 22 = .ok (.if_icmp .lt 14, 3) := by decide +kernel
theorem dX11_row_25 : decode cX11_row 25 = .ok (.new 286, 3) := by decide +kernel
theorem dX11_row_28 : decode cX11_row 28 = .ok (.dup, 1) := by decide +kernel
theorem dX11_row_29 : decode cX11_row 29 = .ok (.ldc_w 288, 3) := by decide +kernel
theorem dX11_row_32 : decode cX11_row 32 = .ok (.invokespecial 290, 3) := by decide +kernel
theorem dX11_row_35 : decode cX11_row 35 = .ok (.athrow, 1) := by decide +kernel
theorem dX11_row_36 : decode cX11_row 36 = .ok (.aload_n 0, 1) := by decide +kernel
theorem dX11_row_37 : decode cX11_row 37 = .ok (.getfield 75, 3) := by decide +kernel
theorem dX11_row_40 : decode cX11_row 40 = .ok (.iload_n 1, 1) := by decide +kernel
theorem dX11_row_41 : decode cX11_row 41 = .ok (.iload_n 2, 1) := by decide +kernel
theorem dX11_row_42 : decode cX11_row 42 = .ok (.invokevirtual 293, 3) := by decide +kernel
theorem dX11_row_45 : decode cX11_row 45 = .ok (.ireturn, 1) := by decide +kernel
theorem dX11_how_0 : decode cX11_how 0 = .ok (.aload_n 0, 1) := by decide +kernel
theorem dX11_how_1 : decode cX11_how 1 = .ok (.getfield 57, 3) := by decide +kernel
theorem dX11_how_4 : decode cX11_how 4 = .ok (.iload_n 1, 1) := by decide +kernel
theorem dX11_how_5 : decode cX11_how 5 = .ok (.invokevirtual 118, 3) := by decide +kernel
theorem dX11_how_8 : decode cX11_how 8 = .ok (.ireturn, 1) := by decide +kernel
theorem dX11_line_0 : decode cX11_line 0 = .ok (.iload_n 3, 1) := by decide +kernel
theorem dX11_line_1 : decode cX11_line 1 = .ok (.ifCond .ne 7, 3) := by decide +kernel
theorem dX11_line_4 : decode cX11_line 4 = .ok (.iconst 0, 1) := by decide +kernel
theorem dX11_line_5 : decode cX11_line 5 = .ok (.goto 4, 3) := by decide +kernel
theorem dX11_line_8 : decode cX11_line 8 = .ok (.iconst (-1), 1) := by decide +kernel
theorem dX11_line_9 : decode cX11_line 9 = .ok (.istore 4, 2) := by decide +kernel
theorem dX11_line_11 : decode cX11_line 11 = .ok (.aload_n 0, 1) := by decide +kernel
theorem dX11_line_12 : decode cX11_line 12 = .ok (.getfield 26, 3) := by decide +kernel
theorem dX11_line_15 : decode cX11_line 15 = .ok (.iload_n 1, 1) := by decide +kernel
theorem dX11_line_16 : decode cX11_line 16 = .ok (.invokevirtual 222, 3) := by decide +kernel
theorem dX11_line_19 : decode cX11_line 19 = .ok (.ifCond .eq 19, 3) := by decide +kernel
theorem dX11_line_22 : decode cX11_line 22 = .ok (.iload_n 2, 1) := by decide +kernel
theorem dX11_line_23 : decode cX11_line 23 = .ok (.ifCond .lt 15, 3) := by decide +kernel
theorem dX11_line_26 : decode cX11_line 26 = .ok (.iload_n 2, 1) := by decide +kernel
theorem dX11_line_27 : decode cX11_line 27 = .ok (.aload_n 0, 1) := by decide +kernel
theorem dX11_line_28 : decode cX11_line 28 = .ok (.getfield 57, 3) := by decide +kernel
theorem dX11_line_31 : decode cX11_line 31 = .ok (.iload_n 1, 1) := by decide +kernel
theorem dX11_line_32 : decode cX11_line 32 = .ok (.invokevirtual 296, 3) := by decide +kernel
theorem dX11_line_35 : decode cX11_line 35 = .ok (.if_icmp .lt 6, 3) := by decide +kernel
theorem dX11_line_38 : decode cX11_line 38 = .ok (.iload 4, 2) := by decide +kernel
theorem dX11_line_40 : decode cX11_line 40 = .ok (.ireturn, 1) := by decide +kernel
theorem dX11_line_41 : decode cX11_line 41 = .ok (.iload_n 3, 1) := by decide +kernel
theorem dX11_line_42 : decode cX11_line 42 = .ok (.tableswitch 56 0 2 #[26, 36, 46], 26) := by decide +kernel
theorem dX11_line_68 : decode cX11_line 68 = .ok (.aload_n 0, 1) := by decide +kernel
theorem dX11_line_69 : decode cX11_line 69 = .ok (.getfield 57, 3) := by decide +kernel
theorem dX11_line_72 : decode cX11_line 72 = .ok (.iload_n 1, 1) := by decide +kernel
theorem dX11_line_73 : decode cX11_line 73 = .ok (.iload_n 2, 1) := by decide +kernel
theorem dX11_line_74 : decode cX11_line 74 = .ok (.invokevirtual 299, 3) := by decide +kernel
theorem dX11_line_77 : decode cX11_line 77 = .ok (.ireturn, 1) := by decide +kernel
theorem dX11_line_78 : decode cX11_line 78 = .ok (.aload_n 0, 1) := by decide +kernel
theorem dX11_line_79 : decode cX11_line 79 = .ok (.getfield 57, 3) := by decide +kernel
theorem dX11_line_82 : decode cX11_line 82 = .ok (.iload_n 1, 1) := by decide +kernel
theorem dX11_line_83 : decode cX11_line 83 = .ok (.iload_n 2, 1) := by decide +kernel
theorem dX11_line_84 : decode cX11_line 84 = .ok (.invokevirtual 302, 3) := by decide +kernel
theorem dX11_line_87 : decode cX11_line 87 = .ok (.ireturn, 1) := by decide +kernel
theorem dX11_line_88 : decode cX11_line 88 = .ok (.aload_n 0, 1) := by decide +kernel
theorem dX11_line_89 : decode cX11_line 89 = .ok (.getfield 57, 3) := by decide +kernel
theorem dX11_line_92 : decode cX11_line 92 = .ok (.iload_n 1, 1) := by decide +kernel
theorem dX11_line_93 : decode cX11_line 93 = .ok (.iload_n 2, 1) := by decide +kernel
theorem dX11_line_94 : decode cX11_line 94 = .ok (.invokevirtual 305, 3) := by decide +kernel
theorem dX11_line_97 : decode cX11_line 97 = .ok (.ireturn, 1) := by decide +kernel
theorem dX11_line_98 : decode cX11_line 98 = .ok (.iload 4, 2) := by decide +kernel
theorem dX11_line_100 : decode cX11_line 100 = .ok (.ireturn, 1) := by decide +kernel
theorem dX11_stands_0 : decode cX11_stands 0 = .ok (.iload_n 1, 1) := by decide +kernel
theorem dX11_stands_1 : decode cX11_stands 1 = .ok (.iconst 1, 1) := by decide +kernel
theorem dX11_stands_2 : decode cX11_stands 2 = .ok (.if_icmp .lt 9, 3) := by decide +kernel
theorem dX11_stands_5 : decode cX11_stands 5 = .ok (.iload_n 1, 1) := by decide +kernel
theorem dX11_stands_6 : decode cX11_stands 6 = .ok (.bipush 60, 2) := by decide +kernel
theorem dX11_stands_8 : decode cX11_stands 8 = .ok (.if_icmp .le 6, 3) := by decide +kernel
theorem dX11_stands_11 : decode cX11_stands 11 = .ok (.bipush (-2), 2) := by decide +kernel
theorem dX11_stands_13 : decode cX11_stands 13 = .ok (.ireturn, 1) := by decide +kernel
theorem dX11_stands_14 : decode cX11_stands 14 = .ok (.aload_n 0, 1) := by decide +kernel
theorem dX11_stands_15 : decode cX11_stands 15 = .ok (.getfield 57, 3) := by decide +kernel
theorem dX11_stands_18 : decode cX11_stands 18 = .ok (.getfield 308, 3) := by decide +kernel
theorem dX11_stands_21 : decode cX11_stands 21 = .ok (.iload_n 1, 1) := by decide +kernel
theorem dX11_stands_22 : decode cX11_stands 22 = .ok (.lushr, 1) := by decide +kernel
theorem dX11_stands_23 : decode cX11_stands 23 = .ok (.lconst 1, 1) := by decide +kernel
theorem dX11_stands_24 : decode cX11_stands 24 = .ok (.land, 1) := by decide +kernel
theorem dX11_stands_25 : decode cX11_stands 25 = .ok (.l2i, 1) := by decide +kernel
theorem dX11_stands_26 : decode cX11_stands 26 = .ok (.aload_n 0, 1) := by decide +kernel
theorem dX11_stands_27 : decode cX11_stands 27 = .ok (.getfield 57, 3) := by decide +kernel
theorem dX11_stands_30 : decode cX11_stands 30 = .ok (.getfield 312, 3) := by decide +kernel
theorem dX11_stands_33 : decode cX11_stands 33 = .ok (.iload_n 1, 1) := by decide +kernel
theorem dX11_stands_34 : decode cX11_stands 34 = .ok (.lushr, 1) := by decide +kernel
theorem dX11_stands_35 : decode cX11_stands 35 = .ok (.lconst 1, 1) := by decide +kernel
theorem dX11_stands_36 : decode cX11_stands 36 = .ok (.land, 1) := by decide +kernel
theorem dX11_stands_37 : decode cX11_stands 37 = .ok (.l2i, 1) := by decide +kernel
theorem dX11_stands_38 : decode cX11_stands 38 = .ok (.isub, 1) := by decide +kernel
theorem dX11_stands_39 : decode cX11_stands 39 = .ok (.ireturn, 1) := by decide +kernel
theorem dX11_lost_0 : decode cX11_lost 0 = .ok (.aload_n 0, 1) := by decide +kernel
theorem dX11_lost_1 : decode cX11_lost 1 = .ok (.getfield 84, 3) := by decide +kernel
theorem dX11_lost_4 : decode cX11_lost 4 = .ok (.iload_n 1, 1) := by decide +kernel
theorem dX11_lost_5 : decode cX11_lost 5 = .ok (.invokevirtual 315, 3) := by decide +kernel
theorem dX11_lost_8 : decode cX11_lost 8 = .ok (.ireturn, 1) := by decide +kernel
theorem dX11_composite_0 : decode cX11_composite 0 = .ok (.aload_n 0, 1) := by decide +kernel
theorem dX11_composite_1 : decode cX11_composite 1 = .ok (.getfield 26, 3) := by decide +kernel
theorem dX11_composite_4 : decode cX11_composite 4 = .ok (.getfield 183, 3) := by decide +kernel
theorem dX11_composite_7 : decode cX11_composite 7 = .ok (.bipush 24, 2) := by decide +kernel
theorem dX11_composite_9 : decode cX11_composite 9 = .ok (.if_icmp .ge 15, 3) := by decide +kernel
theorem dX11_composite_12 : decode cX11_composite 12 = .ok (.aload_n 0, 1) := by decide +kernel
theorem dX11_composite_13 : decode cX11_composite 13 = .ok (.getfield 84, 3) := by decide +kernel
theorem dX11_composite_16 : decode cX11_composite 16 = .ok (.iload_n 1, 1) := by decide +kernel
theorem dX11_composite_17 : decode cX11_composite 17 = .ok (.invokevirtual 315, 3) := by decide +kernel
theorem dX11_composite_20 : decode cX11_composite 20 = .ok (.iconst (-1), 1) := by decide +kernel
theorem dX11_composite_21 : decode cX11_composite 21 = .ok (.if_icmp .ne 5, 3) := by decide +kernel
theorem dX11_composite_24 : decode cX11_composite 24 = .ok (.iconst (-1), 1) := by decide +kernel
theorem dX11_composite_25 : decode cX11_composite 25 = .ok (.ireturn, 1) := by decide +kernel
theorem dX11_composite_26 : decode cX11_composite 26 = .ok (.aload_n 0, 1) := by decide +kernel
theorem dX11_composite_27 : decode cX11_composite 27 = .ok (.getfield 75, 3) := by decide +kernel
theorem dX11_composite_30 : decode cX11_composite 30 = .ok (.invokevirtual 180, 3) := by decide +kernel
theorem dX11_composite_33 : decode cX11_composite 33 = .ok (.aload_n 0, 1) := by decide +kernel
theorem dX11_composite_34 : decode cX11_composite 34 = .ok (.getfield 84, 3) := by decide +kernel
theorem dX11_composite_37 : decode cX11_composite 37 = .ok (.invokevirtual 318, 3) := by decide +kernel
theorem dX11_composite_40 : decode cX11_composite 40 = .ok (.ireturn, 1) := by decide +kernel
theorem dX11_group_0 : decode cX11_group 0 = .ok (.aload_n 0, 1) := by decide +kernel
theorem dX11_group_1 : decode cX11_group 1 = .ok (.getfield 84, 3) := by decide +kernel
theorem dX11_group_4 : decode cX11_group 4 = .ok (.iload_n 1, 1) := by decide +kernel
theorem dX11_group_5 : decode cX11_group 5 = .ok (.iload_n 2, 1) := by decide +kernel
theorem dX11_group_6 : decode cX11_group 6 = .ok (.invokevirtual 321, 3) := by decide +kernel
theorem dX11_group_9 : decode cX11_group 9 = .ok (.ireturn, 1) := by decide +kernel
theorem dX11_grouped_0 : decode cX11_grouped 0 = .ok (.aload_n 0, 1) := by decide +kernel
theorem dX11_grouped_1 : decode cX11_grouped 1 = .ok (.getfield 84, 3) := by decide +kernel
theorem dX11_grouped_4 : decode cX11_grouped 4 = .ok (.iload_n 1, 1) := by decide +kernel
theorem dX11_grouped_5 : decode cX11_grouped 5 = .ok (.iload_n 2, 1) := by decide +kernel
theorem dX11_grouped_6 : decode cX11_grouped 6 = .ok (.invokevirtual 321, 3) := by decide +kernel
theorem dX11_grouped_9 : decode cX11_grouped 9 = .ok (.iconst (-1), 1) := by decide +kernel
theorem dX11_grouped_10 : decode cX11_grouped 10 = .ok (.if_icmp .ne 7, 3) := by decide +kernel
theorem dX11_grouped_13 : decode cX11_grouped 13 = .ok (.iconst (-1), 1) := by decide +kernel
theorem dX11_grouped_14 : decode cX11_grouped 14 = .ok (.goto 11, 3) := by decide +kernel
theorem dX11_grouped_17 : decode cX11_grouped 17 = .ok (.aload_n 0, 1) := by decide +kernel
theorem dX11_grouped_18 : decode cX11_grouped 18 = .ok (.getfield 84, 3) := by decide +kernel
theorem dX11_grouped_21 : decode cX11_grouped 21 = .ok (.iload_n 3, 1) := by decide +kernel
theorem dX11_grouped_22 : decode cX11_grouped 22 = .ok (.invokevirtual 324, 3) := by decide +kernel
theorem dX11_grouped_25 : decode cX11_grouped 25 = .ok (.ireturn, 1) := by decide +kernel
theorem dX11_would_0 : decode cX11_would 0 = .ok (.aload_n 0, 1) := by decide +kernel
theorem dX11_would_1 : decode cX11_would 1 = .ok (.getfield 57, 3) := by decide +kernel
theorem dX11_would_4 : decode cX11_would 4 = .ok (.iload_n 1, 1) := by decide +kernel
theorem dX11_would_5 : decode cX11_would 5 = .ok (.invokevirtual 118, 3) := by decide +kernel
theorem dX11_would_8 : decode cX11_would 8 = .ok (.ifCond .ne 12, 3) := by decide +kernel
theorem dX11_would_11 : decode cX11_would 11 = .ok (.iload_n 2, 1) := by decide +kernel
theorem dX11_would_12 : decode cX11_would 12 = .ok (.ifCond .lt 8, 3) := by decide +kernel
theorem dX11_would_15 : decode cX11_would 15 = .ok (.iload_n 2, 1) := by decide +kernel
theorem dX11_would_16 : decode cX11_would 16 = .ok (.iconst 3, 1) := by decide +kernel
theorem dX11_would_17 : decode cX11_would 17 = .ok (.if_icmp .le 5, 3) := by decide +kernel
theorem dX11_would_20 : decode cX11_would 20 = .ok (.iconst (-1), 1) := by decide +kernel
theorem dX11_would_21 : decode cX11_would 21 = .ok (.ireturn, 1) := by decide +kernel
theorem dX11_would_22 : decode cX11_would 22 = .ok (.aload_n 0, 1) := by decide +kernel
theorem dX11_would_23 : decode cX11_would 23 = .ok (.getfield 75, 3) := by decide +kernel
theorem dX11_would_26 : decode cX11_would 26 = .ok (.iload_n 1, 1) := by decide +kernel
theorem dX11_would_27 : decode cX11_would 27 = .ok (.iload_n 2, 1) := by decide +kernel
theorem dX11_would_28 : decode cX11_would 28 = .ok (.invokevirtual 327, 3) := by decide +kernel
theorem dX11_would_31 : decode cX11_would 31 = .ok (.ifCond .eq 7, 3) := by decide +kernel
theorem dX11_would_34 : decode cX11_would 34 = .ok (.iconst 1, 1) := by decide +kernel
theorem dX11_would_35 : decode cX11_would 35 = .ok (.goto 4, 3) := by decide +kernel
theorem dX11_would_38 : decode cX11_would 38 = .ok (.iconst 0, 1) := by decide +kernel
theorem dX11_would_39 : decode cX11_would 39 = .ok (.ireturn, 1) := by decide +kernel
theorem dX11_worth_0 : decode cX11_worth 0 = .ok (.aload_n 0, 1) := by decide +kernel
theorem dX11_worth_1 : decode cX11_worth 1 = .ok (.getfield 12, 3) := by decide +kernel
theorem dX11_worth_4 : decode cX11_worth 4 = .ok (.iload_n 1, 1) := by decide +kernel
theorem dX11_worth_5 : decode cX11_worth 5 = .ok (.invokevirtual 103, 3) := by decide +kernel
theorem dX11_worth_8 : decode cX11_worth 8 = .ok (.ifCond .eq 43, 3) := by decide +kernel
theorem dX11_worth_11 : decode cX11_worth 11 = .ok (.aload_n 0, 1) := by decide +kernel
theorem dX11_worth_12 : decode cX11_worth 12 = .ok (.getfield 26, 3) := by decide +kernel
theorem dX11_worth_15 : decode cX11_worth 15 = .ok (.iload_n 2, 1) := by decide +kernel
theorem dX11_worth_16 : decode cX11_worth 16 = .ok (.invokevirtual 222, 3) := by decide +kernel
theorem dX11_worth_19 : decode cX11_worth 19 = .ok (.ifCond .eq 32, 3) := by decide +kernel
theorem dX11_worth_22 : decode cX11_worth 22 = .ok (.iload_n 3, 1) := by decide +kernel
theorem dX11_worth_23 : decode cX11_worth 23 = .ok (.bipush (-9), 2) := by decide +kernel
theorem dX11_worth_25 : decode cX11_worth 25 = .ok (.if_icmp .lt 26, 3) := by decide +kernel
theorem dX11_worth_28 : decode cX11_worth 28 = .ok (.iload_n 3, 1) := by decide +kernel
theorem dX11_worth_29 : decode cX11_worth 29 = .ok (.bipush 9, 2) := by decide +kernel
theorem dX11_worth_31 : decode cX11_worth 31 = .ok (.if_icmp .gt 20, 3) := by decide +kernel
theorem dX11_worth_34 : decode cX11_worth 34 = .ok (.aload_n 0, 1) := by decide +kernel
theorem dX11_worth_35 : decode cX11_worth 35 = .ok (.getfield 91, 3) := by decide +kernel
theorem dX11_worth_38 : decode cX11_worth 38 = .ok (.iload_n 1, 1) := by decide +kernel
theorem dX11_worth_39 : decode cX11_worth 39 = .ok (.iload_n 2, 1) := by decide +kernel
theorem dX11_worth_40 : decode cX11_worth 40 = .ok (.iload_n 3, 1) := by decide +kernel
theorem dX11_worth_41 : decode cX11_worth 41 = .ok (.invokevirtual 330, 3) := by decide +kernel
theorem dX11_worth_44 : decode cX11_worth 44 = .ok (.ifCond .eq 7, 3) := by decide +kernel
theorem dX11_worth_47 : decode cX11_worth 47 = .ok (.iconst 1, 1) := by decide +kernel
theorem dX11_worth_48 : decode cX11_worth 48 = .ok (.goto 4, 3) := by decide +kernel
theorem dX11_worth_51 : decode cX11_worth 51 = .ok (.iconst 0, 1) := by decide +kernel
theorem dX11_worth_52 : decode cX11_worth 52 = .ok (.ireturn, 1) := by decide +kernel
theorem dX11_inOrder_0 : decode cX11_inOrder 0 = .ok (.aload_n 0, 1) := by decide +kernel
theorem dX11_inOrder_1 : decode cX11_inOrder 1 = .ok (.getfield 12, 3) := by decide +kernel
theorem dX11_inOrder_4 : decode cX11_inOrder 4 = .ok (.iload_n 3, 1) := by decide +kernel
theorem dX11_inOrder_5 : decode cX11_inOrder 5 = .ok (.invokevirtual 103, 3) := by decide +kernel
theorem dX11_inOrder_8 : decode cX11_inOrder 8 = .ok (.ifCond .eq 25, 3) := by decide +kernel
theorem dX11_inOrder_11 : decode cX11_inOrder 11 = .ok (.aload_n 0, 1) := by decide +kernel
theorem dX11_inOrder_12 : decode cX11_inOrder 12 = .ok (.getfield 91, 3) := by decide +kernel
theorem dX11_inOrder_15 : decode cX11_inOrder 15 = .ok (.iload_n 1, 1) := by decide +kernel
theorem dX11_inOrder_16 : decode cX11_inOrder 16 = .ok (.invokevirtual 332, 3) := by decide +kernel
theorem dX11_inOrder_19 : decode cX11_inOrder 19 = .ok (.ifCond .eq 14, 3) := by decide +kernel
theorem dX11_inOrder_22 : decode cX11_inOrder 22 = .ok (.aload_n 0, 1) := by decide +kernel
theorem dX11_inOrder_23 : decode cX11_inOrder 23 = .ok (.getfield 91, 3) := by decide +kernel
theorem dX11_inOrder_26 : decode cX11_inOrder 26 = .ok (.iload_n 2, 1) := by decide +kernel
theorem dX11_inOrder_27 : decode cX11_inOrder 27 = .ok (.invokevirtual 335, 3) := by decide +kernel
theorem dX11_inOrder_30 : decode cX11_inOrder 30 = .ok (.ifCond .ne 7, 3) := by decide +kernel
theorem dX11_inOrder_33 : decode cX11_inOrder 33 = .ok (.sipush (-1000), 3) := by decide +kernel
theorem dX11_inOrder_36 : decode cX11_inOrder 36 = .ok (.ireturn, 1) := by decide +kernel
theorem dX11_inOrder_37 : decode cX11_inOrder 37 = .ok (.aload_n 0, 1) := by decide +kernel
theorem dX11_inOrder_38 : decode cX11_inOrder 38 = .ok (.getfield 91, 3) := by decide +kernel
theorem dX11_inOrder_41 : decode cX11_inOrder 41 = .ok (.iload_n 3, 1) := by decide +kernel
theorem dX11_inOrder_42 : decode cX11_inOrder 42 = .ok (.invokevirtual 338, 3) := by decide +kernel
theorem dX11_inOrder_45 : decode cX11_inOrder 45 = .ok (.ireturn, 1) := by decide +kernel
theorem dX11_best_0 : decode cX11_best 0 = .ok (.aload_n 0, 1) := by decide +kernel
theorem dX11_best_1 : decode cX11_best 1 = .ok (.getfield 12, 3) := by decide +kernel
theorem dX11_best_4 : decode cX11_best 4 = .ok (.iload_n 2, 1) := by decide +kernel
theorem dX11_best_5 : decode cX11_best 5 = .ok (.invokevirtual 103, 3) := by decide +kernel
theorem dX11_best_8 : decode cX11_best 8 = .ok (.ifCond .eq 30, 3) := by decide +kernel
theorem dX11_best_11 : decode cX11_best 11 = .ok (.aload_n 0, 1) := by decide +kernel
theorem dX11_best_12 : decode cX11_best 12 = .ok (.getfield 91, 3) := by decide +kernel
theorem dX11_best_15 : decode cX11_best 15 = .ok (.iload_n 1, 1) := by decide +kernel
theorem dX11_best_16 : decode cX11_best 16 = .ok (.invokevirtual 332, 3) := by decide +kernel
theorem dX11_best_19 : decode cX11_best 19 = .ok (.ifCond .eq 19, 3) := by decide +kernel
theorem dX11_best_22 : decode cX11_best 22 = .ok (.iload_n 3, 1) := by decide +kernel
theorem dX11_best_23 : decode cX11_best 23 = .ok (.iconst (-1), 1) := by decide +kernel
theorem dX11_best_24 : decode cX11_best 24 = .ok (.if_icmp .lt 14, 3) := by decide +kernel
theorem dX11_best_27 : decode cX11_best 27 = .ok (.iload_n 3, 1) := by decide +kernel
theorem dX11_best_28 : decode cX11_best 28 = .ok (.aload_n 0, 1) := by decide +kernel
theorem dX11_best_29 : decode cX11_best 29 = .ok (.getfield 91, 3) := by decide +kernel
theorem dX11_best_32 : decode cX11_best 32 = .ok (.getfield 341, 3) := by decide +kernel
theorem dX11_best_35 : decode cX11_best 35 = .ok (.if_icmp .lt 7, 3) := by decide +kernel
theorem dX11_best_38 : decode cX11_best 38 = .ok (.sipush (-1000), 3) := by decide +kernel
theorem dX11_best_41 : decode cX11_best 41 = .ok (.ireturn, 1) := by decide +kernel
theorem dX11_best_42 : decode cX11_best 42 = .ok (.aload_n 0, 1) := by decide +kernel
theorem dX11_best_43 : decode cX11_best 43 = .ok (.getfield 91, 3) := by decide +kernel
theorem dX11_best_46 : decode cX11_best 46 = .ok (.iload_n 2, 1) := by decide +kernel
theorem dX11_best_47 : decode cX11_best 47 = .ok (.invokevirtual 344, 3) := by decide +kernel
theorem dX11_best_50 : decode cX11_best 50 = .ok (.istore 4, 2) := by decide +kernel
theorem dX11_best_52 : decode cX11_best 52 = .ok (.iload_n 3, 1) := by decide +kernel
theorem dX11_best_53 : decode cX11_best 53 = .ok (.iconst (-1), 1) := by decide +kernel
theorem dX11_best_54 : decode cX11_best 54 = .ok (.if_icmp .ne 8, 3) := by decide +kernel
theorem dX11_best_57 : decode cX11_best 57 = .ok (.iload 4, 2) := by decide +kernel
theorem dX11_best_59 : decode cX11_best 59 = .ok (.goto 11, 3) := by decide +kernel
theorem dX11_best_62 : decode cX11_best 62 = .ok (.aload_n 0, 1) := by decide +kernel
theorem dX11_best_63 : decode cX11_best 63 = .ok (.getfield 91, 3) := by decide +kernel
theorem dX11_best_66 : decode cX11_best 66 = .ok (.iload_n 3, 1) := by decide +kernel
theorem dX11_best_67 : decode cX11_best 67 = .ok (.invokevirtual 347, 3) := by decide +kernel
theorem dX11_best_70 : decode cX11_best 70 = .ok (.ireturn, 1) := by decide +kernel
theorem dX11_deal_0 : decode cX11_deal 0 = .ok (.iload_n 1, 1) := by decide +kernel
theorem dX11_deal_1 : decode cX11_deal 1 = .ok (.ifCond .lt 19, 3) := by decide +kernel
theorem dX11_deal_4 : decode cX11_deal 4 = .ok (.iload_n 1, 1) := by decide +kernel
theorem dX11_deal_5 : decode cX11_deal 5 = .ok (.bipush 6, 2) := by decide +kernel
theorem dX11_deal_7 : decode cX11_deal 7 = .ok (.if_icmp .ge 13, 3) := by decide +kernel
theorem dX11_deal_10 : decode cX11_deal 10 = .ok (.aload_n 0, 1) := by decide +kernel
theorem dX11_deal_11 : decode cX11_deal 11 = .ok (.getfield 91, 3) := by decide +kernel
theorem dX11_deal_14 : decode cX11_deal 14 = .ok (.invokevirtual 350, 3) := by decide +kernel
theorem dX11_deal_17 : decode cX11_deal 17 = .ok (.ifCond .ne 5, 3) := by decide +kernel
theorem dX11_deal_20 : decode cX11_deal 20 = .ok (.iconst (-1), 1) := by decide +kernel
theorem dX11_deal_21 : decode cX11_deal 21 = .ok (.ireturn, 1) := by decide +kernel
theorem dX11_deal_22 : decode cX11_deal 22 = .ok (.aload_n 0, 1) := by decide +kernel
theorem dX11_deal_23 : decode cX11_deal 23 = .ok (.getfield 91, 3) := by decide +kernel
theorem dX11_deal_26 : decode cX11_deal 26 = .ok (.iload_n 1, 1) := by decide +kernel
theorem dX11_deal_27 : decode cX11_deal 27 = .ok (.invokevirtual 353, 3) := by decide +kernel
theorem dX11_deal_30 : decode cX11_deal 30 = .ok (.ireturn, 1) := by decide +kernel
theorem dX11_count_0 : decode cX11_count 0 = .ok (.iload_n 1, 1) := by decide +kernel
theorem dX11_count_1 : decode cX11_count 1 = .ok (.tableswitch 170 0 11 #[63, 71, 79, 87, 95, 103, 111, 119, 127, 135, 143, 151], 63) := by decide +kernel
theorem dX11_count_64 : decode cX11_count 64 = .ok (.aload_n 0, 1) := by decide +kernel
theorem dX11_count_65 : decode cX11_count 65 = .ok (.getfield 12, 3) := by decide +kernel
theorem dX11_count_68 : decode cX11_count 68 = .ok (.getfield 139, 3) := by decide +kernel
theorem dX11_count_71 : decode cX11_count 71 = .ok (.ireturn, 1) := by decide +kernel
theorem dX11_count_72 : decode cX11_count 72 = .ok (.aload_n 0, 1) := by decide +kernel
theorem dX11_count_73 : decode cX11_count 73 = .ok (.getfield 12, 3) := by decide +kernel
theorem dX11_count_76 : decode cX11_count 76 = .ok (.getfield 356, 3) := by decide +kernel
theorem dX11_count_79 : decode cX11_count 79 = .ok (.ireturn, 1) := by decide +kernel
theorem dX11_count_80 : decode cX11_count 80 = .ok (.aload_n 0, 1) := by decide +kernel
theorem dX11_count_81 : decode cX11_count 81 = .ok (.getfield 12, 3) := by decide +kernel
theorem dX11_count_84 : decode cX11_count 84 = .ok (.getfield 359, 3) := by decide +kernel
theorem dX11_count_87 : decode cX11_count 87 = .ok (.ireturn, 1) := by decide +kernel
theorem dX11_count_88 : decode cX11_count 88 = .ok (.aload_n 0, 1) := by decide +kernel
theorem dX11_count_89 : decode cX11_count 89 = .ok (.getfield 12, 3) := by decide +kernel
theorem dX11_count_92 : decode cX11_count 92 = .ok (.getfield 362, 3) := by decide +kernel
theorem dX11_count_95 : decode cX11_count 95 = .ok (.ireturn, 1) := by decide +kernel
theorem dX11_count_96 : decode cX11_count 96 = .ok (.aload_n 0, 1) := by decide +kernel
theorem dX11_count_97 : decode cX11_count 97 = .ok (.getfield 26, 3) := by decide +kernel
theorem dX11_count_100 : decode cX11_count 100 = .ok (.getfield 183, 3) := by decide +kernel
theorem dX11_count_103 : decode cX11_count 103 = .ok (.ireturn, 1) := by decide +kernel
theorem dX11_count_104 : decode cX11_count 104 = .ok (.aload_n 0, 1) := by decide +kernel
theorem dX11_count_105 : decode cX11_count 105 = .ok (.getfield 26, 3) := by decide +kernel
theorem dX11_count_108 : decode cX11_count 108 = .ok (.getfield 225, 3) := by decide +kernel
theorem dX11_count_111 : decode cX11_count 111 = .ok (.ireturn, 1) := by decide +kernel
theorem dX11_count_112 : decode cX11_count 112 = .ok (.aload_n 0, 1) := by decide +kernel
theorem dX11_count_113 : decode cX11_count 113 = .ok (.getfield 26, 3) := by decide +kernel
theorem dX11_count_116 : decode cX11_count 116 = .ok (.getfield 160, 3) := by decide +kernel
theorem dX11_count_119 : decode cX11_count 119 = .ok (.ireturn, 1) := by decide +kernel
theorem dX11_count_120 : decode cX11_count 120 = .ok (.aload_n 0, 1) := by decide +kernel
theorem dX11_count_121 : decode cX11_count 121 = .ok (.getfield 57, 3) := by decide +kernel
theorem dX11_count_124 : decode cX11_count 124 = .ok (.getfield 125, 3) := by decide +kernel
theorem dX11_count_127 : decode cX11_count 127 = .ok (.ireturn, 1) := by decide +kernel
theorem dX11_count_128 : decode cX11_count 128 = .ok (.aload_n 0, 1) := by decide +kernel
theorem dX11_count_129 : decode cX11_count 129 = .ok (.getfield 75, 3) := by decide +kernel
theorem dX11_count_132 : decode cX11_count 132 = .ok (.getfield 283, 3) := by decide +kernel
theorem dX11_count_135 : decode cX11_count 135 = .ok (.ireturn, 1) := by decide +kernel
theorem dX11_count_136 : decode cX11_count 136 = .ok (.aload_n 0, 1) := by decide +kernel
theorem dX11_count_137 : decode cX11_count 137 = .ok (.getfield 19, 3) := by decide +kernel
theorem dX11_count_140 : decode cX11_count 140 = .ok (.getfield 153, 3) := by decide +kernel
theorem dX11_count_143 : decode cX11_count 143 = .ok (.ireturn, 1) := by decide +kernel
theorem dX11_count_144 : decode cX11_count 144 = .ok (.aload_n 0, 1) := by decide +kernel
theorem dX11_count_145 : decode cX11_count 145 = .ok (.getfield 57, 3) := by decide +kernel
theorem dX11_count_148 : decode cX11_count 148 = .ok (.invokevirtual 365, 3) := by decide +kernel
theorem dX11_count_151 : decode cX11_count 151 = .ok (.ireturn, 1) := by decide +kernel
theorem dX11_count_152 : decode cX11_count 152 = .ok (.aload_n 0, 1) := by decide +kernel
theorem dX11_count_153 : decode cX11_count 153 = .ok (.getfield 57, 3) := by decide +kernel
theorem dX11_count_156 : decode cX11_count 156 = .ok (.getfield 308, 3) := by decide +kernel
theorem dX11_count_159 : decode cX11_count 159 = .ok (.aload_n 0, 1) := by decide +kernel
theorem dX11_count_160 : decode cX11_count 160 = .ok (.getfield 57, 3) := by decide +kernel
theorem dX11_count_163 : decode cX11_count 163 = .ok (.getfield 312, 3) := by decide +kernel
theorem dX11_count_166 : decode cX11_count 166 = .ok (.lor, 1) := by decide +kernel
theorem dX11_count_167 : decode cX11_count 167 = .ok (.invokestatic 368, 3) := by decide +kernel
theorem dX11_count_170 : decode cX11_count 170 = .ok (.ireturn, 1) := by decide +kernel
theorem dX11_count_171 : decode cX11_count 171 = .ok (.iconst (-1), 1) := by decide +kernel
theorem dX11_count_172 : decode cX11_count 172 = .ok (.ireturn, 1) := by decide +kernel
theorem dX11_at_0 : decode cX11_at 0 = .ok (.iload_n 1, 1) := by decide +kernel
theorem dX11_at_1 : decode cX11_at 1 = .ok (.ifCond .lt 15, 3) := by decide +kernel
theorem dX11_at_4 : decode cX11_at 4 = .ok (.iload_n 1, 1) := by decide +kernel
theorem dX11_at_5 : decode cX11_at 5 = .ok (.aload_n 0, 1) := by decide +kernel
theorem dX11_at_6 : decode cX11_at 6 = .ok (.arraylength, 1) := by decide +kernel
theorem dX11_at_7 : decode cX11_at 7 = .ok (.if_icmp .ge 9, 3) := by decide +kernel
theorem dX11_at_10 : decode cX11_at 10 = .ok (.aload_n 0, 1) := by decide +kernel
theorem dX11_at_11 : decode cX11_at 11 = .ok (.iload_n 1, 1) := by decide +kernel
theorem dX11_at_12 : decode cX11_at 12 = .ok (.iaload, 1) := by decide +kernel
theorem dX11_at_13 : decode cX11_at 13 = .ok (.goto 4, 3) := by decide +kernel
theorem dX11_at_16 : decode cX11_at 16 = .ok (.iconst 0, 1) := by decide +kernel
theorem dX11_at_17 : decode cX11_at 17 = .ok (.ireturn, 1) := by decide +kernel
theorem dX11_set_0 : decode cX11_set 0 = .ok (.iload_n 1, 1) := by decide +kernel
theorem dX11_set_1 : decode cX11_set 1 = .ok (.ifCond .lt 13, 3) := by decide +kernel
theorem dX11_set_4 : decode cX11_set 4 = .ok (.iload_n 1, 1) := by decide +kernel
theorem dX11_set_5 : decode cX11_set 5 = .ok (.aload_n 0, 1) := by decide +kernel
theorem dX11_set_6 : decode cX11_set 6 = .ok (.arraylength, 1) := by decide +kernel
theorem dX11_set_7 : decode cX11_set 7 = .ok (.if_icmp .ge 7, 3) := by decide +kernel
theorem dX11_set_10 : decode cX11_set 10 = .ok (.aload_n 0, 1) := by decide +kernel
theorem dX11_set_11 : decode cX11_set 11 = .ok (.iload_n 1, 1) := by decide +kernel
theorem dX11_set_12 : decode cX11_set 12 = .ok (.iload_n 2, 1) := by decide +kernel
theorem dX11_set_13 : decode cX11_set 13 = .ok (.iastore, 1) := by decide +kernel
theorem dX11_set_14 : decode cX11_set 14 = .ok (.return_, 1) := by decide +kernel
theorem dX11_at__0 : decode cX11_at_ 0 = .ok (.iload_n 1, 1) := by decide +kernel
theorem dX11_at__1 : decode cX11_at_ 1 = .ok (.ifCond .lt 15, 3) := by decide +kernel
theorem dX11_at__4 : decode cX11_at_ 4 = .ok (.iload_n 1, 1) := by decide +kernel
theorem dX11_at__5 : decode cX11_at_ 5 = .ok (.aload_n 0, 1) := by decide +kernel
theorem dX11_at__6 : decode cX11_at_ 6 = .ok (.arraylength, 1) := by decide +kernel
theorem dX11_at__7 : decode cX11_at_ 7 = .ok (.if_icmp .ge 9, 3) := by decide +kernel
theorem dX11_at__10 : decode cX11_at_ 10 = .ok (.aload_n 0, 1) := by decide +kernel
theorem dX11_at__11 : decode cX11_at_ 11 = .ok (.iload_n 1, 1) := by decide +kernel
theorem dX11_at__12 : decode cX11_at_ 12 = .ok (.laload, 1) := by decide +kernel
theorem dX11_at__13 : decode cX11_at_ 13 = .ok (.goto 4, 3) := by decide +kernel
theorem dX11_at__16 : decode cX11_at_ 16 = .ok (.lconst 0, 1) := by decide +kernel
theorem dX11_at__17 : decode cX11_at_ 17 = .ok (.lreturn, 1) := by decide +kernel
theorem dX11_set__0 : decode cX11_set_ 0 = .ok (.iload_n 1, 1) := by decide +kernel
theorem dX11_set__1 : decode cX11_set_ 1 = .ok (.ifCond .lt 13, 3) := by decide +kernel
theorem dX11_set__4 : decode cX11_set_ 4 = .ok (.iload_n 1, 1) := by decide +kernel
theorem dX11_set__5 : decode cX11_set_ 5 = .ok (.aload_n 0, 1) := by decide +kernel
theorem dX11_set__6 : decode cX11_set_ 6 = .ok (.arraylength, 1) := by decide +kernel
theorem dX11_set__7 : decode cX11_set_ 7 = .ok (.if_icmp .ge 7, 3) := by decide +kernel
theorem dX11_set__10 : decode cX11_set_ 10 = .ok (.aload_n 0, 1) := by decide +kernel
theorem dX11_set__11 : decode cX11_set_ 11 = .ok (.iload_n 1, 1) := by decide +kernel
theorem dX11_set__12 : decode cX11_set_ 12 = .ok (.lload_n 2, 1) := by decide +kernel
theorem dX11_set__13 : decode cX11_set_ 13 = .ok (.lastore, 1) := by decide +kernel
theorem dX11_set__14 : decode cX11_set_ 14 = .ok (.return_, 1) := by decide +kernel
theorem dX11_fill_0 : decode cX11_fill 0 = .ok (.iconst 0, 1) := by decide +kernel
theorem dX11_fill_1 : decode cX11_fill 1 = .ok (.istore_n 2, 1) := by decide +kernel
theorem dX11_fill_2 : decode cX11_fill 2 = .ok (.iload_n 2, 1) := by decide +kernel
theorem dX11_fill_3 : decode cX11_fill 3 = .ok (.aload_n 0, 1) := by decide +kernel
theorem dX11_fill_4 : decode cX11_fill 4 = .ok (.arraylength, 1) := by decide +kernel
theorem dX11_fill_5 : decode cX11_fill 5 = .ok (.if_icmp .ge 13, 3) := by decide +kernel
theorem dX11_fill_8 : decode cX11_fill 8 = .ok (.aload_n 0, 1) := by decide +kernel
theorem dX11_fill_9 : decode cX11_fill 9 = .ok (.iload_n 2, 1) := by decide +kernel
theorem dX11_fill_10 : decode cX11_fill 10 = .ok (.iload_n 1, 1) := by decide +kernel
theorem dX11_fill_11 : decode cX11_fill 11 = .ok (.iastore, 1) := by decide +kernel
theorem dX11_fill_12 : decode cX11_fill 12 = .ok (.iinc 2 1, 3) := by decide +kernel
theorem dX11_fill_15 : decode cX11_fill 15 = .ok (.goto (-13), 3) := by decide +kernel
theorem dX11_fill_18 : decode cX11_fill 18 = .ok (.return_, 1) := by decide +kernel
theorem dX11_copy_0 : decode cX11_copy 0 = .ok (.iconst 0, 1) := by decide +kernel
theorem dX11_copy_1 : decode cX11_copy 1 = .ok (.istore_n 2, 1) := by decide +kernel
theorem dX11_copy_2 : decode cX11_copy 2 = .ok (.iload_n 2, 1) := by decide +kernel
theorem dX11_copy_3 : decode cX11_copy 3 = .ok (.aload_n 0, 1) := by decide +kernel
theorem dX11_copy_4 : decode cX11_copy 4 = .ok (.arraylength, 1) := by decide +kernel
theorem dX11_copy_5 : decode cX11_copy 5 = .ok (.if_icmp .ge 21, 3) := by decide +kernel
theorem dX11_copy_8 : decode cX11_copy 8 = .ok (.iload_n 2, 1) := by decide +kernel
theorem dX11_copy_9 : decode cX11_copy 9 = .ok (.aload_n 1, 1) := by decide +kernel
theorem dX11_copy_10 : decode cX11_copy 10 = .ok (.arraylength, 1) := by decide +kernel
theorem dX11_copy_11 : decode cX11_copy 11 = .ok (.if_icmp .ge 15, 3) := by decide +kernel
theorem dX11_copy_14 : decode cX11_copy 14 = .ok (.aload_n 1, 1) := by decide +kernel
theorem dX11_copy_15 : decode cX11_copy 15 = .ok (.iload_n 2, 1) := by decide +kernel
theorem dX11_copy_16 : decode cX11_copy 16 = .ok (.aload_n 0, 1) := by decide +kernel
theorem dX11_copy_17 : decode cX11_copy 17 = .ok (.iload_n 2, 1) := by decide +kernel
theorem dX11_copy_18 : decode cX11_copy 18 = .ok (.iaload, 1) := by decide +kernel
theorem dX11_copy_19 : decode cX11_copy 19 = .ok (.iastore, 1) := by decide +kernel
theorem dX11_copy_20 : decode cX11_copy 20 = .ok (.iinc 2 1, 3) := by decide +kernel
theorem dX11_copy_23 : decode cX11_copy 23 = .ok (.goto (-21), 3) := by decide +kernel
theorem dX11_copy_26 : decode cX11_copy 26 = .ok (.return_, 1) := by decide +kernel
theorem dX11_kindOf_0 : decode cX11_kindOf 0 = .ok (.iload_n 0, 1) := by decide +kernel
theorem dX11_kindOf_1 : decode cX11_kindOf 1 = .ok (.sipush 200, 3) := by decide +kernel
theorem dX11_kindOf_4 : decode cX11_kindOf 4 = .ok (.if_icmp .lt 7, 3) := by decide +kernel
theorem dX11_kindOf_7 : decode cX11_kindOf 7 = .ok (.iconst 2, 1) := by decide +kernel
theorem dX11_kindOf_8 : decode cX11_kindOf 8 = .ok (.goto 14, 3) := by decide +kernel
theorem dX11_kindOf_11 : decode cX11_kindOf 11 = .ok (.iload_n 0, 1) := by decide +kernel
theorem dX11_kindOf_12 : decode cX11_kindOf 12 = .ok (.bipush 100, 2) := by decide +kernel
theorem dX11_kindOf_14 : decode cX11_kindOf 14 = .ok (.if_icmp .lt 7, 3) := by decide +kernel
theorem dX11_kindOf_17 : decode cX11_kindOf 17 = .ok (.iconst 1, 1) := by decide +kernel
theorem dX11_kindOf_18 : decode cX11_kindOf 18 = .ok (.goto 4, 3) := by decide +kernel
theorem dX11_kindOf_21 : decode cX11_kindOf 21 = .ok (.iconst 0, 1) := by decide +kernel
theorem dX11_kindOf_22 : decode cX11_kindOf 22 = .ok (.ireturn, 1) := by decide +kernel
theorem dX12_thrown_0 : decode cX12_thrown 0 = .ok (.aload_n 0, 1) := by decide +kernel
theorem dX12_thrown_1 : decode cX12_thrown 1 = .ok (.getfield 1, 3) := by decide +kernel
theorem dX12_thrown_4 : decode cX12_thrown 4 = .ok (.ireturn, 1) := by decide +kernel
theorem dX12_within_0 : decode cX12_within 0 = .ok (.iload_n 0, 1) := by decide +kernel
theorem dX12_within_1 : decode cX12_within 1 = .ok (.iload_n 1, 1) := by decide +kernel
theorem dX12_within_2 : decode cX12_within 2 = .ok (.if_icmp .lt 12, 3) := by decide +kernel
theorem dX12_within_5 : decode cX12_within 5 = .ok (.iload_n 0, 1) := by decide +kernel
theorem dX12_within_6 : decode cX12_within 6 = .ok (.iload_n 2, 1) := by decide +kernel
theorem dX12_within_7 : decode cX12_within 7 = .ok (.if_icmp .gt 7, 3) := by decide +kernel
theorem dX12_within_10 : decode cX12_within 10 = .ok (.iconst 1, 1) := by decide +kernel
theorem dX12_within_11 : decode cX12_within 11 = .ok (.goto 4, 3) := by decide +kernel
theorem dX12_within_14 : decode cX12_within 14 = .ok (.iconst 0, 1) := by decide +kernel
theorem dX12_within_15 : decode cX12_within 15 = .ok (.ireturn, 1) := by decide +kernel
theorem dX12_init_0 : decode cX12_init 0 = .ok (.aload_n 0, 1) := by decide +kernel
theorem dX12_init_1 : decode cX12_init 1 = .ok (.invokespecial 7, 3) := by decide +kernel
theorem dX12_init_4 : decode cX12_init 4 = .ok (.aload_n 0, 1) := by decide +kernel
theorem dX12_init_5 : decode cX12_init 5 = .ok (.bipush 12, 2) := by decide +kernel
theorem dX12_init_7 : decode cX12_init 7 = .ok (.newarray .int, 2) := by decide +kernel
theorem dX12_init_9 : decode cX12_init 9 = .ok (.putfield 13, 3) := by decide +kernel
theorem dX12_init_12 : decode cX12_init 12 = .ok (.aload_n 0, 1) := by decide +kernel
theorem dX12_init_13 : decode cX12_init 13 = .ok (.bipush 48, 2) := by decide +kernel
theorem dX12_init_15 : decode cX12_init 15 = .ok (.newarray .int, 2) := by decide +kernel
theorem dX12_init_17 : decode cX12_init 17 = .ok (.putfield 17, 3) := by decide +kernel
theorem dX12_init_20 : decode cX12_init 20 = .ok (.aload_n 0, 1) := by decide +kernel
theorem dX12_init_21 : decode cX12_init 21 = .ok (.bipush 48, 2) := by decide +kernel
theorem dX12_init_23 : decode cX12_init 23 = .ok (.newarray .int, 2) := by decide +kernel
theorem dX12_init_25 : decode cX12_init 25 = .ok (.putfield 20, 3) := by decide +kernel
theorem dX12_init_28 : decode cX12_init 28 = .ok (.aload_n 0, 1) := by decide +kernel
theorem dX12_init_29 : decode cX12_init 29 = .ok (.iconst (-1), 1) := by decide +kernel
theorem dX12_init_30 : decode cX12_init 30 = .ok (.putfield 23, 3) := by decide +kernel
theorem dX12_init_33 : decode cX12_init 33 = .ok (.aload_n 0, 1) := by decide +kernel
theorem dX12_init_34 : decode cX12_init 34 = .ok (.bipush 24, 2) := by decide +kernel
theorem dX12_init_36 : decode cX12_init 36 = .ok (.newarray .int, 2) := by decide +kernel
theorem dX12_init_38 : decode cX12_init 38 = .ok (.putfield 26, 3) := by decide +kernel
theorem dX12_init_41 : decode cX12_init 41 = .ok (.aload_n 0, 1) := by decide +kernel
theorem dX12_init_42 : decode cX12_init 42 = .ok (.bipush 40, 2) := by decide +kernel
theorem dX12_init_44 : decode cX12_init 44 = .ok (.newarray .int, 2) := by decide +kernel
theorem dX12_init_46 : decode cX12_init 46 = .ok (.putfield 29, 3) := by decide +kernel
theorem dX12_init_49 : decode cX12_init 49 = .ok (.aload_n 0, 1) := by decide +kernel
theorem dX12_init_50 : decode cX12_init 50 = .ok (.bipush 40, 2) := by decide +kernel
theorem dX12_init_52 : decode cX12_init 52 = .ok (.newarray .int, 2) := by decide +kernel
theorem dX12_init_54 : decode cX12_init 54 = .ok (.putfield 32, 3) := by decide +kernel
theorem dX12_init_57 : decode cX12_init 57 = .ok (.aload_n 0, 1) := by decide +kernel
theorem dX12_init_58 : decode cX12_init 58 = .ok (.sipush 240, 3) := by decide +kernel
theorem dX12_init_61 : decode cX12_init 61 = .ok (.newarray .int, 2) := by decide +kernel
theorem dX12_init_63 : decode cX12_init 63 = .ok (.putfield 35, 3) := by decide +kernel
theorem dX12_init_66 : decode cX12_init 66 = .ok (.aload_n 0, 1) := by decide +kernel
theorem dX12_init_67 : decode cX12_init 67 = .ok (.sipush 240, 3) := by decide +kernel
theorem dX12_init_70 : decode cX12_init 70 = .ok (.newarray .int, 2) := by decide +kernel
theorem dX12_init_72 : decode cX12_init 72 = .ok (.putfield 38, 3) := by decide +kernel
theorem dX12_init_75 : decode cX12_init 75 = .ok (.aload_n 0, 1) := by decide +kernel
theorem dX12_init_76 : decode cX12_init 76 = .ok (.iconst (-1), 1) := by decide +kernel
theorem dX12_init_77 : decode cX12_init 77 = .ok (.putfield 41, 3) := by decide +kernel
theorem dX12_init_80 : decode cX12_init 80 = .ok (.aload_n 0, 1) := by decide +kernel
theorem dX12_init_81 : decode cX12_init 81 = .ok (.bipush 24, 2) := by decide +kernel
theorem dX12_init_83 : decode cX12_init 83 = .ok (.newarray .int, 2) := by decide +kernel
theorem dX12_init_85 : decode cX12_init 85 = .ok (.putfield 44, 3) := by decide +kernel
theorem dX12_init_88 : decode cX12_init 88 = .ok (.aload_n 0, 1) := by decide +kernel
theorem dX12_init_89 : decode cX12_init 89 = .ok (.bipush 40, 2) := by decide +kernel
theorem dX12_init_91 : decode cX12_init 91 = .ok (.newarray .int, 2) := by decide +kernel
theorem dX12_init_93 : decode cX12_init 93 = .ok (.putfield 47, 3) := by decide +kernel
theorem dX12_init_96 : decode cX12_init 96 = .ok (.aload_n 0, 1) := by decide +kernel
theorem dX12_init_97 : decode cX12_init 97 = .ok (.bipush 10, 2) := by decide +kernel
theorem dX12_init_99 : decode cX12_init 99 = .ok (.newarray .int, 2) := by decide +kernel
theorem dX12_init_101 : decode cX12_init 101 = .ok (.putfield 50, 3) := by decide +kernel
theorem dX12_init_104 : decode cX12_init 104 = .ok (.aload_n 0, 1) := by decide +kernel
theorem dX12_init_105 : decode cX12_init 105 = .ok (.bipush 24, 2) := by decide +kernel
theorem dX12_init_107 : decode cX12_init 107 = .ok (.newarray .int, 2) := by decide +kernel
theorem dX12_init_109 : decode cX12_init 109 = .ok (.putfield 53, 3) := by decide +kernel
theorem dX12_init_112 : decode cX12_init 112 = .ok (.aload_n 0, 1) := by decide +kernel
theorem dX12_init_113 : decode cX12_init 113 = .ok (.sipush 288, 3) := by decide +kernel
theorem dX12_init_116 : decode cX12_init 116 = .ok (.newarray .int, 2) := by decide +kernel
theorem dX12_init_118 : decode cX12_init 118 = .ok (.putfield 56, 3) := by decide +kernel
theorem dX12_init_121 : decode cX12_init 121 = .ok (.aload_n 0, 1) := by decide +kernel
theorem dX12_init_122 : decode cX12_init 122 = .ok (.sipush 288, 3) := by decide +kernel
theorem dX12_init_125 : decode cX12_init 125 = .ok (.newarray .boolean, 2) := by decide +kernel
theorem dX12_init_127 : decode cX12_init 127 = .ok (.putfield 59, 3) := by decide +kernel
theorem dX12_init_130 : decode cX12_init 130 = .ok (.aload_n 0, 1) := by decide +kernel
theorem dX12_init_131 : decode cX12_init 131 = .ok (.sipush 288, 3) := by decide +kernel
theorem dX12_init_134 : decode cX12_init 134 = .ok (.newarray .int, 2) := by decide +kernel
theorem dX12_init_136 : decode cX12_init 136 = .ok (.putfield 63, 3) := by decide +kernel
theorem dX12_init_139 : decode cX12_init 139 = .ok (.aload_n 0, 1) := by decide +kernel
theorem dX12_init_140 : decode cX12_init 140 = .ok (.bipush 61, 2) := by decide +kernel
theorem dX12_init_142 : decode cX12_init 142 = .ok (.newarray .int, 2) := by decide +kernel
theorem dX12_init_144 : decode cX12_init 144 = .ok (.putfield 66, 3) := by decide +kernel
theorem dX12_init_147 : decode cX12_init 147 = .ok (.aload_n 0, 1) := by decide +kernel
theorem dX12_init_148 : decode cX12_init 148 = .ok (.iconst (-1), 1) := by decide +kernel
theorem dX12_init_149 : decode cX12_init 149 = .ok (.putfield 69, 3) := by decide +kernel
theorem dX12_init_152 : decode cX12_init 152 = .ok (.aload_n 0, 1) := by decide +kernel
theorem dX12_init_153 : decode cX12_init 153 = .ok (.bipush 24, 2) := by decide +kernel
theorem dX12_init_155 : decode cX12_init 155 = .ok (.newarray .int, 2) := by decide +kernel
theorem dX12_init_157 : decode cX12_init 157 = .ok (.putfield 72, 3) := by decide +kernel
theorem dX12_init_160 : decode cX12_init 160 = .ok (.aload_n 0, 1) := by decide +kernel
theorem dX12_init_161 : decode cX12_init 161 = .ok (.bipush 40, 2) := by decide +kernel
theorem dX12_init_163 : decode cX12_init 163 = .ok (.newarray .int, 2) := by decide +kernel
theorem dX12_init_165 : decode cX12_init 165 = .ok (.putfield 75, 3) := by decide +kernel
theorem dX12_init_168 : decode cX12_init 168 = .ok (.aload_n 0, 1) := by decide +kernel
theorem dX12_init_169 : decode cX12_init 169 = .ok (.bipush 10, 2) := by decide +kernel
theorem dX12_init_171 : decode cX12_init 171 = .ok (.newarray .int, 2) := by decide +kernel
theorem dX12_init_173 : decode cX12_init 173 = .ok (.putfield 78, 3) := by decide +kernel
theorem dX12_init_176 : decode cX12_init 176 = .ok (.aload_n 0, 1) := by decide +kernel
theorem dX12_init_177 : decode cX12_init 177 = .ok (.bipush 24, 2) := by decide +kernel
theorem dX12_init_179 : decode cX12_init 179 = .ok (.newarray .int, 2) := by decide +kernel
theorem dX12_init_181 : decode cX12_init 181 = .ok (.putfield 81, 3) := by decide +kernel
theorem dX12_init_184 : decode cX12_init 184 = .ok (.aload_n 0, 1) := by decide +kernel
theorem dX12_init_185 : decode cX12_init 185 = .ok (.sipush 288, 3) := by decide +kernel
theorem dX12_init_188 : decode cX12_init 188 = .ok (.newarray .int, 2) := by decide +kernel
theorem dX12_init_190 : decode cX12_init 190 = .ok (.putfield 84, 3) := by decide +kernel
theorem dX12_init_193 : decode cX12_init 193 = .ok (.aload_n 0, 1) := by decide +kernel
theorem dX12_init_194 : decode cX12_init 194 = .ok (.sipush 288, 3) := by decide +kernel
theorem dX12_init_197 : decode cX12_init 197 = .ok (.newarray .boolean, 2) := by decide +kernel
theorem dX12_init_199 : decode cX12_init 199 = .ok (.putfield 87, 3) := by decide +kernel
theorem dX12_init_202 : decode cX12_init 202 = .ok (.aload_n 0, 1) := by decide +kernel
theorem dX12_init_203 : decode cX12_init 203 = .ok (.sipush 288, 3) := by decide +kernel
theorem dX12_init_206 : decode cX12_init 206 = .ok (.newarray .int, 2) := by decide +kernel
theorem dX12_init_208 : decode cX12_init 208 = .ok (.putfield 90, 3) := by decide +kernel
theorem dX12_init_211 : decode cX12_init 211 = .ok (.aload_n 0, 1) := by decide +kernel
theorem dX12_init_212 : decode cX12_init 212 = .ok (.bipush 61, 2) := by decide +kernel
theorem dX12_init_214 : decode cX12_init 214 = .ok (.newarray .int, 2) := by decide +kernel
theorem dX12_init_216 : decode cX12_init 216 = .ok (.putfield 93, 3) := by decide +kernel
theorem dX12_init_219 : decode cX12_init 219 = .ok (.aload_n 0, 1) := by decide +kernel
theorem dX12_init_220 : decode cX12_init 220 = .ok (.sipush 600, 3) := by decide +kernel
theorem dX12_init_223 : decode cX12_init 223 = .ok (.newarray .int, 2) := by decide +kernel
theorem dX12_init_225 : decode cX12_init 225 = .ok (.putfield 96, 3) := by decide +kernel
theorem dX12_init_228 : decode cX12_init 228 = .ok (.aload_n 0, 1) := by decide +kernel
theorem dX12_init_229 : decode cX12_init 229 = .ok (.sipush 600, 3) := by decide +kernel
theorem dX12_init_232 : decode cX12_init 232 = .ok (.newarray .int, 2) := by decide +kernel
theorem dX12_init_234 : decode cX12_init 234 = .ok (.putfield 99, 3) := by decide +kernel
theorem dX12_init_237 : decode cX12_init 237 = .ok (.aload_n 0, 1) := by decide +kernel
theorem dX12_init_238 : decode cX12_init 238 = .ok (.sipush 600, 3) := by decide +kernel
theorem dX12_init_241 : decode cX12_init 241 = .ok (.newarray .int, 2) := by decide +kernel
theorem dX12_init_243 : decode cX12_init 243 = .ok (.putfield 102, 3) := by decide +kernel
theorem dX12_init_246 : decode cX12_init 246 = .ok (.aload_n 0, 1) := by decide +kernel
theorem dX12_init_247 : decode cX12_init 247 = .ok (.sipush 600, 3) := by decide +kernel
theorem dX12_init_250 : decode cX12_init 250 = .ok (.newarray .int, 2) := by decide +kernel
theorem dX12_init_252 : decode cX12_init 252 = .ok (.putfield 105, 3) := by decide +kernel
theorem dX12_init_255 : decode cX12_init 255 = .ok (.aload_n 0, 1) := by decide +kernel
theorem dX12_init_256 : decode cX12_init 256 = .ok (.sipush 600, 3) := by decide +kernel
theorem dX12_init_259 : decode cX12_init 259 = .ok (.newarray .int, 2) := by decide +kernel
theorem dX12_init_261 : decode cX12_init 261 = .ok (.putfield 108, 3) := by decide +kernel
theorem dX12_init_264 : decode cX12_init 264 = .ok (.aload_n 0, 1) := by decide +kernel
theorem dX12_init_265 : decode cX12_init 265 = .ok (.sipush 3520, 3) := by decide +kernel
theorem dX12_init_268 : decode cX12_init 268 = .ok (.newarray .int, 2) := by decide +kernel
theorem dX12_init_270 : decode cX12_init 270 = .ok (.putfield 111, 3) := by decide +kernel
theorem dX12_init_273 : decode cX12_init 273 = .ok (.aload_n 0, 1) := by decide +kernel
theorem dX12_init_274 : decode cX12_init 274 = .ok (.bipush 11, 2) := by decide +kernel
theorem dX12_init_276 : decode cX12_init 276 = .ok (.newarray .int, 2) := by decide +kernel
theorem dX12_init_278 : decode cX12_init 278 = .ok (.putfield 114, 3) := by decide +kernel
theorem dX12_init_281 : decode cX12_init 281 = .ok (.aload_n 0, 1) := by decide +kernel
theorem dX12_init_282 : decode cX12_init 282 = .ok (.bipush 11, 2) := by decide +kernel
theorem dX12_init_284 : decode cX12_init 284 = .ok (.newarray .int, 2) := by decide +kernel
theorem dX12_init_286 : decode cX12_init 286 = .ok (.putfield 117, 3) := by decide +kernel
theorem dX12_init_289 : decode cX12_init 289 = .ok (.aload_n 0, 1) := by decide +kernel
theorem dX12_init_290 : decode cX12_init 290 = .ok (.sipush 165, 3) := by decide +kernel
theorem dX12_init_293 : decode cX12_init 293 = .ok (.newarray .int, 2) := by decide +kernel
theorem dX12_init_295 : decode cX12_init 295 = .ok (.putfield 120, 3) := by decide +kernel
theorem dX12_init_298 : decode cX12_init 298 = .ok (.aload_n 0, 1) := by decide +kernel
theorem dX12_init_299 : decode cX12_init 299 = .ok (.sipush 165, 3) := by decide +kernel
theorem dX12_init_302 : decode cX12_init 302 = .ok (.newarray .int, 2) := by decide +kernel
theorem dX12_init_304 : decode cX12_init 304 = .ok (.putfield 123, 3) := by decide +kernel
theorem dX12_init_307 : decode cX12_init 307 = .ok (.aload_n 0, 1) := by decide +kernel
theorem dX12_init_308 : decode cX12_init 308 = .ok (.sipush 165, 3) := by decide +kernel
theorem dX12_init_311 : decode cX12_init 311 = .ok (.newarray .int, 2) := by decide +kernel
theorem dX12_init_313 : decode cX12_init 313 = .ok (.putfield 126, 3) := by decide +kernel
theorem dX12_init_316 : decode cX12_init 316 = .ok (.aload_n 0, 1) := by decide +kernel
theorem dX12_init_317 : decode cX12_init 317 = .ok (.sipush 165, 3) := by decide +kernel
theorem dX12_init_320 : decode cX12_init 320 = .ok (.newarray .int, 2) := by decide +kernel
theorem dX12_init_322 : decode cX12_init 322 = .ok (.putfield 129, 3) := by decide +kernel
theorem dX12_init_325 : decode cX12_init 325 = .ok (.aload_n 0, 1) := by decide +kernel
