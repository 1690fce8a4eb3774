theorem dX12_comes_10 : decode cX12_comes 10 = .ok (.aload_n 0, 1) := by decide +kernel
theorem dX12_comes_11 : decode cX12_comes 11 = .ok (.getfield 44, 3) := by decide +kernel
theorem dX12_comes_14 : decode cX12_comes 14 = .ok (.aload_n 0, 1) := by decide +kernel
theorem dX12_comes_15 : decode cX12_comes 15 = .ok (.getfield 231, 3) := by decide +kernel
theorem dX12_comes_18 : decode cX12_comes 18 = .ok (.iconst 0, 1) := by decide +kernel
theorem dX12_comes_19 : decode cX12_comes 19 = .ok (.iastore, 1) := by decide +kernel
theorem dX12_comes_20 : decode cX12_comes 20 = .ok (.aload_n 0, 1) := by decide +kernel
theorem dX12_comes_21 : decode cX12_comes 21 = .ok (.aload_n 0, 1) := by decide +kernel
theorem dX12_comes_22 : decode cX12_comes 22 = .ok (.getfield 231, 3) := by decide +kernel
theorem dX12_comes_25 : decode cX12_comes 25 = .ok (.invokevirtual 519, 3) := by decide +kernel
theorem dX12_comes_28 : decode cX12_comes 28 = .ok (.aload_n 0, 1) := by decide +kernel
theorem dX12_comes_29 : decode cX12_comes 29 = .ok (.dup, 1) := by decide +kernel
theorem dX12_comes_30 : decode cX12_comes 30 = .ok (.getfield 231, 3) := by decide +kernel
theorem dX12_comes_33 : decode cX12_comes 33 = .ok (.iconst 1, 1) := by decide +kernel
theorem dX12_comes_34 : decode cX12_comes 34 = .ok (.iadd, 1) := by decide +kernel
theorem dX12_comes_35 : decode cX12_comes 35 = .ok (.putfield 231, 3) := by decide +kernel
theorem dX12_comes_38 : decode cX12_comes 38 = .ok (.aload_n 0, 1) := by decide +kernel
theorem dX12_comes_39 : decode cX12_comes 39 = .ok (.iconst 0, 1) := by decide +kernel
theorem dX12_comes_40 : decode cX12_comes 40 = .ok (.putfield 433, 3) := by decide +kernel
theorem dX12_comes_43 : decode cX12_comes 43 = .ok (.aload_n 0, 1) := by decide +kernel
theorem dX12_comes_44 : decode cX12_comes 44 = .ok (.getfield 231, 3) := by decide +kernel
theorem dX12_comes_47 : decode cX12_comes 47 = .ok (.iconst 1, 1) := by decide +kernel
theorem dX12_comes_48 : decode cX12_comes 48 = .ok (.isub, 1) := by decide +kernel
theorem dX12_comes_49 : decode cX12_comes 49 = .ok (.ireturn, 1) := by decide +kernel
theorem dX12_readChange_0 : decode cX12_readChange 0 = .ok (.aload_n 0, 1) := by decide +kernel
theorem dX12_readChange_1 : decode cX12_readChange 1 = .ok (.ldc_w 522, 3) := by decide +kernel
theorem dX12_readChange_4 : decode cX12_readChange 4 = .ok (.invokevirtual 329, 3) := by decide +kernel
theorem dX12_readChange_7 : decode cX12_readChange 7 = .ok (.ifCond .eq 7, 3) := by decide +kernel
theorem dX12_readChange_10 : decode cX12_readChange 10 = .ok (.iconst 0, 1) := by decide +kernel
theorem dX12_readChange_11 : decode cX12_readChange 11 = .ok (.goto 32, 3) := by decide +kernel
theorem dX12_readChange_14 : decode cX12_readChange 14 = .ok (.aload_n 0, 1) := by decide +kernel
theorem dX12_readChange_15 : decode cX12_readChange 15 = .ok (.ldc_w 524, 3) := by decide +kernel
theorem dX12_readChange_18 : decode cX12_readChange 18 = .ok (.invokevirtual 329, 3) := by decide +kernel
theorem dX12_readChange_21 : decode cX12_readChange 21 = .ok (.ifCond .eq 7, 3) := by decide +kernel
theorem dX12_readChange_24 : decode cX12_readChange 24 = .ok (.iconst 1, 1) := by decide +kernel
theorem dX12_readChange_25 : decode cX12_readChange 25 = .ok (.goto 18, 3) := by decide +kernel
theorem dX12_readChange_28 : decode cX12_readChange 28 = .ok (.aload_n 0, 1) := by decide +kernel
theorem dX12_readChange_29 : decode cX12_readChange 29 = .ok (.ldc_w 526, 3) := by decide +kernel
theorem dX12_readChange_32 : decode cX12_readChange 32 = .ok (.invokevirtual 329, 3) := by decide +kernel
theorem dX12_readChange_35 : decode cX12_readChange 35 = .ok (.ifCond .eq 7, 3) := by decide +kernel
theorem dX12_readChange_38 : decode cX12_readChange 38 = .ok (.iconst 2, 1) := by decide +kernel
theorem dX12_readChange_39 : decode cX12_readChange 39 = .ok (.goto 4, 3) := by decide +kernel
theorem dX12_readChange_42 : decode cX12_readChange 42 = .ok (.iconst (-1), 1) := by decide +kernel
theorem dX12_readChange_43 : decode cX12_readChange 43 = .ok (.istore_n 3, 1) := by decide +kernel
theorem dX12_readChange_44 : decode cX12_readChange 44 = .ok (.iload_n 3, 1) := by decide +kernel
theorem dX12_readChange_45 : decode cX12_readChange 45 = .ok (.iconst (-1), 1) := by decide +kernel
theorem dX12_readChange_46 : decode cX12_readChange 46 = .ok (.if_icmp .ne 11, 3) := by decide +kernel
theorem dX12_readChange_49 : decode cX12_readChange 49 = .ok (.aload_n 0, 1) := by decide +kernel
theorem dX12_readChange_50 : decode cX12_readChange 50 = .ok (.iconst 1, 1) := by decide +kernel
theorem dX12_readChange_51 : decode cX12_readChange 51 = .ok (.invokevirtual 325, 3) := by decide +kernel
theorem dX12_readChange_54 : decode cX12_readChange 54 = .ok (.goto 14, 3) := by decide +kernel
theorem dX12_readChange_57 : decode cX12_readChange 57 = .ok (.iload_n 2, 1) := by decide +kernel
theorem dX12_readChange_58 : decode cX12_readChange 58 = .ok (.bipush 6, 2) := by decide +kernel
theorem dX12_readChange_60 : decode cX12_readChange 60 = .ok (.if_icmp .ne 8, 3) := by decide +kernel
theorem dX12_readChange_63 : decode cX12_readChange 63 = .ok (.aload_n 0, 1) := by decide +kernel
theorem dX12_readChange_64 : decode cX12_readChange 64 = .ok (.iconst 4, 1) := by decide +kernel
theorem dX12_readChange_65 : decode cX12_readChange 65 = .ok (.invokevirtual 325, 3) := by decide +kernel
theorem dX12_readChange_68 : decode cX12_readChange 68 = .ok (.aload_n 0, 1) := by decide +kernel
theorem dX12_readChange_69 : decode cX12_readChange 69 = .ok (.invokevirtual 316, 3) := by decide +kernel
theorem dX12_readChange_72 : decode cX12_readChange 72 = .ok (.ifCond .ne 4, 3) := by decide +kernel
theorem dX12_readChange_75 : decode cX12_readChange 75 = .ok (.return_, 1) := by decide +kernel
theorem dX12_readChange_76 : decode cX12_readChange 76 = .ok (.aload_n 0, 1) := by decide +kernel
theorem dX12_readChange_77 : decode cX12_readChange 77 = .ok (.invokevirtual 322, 3) := by decide +kernel
theorem dX12_readChange_80 : decode cX12_readChange 80 = .ok (.iload_n 3, 1) := by decide +kernel
theorem dX12_readChange_81 : decode cX12_readChange 81 = .ok (.iconst 1, 1) := by decide +kernel
theorem dX12_readChange_82 : decode cX12_readChange 82 = .ok (.if_icmp .ne 17, 3) := by decide +kernel
theorem dX12_readChange_85 : decode cX12_readChange 85 = .ok (.aload_n 0, 1) := by decide +kernel
theorem dX12_readChange_86 : decode cX12_readChange 86 = .ok (.ldc_w 378, 3) := by decide +kernel
theorem dX12_readChange_89 : decode cX12_readChange 89 = .ok (.invokevirtual 329, 3) := by decide +kernel
theorem dX12_readChange_92 : decode cX12_readChange 92 = .ok (.ifCond .eq 7, 3) := by decide +kernel
theorem dX12_readChange_95 : decode cX12_readChange 95 = .ok (.iconst 1, 1) := by decide +kernel
theorem dX12_readChange_96 : decode cX12_readChange 96 = .ok (.goto 4, 3) := by decide +kernel
theorem dX12_readChange_99 : decode cX12_readChange 99 = .ok (.iconst 0, 1) := by decide +kernel
theorem dX12_readChange_100 : decode cX12_readChange 100 = .ok (.istore 4, 2) := by decide +kernel
theorem dX12_readChange_102 : decode cX12_readChange 102 = .ok (.iload 4, 2) := by decide +kernel
theorem dX12_readChange_104 : decode cX12_readChange 104 = .ok (.ifCond .eq 7, 3) := by decide +kernel
theorem dX12_readChange_107 : decode cX12_readChange 107 = .ok (.aload_n 0, 1) := by decide +kernel
theorem dX12_readChange_108 : decode cX12_readChange 108 = .ok (.invokevirtual 322, 3) := by decide +kernel
theorem dX12_readChange_111 : decode cX12_readChange 111 = .ok (.aload_n 0, 1) := by decide +kernel
theorem dX12_readChange_112 : decode cX12_readChange 112 = .ok (.bipush 60, 2) := by decide +kernel
theorem dX12_readChange_114 : decode cX12_readChange 114 = .ok (.invokevirtual 415, 3) := by decide +kernel
theorem dX12_readChange_117 : decode cX12_readChange 117 = .ok (.istore 5, 2) := by decide +kernel
theorem dX12_readChange_119 : decode cX12_readChange 119 = .ok (.aload_n 0, 1) := by decide +kernel
theorem dX12_readChange_120 : decode cX12_readChange 120 = .ok (.bipush 59, 2) := by decide +kernel
theorem dX12_readChange_122 : decode cX12_readChange 122 = .ok (.invokevirtual 369, 3) := by decide +kernel
theorem dX12_readChange_125 : decode cX12_readChange 125 = .ok (.aload_n 0, 1) := by decide +kernel
theorem dX12_readChange_126 : decode cX12_readChange 126 = .ok (.invokevirtual 316, 3) := by decide +kernel
theorem dX12_readChange_129 : decode cX12_readChange 129 = .ok (.ifCond .ne 4, 3) := by decide +kernel
theorem dX12_readChange_132 : decode cX12_readChange 132 = .ok (.return_, 1) := by decide +kernel
theorem dX12_readChange_133 : decode cX12_readChange 133 = .ok (.aload_n 0, 1) := by decide +kernel
theorem dX12_readChange_134 : decode cX12_readChange 134 = .ok (.getfield 35, 3) := by decide +kernel
theorem dX12_readChange_137 : decode cX12_readChange 137 = .ok (.bipush 6, 2) := by decide +kernel
theorem dX12_readChange_139 : decode cX12_readChange 139 = .ok (.iload_n 1, 1) := by decide +kernel
theorem dX12_readChange_140 : decode cX12_readChange 140 = .ok (.imul, 1) := by decide +kernel
theorem dX12_readChange_141 : decode cX12_readChange 141 = .ok (.iload_n 2, 1) := by decide +kernel
theorem dX12_readChange_142 : decode cX12_readChange 142 = .ok (.iadd, 1) := by decide +kernel
theorem dX12_readChange_143 : decode cX12_readChange 143 = .ok (.iload_n 3, 1) := by decide +kernel
theorem dX12_readChange_144 : decode cX12_readChange 144 = .ok (.iastore, 1) := by decide +kernel
theorem dX12_readChange_145 : decode cX12_readChange 145 = .ok (.aload_n 0, 1) := by decide +kernel
theorem dX12_readChange_146 : decode cX12_readChange 146 = .ok (.getfield 38, 3) := by decide +kernel
theorem dX12_readChange_149 : decode cX12_readChange 149 = .ok (.bipush 6, 2) := by decide +kernel
theorem dX12_readChange_151 : decode cX12_readChange 151 = .ok (.iload_n 1, 1) := by decide +kernel
theorem dX12_readChange_152 : decode cX12_readChange 152 = .ok (.imul, 1) := by decide +kernel
theorem dX12_readChange_153 : decode cX12_readChange 153 = .ok (.iload_n 2, 1) := by decide +kernel
theorem dX12_readChange_154 : decode cX12_readChange 154 = .ok (.iadd, 1) := by decide +kernel
theorem dX12_readChange_155 : decode cX12_readChange 155 = .ok (.iload 4, 2) := by decide +kernel
theorem dX12_readChange_157 : decode cX12_readChange 157 = .ok (.ifCond .eq 9, 3) := by decide +kernel
theorem dX12_readChange_160 : decode cX12_readChange 160 = .ok (.iload 5, 2) := by decide +kernel
theorem dX12_readChange_162 : decode cX12_readChange 162 = .ok (.ineg, 1) := by decide +kernel
theorem dX12_readChange_163 : decode cX12_readChange 163 = .ok (.goto 5, 3) := by decide +kernel
theorem dX12_readChange_166 : decode cX12_readChange 166 = .ok (.iload 5, 2) := by decide +kernel
theorem dX12_readChange_168 : decode cX12_readChange 168 = .ok (.iastore, 1) := by decide +kernel
theorem dX12_readChange_169 : decode cX12_readChange 169 = .ok (.return_, 1) := by decide +kernel
theorem dX12_amend_0 : decode cX12_amend 0 = .ok (.aload_n 0, 1) := by decide +kernel
theorem dX12_amend_1 : decode cX12_amend 1 = .ok (.iconst 0, 1) := by decide +kernel
theorem dX12_amend_2 : decode cX12_amend 2 = .ok (.putfield 1, 3) := by decide +kernel
theorem dX12_amend_5 : decode cX12_amend 5 = .ok (.aload_n 0, 1) := by decide +kernel
theorem dX12_amend_6 : decode cX12_amend 6 = .ok (.iload_n 1, 1) := by decide +kernel
theorem dX12_amend_7 : decode cX12_amend 7 = .ok (.invokevirtual 528, 3) := by decide +kernel
theorem dX12_amend_10 : decode cX12_amend 10 = .ok (.ifCond .eq 12, 3) := by decide +kernel
theorem dX12_amend_13 : decode cX12_amend 13 = .ok (.aload_n 0, 1) := by decide +kernel
theorem dX12_amend_14 : decode cX12_amend 14 = .ok (.getfield 237, 3) := by decide +kernel
theorem dX12_amend_17 : decode cX12_amend 17 = .ok (.bipush 40, 2) := by decide +kernel
theorem dX12_amend_19 : decode cX12_amend 19 = .ok (.if_icmp .ne 5, 3) := by decide +kernel
theorem dX12_amend_22 : decode cX12_amend 22 = .ok (.iconst (-1), 1) := by decide +kernel
theorem dX12_amend_23 : decode cX12_amend 23 = .ok (.ireturn, 1) := by decide +kernel
theorem dX12_amend_24 : decode cX12_amend 24 = .ok (.aload_n 0, 1) := by decide +kernel
theorem dX12_amend_25 : decode cX12_amend 25 = .ok (.invokevirtual 424, 3) := by decide +kernel
theorem dX12_amend_28 : decode cX12_amend 28 = .ok (.aload_n 0, 1) := by decide +kernel
theorem dX12_amend_29 : decode cX12_amend 29 = .ok (.aload_n 0, 1) := by decide +kernel
theorem dX12_amend_30 : decode cX12_amend 30 = .ok (.getfield 237, 3) := by decide +kernel
theorem dX12_amend_33 : decode cX12_amend 33 = .ok (.iconst 0, 1) := by decide +kernel
theorem dX12_amend_34 : decode cX12_amend 34 = .ok (.invokevirtual 531, 3) := by decide +kernel
theorem dX12_amend_37 : decode cX12_amend 37 = .ok (.iconst 1, 1) := by decide +kernel
theorem dX12_amend_38 : decode cX12_amend 38 = .ok (.istore_n 2, 1) := by decide +kernel
theorem dX12_amend_39 : decode cX12_amend 39 = .ok (.aload_n 0, 1) := by decide +kernel
theorem dX12_amend_40 : decode cX12_amend 40 = .ok (.invokevirtual 316, 3) := by decide +kernel
theorem dX12_amend_43 : decode cX12_amend 43 = .ok (.ifCond .eq 25, 3) := by decide +kernel
theorem dX12_amend_46 : decode cX12_amend 46 = .ok (.aload_n 0, 1) := by decide +kernel
theorem dX12_amend_47 : decode cX12_amend 47 = .ok (.getfield 285, 3) := by decide +kernel
theorem dX12_amend_50 : decode cX12_amend 50 = .ok (.ifCond .eq 18, 3) := by decide +kernel
theorem dX12_amend_53 : decode cX12_amend 53 = .ok (.aload_n 0, 1) := by decide +kernel
theorem dX12_amend_54 : decode cX12_amend 54 = .ok (.aload_n 0, 1) := by decide +kernel
theorem dX12_amend_55 : decode cX12_amend 55 = .ok (.getfield 237, 3) := by decide +kernel
theorem dX12_amend_58 : decode cX12_amend 58 = .ok (.iload_n 2, 1) := by decide +kernel
theorem dX12_amend_59 : decode cX12_amend 59 = .ok (.invokevirtual 531, 3) := by decide +kernel
theorem dX12_amend_62 : decode cX12_amend 62 = .ok (.iinc 2 1, 3) := by decide +kernel
theorem dX12_amend_65 : decode cX12_amend 65 = .ok (.goto (-26), 3) := by decide +kernel
theorem dX12_amend_68 : decode cX12_amend 68 = .ok (.aload_n 0, 1) := by decide +kernel
theorem dX12_amend_69 : decode cX12_amend 69 = .ok (.invokevirtual 430, 3) := by decide +kernel
theorem dX12_amend_72 : decode cX12_amend 72 = .ok (.istore_n 3, 1) := by decide +kernel
theorem dX12_amend_73 : decode cX12_amend 73 = .ok (.iload_n 3, 1) := by decide +kernel
theorem dX12_amend_74 : decode cX12_amend 74 = .ok (.ifCond .ge 5, 3) := by decide +kernel
theorem dX12_amend_77 : decode cX12_amend 77 = .ok (.iload_n 3, 1) := by decide +kernel
theorem dX12_amend_78 : decode cX12_amend 78 = .ok (.ireturn, 1) := by decide +kernel
theorem dX12_amend_79 : decode cX12_amend 79 = .ok (.aload_n 0, 1) := by decide +kernel
theorem dX12_amend_80 : decode cX12_amend 80 = .ok (.getfield 32, 3) := by decide +kernel
theorem dX12_amend_83 : decode cX12_amend 83 = .ok (.aload_n 0, 1) := by decide +kernel
theorem dX12_amend_84 : decode cX12_amend 84 = .ok (.getfield 237, 3) := by decide +kernel
theorem dX12_amend_87 : decode cX12_amend 87 = .ok (.iload_n 2, 1) := by decide +kernel
theorem dX12_amend_88 : decode cX12_amend 88 = .ok (.iastore, 1) := by decide +kernel
theorem dX12_amend_89 : decode cX12_amend 89 = .ok (.aload_n 0, 1) := by decide +kernel
theorem dX12_amend_90 : decode cX12_amend 90 = .ok (.getfield 29, 3) := by decide +kernel
theorem dX12_amend_93 : decode cX12_amend 93 = .ok (.aload_n 0, 1) := by decide +kernel
theorem dX12_amend_94 : decode cX12_amend 94 = .ok (.getfield 237, 3) := by decide +kernel
theorem dX12_amend_97 : decode cX12_amend 97 = .ok (.iload_n 1, 1) := by decide +kernel
theorem dX12_amend_98 : decode cX12_amend 98 = .ok (.iastore, 1) := by decide +kernel
theorem dX12_amend_99 : decode cX12_amend 99 = .ok (.aload_n 0, 1) := by decide +kernel
theorem dX12_amend_100 : decode cX12_amend 100 = .ok (.getfield 47, 3) := by decide +kernel
theorem dX12_amend_103 : decode cX12_amend 103 = .ok (.aload_n 0, 1) := by decide +kernel
theorem dX12_amend_104 : decode cX12_amend 104 = .ok (.getfield 237, 3) := by decide +kernel
theorem dX12_amend_107 : decode cX12_amend 107 = .ok (.iconst 0, 1) := by decide +kernel
theorem dX12_amend_108 : decode cX12_amend 108 = .ok (.iastore, 1) := by decide +kernel
theorem dX12_amend_109 : decode cX12_amend 109 = .ok (.aload_n 0, 1) := by decide +kernel
theorem dX12_amend_110 : decode cX12_amend 110 = .ok (.dup, 1) := by decide +kernel
theorem dX12_amend_111 : decode cX12_amend 111 = .ok (.getfield 237, 3) := by decide +kernel
theorem dX12_amend_114 : decode cX12_amend 114 = .ok (.iconst 1, 1) := by decide +kernel
theorem dX12_amend_115 : decode cX12_amend 115 = .ok (.iadd, 1) := by decide +kernel
theorem dX12_amend_116 : decode cX12_amend 116 = .ok (.putfield 237, 3) := by decide +kernel
theorem dX12_amend_119 : decode cX12_amend 119 = .ok (.aload_n 0, 1) := by decide +kernel
theorem dX12_amend_120 : decode cX12_amend 120 = .ok (.iconst 0, 1) := by decide +kernel
theorem dX12_amend_121 : decode cX12_amend 121 = .ok (.putfield 433, 3) := by decide +kernel
theorem dX12_amend_124 : decode cX12_amend 124 = .ok (.aload_n 0, 1) := by decide +kernel
theorem dX12_amend_125 : decode cX12_amend 125 = .ok (.getfield 237, 3) := by decide +kernel
theorem dX12_amend_128 : decode cX12_amend 128 = .ok (.iconst 1, 1) := by decide +kernel
theorem dX12_amend_129 : decode cX12_amend 129 = .ok (.isub, 1) := by decide +kernel
theorem dX12_amend_130 : decode cX12_amend 130 = .ok (.ireturn, 1) := by decide +kernel
theorem dX12_settles_0 : decode cX12_settles 0 = .ok (.aload_n 0, 1) := by decide +kernel
theorem dX12_settles_1 : decode cX12_settles 1 = .ok (.getfield 44, 3) := by decide +kernel
theorem dX12_settles_4 : decode cX12_settles 4 = .ok (.iload_n 1, 1) := by decide +kernel
theorem dX12_settles_5 : decode cX12_settles 5 = .ok (.iload_n 2, 1) := by decide +kernel
theorem dX12_settles_6 : decode cX12_settles 6 = .ok (.iastore, 1) := by decide +kernel
theorem dX12_settles_7 : decode cX12_settles 7 = .ok (.iconst 0, 1) := by decide +kernel
theorem dX12_settles_8 : decode cX12_settles 8 = .ok (.istore_n 3, 1) := by decide +kernel
theorem dX12_settles_9 : decode cX12_settles 9 = .ok (.iload_n 3, 1) := by decide +kernel
theorem dX12_settles_10 : decode cX12_settles 10 = .ok (.aload_n 0, 1) := by decide +kernel
theorem dX12_settles_11 : decode cX12_settles 11 = .ok (.getfield 237, 3) := by decide +kernel
theorem dX12_settles_14 : decode cX12_settles 14 = .ok (.if_icmp .ge 35, 3) := by decide +kernel
theorem dX12_settles_17 : decode cX12_settles 17 = .ok (.aload_n 0, 1) := by decide +kernel
theorem dX12_settles_18 : decode cX12_settles 18 = .ok (.getfield 29, 3) := by decide +kernel
theorem dX12_settles_21 : decode cX12_settles 21 = .ok (.iload_n 3, 1) := by decide +kernel
theorem dX12_settles_22 : decode cX12_settles 22 = .ok (.iaload, 1) := by decide +kernel
theorem dX12_settles_23 : decode cX12_settles 23 = .ok (.iload_n 1, 1) := by decide +kernel
theorem dX12_settles_24 : decode cX12_settles 24 = .ok (.if_icmp .ne 19, 3) := by decide +kernel
theorem dX12_settles_27 : decode cX12_settles 27 = .ok (.aload_n 0, 1) := by decide +kernel
theorem dX12_settles_28 : decode cX12_settles 28 = .ok (.getfield 47, 3) := by decide +kernel
theorem dX12_settles_31 : decode cX12_settles 31 = .ok (.iload_n 3, 1) := by decide +kernel
theorem dX12_settles_32 : decode cX12_settles 32 = .ok (.iaload, 1) := by decide +kernel
theorem dX12_settles_33 : decode cX12_settles 33 = .ok (.ifCond .ne 10, 3) := by decide +kernel
theorem dX12_settles_36 : decode cX12_settles 36 = .ok (.aload_n 0, 1) := by decide +kernel
theorem dX12_settles_37 : decode cX12_settles 37 = .ok (.getfield 47, 3) := by decide +kernel
theorem dX12_settles_40 : decode cX12_settles 40 = .ok (.iload_n 3, 1) := by decide +kernel
theorem dX12_settles_41 : decode cX12_settles 41 = .ok (.iconst 3, 1) := by decide +kernel
theorem dX12_settles_42 : decode cX12_settles 42 = .ok (.iastore, 1) := by decide +kernel
theorem dX12_settles_43 : decode cX12_settles 43 = .ok (.iinc 3 1, 3) := by decide +kernel
theorem dX12_settles_46 : decode cX12_settles 46 = .ok (.goto (-37), 3) := by decide +kernel
theorem dX12_settles_49 : decode cX12_settles 49 = .ok (.return_, 1) := by decide +kernel
theorem dX12_isContrary_0 : decode cX12_isContrary 0 = .ok (.iconst 0, 1) := by decide +kernel
theorem dX12_isContrary_1 : decode cX12_isContrary 1 = .ok (.istore_n 3, 1) := by decide +kernel
theorem dX12_isContrary_2 : decode cX12_isContrary 2 = .ok (.iload_n 3, 1) := by decide +kernel
theorem dX12_isContrary_3 : decode cX12_isContrary 3 = .ok (.aload_n 0, 1) := by decide +kernel
theorem dX12_isContrary_4 : decode cX12_isContrary 4 = .ok (.getfield 53, 3) := by decide +kernel
theorem dX12_isContrary_7 : decode cX12_isContrary 7 = .ok (.iload_n 1, 1) := by decide +kernel
theorem dX12_isContrary_8 : decode cX12_isContrary 8 = .ok (.iaload, 1) := by decide +kernel
theorem dX12_isContrary_9 : decode cX12_isContrary 9 = .ok (.if_icmp .ge 27, 3) := by decide +kernel
theorem dX12_isContrary_12 : decode cX12_isContrary 12 = .ok (.aload_n 0, 1) := by decide +kernel
theorem dX12_isContrary_13 : decode cX12_isContrary 13 = .ok (.getfield 56, 3) := by decide +kernel
theorem dX12_isContrary_16 : decode cX12_isContrary 16 = .ok (.bipush 12, 2) := by decide +kernel
theorem dX12_isContrary_18 : decode cX12_isContrary 18 = .ok (.iload_n 1, 1) := by decide +kernel
theorem dX12_isContrary_19 : decode cX12_isContrary 19 = .ok (.imul, 1) := by decide +kernel
theorem dX12_isContrary_20 : decode cX12_isContrary 20 = .ok (.iload_n 3, 1) := by decide +kernel
theorem dX12_isContrary_21 : decode cX12_isContrary 21 = .ok (.iadd, 1) := by decide +kernel
theorem dX12_isContrary_22 : decode cX12_isContrary 22 = .ok (.iaload, 1) := by decide +kernel
theorem dX12_isContrary_23 : decode cX12_isContrary 23 = .ok (.iload_n 2, 1) := by decide +kernel
theorem dX12_isContrary_24 : decode cX12_isContrary 24 = .ok (.ineg, 1) := by decide +kernel
theorem dX12_isContrary_25 : decode cX12_isContrary 25 = .ok (.if_icmp .ne 5, 3) := by decide +kernel
theorem dX12_isContrary_28 : decode cX12_isContrary 28 = .ok (.iconst 1, 1) := by decide +kernel
theorem dX12_isContrary_29 : decode cX12_isContrary 29 = .ok (.ireturn, 1) := by decide +kernel
theorem dX12_isContrary_30 : decode cX12_isContrary 30 = .ok (.iinc 3 1, 3) := by decide +kernel
theorem dX12_isContrary_33 : decode cX12_isContrary 33 = .ok (.goto (-31), 3) := by decide +kernel
theorem dX12_isContrary_36 : decode cX12_isContrary 36 = .ok (.iconst 0, 1) := by decide +kernel
theorem dX12_isContrary_37 : decode cX12_isContrary 37 = .ok (.ireturn, 1) := by decide +kernel
theorem dX12_passesMotion_0 : decode cX12_passesMotion 0 = .ok (.aload_n 0, 1) := by decide +kernel
theorem dX12_passesMotion_1 : decode cX12_passesMotion 1 = .ok (.iload_n 1, 1) := by decide +kernel
theorem dX12_passesMotion_2 : decode cX12_passesMotion 2 = .ok (.iconst 1, 1) := by decide +kernel
theorem dX12_passesMotion_3 : decode cX12_passesMotion 3 = .ok (.invokevirtual 534, 3) := by decide +kernel
theorem dX12_passesMotion_6 : decode cX12_passesMotion 6 = .ok (.iconst 0, 1) := by decide +kernel
theorem dX12_passesMotion_7 : decode cX12_passesMotion 7 = .ok (.istore_n 2, 1) := by decide +kernel
theorem dX12_passesMotion_8 : decode cX12_passesMotion 8 = .ok (.iload_n 2, 1) := by decide +kernel
theorem dX12_passesMotion_9 : decode cX12_passesMotion 9 = .ok (.aload_n 0, 1) := by decide +kernel
theorem dX12_passesMotion_10 : decode cX12_passesMotion 10 = .ok (.getfield 53, 3) := by decide +kernel
theorem dX12_passesMotion_13 : decode cX12_passesMotion 13 = .ok (.iload_n 1, 1) := by decide +kernel
theorem dX12_passesMotion_14 : decode cX12_passesMotion 14 = .ok (.iaload, 1) := by decide +kernel
theorem dX12_passesMotion_15 : decode cX12_passesMotion 15 = .ok (.if_icmp .ge 84, 3) := by decide +kernel
theorem dX12_passesMotion_18 : decode cX12_passesMotion 18 = .ok (.aload_n 0, 1) := by decide +kernel
theorem dX12_passesMotion_19 : decode cX12_passesMotion 19 = .ok (.getfield 56, 3) := by decide +kernel
theorem dX12_passesMotion_22 : decode cX12_passesMotion 22 = .ok (.bipush 12, 2) := by decide +kernel
theorem dX12_passesMotion_24 : decode cX12_passesMotion 24 = .ok (.iload_n 1, 1) := by decide +kernel
theorem dX12_passesMotion_25 : decode cX12_passesMotion 25 = .ok (.imul, 1) := by decide +kernel
theorem dX12_passesMotion_26 : decode cX12_passesMotion 26 = .ok (.iload_n 2, 1) := by decide +kernel
theorem dX12_passesMotion_27 : decode cX12_passesMotion 27 = .ok (.iadd, 1) := by decide +kernel
theorem dX12_passesMotion_28 : decode cX12_passesMotion 28 = .ok (.iaload, 1) := by decide +kernel
theorem dX12_passesMotion_29 : decode cX12_passesMotion 29 = .ok (.istore_n 3, 1) := by decide +kernel
theorem dX12_passesMotion_30 : decode cX12_passesMotion 30 = .ok (.aload_n 0, 1) := by decide +kernel
theorem dX12_passesMotion_31 : decode cX12_passesMotion 31 = .ok (.getfield 66, 3) := by decide +kernel
theorem dX12_passesMotion_34 : decode cX12_passesMotion 34 = .ok (.iload_n 3, 1) := by decide +kernel
theorem dX12_passesMotion_35 : decode cX12_passesMotion 35 = .ok (.invokestatic 489, 3) := by decide +kernel
theorem dX12_passesMotion_38 : decode cX12_passesMotion 38 = .ok (.iload_n 3, 1) := by decide +kernel
theorem dX12_passesMotion_39 : decode cX12_passesMotion 39 = .ok (.ifCond .le 7, 3) := by decide +kernel
theorem dX12_passesMotion_42 : decode cX12_passesMotion 42 = .ok (.iconst 1, 1) := by decide +kernel
theorem dX12_passesMotion_43 : decode cX12_passesMotion 43 = .ok (.goto 4, 3) := by decide +kernel
theorem dX12_passesMotion_46 : decode cX12_passesMotion 46 = .ok (.iconst (-1), 1) := by decide +kernel
theorem dX12_passesMotion_47 : decode cX12_passesMotion 47 = .ok (.iastore, 1) := by decide +kernel
theorem dX12_passesMotion_48 : decode cX12_passesMotion 48 = .ok (.iconst 0, 1) := by decide +kernel
theorem dX12_passesMotion_49 : decode cX12_passesMotion 49 = .ok (.istore 4, 2) := by decide +kernel
theorem dX12_passesMotion_51 : decode cX12_passesMotion 51 = .ok (.iload 4, 2) := by decide +kernel
theorem dX12_passesMotion_53 : decode cX12_passesMotion 53 = .ok (.aload_n 0, 1) := by decide +kernel
theorem dX12_passesMotion_54 : decode cX12_passesMotion 54 = .ok (.getfield 231, 3) := by decide +kernel
theorem dX12_passesMotion_57 : decode cX12_passesMotion 57 = .ok (.if_icmp .ge 36, 3) := by decide +kernel
theorem dX12_passesMotion_60 : decode cX12_passesMotion 60 = .ok (.aload_n 0, 1) := by decide +kernel
theorem dX12_passesMotion_61 : decode cX12_passesMotion 61 = .ok (.getfield 44, 3) := by decide +kernel
theorem dX12_passesMotion_64 : decode cX12_passesMotion 64 = .ok (.iload 4, 2) := by decide +kernel
theorem dX12_passesMotion_66 : decode cX12_passesMotion 66 = .ok (.iaload, 1) := by decide +kernel
theorem dX12_passesMotion_67 : decode cX12_passesMotion 67 = .ok (.ifCond .ne 20, 3) := by decide +kernel
theorem dX12_passesMotion_70 : decode cX12_passesMotion 70 = .ok (.aload_n 0, 1) := by decide +kernel
theorem dX12_passesMotion_71 : decode cX12_passesMotion 71 = .ok (.iload 4, 2) := by decide +kernel
theorem dX12_passesMotion_73 : decode cX12_passesMotion 73 = .ok (.iload_n 3, 1) := by decide +kernel
theorem dX12_passesMotion_74 : decode cX12_passesMotion 74 = .ok (.invokevirtual 537, 3) := by decide +kernel
theorem dX12_passesMotion_77 : decode cX12_passesMotion 77 = .ok (.ifCond .eq 10, 3) := by decide +kernel
theorem dX12_passesMotion_80 : decode cX12_passesMotion 80 = .ok (.aload_n 0, 1) := by decide +kernel
theorem dX12_passesMotion_81 : decode cX12_passesMotion 81 = .ok (.iload 4, 2) := by decide +kernel
theorem dX12_passesMotion_83 : decode cX12_passesMotion 83 = .ok (.iconst 3, 1) := by decide +kernel
theorem dX12_passesMotion_84 : decode cX12_passesMotion 84 = .ok (.invokevirtual 534, 3) := by decide +kernel
theorem dX12_passesMotion_87 : decode cX12_passesMotion 87 = .ok (.iinc 4 1, 3) := by decide +kernel
theorem dX12_passesMotion_90 : decode cX12_passesMotion 90 = .ok (.goto (-39), 3) := by decide +kernel
theorem dX12_passesMotion_93 : decode cX12_passesMotion 93 = .ok (.iinc 2 1, 3) := by decide +kernel
theorem dX12_passesMotion_96 : decode cX12_passesMotion 96 = .ok (.goto (-88), 3) := by decide +kernel
theorem dX12_passesMotion_99 : decode cX12_passesMotion 99 = .ok (.return_, 1) := by decide +kernel
theorem dX12_passesAmend_0 : decode cX12_passesAmend 0 = .ok (.aload_n 0, 1) := by decide +kernel
theorem dX12_passesAmend_1 : decode cX12_passesAmend 1 = .ok (.getfield 47, 3) := by decide +kernel
theorem dX12_passesAmend_4 : decode cX12_passesAmend 4 = .ok (.iload_n 1, 1) := by decide +kernel
theorem dX12_passesAmend_5 : decode cX12_passesAmend 5 = .ok (.iconst 1, 1) := by decide +kernel
theorem dX12_passesAmend_6 : decode cX12_passesAmend 6 = .ok (.iastore, 1) := by decide +kernel
theorem dX12_passesAmend_7 : decode cX12_passesAmend 7 = .ok (.aload_n 0, 1) := by decide +kernel
theorem dX12_passesAmend_8 : decode cX12_passesAmend 8 = .ok (.getfield 29, 3) := by decide +kernel
theorem dX12_passesAmend_11 : decode cX12_passesAmend 11 = .ok (.iload_n 1, 1) := by decide +kernel
theorem dX12_passesAmend_12 : decode cX12_passesAmend 12 = .ok (.iaload, 1) := by decide +kernel
theorem dX12_passesAmend_13 : decode cX12_passesAmend 13 = .ok (.istore_n 2, 1) := by decide +kernel
theorem dX12_passesAmend_14 : decode cX12_passesAmend 14 = .ok (.aload_n 0, 1) := by decide +kernel
theorem dX12_passesAmend_15 : decode cX12_passesAmend 15 = .ok (.iload_n 2, 1) := by decide +kernel
theorem dX12_passesAmend_16 : decode cX12_passesAmend 16 = .ok (.invokevirtual 492, 3) := by decide +kernel
theorem dX12_passesAmend_19 : decode cX12_passesAmend 19 = .ok (.aload_n 0, 1) := by decide +kernel
theorem dX12_passesAmend_20 : decode cX12_passesAmend 20 = .ok (.iload_n 1, 1) := by decide +kernel
theorem dX12_passesAmend_21 : decode cX12_passesAmend 21 = .ok (.invokevirtual 495, 3) := by decide +kernel
theorem dX12_passesAmend_24 : decode cX12_passesAmend 24 = .ok (.aload_n 0, 1) := by decide +kernel
theorem dX12_passesAmend_25 : decode cX12_passesAmend 25 = .ok (.iload_n 2, 1) := by decide +kernel
theorem dX12_passesAmend_26 : decode cX12_passesAmend 26 = .ok (.invokevirtual 519, 3) := by decide +kernel
theorem dX12_passesAmend_29 : decode cX12_passesAmend 29 = .ok (.aload_n 0, 1) := by decide +kernel
theorem dX12_passesAmend_30 : decode cX12_passesAmend 30 = .ok (.getfield 53, 3) := by decide +kernel
theorem dX12_passesAmend_33 : decode cX12_passesAmend 33 = .ok (.iload_n 2, 1) := by decide +kernel
theorem dX12_passesAmend_34 : decode cX12_passesAmend 34 = .ok (.iaload, 1) := by decide +kernel
theorem dX12_passesAmend_35 : decode cX12_passesAmend 35 = .ok (.ifCond .ne 9, 3) := by decide +kernel
theorem dX12_passesAmend_38 : decode cX12_passesAmend 38 = .ok (.aload_n 0, 1) := by decide +kernel
theorem dX12_passesAmend_39 : decode cX12_passesAmend 39 = .ok (.iload_n 2, 1) := by decide +kernel
theorem dX12_passesAmend_40 : decode cX12_passesAmend 40 = .ok (.iconst 3, 1) := by decide +kernel
theorem dX12_passesAmend_41 : decode cX12_passesAmend 41 = .ok (.invokevirtual 534, 3) := by decide +kernel
theorem dX12_passesAmend_44 : decode cX12_passesAmend 44 = .ok (.return_, 1) := by decide +kernel
theorem dX12_decides_0 : decode cX12_decides 0 = .ok (.aload_n 0, 1) := by decide +kernel
theorem dX12_decides_1 : decode cX12_decides 1 = .ok (.iload_n 1, 1) := by decide +kernel
theorem dX12_decides_2 : decode cX12_decides 2 = .ok (.iload_n 2, 1) := by decide +kernel
theorem dX12_decides_3 : decode cX12_decides 3 = .ok (.iconst 0, 1) := by decide +kernel
theorem dX12_decides_4 : decode cX12_decides 4 = .ok (.iconst (-1), 1) := by decide +kernel
theorem dX12_decides_5 : decode cX12_decides 5 = .ok (.iconst 1, 1) := by decide +kernel
theorem dX12_decides_6 : decode cX12_decides 6 = .ok (.invokevirtual 479, 3) := by decide +kernel
theorem dX12_decides_9 : decode cX12_decides 9 = .ok (.aload_n 0, 1) := by decide +kernel
theorem dX12_decides_10 : decode cX12_decides 10 = .ok (.iload_n 1, 1) := by decide +kernel
theorem dX12_decides_11 : decode cX12_decides 11 = .ok (.iload_n 2, 1) := by decide +kernel
theorem dX12_decides_12 : decode cX12_decides 12 = .ok (.aload_n 0, 1) := by decide +kernel
theorem dX12_decides_13 : decode cX12_decides 13 = .ok (.getfield 66, 3) := by decide +kernel
theorem dX12_decides_16 : decode cX12_decides 16 = .ok (.invokevirtual 541, 3) := by decide +kernel
theorem dX12_decides_19 : decode cX12_decides 19 = .ok (.istore 4, 2) := by decide +kernel
theorem dX12_decides_21 : decode cX12_decides 21 = .ok (.aload_n 0, 1) := by decide +kernel
theorem dX12_decides_22 : decode cX12_decides 22 = .ok (.getfield 161, 3) := by decide +kernel
theorem dX12_decides_25 : decode cX12_decides 25 = .ok (.bipush 7, 2) := by decide +kernel
theorem dX12_decides_27 : decode cX12_decides 27 = .ok (.iload_n 3, 1) := by decide +kernel
theorem dX12_decides_28 : decode cX12_decides 28 = .ok (.imul, 1) := by decide +kernel
theorem dX12_decides_29 : decode cX12_decides 29 = .ok (.iload_n 1, 1) := by decide +kernel
theorem dX12_decides_30 : decode cX12_decides 30 = .ok (.iastore, 1) := by decide +kernel
theorem dX12_decides_31 : decode cX12_decides 31 = .ok (.aload_n 0, 1) := by decide +kernel
theorem dX12_decides_32 : decode cX12_decides 32 = .ok (.getfield 161, 3) := by decide +kernel
theorem dX12_decides_35 : decode cX12_decides 35 = .ok (.bipush 7, 2) := by decide +kernel
theorem dX12_decides_37 : decode cX12_decides 37 = .ok (.iload_n 3, 1) := by decide +kernel
theorem dX12_decides_38 : decode cX12_decides 38 = .ok (.imul, 1) := by decide +kernel
theorem dX12_decides_39 : decode cX12_decides 39 = .ok (.iconst 1, 1) := by decide +kernel
theorem dX12_decides_40 : decode cX12_decides 40 = .ok (.iadd, 1) := by decide +kernel
theorem dX12_decides_41 : decode cX12_decides 41 = .ok (.iload_n 2, 1) := by decide +kernel
theorem dX12_decides_42 : decode cX12_decides 42 = .ok (.iastore, 1) := by decide +kernel
theorem dX12_decides_43 : decode cX12_decides 43 = .ok (.aload_n 0, 1) := by decide +kernel
theorem dX12_decides_44 : decode cX12_decides 44 = .ok (.getfield 161, 3) := by decide +kernel
theorem dX12_decides_47 : decode cX12_decides 47 = .ok (.bipush 7, 2) := by decide +kernel
theorem dX12_decides_49 : decode cX12_decides 49 = .ok (.iload_n 3, 1) := by decide +kernel
theorem dX12_decides_50 : decode cX12_decides 50 = .ok (.imul, 1) := by decide +kernel
theorem dX12_decides_51 : decode cX12_decides 51 = .ok (.iconst 2, 1) := by decide +kernel
theorem dX12_decides_52 : decode cX12_decides 52 = .ok (.iadd, 1) := by decide +kernel
theorem dX12_decides_53 : decode cX12_decides 53 = .ok (.aload_n 0, 1) := by decide +kernel
theorem dX12_decides_54 : decode cX12_decides 54 = .ok (.getfield 466, 3) := by decide +kernel
theorem dX12_decides_57 : decode cX12_decides 57 = .ok (.l2i, 1) := by decide +kernel
theorem dX12_decides_58 : decode cX12_decides 58 = .ok (.iastore, 1) := by decide +kernel
theorem dX12_decides_59 : decode cX12_decides 59 = .ok (.aload_n 0, 1) := by decide +kernel
theorem dX12_decides_60 : decode cX12_decides 60 = .ok (.getfield 161, 3) := by decide +kernel
theorem dX12_decides_63 : decode cX12_decides 63 = .ok (.bipush 7, 2) := by decide +kernel
theorem dX12_decides_65 : decode cX12_decides 65 = .ok (.iload_n 3, 1) := by decide +kernel
theorem dX12_decides_66 : decode cX12_decides 66 = .ok (.imul, 1) := by decide +kernel
theorem dX12_decides_67 : decode cX12_decides 67 = .ok (.iconst 3, 1) := by decide +kernel
theorem dX12_decides_68 : decode cX12_decides 68 = .ok (.iadd, 1) := by decide +kernel
theorem dX12_decides_69 : decode cX12_decides 69 = .ok (.aload_n 0, 1) := by decide +kernel
theorem dX12_decides_70 : decode cX12_decides 70 = .ok (.getfield 468, 3) := by decide +kernel
theorem dX12_decides_73 : decode cX12_decides 73 = .ok (.l2i, 1) := by decide +kernel
theorem dX12_decides_74 : decode cX12_decides 74 = .ok (.iastore, 1) := by decide +kernel
theorem dX12_decides_75 : decode cX12_decides 75 = .ok (.aload_n 0, 1) := by decide +kernel
theorem dX12_decides_76 : decode cX12_decides 76 = .ok (.getfield 161, 3) := by decide +kernel
theorem dX12_decides_79 : decode cX12_decides 79 = .ok (.bipush 7, 2) := by decide +kernel
theorem dX12_decides_81 : decode cX12_decides 81 = .ok (.iload_n 3, 1) := by decide +kernel
theorem dX12_decides_82 : decode cX12_decides 82 = .ok (.imul, 1) := by decide +kernel
theorem dX12_decides_83 : decode cX12_decides 83 = .ok (.iconst 4, 1) := by decide +kernel
theorem dX12_decides_84 : decode cX12_decides 84 = .ok (.iadd, 1) := by decide +kernel
theorem dX12_decides_85 : decode cX12_decides 85 = .ok (.aload_n 0, 1) := by decide +kernel
theorem dX12_decides_86 : decode cX12_decides 86 = .ok (.getfield 463, 3) := by decide +kernel
theorem dX12_decides_89 : decode cX12_decides 89 = .ok (.l2i, 1) := by decide +kernel
theorem dX12_decides_90 : decode cX12_decides 90 = .ok (.iastore, 1) := by decide +kernel
theorem dX12_decides_91 : decode cX12_decides 91 = .ok (.aload_n 0, 1) := by decide +kernel
theorem dX12_decides_92 : decode cX12_decides 92 = .ok (.getfield 161, 3) := by decide +kernel
theorem dX12_decides_95 : decode cX12_decides 95 = .ok (.bipush 7, 2) := by decide +kernel
theorem dX12_decides_97 : decode cX12_decides 97 = .ok (.iload_n 3, 1) := by decide +kernel
theorem dX12_decides_98 : decode cX12_decides 98 = .ok (.imul, 1) := by decide +kernel
theorem dX12_decides_99 : decode cX12_decides 99 = .ok (.iconst 5, 1) := by decide +kernel
theorem dX12_decides_100 : decode cX12_decides 100 = .ok (.iadd, 1) := by decide +kernel
theorem dX12_decides_101 : decode cX12_decides 101 = .ok (.iload 4, 2) := by decide +kernel
theorem dX12_decides_103 : decode cX12_decides 103 = .ok (.ifCond .eq 7, 3) := by decide +kernel
theorem dX12_decides_106 : decode cX12_decides 106 = .ok (.iconst 1, 1) := by decide +kernel
theorem dX12_decides_107 : decode cX12_decides 107 = .ok (.goto 4, 3) := by decide +kernel
theorem dX12_decides_110 : decode cX12_decides 110 = .ok (.iconst 0, 1) := by decide +kernel
theorem dX12_decides_111 : decode cX12_decides 111 = .ok (.iastore, 1) := by decide +kernel
theorem dX12_decides_112 : decode cX12_decides 112 = .ok (.aload_n 0, 1) := by decide +kernel
theorem dX12_decides_113 : decode cX12_decides 113 = .ok (.getfield 161, 3) := by decide +kernel
theorem dX12_decides_116 : decode cX12_decides 116 = .ok (.bipush 7, 2) := by decide +kernel
theorem dX12_decides_118 : decode cX12_decides 118 = .ok (.iload_n 3, 1) := by decide +kernel
theorem dX12_decides_119 : decode cX12_decides 119 = .ok (.imul, 1) := by decide +kernel
theorem dX12_decides_120 : decode cX12_decides 120 = .ok (.bipush 6, 2) := by decide +kernel
theorem dX12_decides_122 : decode cX12_decides 122 = .ok (.iadd, 1) := by decide +kernel
theorem dX12_decides_123 : decode cX12_decides 123 = .ok (.iconst 0, 1) := by decide +kernel
theorem dX12_decides_124 : decode cX12_decides 124 = .ok (.iastore, 1) := by decide +kernel
theorem dX12_decides_125 : decode cX12_decides 125 = .ok (.iconst 0, 1) := by decide +kernel
theorem dX12_decides_126 : decode cX12_decides 126 = .ok (.istore 5, 2) := by decide +kernel
theorem dX12_decides_128 : decode cX12_decides 128 = .ok (.iload 5, 2) := by decide +kernel
theorem dX12_decides_130 : decode cX12_decides 130 = .ok (.aload_n 0, 1) := by decide +kernel
theorem dX12_decides_131 : decode cX12_decides 131 = .ok (.getfield 209, 3) := by decide +kernel
theorem dX12_decides_134 : decode cX12_decides 134 = .ok (.if_icmp .ge 35, 3) := by decide +kernel
theorem dX12_decides_137 : decode cX12_decides 137 = .ok (.aload_n 0, 1) := by decide +kernel
theorem dX12_decides_138 : decode cX12_decides 138 = .ok (.getfield 145, 3) := by decide +kernel
theorem dX12_decides_141 : decode cX12_decides 141 = .ok (.iload 5, 2) := by decide +kernel
theorem dX12_decides_143 : decode cX12_decides 143 = .ok (.baload, 1) := by decide +kernel
theorem dX12_decides_144 : decode cX12_decides 144 = .ok (.ifCond .eq 19, 3) := by decide +kernel
theorem dX12_decides_147 : decode cX12_decides 147 = .ok (.aload_n 0, 1) := by decide +kernel
theorem dX12_decides_148 : decode cX12_decides 148 = .ok (.getfield 161, 3) := by decide +kernel
theorem dX12_decides_151 : decode cX12_decides 151 = .ok (.bipush 7, 2) := by decide +kernel
theorem dX12_decides_153 : decode cX12_decides 153 = .ok (.iload_n 3, 1) := by decide +kernel
theorem dX12_decides_154 : decode cX12_decides 154 = .ok (.imul, 1) := by decide +kernel
theorem dX12_decides_155 : decode cX12_decides 155 = .ok (.bipush 6, 2) := by decide +kernel
theorem dX12_decides_157 : decode cX12_decides 157 = .ok (.iadd, 1) := by decide +kernel
theorem dX12_decides_158 : decode cX12_decides 158 = .ok (.dup2, 1) := by decide +kernel
theorem dX12_decides_159 : decode cX12_decides 159 = .ok (.iaload, 1) := by decide +kernel
theorem dX12_decides_160 : decode cX12_decides 160 = .ok (.iconst 1, 1) := by decide +kernel
theorem dX12_decides_161 : decode cX12_decides 161 = .ok (.iadd, 1) := by decide +kernel
theorem dX12_decides_162 : decode cX12_decides 162 = .ok (.iastore, 1) := by decide +kernel
theorem dX12_decides_163 : decode cX12_decides 163 = .ok (.iinc 5 1, 3) := by decide +kernel
theorem dX12_decides_166 : decode cX12_decides 166 = .ok (.goto (-38), 3) := by decide +kernel
theorem dX12_decides_169 : decode cX12_decides 169 = .ok (.iload_n 1, 1) := by decide +kernel
theorem dX12_decides_170 : decode cX12_decides 170 = .ok (.bipush 100, 2) := by decide +kernel
theorem dX12_decides_172 : decode cX12_decides 172 = .ok (.if_icmp .ge 25, 3) := by decide +kernel
theorem dX12_decides_175 : decode cX12_decides 175 = .ok (.iload 4, 2) := by decide +kernel
theorem dX12_decides_177 : decode cX12_decides 177 = .ok (.ifCond .eq 11, 3) := by decide +kernel
theorem dX12_decides_180 : decode cX12_decides 180 = .ok (.aload_n 0, 1) := by decide +kernel
theorem dX12_decides_181 : decode cX12_decides 181 = .ok (.iload_n 1, 1) := by decide +kernel
theorem dX12_decides_182 : decode cX12_decides 182 = .ok (.invokevirtual 545, 3) := by decide +kernel
theorem dX12_decides_185 : decode cX12_decides 185 = .ok (.goto 82, 3) := by decide +kernel
theorem dX12_decides_188 : decode cX12_decides 188 = .ok (.aload_n 0, 1) := by decide +kernel
theorem dX12_decides_189 : decode cX12_decides 189 = .ok (.iload_n 1, 1) := by decide +kernel
theorem dX12_decides_190 : decode cX12_decides 190 = .ok (.iconst 2, 1) := by decide +kernel
theorem dX12_decides_191 : decode cX12_decides 191 = .ok (.invokevirtual 534, 3) := by decide +kernel
theorem dX12_decides_194 : decode cX12_decides 194 = .ok (.goto 73, 3) := by decide +kernel
theorem dX12_decides_197 : decode cX12_decides 197 = .ok (.iload_n 1, 1) := by decide +kernel
theorem dX12_decides_198 : decode cX12_decides 198 = .ok (.sipush 200, 3) := by decide +kernel
theorem dX12_decides_201 : decode cX12_decides 201 = .ok (.if_icmp .ge 32, 3) := by decide +kernel
theorem dX12_decides_204 : decode cX12_decides 204 = .ok (.iload 4, 2) := by decide +kernel
theorem dX12_decides_206 : decode cX12_decides 206 = .ok (.ifCond .eq 14, 3) := by decide +kernel
theorem dX12_decides_209 : decode cX12_decides 209 = .ok (.aload_n 0, 1) := by decide +kernel
theorem dX12_decides_210 : decode cX12_decides 210 = .ok (.iload_n 1, 1) := by decide +kernel
theorem dX12_decides_211 : decode cX12_decides 211 = .ok (.bipush 100, 2) := by decide +kernel
theorem dX12_decides_213 : decode cX12_decides 213 = .ok (.isub, 1) := by decide +kernel
theorem dX12_decides_214 : decode cX12_decides 214 = .ok (.invokevirtual 548, 3) := by decide +kernel
theorem dX12_decides_217 : decode cX12_decides 217 = .ok (.goto 50, 3) := by decide +kernel
theorem dX12_decides_220 : decode cX12_decides 220 = .ok (.aload_n 0, 1) := by decide +kernel
theorem dX12_decides_221 : decode cX12_decides 221 = .ok (.getfield 47, 3) := by decide +kernel
theorem dX12_decides_224 : decode cX12_decides 224 = .ok (.iload_n 1, 1) := by decide +kernel
theorem dX12_decides_225 : decode cX12_decides 225 = .ok (.bipush 100, 2) := by decide +kernel
theorem dX12_decides_227 : decode cX12_decides 227 = .ok (.isub, 1) := by decide +kernel
theorem dX12_decides_228 : decode cX12_decides 228 = .ok (.iconst 2, 1) := by decide +kernel
theorem dX12_decides_229 : decode cX12_decides 229 = .ok (.iastore, 1) := by decide +kernel
theorem dX12_decides_230 : decode cX12_decides 230 = .ok (.goto 37, 3) := by decide +kernel
theorem dX12_decides_233 : decode cX12_decides 233 = .ok (.aload_n 0, 1) := by decide +kernel
theorem dX12_decides_234 : decode cX12_decides 234 = .ok (.getfield 50, 3) := by decide +kernel
theorem dX12_decides_237 : decode cX12_decides 237 = .ok (.iload_n 1, 1) := by decide +kernel
theorem dX12_decides_238 : decode cX12_decides 238 = .ok (.sipush 200, 3) := by decide +kernel
theorem dX12_decides_241 : decode cX12_decides 241 = .ok (.isub, 1) := by decide +kernel
theorem dX12_decides_242 : decode cX12_decides 242 = .ok (.iload 4, 2) := by decide +kernel
theorem dX12_decides_244 : decode cX12_decides 244 = .ok (.ifCond .eq 7, 3) := by decide +kernel
theorem dX12_decides_247 : decode cX12_decides 247 = .ok (.iconst 1, 1) := by decide +kernel
theorem dX12_decides_248 : decode cX12_decides 248 = .ok (.goto 4, 3) := by decide +kernel
theorem dX12_decides_251 : decode cX12_decides 251 = .ok (.iconst 2, 1) := by decide +kernel
theorem dX12_decides_252 : decode cX12_decides 252 = .ok (.iastore, 1) := by decide +kernel
theorem dX12_decides_253 : decode cX12_decides 253 = .ok (.iload 4, 2) := by decide +kernel
theorem dX12_decides_255 : decode cX12_decides 255 = .ok (.ifCond .eq 12, 3) := by decide +kernel
theorem dX12_decides_258 : decode cX12_decides 258 = .ok (.aload_n 0, 1) := by decide +kernel
theorem dX12_decides_259 : decode cX12_decides 259 = .ok (.iload_n 1, 1) := by decide +kernel
theorem dX12_decides_260 : decode cX12_decides 260 = .ok (.sipush 200, 3) := by decide +kernel
theorem dX12_decides_263 : decode cX12_decides 263 = .ok (.isub, 1) := by decide +kernel
theorem dX12_decides_264 : decode cX12_decides 264 = .ok (.putfield 41, 3) := by decide +kernel
theorem dX12_decides_267 : decode cX12_decides 267 = .ok (.iload 4, 2) := by decide +kernel
theorem dX12_decides_269 : decode cX12_decides 269 = .ok (.ifCond .eq 7, 3) := by decide +kernel
theorem dX12_decides_272 : decode cX12_decides 272 = .ok (.iconst 1, 1) := by decide +kernel
theorem dX12_decides_273 : decode cX12_decides 273 = .ok (.goto 4, 3) := by decide +kernel
theorem dX12_decides_276 : decode cX12_decides 276 = .ok (.iconst 0, 1) := by decide +kernel
theorem dX12_decides_277 : decode cX12_decides 277 = .ok (.ireturn, 1) := by decide +kernel
theorem dX12_decide_0 : decode cX12_decide 0 = .ok (.aload_n 0, 1) := by decide +kernel
theorem dX12_decide_1 : decode cX12_decide 1 = .ok (.iconst 0, 1) := by decide +kernel
theorem dX12_decide_2 : decode cX12_decide 2 = .ok (.putfield 1, 3) := by decide +kernel
theorem dX12_decide_5 : decode cX12_decide 5 = .ok (.aload_n 0, 1) := by decide +kernel
theorem dX12_decide_6 : decode cX12_decide 6 = .ok (.iload_n 1, 1) := by decide +kernel
theorem dX12_decide_7 : decode cX12_decide 7 = .ok (.invokevirtual 243, 3) := by decide +kernel
theorem dX12_decide_10 : decode cX12_decide 10 = .ok (.ifCond .eq 20, 3) := by decide +kernel
theorem dX12_decide_13 : decode cX12_decide 13 = .ok (.aload_n 0, 1) := by decide +kernel
theorem dX12_decide_14 : decode cX12_decide 14 = .ok (.iload_n 1, 1) := by decide +kernel
theorem dX12_decide_15 : decode cX12_decide 15 = .ok (.invokevirtual 246, 3) := by decide +kernel
theorem dX12_decide_18 : decode cX12_decide 18 = .ok (.ifCond .ne 12, 3) := by decide +kernel
theorem dX12_decide_21 : decode cX12_decide 21 = .ok (.aload_n 0, 1) := by decide +kernel
theorem dX12_decide_22 : decode cX12_decide 22 = .ok (.getfield 551, 3) := by decide +kernel
theorem dX12_decide_25 : decode cX12_decide 25 = .ok (.bipush 100, 2) := by decide +kernel
theorem dX12_decide_27 : decode cX12_decide 27 = .ok (.if_icmp .ne 5, 3) := by decide +kernel
theorem dX12_decide_30 : decode cX12_decide 30 = .ok (.iconst (-1), 1) := by decide +kernel
theorem dX12_decide_31 : decode cX12_decide 31 = .ok (.ireturn, 1) := by decide +kernel
theorem dX12_decide_32 : decode cX12_decide 32 = .ok (.aload_n 0, 1) := by decide +kernel
theorem dX12_decide_33 : decode cX12_decide 33 = .ok (.invokevirtual 554, 3) := by decide +kernel
theorem dX12_decide_36 : decode cX12_decide 36 = .ok (.iconst 0, 1) := by decide +kernel
theorem dX12_decide_37 : decode cX12_decide 37 = .ok (.istore_n 2, 1) := by decide +kernel
theorem dX12_decide_38 : decode cX12_decide 38 = .ok (.iload_n 2, 1) := by decide +kernel
theorem dX12_decide_39 : decode cX12_decide 39 = .ok (.bipush 12, 2) := by decide +kernel
theorem dX12_decide_41 : decode cX12_decide 41 = .ok (.if_icmp .ge 16, 3) := by decide +kernel
theorem dX12_decide_44 : decode cX12_decide 44 = .ok (.aload_n 0, 1) := by decide +kernel
theorem dX12_decide_45 : decode cX12_decide 45 = .ok (.getfield 145, 3) := by decide +kernel
theorem dX12_decide_48 : decode cX12_decide 48 = .ok (.iload_n 2, 1) := by decide +kernel
theorem dX12_decide_49 : decode cX12_decide 49 = .ok (.iconst 0, 1) := by decide +kernel
theorem dX12_decide_50 : decode cX12_decide 50 = .ok (.bastore, 1) := by decide +kernel
theorem dX12_decide_51 : decode cX12_decide 51 = .ok (.iinc 2 1, 3) := by decide +kernel
theorem dX12_decide_54 : decode cX12_decide 54 = .ok (.goto (-16), 3) := by decide +kernel
theorem dX12_decide_57 : decode cX12_decide 57 = .ok (.aload_n 0, 1) := by decide +kernel
theorem dX12_decide_58 : decode cX12_decide 58 = .ok (.iconst 1, 1) := by decide +kernel
theorem dX12_decide_59 : decode cX12_decide 59 = .ok (.putfield 433, 3) := by decide +kernel
theorem dX12_decide_62 : decode cX12_decide 62 = .ok (.aload_n 0, 1) := by decide +kernel
theorem dX12_decide_63 : decode cX12_decide 63 = .ok (.dup, 1) := by decide +kernel
theorem dX12_decide_64 : decode cX12_decide 64 = .ok (.getfield 551, 3) := by decide +kernel
theorem dX12_decide_67 : decode cX12_decide 67 = .ok (.iconst 1, 1) := by decide +kernel
theorem dX12_decide_68 : decode cX12_decide 68 = .ok (.iadd, 1) := by decide +kernel
theorem dX12_decide_69 : decode cX12_decide 69 = .ok (.putfield 551, 3) := by decide +kernel
theorem dX12_decide_72 : decode cX12_decide 72 = .ok (.aload_n 0, 1) := by decide +kernel
theorem dX12_decide_73 : decode cX12_decide 73 = .ok (.iload_n 1, 1) := by decide +kernel
theorem dX12_decide_74 : decode cX12_decide 74 = .ok (.aload_n 0, 1) := by decide +kernel
theorem dX12_decide_75 : decode cX12_decide 75 = .ok (.getfield 212, 3) := by decide +kernel
theorem dX12_decide_78 : decode cX12_decide 78 = .ok (.aload_n 0, 1) := by decide +kernel
theorem dX12_decide_79 : decode cX12_decide 79 = .ok (.getfield 551, 3) := by decide +kernel
theorem dX12_decide_82 : decode cX12_decide 82 = .ok (.iconst 1, 1) := by decide +kernel
theorem dX12_decide_83 : decode cX12_decide 83 = .ok (.isub, 1) := by decide +kernel
theorem dX12_decide_84 : decode cX12_decide 84 = .ok (.invokevirtual 557, 3) := by decide +kernel
theorem dX12_decide_87 : decode cX12_decide 87 = .ok (.ireturn, 1) := by decide +kernel
theorem dX12_voids_0 : decode cX12_voids 0 = .ok (.aload_n 0, 1) := by decide +kernel
theorem dX12_voids_1 : decode cX12_voids 1 = .ok (.iconst 0, 1) := by decide +kernel
theorem dX12_voids_2 : decode cX12_voids 2 = .ok (.putfield 1, 3) := by decide +kernel
theorem dX12_voids_5 : decode cX12_voids 5 = .ok (.aload_n 0, 1) := by decide +kernel
theorem dX12_voids_6 : decode cX12_voids 6 = .ok (.iload_n 1, 1) := by decide +kernel
theorem dX12_voids_7 : decode cX12_voids 7 = .ok (.invokevirtual 219, 3) := by decide +kernel
theorem dX12_voids_10 : decode cX12_voids 10 = .ok (.ifCond .eq 19, 3) := by decide +kernel
theorem dX12_voids_13 : decode cX12_voids 13 = .ok (.aload_n 0, 1) := by decide +kernel
theorem dX12_voids_14 : decode cX12_voids 14 = .ok (.getfield 433, 3) := by decide +kernel
theorem dX12_voids_17 : decode cX12_voids 17 = .ok (.ifCond .eq 12, 3) := by decide +kernel
theorem dX12_voids_20 : decode cX12_voids 20 = .ok (.aload_n 0, 1) := by decide +kernel
theorem dX12_voids_21 : decode cX12_voids 21 = .ok (.getfield 145, 3) := by decide +kernel
theorem dX12_voids_24 : decode cX12_voids 24 = .ok (.iload_n 1, 1) := by decide +kernel
theorem dX12_voids_25 : decode cX12_voids 25 = .ok (.baload, 1) := by decide +kernel
theorem dX12_voids_26 : decode cX12_voids 26 = .ok (.ifCond .eq 5, 3) := by decide +kernel
theorem dX12_voids_29 : decode cX12_voids 29 = .ok (.iconst (-1), 1) := by decide +kernel
theorem dX12_voids_30 : decode cX12_voids 30 = .ok (.ireturn, 1) := by decide +kernel
theorem dX12_voids_31 : decode cX12_voids 31 = .ok (.bipush 7, 2) := by decide +kernel
theorem dX12_voids_33 : decode cX12_voids 33 = .ok (.aload_n 0, 1) := by decide +kernel
theorem dX12_voids_34 : decode cX12_voids 34 = .ok (.getfield 551, 3) := by decide +kernel
theorem dX12_voids_37 : decode cX12_voids 37 = .ok (.iconst 1, 1) := by decide +kernel
theorem dX12_voids_38 : decode cX12_voids 38 = .ok (.isub, 1) := by decide +kernel
theorem dX12_voids_39 : decode cX12_voids 39 = .ok (.imul, 1) := by decide +kernel
theorem dX12_voids_40 : decode cX12_voids 40 = .ok (.istore_n 2, 1) := by decide +kernel
theorem dX12_voids_41 : decode cX12_voids 41 = .ok (.aload_n 0, 1) := by decide +kernel
theorem dX12_voids_42 : decode cX12_voids 42 = .ok (.iload_n 1, 1) := by decide +kernel
theorem dX12_voids_43 : decode cX12_voids 43 = .ok (.aload_n 0, 1) := by decide +kernel
theorem dX12_voids_44 : decode cX12_voids 44 = .ok (.getfield 161, 3) := by decide +kernel
theorem dX12_voids_47 : decode cX12_voids 47 = .ok (.iload_n 2, 1) := by decide +kernel
theorem dX12_voids_48 : decode cX12_voids 48 = .ok (.iaload, 1) := by decide +kernel
theorem dX12_voids_49 : decode cX12_voids 49 = .ok (.aload_n 0, 1) := by decide +kernel
theorem dX12_voids_50 : decode cX12_voids 50 = .ok (.getfield 161, 3) := by decide +kernel
theorem dX12_voids_53 : decode cX12_voids 53 = .ok (.iload_n 2, 1) := by decide +kernel
theorem dX12_voids_54 : decode cX12_voids 54 = .ok (.iconst 1, 1) := by decide +kernel
theorem dX12_voids_55 : decode cX12_voids 55 = .ok (.iadd, 1) := by decide +kernel
theorem dX12_voids_56 : decode cX12_voids 56 = .ok (.iaload, 1) := by decide +kernel
theorem dX12_voids_57 : decode cX12_voids 57 = .ok (.invokevirtual 273, 3) := by decide +kernel
theorem dX12_voids_60 : decode cX12_voids 60 = .ok (.iconst 2, 1) := by decide +kernel
theorem dX12_voids_61 : decode cX12_voids 61 = .ok (.if_icmp .ne 5, 3) := by decide +kernel
theorem dX12_voids_64 : decode cX12_voids 64 = .ok (.iconst (-1), 1) := by decide +kernel
theorem dX12_voids_65 : decode cX12_voids 65 = .ok (.ireturn, 1) := by decide +kernel
theorem dX12_voids_66 : decode cX12_voids 66 = .ok (.aload_n 0, 1) := by decide +kernel
theorem dX12_voids_67 : decode cX12_voids 67 = .ok (.invokevirtual 560, 3) := by decide +kernel
theorem dX12_voids_70 : decode cX12_voids 70 = .ok (.aload_n 0, 1) := by decide +kernel
theorem dX12_voids_71 : decode cX12_voids 71 = .ok (.getfield 145, 3) := by decide +kernel
theorem dX12_voids_74 : decode cX12_voids 74 = .ok (.iload_n 1, 1) := by decide +kernel
theorem dX12_voids_75 : decode cX12_voids 75 = .ok (.iconst 1, 1) := by decide +kernel
theorem dX12_voids_76 : decode cX12_voids 76 = .ok (.bastore, 1) := by decide +kernel
theorem dX12_voids_77 : decode cX12_voids 77 = .ok (.aload_n 0, 1) := by decide +kernel
theorem dX12_voids_78 : decode cX12_voids 78 = .ok (.aload_n 0, 1) := by decide +kernel
theorem dX12_voids_79 : decode cX12_voids 79 = .ok (.getfield 161, 3) := by decide +kernel
theorem dX12_voids_82 : decode cX12_voids 82 = .ok (.iload_n 2, 1) := by decide +kernel
theorem dX12_voids_83 : decode cX12_voids 83 = .ok (.iaload, 1) := by decide +kernel
theorem dX12_voids_84 : decode cX12_voids 84 = .ok (.aload_n 0, 1) := by decide +kernel
theorem dX12_voids_85 : decode cX12_voids 85 = .ok (.getfield 161, 3) := by decide +kernel
theorem dX12_voids_88 : decode cX12_voids 88 = .ok (.iload_n 2, 1) := by decide +kernel
theorem dX12_voids_89 : decode cX12_voids 89 = .ok (.iconst 1, 1) := by decide +kernel
theorem dX12_voids_90 : decode cX12_voids 90 = .ok (.iadd, 1) := by decide +kernel
theorem dX12_voids_91 : decode cX12_voids 91 = .ok (.iaload, 1) := by decide +kernel
theorem dX12_voids_92 : decode cX12_voids 92 = .ok (.aload_n 0, 1) := by decide +kernel
theorem dX12_voids_93 : decode cX12_voids 93 = .ok (.getfield 551, 3) := by decide +kernel
theorem dX12_voids_96 : decode cX12_voids 96 = .ok (.iconst 1, 1) := by decide +kernel
theorem dX12_voids_97 : decode cX12_voids 97 = .ok (.isub, 1) := by decide +kernel
theorem dX12_voids_98 : decode cX12_voids 98 = .ok (.invokevirtual 557, 3) := by decide +kernel
theorem dX12_voids_101 : decode cX12_voids 101 = .ok (.ireturn, 1) := by decide +kernel
theorem dX12_row_0 : decode cX12_row 0 = .ok (.aload_n 0, 1) := by decide +kernel
theorem dX12_row_1 : decode cX12_row 1 = .ok (.iconst 0, 1) := by decide +kernel
theorem dX12_row_2 : decode cX12_row 2 = .ok (.putfield 1, 3) := by decide +kernel
theorem dX12_row_5 : decode cX12_row 5 = .ok (.iload_n 1, 1) := by decide +kernel
theorem dX12_row_6 : decode cX12_row 6 = .ok (.ifCond .lt 21, 3) := by decide +kernel
theorem dX12_row_9 : decode cX12_row 9 = .ok (.iload_n 1, 1) := by decide +kernel
theorem dX12_row_10 : decode cX12_row 10 = .ok (.aload_n 0, 1) := by decide +kernel
theorem dX12_row_11 : decode cX12_row 11 = .ok (.getfield 551, 3) := by decide +kernel
theorem dX12_row_14 : decode cX12_row 14 = .ok (.if_icmp .ge 13, 3) := by decide +kernel
theorem dX12_row_17 : decode cX12_row 17 = .ok (.iload_n 2, 1) := by decide +kernel
theorem dX12_row_18 : decode cX12_row 18 = .ok (.iconst 0, 1) := by decide +kernel
theorem dX12_row_19 : decode cX12_row 19 = .ok (.bipush 6, 2) := by decide +kernel
theorem dX12_row_21 : decode cX12_row 21 = .ok (.invokestatic 215, 3) := by decide +kernel
theorem dX12_row_24 : decode cX12_row 24 = .ok (.ifCond .ne 10, 3) := by decide +kernel
theorem dX12_row_27 : decode cX12_row 27 = .ok (.aload_n 0, 1) := by decide +kernel
theorem dX12_row_28 : decode cX12_row 28 = .ok (.iconst 1, 1) := by decide +kernel
theorem dX12_row_29 : decode cX12_row 29 = .ok (.putfield 1, 3) := by decide +kernel
theorem dX12_row_32 : decode cX12_row 32 = .ok (.iconst 0, 1) := by decide +kernel
theorem dX12_row_33 : decode cX12_row 33 = .ok (.ireturn, 1) := by decide +kernel
theorem dX12_row_34 : decode cX12_row 34 = .ok (.aload_n 0, 1) := by decide +kernel
theorem dX12_row_35 : decode cX12_row 35 = .ok (.getfield 161, 3) := by decide +kernel
theorem dX12_row_38 : decode cX12_row 38 = .ok (.bipush 7, 2) := by decide +kernel
theorem dX12_row_40 : decode cX12_row 40 = .ok (.iload_n 1, 1) := by decide +kernel
theorem dX12_row_41 : decode cX12_row 41 = .ok (.imul, 1) := by decide +kernel
theorem dX12_row_42 : decode cX12_row 42 = .ok (.iload_n 2, 1) := by decide +kernel
theorem dX12_row_43 : decode cX12_row 43 = .ok (.iadd, 1) := by decide +kernel
theorem dX12_row_44 : decode cX12_row 44 = .ok (.iaload, 1) := by decide +kernel
theorem dX12_row_45 : decode cX12_row 45 = .ok (.ireturn, 1) := by decide +kernel
theorem dX12_bitsOf_0 : decode cX12_bitsOf 0 = .ok (.iconst 0, 1) := by decide +kernel
theorem dX12_bitsOf_1 : decode cX12_bitsOf 1 = .ok (.istore_n 1, 1) := by decide +kernel
theorem dX12_bitsOf_2 : decode cX12_bitsOf 2 = .ok (.iconst 0, 1) := by decide +kernel
theorem dX12_bitsOf_3 : decode cX12_bitsOf 3 = .ok (.istore_n 2, 1) := by decide +kernel
theorem dX12_bitsOf_4 : decode cX12_bitsOf 4 = .ok (.iload_n 2, 1) := by decide +kernel
theorem dX12_bitsOf_5 : decode cX12_bitsOf 5 = .ok (.bipush 31, 2) := by decide +kernel
theorem dX12_bitsOf_7 : decode cX12_bitsOf 7 = .ok (.if_icmp .ge 17, 3) := by decide +kernel
theorem dX12_bitsOf_10 : decode cX12_bitsOf 10 = .ok (.iload_n 1, 1) := by decide +kernel
theorem dX12_bitsOf_11 : decode cX12_bitsOf 11 = .ok (.iload_n 0, 1) := by decide +kernel
theorem dX12_bitsOf_12 : decode cX12_bitsOf 12 = .ok (.iload_n 2, 1) := by decide +kernel
theorem dX12_bitsOf_13 : decode cX12_bitsOf 13 = .ok (.ishr, 1) := by decide +kernel
theorem dX12_bitsOf_14 : decode cX12_bitsOf 14 = .ok (.iconst 1, 1) := by decide +kernel
theorem dX12_bitsOf_15 : decode cX12_bitsOf 15 = .ok (.iand, 1) := by decide +kernel
theorem dX12_bitsOf_16 : decode cX12_bitsOf 16 = .ok (.iadd, 1) := by decide +kernel
theorem dX12_bitsOf_17 : decode cX12_bitsOf 17 = .ok (.istore_n 1, 1) := by decide +kernel
theorem dX12_bitsOf_18 : decode cX12_bitsOf 18 = .ok (.iinc 2 1, 3) := by decide +kernel
theorem dX12_bitsOf_21 : decode cX12_bitsOf 21 = .ok (.goto (-17), 3) := by decide +kernel
theorem dX12_bitsOf_24 : decode cX12_bitsOf 24 = .ok (.iload_n 1, 1) := by decide +kernel
theorem dX12_bitsOf_25 : decode cX12_bitsOf 25 = .ok (.ireturn, 1) := by decide +kernel
theorem dX12_areOpen_0 : decode cX12_areOpen 0 = .ok (.iload_n 1, 1) := by decide +kernel
theorem dX12_areOpen_1 : decode cX12_areOpen 1 = .ok (.ifCond .lt 22, 3) := by decide +kernel
theorem dX12_areOpen_4 : decode cX12_areOpen 4 = .ok (.iload_n 1, 1) := by decide +kernel
theorem dX12_areOpen_5 : decode cX12_areOpen 5 = .ok (.bipush 24, 2) := by decide +kernel
theorem dX12_areOpen_7 : decode cX12_areOpen 7 = .ok (.ishr, 1) := by decide +kernel
theorem dX12_areOpen_8 : decode cX12_areOpen 8 = .ok (.ifCond .ne 15, 3) := by decide +kernel
theorem dX12_areOpen_11 : decode cX12_areOpen 11 = .ok (.iload_n 1, 1) := by decide +kernel
theorem dX12_areOpen_12 : decode cX12_areOpen 12 = .ok (.invokestatic 563, 3) := by decide +kernel
theorem dX12_areOpen_15 : decode cX12_areOpen 15 = .ok (.iload_n 2, 1) := by decide +kernel
theorem dX12_areOpen_16 : decode cX12_areOpen 16 = .ok (.iload_n 3, 1) := by decide +kernel
theorem dX12_areOpen_17 : decode cX12_areOpen 17 = .ok (.invokestatic 215, 3) := by decide +kernel
theorem dX12_areOpen_20 : decode cX12_areOpen 20 = .ok (.ifCond .ne 5, 3) := by decide +kernel
theorem dX12_areOpen_23 : decode cX12_areOpen 23 = .ok (.iconst 0, 1) := by decide +kernel
theorem dX12_areOpen_24 : decode cX12_areOpen 24 = .ok (.ireturn, 1) := by decide +kernel
theorem dX12_areOpen_25 : decode cX12_areOpen 25 = .ok (.iconst 0, 1) := by decide +kernel
theorem dX12_areOpen_26 : decode cX12_areOpen 26 = .ok (.istore 4, 2) := by decide +kernel
theorem dX12_areOpen_28 : decode cX12_areOpen 28 = .ok (.iload 4, 2) := by decide +kernel
theorem dX12_areOpen_30 : decode cX12_areOpen 30 = .ok (.bipush 24, 2) := by decide +kernel
theorem dX12_areOpen_32 : decode cX12_areOpen 32 = .ok (.if_icmp .ge 30, 3) := by decide +kernel
theorem dX12_areOpen_35 : decode cX12_areOpen 35 = .ok (.iload_n 1, 1) := by decide +kernel
theorem dX12_areOpen_36 : decode cX12_areOpen 36 = .ok (.iload 4, 2) := by decide +kernel
theorem dX12_areOpen_38 : decode cX12_areOpen 38 = .ok (.ishr, 1) := by decide +kernel
theorem dX12_areOpen_39 : decode cX12_areOpen 39 = .ok (.iconst 1, 1) := by decide +kernel
theorem dX12_areOpen_40 : decode cX12_areOpen 40 = .ok (.iand, 1) := by decide +kernel
theorem dX12_areOpen_41 : decode cX12_areOpen 41 = .ok (.iconst 1, 1) := by decide +kernel
theorem dX12_areOpen_42 : decode cX12_areOpen 42 = .ok (.if_icmp .ne 14, 3) := by decide +kernel
theorem dX12_areOpen_45 : decode cX12_areOpen 45 = .ok (.aload_n 0, 1) := by decide +kernel
theorem dX12_areOpen_46 : decode cX12_areOpen 46 = .ok (.iload 4, 2) := by decide +kernel
theorem dX12_areOpen_48 : decode cX12_areOpen 48 = .ok (.invokevirtual 528, 3) := by decide +kernel
theorem dX12_areOpen_51 : decode cX12_areOpen 51 = .ok (.ifCond .ne 5, 3) := by decide +kernel
theorem dX12_areOpen_54 : decode cX12_areOpen 54 = .ok (.iconst 0, 1) := by decide +kernel
theorem dX12_areOpen_55 : decode cX12_areOpen 55 = .ok (.ireturn, 1) := by decide +kernel
theorem dX12_areOpen_56 : decode cX12_areOpen 56 = .ok (.iinc 4 1, 3) := by decide +kernel
theorem dX12_areOpen_59 : decode cX12_areOpen 59 = .ok (.goto (-31), 3) := by decide +kernel
theorem dX12_areOpen_62 : decode cX12_areOpen 62 = .ok (.iconst 1, 1) := by decide +kernel
theorem dX12_areOpen_63 : decode cX12_areOpen 63 = .ok (.ireturn, 1) := by decide +kernel
theorem dX12_composes_0 : decode cX12_composes 0 = .ok (.iconst 1, 1) := by decide +kernel
theorem dX12_composes_1 : decode cX12_composes 1 = .ok (.istore_n 2, 1) := by decide +kernel
theorem dX12_composes_2 : decode cX12_composes 2 = .ok (.iload_n 2, 1) := by decide +kernel
theorem dX12_composes_3 : decode cX12_composes 3 = .ok (.bipush 60, 2) := by decide +kernel
theorem dX12_composes_5 : decode cX12_composes 5 = .ok (.if_icmp .gt 37, 3) := by decide +kernel
theorem dX12_composes_8 : decode cX12_composes 8 = .ok (.aload_n 0, 1) := by decide +kernel
theorem dX12_composes_9 : decode cX12_composes 9 = .ok (.getfield 164, 3) := by decide +kernel
theorem dX12_composes_12 : decode cX12_composes 12 = .ok (.iload_n 2, 1) := by decide +kernel
theorem dX12_composes_13 : decode cX12_composes 13 = .ok (.iconst 0, 1) := by decide +kernel
theorem dX12_composes_14 : decode cX12_composes 14 = .ok (.iastore, 1) := by decide +kernel
theorem dX12_composes_15 : decode cX12_composes 15 = .ok (.aload_n 0, 1) := by decide +kernel
theorem dX12_composes_16 : decode cX12_composes 16 = .ok (.getfield 167, 3) := by decide +kernel
theorem dX12_composes_19 : decode cX12_composes 19 = .ok (.iload_n 2, 1) := by decide +kernel
theorem dX12_composes_20 : decode cX12_composes 20 = .ok (.iconst 0, 1) := by decide +kernel
theorem dX12_composes_21 : decode cX12_composes 21 = .ok (.bastore, 1) := by decide +kernel
theorem dX12_composes_22 : decode cX12_composes 22 = .ok (.aload_n 0, 1) := by decide +kernel
theorem dX12_composes_23 : decode cX12_composes 23 = .ok (.getfield 170, 3) := by decide +kernel
theorem dX12_composes_26 : decode cX12_composes 26 = .ok (.iload_n 2, 1) := by decide +kernel
theorem dX12_composes_27 : decode cX12_composes 27 = .ok (.iconst 0, 1) := by decide +kernel
theorem dX12_composes_28 : decode cX12_composes 28 = .ok (.iastore, 1) := by decide +kernel
theorem dX12_composes_29 : decode cX12_composes 29 = .ok (.aload_n 0, 1) := by decide +kernel
theorem dX12_composes_30 : decode cX12_composes 30 = .ok (.getfield 173, 3) := by decide +kernel
theorem dX12_composes_33 : decode cX12_composes 33 = .ok (.iload_n 2, 1) := by decide +kernel
theorem dX12_composes_34 : decode cX12_composes 34 = .ok (.iconst 0, 1) := by decide +kernel
theorem dX12_composes_35 : decode cX12_composes 35 = .ok (.bastore, 1) := by decide +kernel
theorem dX12_composes_36 : decode cX12_composes 36 = .ok (.iinc 2 1, 3) := by decide +kernel
theorem dX12_composes_39 : decode cX12_composes 39 = .ok (.goto (-37), 3) := by decide +kernel
theorem dX12_composes_42 : decode cX12_composes 42 = .ok (.iconst 0, 1) := by decide +kernel
theorem dX12_composes_43 : decode cX12_composes 43 = .ok (.istore_n 2, 1) := by decide +kernel
theorem dX12_composes_44 : decode cX12_composes 44 = .ok (.iload_n 2, 1) := by decide +kernel
theorem dX12_composes_45 : decode cX12_composes 45 = .ok (.aload_n 0, 1) := by decide +kernel
theorem dX12_composes_46 : decode cX12_composes 46 = .ok (.getfield 231, 3) := by decide +kernel
theorem dX12_composes_49 : decode cX12_composes 49 = .ok (.if_icmp .ge 152, 3) := by decide +kernel
theorem dX12_composes_52 : decode cX12_composes 52 = .ok (.iconst 0, 1) := by decide +kernel
theorem dX12_composes_53 : decode cX12_composes 53 = .ok (.istore_n 3, 1) := by decide +kernel
theorem dX12_composes_54 : decode cX12_composes 54 = .ok (.iload_n 3, 1) := by decide +kernel
theorem dX12_composes_55 : decode cX12_composes 55 = .ok (.aload_n 0, 1) := by decide +kernel
theorem dX12_composes_56 : decode cX12_composes 56 = .ok (.getfield 53, 3) := by decide +kernel
theorem dX12_composes_59 : decode cX12_composes 59 = .ok (.iload_n 2, 1) := by decide +kernel
theorem dX12_composes_60 : decode cX12_composes 60 = .ok (.iaload, 1) := by decide +kernel
theorem dX12_composes_61 : decode cX12_composes 61 = .ok (.if_icmp .ge 134, 3) := by decide +kernel
theorem dX12_composes_64 : decode cX12_composes 64 = .ok (.iload_n 1, 1) := by decide +kernel
theorem dX12_composes_65 : decode cX12_composes 65 = .ok (.iload_n 2, 1) := by decide +kernel
theorem dX12_composes_66 : decode cX12_composes 66 = .ok (.ishr, 1) := by decide +kernel
theorem dX12_composes_67 : decode cX12_composes 67 = .ok (.iconst 1, 1) := by decide +kernel
theorem dX12_composes_68 : decode cX12_composes 68 = .ok (.iand, 1) := by decide +kernel
theorem dX12_composes_69 : decode cX12_composes 69 = .ok (.iconst 1, 1) := by decide +kernel
theorem dX12_composes_70 : decode cX12_composes 70 = .ok (.if_icmp .ne 125, 3) := by decide +kernel
theorem dX12_composes_73 : decode cX12_composes 73 = .ok (.aload_n 0, 1) := by decide +kernel
theorem dX12_composes_74 : decode cX12_composes 74 = .ok (.getfield 56, 3) := by decide +kernel
theorem dX12_composes_77 : decode cX12_composes 77 = .ok (.bipush 12, 2) := by decide +kernel
theorem dX12_composes_79 : decode cX12_composes 79 = .ok (.iload_n 2, 1) := by decide +kernel
theorem dX12_composes_80 : decode cX12_composes 80 = .ok (.imul, 1) := by decide +kernel
theorem dX12_composes_81 : decode cX12_composes 81 = .ok (.iload_n 3, 1) := by decide +kernel
theorem dX12_composes_82 : decode cX12_composes 82 = .ok (.iadd, 1) := by decide +kernel
theorem dX12_composes_83 : decode cX12_composes 83 = .ok (.iaload, 1) := by decide +kernel
theorem dX12_composes_84 : decode cX12_composes 84 = .ok (.istore 4, 2) := by decide +kernel
theorem dX12_composes_86 : decode cX12_composes 86 = .ok (.iload 4, 2) := by decide +kernel
theorem dX12_composes_88 : decode cX12_composes 88 = .ok (.invokestatic 489, 3) := by decide +kernel
theorem dX12_composes_91 : decode cX12_composes 91 = .ok (.istore 5, 2) := by decide +kernel
theorem dX12_composes_93 : decode cX12_composes 93 = .ok (.aload_n 0, 1) := by decide +kernel
theorem dX12_composes_94 : decode cX12_composes 94 = .ok (.getfield 164, 3) := by decide +kernel
theorem dX12_composes_97 : decode cX12_composes 97 = .ok (.iload 5, 2) := by decide +kernel
theorem dX12_composes_99 : decode cX12_composes 99 = .ok (.iaload, 1) := by decide +kernel
theorem dX12_composes_100 : decode cX12_composes 100 = .ok (.ifCond .eq 33, 3) := by decide +kernel
theorem dX12_composes_103 : decode cX12_composes 103 = .ok (.aload_n 0, 1) := by decide +kernel
theorem dX12_composes_104 : decode cX12_composes 104 = .ok (.getfield 164, 3) := by decide +kernel
theorem dX12_composes_107 : decode cX12_composes 107 = .ok (.iload 5, 2) := by decide +kernel
theorem dX12_composes_109 : decode cX12_composes 109 = .ok (.iaload, 1) := by decide +kernel
theorem dX12_composes_110 : decode cX12_composes 110 = .ok (.ifCond .le 7, 3) := by decide +kernel
theorem dX12_composes_113 : decode cX12_composes 113 = .ok (.iconst 1, 1) := by decide +kernel
theorem dX12_composes_114 : decode cX12_composes 114 = .ok (.goto 4, 3) := by decide +kernel
theorem dX12_composes_117 : decode cX12_composes 117 = .ok (.iconst 0, 1) := by decide +kernel
theorem dX12_composes_118 : decode cX12_composes 118 = .ok (.iload 4, 2) := by decide +kernel
theorem dX12_composes_120 : decode cX12_composes 120 = .ok (.ifCond .le 7, 3) := by decide +kernel
theorem dX12_composes_123 : decode cX12_composes 123 = .ok (.iconst 1, 1) := by decide +kernel
theorem dX12_composes_124 : decode cX12_composes 124 = .ok (.goto 4, 3) := by decide +kernel
theorem dX12_composes_127 : decode cX12_composes 127 = .ok (.iconst 0, 1) := by decide +kernel
theorem dX12_composes_128 : decode cX12_composes 128 = .ok (.if_icmp .eq 5, 3) := by decide +kernel
theorem dX12_composes_131 : decode cX12_composes 131 = .ok (.iconst 0, 1) := by decide +kernel
theorem dX12_composes_132 : decode cX12_composes 132 = .ok (.ireturn, 1) := by decide +kernel
theorem dX12_composes_133 : decode cX12_composes 133 = .ok (.aload_n 0, 1) := by decide +kernel
theorem dX12_composes_134 : decode cX12_composes 134 = .ok (.getfield 164, 3) := by decide +kernel
theorem dX12_composes_137 : decode cX12_composes 137 = .ok (.iload 5, 2) := by decide +kernel
theorem dX12_composes_139 : decode cX12_composes 139 = .ok (.iload 4, 2) := by decide +kernel
theorem dX12_composes_141 : decode cX12_composes 141 = .ok (.iastore, 1) := by decide +kernel
theorem dX12_composes_142 : decode cX12_composes 142 = .ok (.aload_n 0, 1) := by decide +kernel
theorem dX12_composes_143 : decode cX12_composes 143 = .ok (.getfield 167, 3) := by decide +kernel
theorem dX12_composes_146 : decode cX12_composes 146 = .ok (.iload 5, 2) := by decide +kernel
theorem dX12_composes_148 : decode cX12_composes 148 = .ok (.aload_n 0, 1) := by decide +kernel
theorem dX12_composes_149 : decode cX12_composes 149 = .ok (.getfield 167, 3) := by decide +kernel
theorem dX12_composes_152 : decode cX12_composes 152 = .ok (.iload 5, 2) := by decide +kernel
theorem dX12_composes_154 : decode cX12_composes 154 = .ok (.baload, 1) := by decide +kernel
theorem dX12_composes_155 : decode cX12_composes 155 = .ok (.ifCond .ne 17, 3) := by decide +kernel
theorem dX12_composes_158 : decode cX12_composes 158 = .ok (.aload_n 0, 1) := by decide +kernel
theorem dX12_composes_159 : decode cX12_composes 159 = .ok (.getfield 59, 3) := by decide +kernel
theorem dX12_composes_162 : decode cX12_composes 162 = .ok (.bipush 12, 2) := by decide +kernel
theorem dX12_composes_164 : decode cX12_composes 164 = .ok (.iload_n 2, 1) := by decide +kernel
theorem dX12_composes_165 : decode cX12_composes 165 = .ok (.imul, 1) := by decide +kernel
theorem dX12_composes_166 : decode cX12_composes 166 = .ok (.iload_n 3, 1) := by decide +kernel
theorem dX12_composes_167 : decode cX12_composes 167 = .ok (.iadd, 1) := by decide +kernel
theorem dX12_composes_168 : decode cX12_composes 168 = .ok (.baload, 1) := by decide +kernel
theorem dX12_composes_169 : decode cX12_composes 169 = .ok (.ifCond .eq 7, 3) := by decide +kernel
theorem dX12_composes_172 : decode cX12_composes 172 = .ok (.iconst 1, 1) := by decide +kernel
theorem dX12_composes_173 : decode cX12_composes 173 = .ok (.goto 4, 3) := by decide +kernel
theorem dX12_composes_176 : decode cX12_composes 176 = .ok (.iconst 0, 1) := by decide +kernel
theorem dX12_composes_177 : decode cX12_composes 177 = .ok (.bastore, 1) := by decide +kernel
theorem dX12_composes_178 : decode cX12_composes 178 = .ok (.aload_n 0, 1) := by decide +kernel
theorem dX12_composes_179 : decode cX12_composes 179 = .ok (.getfield 170, 3) := by decide +kernel
theorem dX12_composes_182 : decode cX12_composes 182 = .ok (.iload 5, 2) := by decide +kernel
theorem dX12_composes_184 : decode cX12_composes 184 = .ok (.dup2, 1) := by decide +kernel
theorem dX12_composes_185 : decode cX12_composes 185 = .ok (.iaload, 1) := by decide +kernel
theorem dX12_composes_186 : decode cX12_composes 186 = .ok (.iconst 1, 1) := by decide +kernel
theorem dX12_composes_187 : decode cX12_composes 187 = .ok (.iadd, 1) := by decide +kernel
theorem dX12_composes_188 : decode cX12_composes 188 = .ok (.iastore, 1) := by decide +kernel
theorem dX12_composes_189 : decode cX12_composes 189 = .ok (.iinc 3 1, 3) := by decide +kernel
theorem dX12_composes_192 : decode cX12_composes 192 = .ok (.goto (-138), 3) := by decide +kernel
theorem dX12_composes_195 : decode cX12_composes 195 = .ok (.iinc 2 1, 3) := by decide +kernel
theorem dX12_composes_198 : decode cX12_composes 198 = .ok (.goto (-154), 3) := by decide +kernel
theorem dX12_composes_201 : decode cX12_composes 201 = .ok (.aload_n 0, 1) := by decide +kernel
theorem dX12_composes_202 : decode cX12_composes 202 = .ok (.invokevirtual 566, 3) := by decide +kernel
theorem dX12_composes_205 : decode cX12_composes 205 = .ok (.istore_n 2, 1) := by decide +kernel
theorem dX12_composes_206 : decode cX12_composes 206 = .ok (.aload_n 0, 1) := by decide +kernel
theorem dX12_composes_207 : decode cX12_composes 207 = .ok (.iconst 0, 1) := by decide +kernel
theorem dX12_composes_208 : decode cX12_composes 208 = .ok (.putfield 567, 3) := by decide +kernel
theorem dX12_composes_211 : decode cX12_composes 211 = .ok (.iconst 1, 1) := by decide +kernel
theorem dX12_composes_212 : decode cX12_composes 212 = .ok (.istore_n 3, 1) := by decide +kernel
theorem dX12_composes_213 : decode cX12_composes 213 = .ok (.iload_n 3, 1) := by decide +kernel
theorem dX12_composes_214 : decode cX12_composes 214 = .ok (.bipush 60, 2) := by decide +kernel
theorem dX12_composes_216 : decode cX12_composes 216 = .ok (.if_icmp .gt 48, 3) := by decide +kernel
theorem dX12_composes_219 : decode cX12_composes 219 = .ok (.aload_n 0, 1) := by decide +kernel
theorem dX12_composes_220 : decode cX12_composes 220 = .ok (.dup, 1) := by decide +kernel
theorem dX12_composes_221 : decode cX12_composes 221 = .ok (.getfield 567, 3) := by decide +kernel
theorem dX12_composes_224 : decode cX12_composes 224 = .ok (.aload_n 0, 1) := by decide +kernel
theorem dX12_composes_225 : decode cX12_composes 225 = .ok (.getfield 170, 3) := by decide +kernel
theorem dX12_composes_228 : decode cX12_composes 228 = .ok (.iload_n 3, 1) := by decide +kernel
theorem dX12_composes_229 : decode cX12_composes 229 = .ok (.iaload, 1) := by decide +kernel
theorem dX12_composes_230 : decode cX12_composes 230 = .ok (.iadd, 1) := by decide +kernel
theorem dX12_composes_231 : decode cX12_composes 231 = .ok (.putfield 567, 3) := by decide +kernel
theorem dX12_composes_234 : decode cX12_composes 234 = .ok (.aload_n 0, 1) := by decide +kernel
theorem dX12_composes_235 : decode cX12_composes 235 = .ok (.getfield 173, 3) := by decide +kernel
theorem dX12_composes_238 : decode cX12_composes 238 = .ok (.iload_n 3, 1) := by decide +kernel
theorem dX12_composes_239 : decode cX12_composes 239 = .ok (.aload_n 0, 1) := by decide +kernel
theorem dX12_composes_240 : decode cX12_composes 240 = .ok (.getfield 167, 3) := by decide +kernel
theorem dX12_composes_243 : decode cX12_composes 243 = .ok (.iload_n 3, 1) := by decide +kernel
theorem dX12_composes_244 : decode cX12_composes 244 = .ok (.baload, 1) := by decide +kernel
theorem dX12_composes_245 : decode cX12_composes 245 = .ok (.bastore, 1) := by decide +kernel
theorem dX12_composes_246 : decode cX12_composes 246 = .ok (.aload_n 0, 1) := by decide +kernel
theorem dX12_composes_247 : decode cX12_composes 247 = .ok (.getfield 167, 3) := by decide +kernel
theorem dX12_composes_250 : decode cX12_composes 250 = .ok (.iload_n 3, 1) := by decide +kernel
theorem dX12_composes_251 : decode cX12_composes 251 = .ok (.baload, 1) := by decide +kernel
theorem dX12_composes_252 : decode cX12_composes 252 = .ok (.ifCond .eq 6, 3) := by decide +kernel
theorem dX12_composes_255 : decode cX12_composes 255 = .ok (.iinc 2 (-1), 3) := by decide +kernel
theorem dX12_composes_258 : decode cX12_composes 258 = .ok (.iinc 3 1, 3) := by decide +kernel
theorem dX12_composes_261 : decode cX12_composes 261 = .ok (.goto (-48), 3) := by decide +kernel
theorem dX12_composes_264 : decode cX12_composes 264 = .ok (.iload_n 2, 1) := by decide +kernel
theorem dX12_composes_265 : decode cX12_composes 265 = .ok (.ifCond .ge 5, 3) := by decide +kernel
theorem dX12_composes_268 : decode cX12_composes 268 = .ok (.iconst 0, 1) := by decide +kernel
theorem dX12_composes_269 : decode cX12_composes 269 = .ok (.ireturn, 1) := by decide +kernel
theorem dX12_composes_270 : decode cX12_composes 270 = .ok (.iload_n 2, 1) := by decide +kernel
theorem dX12_composes_271 : decode cX12_composes 271 = .ok (.ifCond .le 84, 3) := by decide +kernel
theorem dX12_composes_274 : decode cX12_composes 274 = .ok (.iconst 0, 1) := by decide +kernel
theorem dX12_composes_275 : decode cX12_composes 275 = .ok (.istore_n 3, 1) := by decide +kernel
theorem dX12_composes_276 : decode cX12_composes 276 = .ok (.iconst 1, 1) := by decide +kernel
theorem dX12_composes_277 : decode cX12_composes 277 = .ok (.istore 4, 2) := by decide +kernel
theorem dX12_composes_279 : decode cX12_composes 279 = .ok (.iload 4, 2) := by decide +kernel
theorem dX12_composes_281 : decode cX12_composes 281 = .ok (.bipush 60, 2) := by decide +kernel
theorem dX12_composes_283 : decode cX12_composes 283 = .ok (.if_icmp .gt 52, 3) := by decide +kernel
theorem dX12_composes_286 : decode cX12_composes 286 = .ok (.aload_n 0, 1) := by decide +kernel
theorem dX12_composes_287 : decode cX12_composes 287 = .ok (.getfield 173, 3) := by decide +kernel
theorem dX12_composes_290 : decode cX12_composes 290 = .ok (.iload 4, 2) := by decide +kernel
theorem dX12_composes_292 : decode cX12_composes 292 = .ok (.baload, 1) := by decide +kernel
theorem dX12_composes_293 : decode cX12_composes 293 = .ok (.ifCond .ne 36, 3) := by decide +kernel
theorem dX12_composes_296 : decode cX12_composes 296 = .ok (.aload_n 0, 1) := by decide +kernel
theorem dX12_composes_297 : decode cX12_composes 297 = .ok (.getfield 170, 3) := by decide +kernel
theorem dX12_composes_300 : decode cX12_composes 300 = .ok (.iload 4, 2) := by decide +kernel
theorem dX12_composes_302 : decode cX12_composes 302 = .ok (.iaload, 1) := by decide +kernel
theorem dX12_composes_303 : decode cX12_composes 303 = .ok (.ifCond .le 26, 3) := by decide +kernel
theorem dX12_composes_306 : decode cX12_composes 306 = .ok (.iload_n 3, 1) := by decide +kernel
theorem dX12_composes_307 : decode cX12_composes 307 = .ok (.ifCond .eq 19, 3) := by decide +kernel
theorem dX12_composes_310 : decode cX12_composes 310 = .ok (.aload_n 0, 1) := by decide +kernel
theorem dX12_composes_311 : decode cX12_composes 311 = .ok (.getfield 170, 3) := by decide +kernel
theorem dX12_composes_314 : decode cX12_composes 314 = .ok (.iload 4, 2) := by decide +kernel
theorem dX12_composes_316 : decode cX12_composes 316 = .ok (.iaload, 1) := by decide +kernel
theorem dX12_composes_317 : decode cX12_composes 317 = .ok (.aload_n 0, 1) := by decide +kernel
theorem dX12_composes_318 : decode cX12_composes 318 = .ok (.getfield 170, 3) := by decide +kernel
theorem dX12_composes_321 : decode cX12_composes 321 = .ok (.iload_n 3, 1) := by decide +kernel
theorem dX12_composes_322 : decode cX12_composes 322 = .ok (.iaload, 1) := by decide +kernel
theorem dX12_composes_323 : decode cX12_composes 323 = .ok (.if_icmp .le 6, 3) := by decide +kernel
theorem dX12_composes_326 : decode cX12_composes 326 = .ok (.iload 4, 2) := by decide +kernel
theorem dX12_composes_328 : decode cX12_composes 328 = .ok (.istore_n 3, 1) := by decide +kernel
theorem dX12_composes_329 : decode cX12_composes 329 = .ok (.iinc 4 1, 3) := by decide +kernel
theorem dX12_composes_332 : decode cX12_composes 332 = .ok (.goto (-53), 3) := by decide +kernel
theorem dX12_composes_335 : decode cX12_composes 335 = .ok (.iload_n 3, 1) := by decide +kernel
theorem dX12_composes_336 : decode cX12_composes 336 = .ok (.ifCond .ne 6, 3) := by decide +kernel
theorem dX12_composes_339 : decode cX12_composes 339 = .ok (.goto 16, 3) := by decide +kernel
theorem dX12_composes_342 : decode cX12_composes 342 = .ok (.aload_n 0, 1) := by decide +kernel
theorem dX12_composes_343 : decode cX12_composes 343 = .ok (.getfield 173, 3) := by decide +kernel
theorem dX12_composes_346 : decode cX12_composes 346 = .ok (.iload_n 3, 1) := by decide +kernel
theorem dX12_composes_347 : decode cX12_composes 347 = .ok (.iconst 1, 1) := by decide +kernel
theorem dX12_composes_348 : decode cX12_composes 348 = .ok (.bastore, 1) := by decide +kernel
theorem dX12_composes_349 : decode cX12_composes 349 = .ok (.iinc 2 (-1), 3) := by decide +kernel
theorem dX12_composes_352 : decode cX12_composes 352 = .ok (.goto (-82), 3) := by decide +kernel
theorem dX12_composes_355 : decode cX12_composes 355 = .ok (.iconst 1, 1) := by decide +kernel
theorem dX12_composes_356 : decode cX12_composes 356 = .ok (.istore_n 3, 1) := by decide +kernel
theorem dX12_composes_357 : decode cX12_composes 357 = .ok (.iload_n 3, 1) := by decide +kernel
theorem dX12_composes_358 : decode cX12_composes 358 = .ok (.bipush 60, 2) := by decide +kernel
theorem dX12_composes_360 : decode cX12_composes 360 = .ok (.if_icmp .gt 33, 3) := by decide +kernel
theorem dX12_composes_363 : decode cX12_composes 363 = .ok (.aload_n 0, 1) := by decide +kernel
theorem dX12_composes_364 : decode cX12_composes 364 = .ok (.getfield 173, 3) := by decide +kernel
theorem dX12_composes_367 : decode cX12_composes 367 = .ok (.iload_n 3, 1) := by decide +kernel
theorem dX12_composes_368 : decode cX12_composes 368 = .ok (.baload, 1) := by decide +kernel
theorem dX12_composes_369 : decode cX12_composes 369 = .ok (.ifCond .eq 18, 3) := by decide +kernel
theorem dX12_composes_372 : decode cX12_composes 372 = .ok (.aload_n 0, 1) := by decide +kernel
theorem dX12_composes_373 : decode cX12_composes 373 = .ok (.dup, 1) := by decide +kernel
theorem dX12_composes_374 : decode cX12_composes 374 = .ok (.getfield 567, 3) := by decide +kernel
theorem dX12_composes_377 : decode cX12_composes 377 = .ok (.aload_n 0, 1) := by decide +kernel
theorem dX12_composes_378 : decode cX12_composes 378 = .ok (.getfield 170, 3) := by decide +kernel
theorem dX12_composes_381 : decode cX12_composes 381 = .ok (.iload_n 3, 1) := by decide +kernel
theorem dX12_composes_382 : decode cX12_composes 382 = .ok (.iaload, 1) := by decide +kernel
theorem dX12_composes_383 : decode cX12_composes 383 = .ok (.isub, 1) := by decide +kernel
theorem dX12_composes_384 : decode cX12_composes 384 = .ok (.putfield 567, 3) := by decide +kernel
theorem dX12_composes_387 : decode cX12_composes 387 = .ok (.iinc 3 1, 3) := by decide +kernel
theorem dX12_composes_390 : decode cX12_composes 390 = .ok (.goto (-33), 3) := by decide +kernel
theorem dX12_composes_393 : decode cX12_composes 393 = .ok (.iconst 1, 1) := by decide +kernel
theorem dX12_composes_394 : decode cX12_composes 394 = .ok (.ireturn, 1) := by decide +kernel
theorem dX12_lost_0 : decode cX12_lost 0 = .ok (.aload_n 0, 1) := by decide +kernel
theorem dX12_lost_1 : decode cX12_lost 1 = .ok (.iconst 0, 1) := by decide +kernel
theorem dX12_lost_2 : decode cX12_lost 2 = .ok (.putfield 1, 3) := by decide +kernel
theorem dX12_lost_5 : decode cX12_lost 5 = .ok (.aload_n 0, 1) := by decide +kernel
theorem dX12_lost_6 : decode cX12_lost 6 = .ok (.iload_n 1, 1) := by decide +kernel
theorem dX12_lost_7 : decode cX12_lost 7 = .ok (.iconst 2, 1) := by decide +kernel
theorem dX12_lost_8 : decode cX12_lost 8 = .ok (.bipush 8, 2) := by decide +kernel
theorem dX12_lost_10 : decode cX12_lost 10 = .ok (.invokevirtual 570, 3) := by decide +kernel
theorem dX12_lost_13 : decode cX12_lost 13 = .ok (.ifCond .eq 18, 3) := by decide +kernel
theorem dX12_lost_16 : decode cX12_lost 16 = .ok (.aload_n 0, 1) := by decide +kernel
theorem dX12_lost_17 : decode cX12_lost 17 = .ok (.iload_n 1, 1) := by decide +kernel
theorem dX12_lost_18 : decode cX12_lost 18 = .ok (.invokevirtual 573, 3) := by decide +kernel
theorem dX12_lost_21 : decode cX12_lost 21 = .ok (.ifCond .eq 10, 3) := by decide +kernel
theorem dX12_lost_24 : decode cX12_lost 24 = .ok (.aload_n 0, 1) := by decide +kernel
theorem dX12_lost_25 : decode cX12_lost 25 = .ok (.getfield 567, 3) := by decide +kernel
theorem dX12_lost_28 : decode cX12_lost 28 = .ok (.goto 4, 3) := by decide +kernel
theorem dX12_lost_31 : decode cX12_lost 31 = .ok (.iconst (-1), 1) := by decide +kernel
theorem dX12_lost_32 : decode cX12_lost 32 = .ok (.ireturn, 1) := by decide +kernel
theorem dX12_composite_0 : decode cX12_composite 0 = .ok (.aload_n 0, 1) := by decide +kernel
theorem dX12_composite_1 : decode cX12_composite 1 = .ok (.iconst 0, 1) := by decide +kernel
theorem dX12_composite_2 : decode cX12_composite 2 = .ok (.putfield 1, 3) := by decide +kernel
theorem dX12_composite_5 : decode cX12_composite 5 = .ok (.aload_n 0, 1) := by decide +kernel
theorem dX12_composite_6 : decode cX12_composite 6 = .ok (.getfield 231, 3) := by decide +kernel
theorem dX12_composite_9 : decode cX12_composite 9 = .ok (.bipush 24, 2) := by decide +kernel
theorem dX12_composite_11 : decode cX12_composite 11 = .ok (.if_icmp .eq 22, 3) := by decide +kernel
theorem dX12_composite_14 : decode cX12_composite 14 = .ok (.aload_n 0, 1) := by decide +kernel
theorem dX12_composite_15 : decode cX12_composite 15 = .ok (.iload_n 1, 1) := by decide +kernel
theorem dX12_composite_16 : decode cX12_composite 16 = .ok (.iconst 2, 1) := by decide +kernel
theorem dX12_composite_17 : decode cX12_composite 17 = .ok (.bipush 8, 2) := by decide +kernel
theorem dX12_composite_19 : decode cX12_composite 19 = .ok (.invokevirtual 570, 3) := by decide +kernel
theorem dX12_composite_22 : decode cX12_composite 22 = .ok (.ifCond .eq 11, 3) := by decide +kernel
theorem dX12_composite_25 : decode cX12_composite 25 = .ok (.aload_n 0, 1) := by decide +kernel
theorem dX12_composite_26 : decode cX12_composite 26 = .ok (.iload_n 1, 1) := by decide +kernel
theorem dX12_composite_27 : decode cX12_composite 27 = .ok (.invokevirtual 573, 3) := by decide +kernel
theorem dX12_composite_30 : decode cX12_composite 30 = .ok (.ifCond .ne 5, 3) := by decide +kernel
theorem dX12_composite_33 : decode cX12_composite 33 = .ok (.iconst (-1), 1) := by decide +kernel
theorem dX12_composite_34 : decode cX12_composite 34 = .ok (.ireturn, 1) := by decide +kernel
theorem dX12_composite_35 : decode cX12_composite 35 = .ok (.aload_n 0, 1) := by decide +kernel
theorem dX12_composite_36 : decode cX12_composite 36 = .ok (.iconst 0, 1) := by decide +kernel
theorem dX12_composite_37 : decode cX12_composite 37 = .ok (.putfield 483, 3) := by decide +kernel
theorem dX12_composite_40 : decode cX12_composite 40 = .ok (.iconst 1, 1) := by decide +kernel
theorem dX12_composite_41 : decode cX12_composite 41 = .ok (.istore_n 2, 1) := by decide +kernel
theorem dX12_composite_42 : decode cX12_composite 42 = .ok (.iload_n 2, 1) := by decide +kernel
theorem dX12_composite_43 : decode cX12_composite 43 = .ok (.bipush 60, 2) := by decide +kernel
theorem dX12_composite_45 : decode cX12_composite 45 = .ok (.if_icmp .gt 71, 3) := by decide +kernel
theorem dX12_composite_48 : decode cX12_composite 48 = .ok (.aload_n 0, 1) := by decide +kernel
theorem dX12_composite_49 : decode cX12_composite 49 = .ok (.getfield 173, 3) := by decide +kernel
theorem dX12_composite_52 : decode cX12_composite 52 = .ok (.iload_n 2, 1) := by decide +kernel
theorem dX12_composite_53 : decode cX12_composite 53 = .ok (.baload, 1) := by decide +kernel
theorem dX12_composite_54 : decode cX12_composite 54 = .ok (.ifCond .ne 6, 3) := by decide +kernel
theorem dX12_composite_57 : decode cX12_composite 57 = .ok (.goto 53, 3) := by decide +kernel
theorem dX12_composite_60 : decode cX12_composite 60 = .ok (.aload_n 0, 1) := by decide +kernel
theorem dX12_composite_61 : decode cX12_composite 61 = .ok (.getfield 152, 3) := by decide +kernel
theorem dX12_composite_64 : decode cX12_composite 64 = .ok (.aload_n 0, 1) := by decide +kernel
theorem dX12_composite_65 : decode cX12_composite 65 = .ok (.getfield 483, 3) := by decide +kernel
theorem dX12_composite_68 : decode cX12_composite 68 = .ok (.aload_n 0, 1) := by decide +kernel
theorem dX12_composite_69 : decode cX12_composite 69 = .ok (.getfield 164, 3) := by decide +kernel
theorem dX12_composite_72 : decode cX12_composite 72 = .ok (.iload_n 2, 1) := by decide +kernel
theorem dX12_composite_73 : decode cX12_composite 73 = .ok (.iaload, 1) := by decide +kernel
theorem dX12_composite_74 : decode cX12_composite 74 = .ok (.iastore, 1) := by decide +kernel
theorem dX12_composite_75 : decode cX12_composite 75 = .ok (.aload_n 0, 1) := by decide +kernel
theorem dX12_composite_76 : decode cX12_composite 76 = .ok (.getfield 155, 3) := by decide +kernel
theorem dX12_composite_79 : decode cX12_composite 79 = .ok (.aload_n 0, 1) := by decide +kernel
theorem dX12_composite_80 : decode cX12_composite 80 = .ok (.getfield 483, 3) := by decide +kernel
theorem dX12_composite_83 : decode cX12_composite 83 = .ok (.aload_n 0, 1) := by decide +kernel
theorem dX12_composite_84 : decode cX12_composite 84 = .ok (.getfield 167, 3) := by decide +kernel
theorem dX12_composite_87 : decode cX12_composite 87 = .ok (.iload_n 2, 1) := by decide +kernel
theorem dX12_composite_88 : decode cX12_composite 88 = .ok (.baload, 1) := by decide +kernel
theorem dX12_composite_89 : decode cX12_composite 89 = .ok (.bastore, 1) := by decide +kernel
theorem dX12_composite_90 : decode cX12_composite 90 = .ok (.aload_n 0, 1) := by decide +kernel
theorem dX12_composite_91 : decode cX12_composite 91 = .ok (.getfield 158, 3) := by decide +kernel
theorem dX12_composite_94 : decode cX12_composite 94 = .ok (.aload_n 0, 1) := by decide +kernel
theorem dX12_composite_95 : decode cX12_composite 95 = .ok (.getfield 483, 3) := by decide +kernel
theorem dX12_composite_98 : decode cX12_composite 98 = .ok (.iconst (-1), 1) := by decide +kernel
theorem dX12_composite_99 : decode cX12_composite 99 = .ok (.iastore, 1) := by decide +kernel
theorem dX12_composite_100 : decode cX12_composite 100 = .ok (.aload_n 0, 1) := by decide +kernel
theorem dX12_composite_101 : decode cX12_composite 101 = .ok (.dup, 1) := by decide +kernel
theorem dX12_composite_102 : decode cX12_composite 102 = .ok (.getfield 483, 3) := by decide +kernel
theorem dX12_composite_105 : decode cX12_composite 105 = .ok (.iconst 1, 1) := by decide +kernel
theorem dX12_composite_106 : decode cX12_composite 106 = .ok (.iadd, 1) := by decide +kernel
theorem dX12_composite_107 : decode cX12_composite 107 = .ok (.putfield 483, 3) := by decide +kernel
theorem dX12_composite_110 : decode cX12_composite 110 = .ok (.iinc 2 1, 3) := by decide +kernel
theorem dX12_composite_113 : decode cX12_composite 113 = .ok (.goto (-71), 3) := by decide +kernel
theorem dX12_composite_116 : decode cX12_composite 116 = .ok (.iconst (-1), 1) := by decide +kernel
theorem dX12_composite_117 : decode cX12_composite 117 = .ok (.istore_n 2, 1) := by decide +kernel
theorem dX12_composite_118 : decode cX12_composite 118 = .ok (.aload_n 0, 1) := by decide +kernel
theorem dX12_composite_119 : decode cX12_composite 119 = .ok (.getfield 231, 3) := by decide +kernel
theorem dX12_composite_122 : decode cX12_composite 122 = .ok (.iconst 1, 1) := by decide +kernel
theorem dX12_composite_123 : decode cX12_composite 123 = .ok (.isub, 1) := by decide +kernel
theorem dX12_composite_124 : decode cX12_composite 124 = .ok (.istore_n 3, 1) := by decide +kernel
theorem dX12_composite_125 : decode cX12_composite 125 = .ok (.iload_n 3, 1) := by decide +kernel
theorem dX12_composite_126 : decode cX12_composite 126 = .ok (.ifCond .lt 28, 3) := by decide +kernel
theorem dX12_composite_129 : decode cX12_composite 129 = .ok (.iload_n 1, 1) := by decide +kernel
theorem dX12_composite_130 : decode cX12_composite 130 = .ok (.iload_n 3, 1) := by decide +kernel
theorem dX12_composite_131 : decode cX12_composite 131 = .ok (.ishr, 1) := by decide +kernel
theorem dX12_composite_132 : decode cX12_composite 132 = .ok (.iconst 1, 1) := by decide +kernel
theorem dX12_composite_133 : decode cX12_composite 133 = .ok (.iand, 1) := by decide +kernel
theorem dX12_composite_134 : decode cX12_composite 134 = .ok (.ifCond .ne 6, 3) := by decide +kernel
theorem dX12_composite_137 : decode cX12_composite 137 = .ok (.goto 11, 3) := by decide +kernel
theorem dX12_composite_140 : decode cX12_composite 140 = .ok (.iload_n 3, 1) := by decide +kernel
theorem dX12_composite_141 : decode cX12_composite 141 = .ok (.istore_n 2, 1) := by decide +kernel
theorem dX12_composite_142 : decode cX12_composite 142 = .ok (.aload_n 0, 1) := by decide +kernel
theorem dX12_composite_143 : decode cX12_composite 143 = .ok (.iload_n 3, 1) := by decide +kernel
theorem dX12_composite_144 : decode cX12_composite 144 = .ok (.iconst 4, 1) := by decide +kernel
theorem dX12_composite_145 : decode cX12_composite 145 = .ok (.invokevirtual 534, 3) := by decide +kernel
theorem dX12_composite_148 : decode cX12_composite 148 = .ok (.iinc 3 (-1), 3) := by decide +kernel
theorem dX12_composite_151 : decode cX12_composite 151 = .ok (.goto (-26), 3) := by decide +kernel
theorem dX12_composite_154 : decode cX12_composite 154 = .ok (.aload_n 0, 1) := by decide +kernel
theorem dX12_composite_155 : decode cX12_composite 155 = .ok (.aload_n 0, 1) := by decide +kernel
theorem dX12_composite_156 : decode cX12_composite 156 = .ok (.getfield 26, 3) := by decide +kernel
theorem dX12_composite_159 : decode cX12_composite 159 = .ok (.iload_n 2, 1) := by decide +kernel
theorem dX12_composite_160 : decode cX12_composite 160 = .ok (.iaload, 1) := by decide +kernel
theorem dX12_composite_161 : decode cX12_composite 161 = .ok (.invokevirtual 516, 3) := by decide +kernel
theorem dX12_composite_164 : decode cX12_composite 164 = .ok (.ireturn, 1) := by decide +kernel
theorem dX12_loses_0 : decode cX12_loses 0 = .ok (.iconst 0, 1) := by decide +kernel
theorem dX12_loses_1 : decode cX12_loses 1 = .ok (.istore_n 2, 1) := by decide +kernel
theorem dX12_loses_2 : decode cX12_loses 2 = .ok (.iconst 0, 1) := by decide +kernel
theorem dX12_loses_3 : decode cX12_loses 3 = .ok (.istore_n 3, 1) := by decide +kernel
theorem dX12_loses_4 : decode cX12_loses 4 = .ok (.iload_n 3, 1) := by decide +kernel
theorem dX12_loses_5 : decode cX12_loses 5 = .ok (.iload_n 1, 1) := by decide +kernel
theorem dX12_loses_6 : decode cX12_loses 6 = .ok (.if_icmp .ge 85, 3) := by decide +kernel
theorem dX12_loses_9 : decode cX12_loses 9 = .ok (.iconst 0, 1) := by decide +kernel
theorem dX12_loses_10 : decode cX12_loses 10 = .ok (.istore 4, 2) := by decide +kernel
theorem dX12_loses_12 : decode cX12_loses 12 = .ok (.iconst 0, 1) := by decide +kernel
theorem dX12_loses_13 : decode cX12_loses 13 = .ok (.istore 5, 2) := by decide +kernel
theorem dX12_loses_15 : decode cX12_loses 15 = .ok (.iload 5, 2) := by decide +kernel
theorem dX12_loses_17 : decode cX12_loses 17 = .ok (.aload_n 0, 1) := by decide +kernel
theorem dX12_loses_18 : decode cX12_loses 18 = .ok (.getfield 576, 3) := by decide +kernel
theorem dX12_loses_21 : decode cX12_loses 21 = .ok (.if_icmp .ge 34, 3) := by decide +kernel
theorem dX12_loses_24 : decode cX12_loses 24 = .ok (.aload_n 0, 1) := by decide +kernel
theorem dX12_loses_25 : decode cX12_loses 25 = .ok (.getfield 179, 3) := by decide +kernel
theorem dX12_loses_28 : decode cX12_loses 28 = .ok (.iload 5, 2) := by decide +kernel
theorem dX12_loses_30 : decode cX12_loses 30 = .ok (.iaload, 1) := by decide +kernel
theorem dX12_loses_31 : decode cX12_loses 31 = .ok (.iload_n 3, 1) := by decide +kernel
theorem dX12_loses_32 : decode cX12_loses 32 = .ok (.if_icmp .ne 17, 3) := by decide +kernel
theorem dX12_loses_35 : decode cX12_loses 35 = .ok (.iload 4, 2) := by decide +kernel
theorem dX12_loses_37 : decode cX12_loses 37 = .ok (.iconst 1, 1) := by decide +kernel
theorem dX12_loses_38 : decode cX12_loses 38 = .ok (.aload_n 0, 1) := by decide +kernel
theorem dX12_loses_39 : decode cX12_loses 39 = .ok (.getfield 176, 3) := by decide +kernel
theorem dX12_loses_42 : decode cX12_loses 42 = .ok (.iload 5, 2) := by decide +kernel
theorem dX12_loses_44 : decode cX12_loses 44 = .ok (.iaload, 1) := by decide +kernel
theorem dX12_loses_45 : decode cX12_loses 45 = .ok (.ishl, 1) := by decide +kernel
theorem dX12_loses_46 : decode cX12_loses 46 = .ok (.ior, 1) := by decide +kernel
theorem dX12_loses_47 : decode cX12_loses 47 = .ok (.istore 4, 2) := by decide +kernel
theorem dX12_loses_49 : decode cX12_loses 49 = .ok (.iinc 5 1, 3) := by decide +kernel
theorem dX12_loses_52 : decode cX12_loses 52 = .ok (.goto (-37), 3) := by decide +kernel
theorem dX12_loses_55 : decode cX12_loses 55 = .ok (.iload 4, 2) := by decide +kernel
theorem dX12_loses_57 : decode cX12_loses 57 = .ok (.invokestatic 563, 3) := by decide +kernel
theorem dX12_loses_60 : decode cX12_loses 60 = .ok (.iconst 1, 1) := by decide +kernel
theorem dX12_loses_61 : decode cX12_loses 61 = .ok (.if_icmp .ne 6, 3) := by decide +kernel
theorem dX12_loses_64 : decode cX12_loses 64 = .ok (.goto 21, 3) := by decide +kernel
theorem dX12_loses_67 : decode cX12_loses 67 = .ok (.aload_n 0, 1) := by decide +kernel
theorem dX12_loses_68 : decode cX12_loses 68 = .ok (.iload 4, 2) := by decide +kernel
theorem dX12_loses_70 : decode cX12_loses 70 = .ok (.invokevirtual 573, 3) := by decide +kernel
theorem dX12_loses_73 : decode cX12_loses 73 = .ok (.ifCond .ne 5, 3) := by decide +kernel
theorem dX12_loses_76 : decode cX12_loses 76 = .ok (.iconst (-1), 1) := by decide +kernel
theorem dX12_loses_77 : decode cX12_loses 77 = .ok (.ireturn, 1) := by decide +kernel
theorem dX12_loses_78 : decode cX12_loses 78 = .ok (.iload_n 2, 1) := by decide +kernel
theorem dX12_loses_79 : decode cX12_loses 79 = .ok (.aload_n 0, 1) := by decide +kernel
theorem dX12_loses_80 : decode cX12_loses 80 = .ok (.getfield 567, 3) := by decide +kernel
theorem dX12_loses_83 : decode cX12_loses 83 = .ok (.iadd, 1) := by decide +kernel
theorem dX12_loses_84 : decode cX12_loses 84 = .ok (.istore_n 2, 1) := by decide +kernel
theorem dX12_loses_85 : decode cX12_loses 85 = .ok (.iinc 3 1, 3) := by decide +kernel
theorem dX12_loses_88 : decode cX12_loses 88 = .ok (.goto (-84), 3) := by decide +kernel
theorem dX12_loses_91 : decode cX12_loses 91 = .ok (.iload_n 2, 1) := by decide +kernel
theorem dX12_loses_92 : decode cX12_loses 92 = .ok (.ireturn, 1) := by decide +kernel
theorem dX12_groupsOf_0 : decode cX12_groupsOf 0 = .ok (.iconst 0, 1) := by decide +kernel
theorem dX12_groupsOf_1 : decode cX12_groupsOf 1 = .ok (.istore_n 1, 1) := by decide +kernel
theorem dX12_groupsOf_2 : decode cX12_groupsOf 2 = .ok (.iconst 0, 1) := by decide +kernel
theorem dX12_groupsOf_3 : decode cX12_groupsOf 3 = .ok (.istore_n 2, 1) := by decide +kernel
theorem dX12_groupsOf_4 : decode cX12_groupsOf 4 = .ok (.iload_n 2, 1) := by decide +kernel
theorem dX12_groupsOf_5 : decode cX12_groupsOf 5 = .ok (.aload_n 0, 1) := by decide +kernel
theorem dX12_groupsOf_6 : decode cX12_groupsOf 6 = .ok (.getfield 576, 3) := by decide +kernel
theorem dX12_groupsOf_9 : decode cX12_groupsOf 9 = .ok (.if_icmp .ge 28, 3) := by decide +kernel
theorem dX12_groupsOf_12 : decode cX12_groupsOf 12 = .ok (.aload_n 0, 1) := by decide +kernel
theorem dX12_groupsOf_13 : decode cX12_groupsOf 13 = .ok (.getfield 179, 3) := by decide +kernel
theorem dX12_groupsOf_16 : decode cX12_groupsOf 16 = .ok (.iload_n 2, 1) := by decide +kernel
theorem dX12_groupsOf_17 : decode cX12_groupsOf 17 = .ok (.iaload, 1) := by decide +kernel
theorem dX12_groupsOf_18 : decode cX12_groupsOf 18 = .ok (.iload_n 1, 1) := by decide +kernel
theorem dX12_groupsOf_19 : decode cX12_groupsOf 19 = .ok (.if_icmp .lt 12, 3) := by decide +kernel
theorem dX12_groupsOf_22 : decode cX12_groupsOf 22 = .ok (.aload_n 0, 1) := by decide +kernel
theorem dX12_groupsOf_23 : decode cX12_groupsOf 23 = .ok (.getfield 179, 3) := by decide +kernel
theorem dX12_groupsOf_26 : decode cX12_groupsOf 26 = .ok (.iload_n 2, 1) := by decide +kernel
theorem dX12_groupsOf_27 : decode cX12_groupsOf 27 = .ok (.iaload, 1) := by decide +kernel
theorem dX12_groupsOf_28 : decode cX12_groupsOf 28 = .ok (.iconst 1, 1) := by decide +kernel
theorem dX12_groupsOf_29 : decode cX12_groupsOf 29 = .ok (.iadd, 1) := by decide +kernel
theorem dX12_groupsOf_30 : decode cX12_groupsOf 30 = .ok (.istore_n 1, 1) := by decide +kernel
theorem dX12_groupsOf_31 : decode cX12_groupsOf 31 = .ok (.iinc 2 1, 3) := by decide +kernel
theorem dX12_groupsOf_34 : decode cX12_groupsOf 34 = .ok (.goto (-30), 3) := by decide +kernel
theorem dX12_groupsOf_37 : decode cX12_groupsOf 37 = .ok (.iload_n 1, 1) := by decide +kernel
theorem dX12_groupsOf_38 : decode cX12_groupsOf 38 = .ok (.ireturn, 1) := by decide +kernel
theorem dX12_countsUp_0 : decode cX12_countsUp 0 = .ok (.aload_n 0, 1) := by decide +kernel
theorem dX12_countsUp_1 : decode cX12_countsUp 1 = .ok (.getfield 576, 3) := by decide +kernel
theorem dX12_countsUp_4 : decode cX12_countsUp 4 = .ok (.iconst 1, 1) := by decide +kernel
theorem dX12_countsUp_5 : decode cX12_countsUp 5 = .ok (.isub, 1) := by decide +kernel
theorem dX12_countsUp_6 : decode cX12_countsUp 6 = .ok (.istore_n 1, 1) := by decide +kernel
theorem dX12_countsUp_7 : decode cX12_countsUp 7 = .ok (.iload_n 1, 1) := by decide +kernel
theorem dX12_countsUp_8 : decode cX12_countsUp 8 = .ok (.ifCond .le 76, 3) := by decide +kernel
theorem dX12_countsUp_11 : decode cX12_countsUp 11 = .ok (.iconst 0, 1) := by decide +kernel
theorem dX12_countsUp_12 : decode cX12_countsUp 12 = .ok (.istore_n 2, 1) := by decide +kernel
theorem dX12_countsUp_13 : decode cX12_countsUp 13 = .ok (.iconst 0, 1) := by decide +kernel
theorem dX12_countsUp_14 : decode cX12_countsUp 14 = .ok (.istore_n 3, 1) := by decide +kernel
theorem dX12_countsUp_15 : decode cX12_countsUp 15 = .ok (.iload_n 3, 1) := by decide +kernel
theorem dX12_countsUp_16 : decode cX12_countsUp 16 = .ok (.iload_n 1, 1) := by decide +kernel
theorem dX12_countsUp_17 : decode cX12_countsUp 17 = .ok (.if_icmp .ge 32, 3) := by decide +kernel
theorem dX12_countsUp_20 : decode cX12_countsUp 20 = .ok (.aload_n 0, 1) := by decide +kernel
theorem dX12_countsUp_21 : decode cX12_countsUp 21 = .ok (.getfield 179, 3) := by decide +kernel
theorem dX12_countsUp_24 : decode cX12_countsUp 24 = .ok (.iload_n 3, 1) := by decide +kernel
theorem dX12_countsUp_25 : decode cX12_countsUp 25 = .ok (.iaload, 1) := by decide +kernel
theorem dX12_countsUp_26 : decode cX12_countsUp 26 = .ok (.iload_n 2, 1) := by decide +kernel
theorem dX12_countsUp_27 : decode cX12_countsUp 27 = .ok (.if_icmp .lt 14, 3) := by decide +kernel
theorem dX12_countsUp_30 : decode cX12_countsUp 30 = .ok (.aload_n 0, 1) := by decide +kernel
theorem dX12_countsUp_31 : decode cX12_countsUp 31 = .ok (.getfield 179, 3) := by decide +kernel
theorem dX12_countsUp_34 : decode cX12_countsUp 34 = .ok (.iload_n 3, 1) := by decide +kernel
theorem dX12_countsUp_35 : decode cX12_countsUp 35 = .ok (.iaload, 1) := by decide +kernel
theorem dX12_countsUp_36 : decode cX12_countsUp 36 = .ok (.iconst 1, 1) := by decide +kernel
theorem dX12_countsUp_37 : decode cX12_countsUp 37 = .ok (.iadd, 1) := by decide +kernel
theorem dX12_countsUp_38 : decode cX12_countsUp 38 = .ok (.goto 4, 3) := by decide +kernel
theorem dX12_countsUp_41 : decode cX12_countsUp 41 = .ok (.iload_n 2, 1) := by decide +kernel
theorem dX12_countsUp_42 : decode cX12_countsUp 42 = .ok (.istore_n 2, 1) := by decide +kernel
theorem dX12_countsUp_43 : decode cX12_countsUp 43 = .ok (.iinc 3 1, 3) := by decide +kernel
theorem dX12_countsUp_46 : decode cX12_countsUp 46 = .ok (.goto (-31), 3) := by decide +kernel
theorem dX12_countsUp_49 : decode cX12_countsUp 49 = .ok (.aload_n 0, 1) := by decide +kernel
theorem dX12_countsUp_50 : decode cX12_countsUp 50 = .ok (.getfield 179, 3) := by decide +kernel
theorem dX12_countsUp_53 : decode cX12_countsUp 53 = .ok (.iload_n 1, 1) := by decide +kernel
theorem dX12_countsUp_54 : decode cX12_countsUp 54 = .ok (.iaload, 1) := by decide +kernel
theorem dX12_countsUp_55 : decode cX12_countsUp 55 = .ok (.iload_n 2, 1) := by decide +kernel
theorem dX12_countsUp_56 : decode cX12_countsUp 56 = .ok (.if_icmp .ge 15, 3) := by decide +kernel
theorem dX12_countsUp_59 : decode cX12_countsUp 59 = .ok (.aload_n 0, 1) := by decide +kernel
theorem dX12_countsUp_60 : decode cX12_countsUp 60 = .ok (.getfield 179, 3) := by decide +kernel
theorem dX12_countsUp_63 : decode cX12_countsUp 63 = .ok (.iload_n 1, 1) := by decide +kernel
theorem dX12_countsUp_64 : decode cX12_countsUp 64 = .ok (.dup2, 1) := by decide +kernel
theorem dX12_countsUp_65 : decode cX12_countsUp 65 = .ok (.iaload, 1) := by decide +kernel
theorem dX12_countsUp_66 : decode cX12_countsUp 66 = .ok (.iconst 1, 1) := by decide +kernel
theorem dX12_countsUp_67 : decode cX12_countsUp 67 = .ok (.iadd, 1) := by decide +kernel
theorem dX12_countsUp_68 : decode cX12_countsUp 68 = .ok (.iastore, 1) := by decide +kernel
theorem dX12_countsUp_69 : decode cX12_countsUp 69 = .ok (.iconst 1, 1) := by decide +kernel
theorem dX12_countsUp_70 : decode cX12_countsUp 70 = .ok (.ireturn, 1) := by decide +kernel
theorem dX12_countsUp_71 : decode cX12_countsUp 71 = .ok (.aload_n 0, 1) := by decide +kernel
theorem dX12_countsUp_72 : decode cX12_countsUp 72 = .ok (.getfield 179, 3) := by decide +kernel
theorem dX12_countsUp_75 : decode cX12_countsUp 75 = .ok (.iload_n 1, 1) := by decide +kernel
theorem dX12_countsUp_76 : decode cX12_countsUp 76 = .ok (.iconst 0, 1) := by decide +kernel
theorem dX12_countsUp_77 : decode cX12_countsUp 77 = .ok (.iastore, 1) := by decide +kernel
theorem dX12_countsUp_78 : decode cX12_countsUp 78 = .ok (.iinc 1 (-1), 3) := by decide +kernel
theorem dX12_countsUp_81 : decode cX12_countsUp 81 = .ok (.goto (-74), 3) := by decide +kernel
theorem dX12_countsUp_84 : decode cX12_countsUp 84 = .ok (.iconst 0, 1) := by decide +kernel
theorem dX12_countsUp_85 : decode cX12_countsUp 85 = .ok (.ireturn, 1) := by decide +kernel
theorem dX12_groups_0 : decode cX12_groups 0 = .ok (.aload_n 0, 1) := by decide +kernel
theorem dX12_groups_1 : decode cX12_groups 1 = .ok (.iconst 0, 1) := by decide +kernel
theorem dX12_groups_2 : decode cX12_groups 2 = .ok (.putfield 576, 3) := by decide +kernel
theorem dX12_groups_5 : decode cX12_groups 5 = .ok (.iconst 0, 1) := by decide +kernel
theorem dX12_groups_6 : decode cX12_groups 6 = .ok (.istore_n 3, 1) := by decide +kernel
theorem dX12_groups_7 : decode cX12_groups 7 = .ok (.iload_n 3, 1) := by decide +kernel
theorem dX12_groups_8 : decode cX12_groups 8 = .ok (.bipush 24, 2) := by decide +kernel
theorem dX12_groups_10 : decode cX12_groups 10 = .ok (.if_icmp .ge 50, 3) := by decide +kernel
theorem dX12_groups_13 : decode cX12_groups 13 = .ok (.iload_n 1, 1) := by decide +kernel
theorem dX12_groups_14 : decode cX12_groups 14 = .ok (.iload_n 3, 1) := by decide +kernel
theorem dX12_groups_15 : decode cX12_groups 15 = .ok (.ishr, 1) := by decide +kernel
theorem dX12_groups_16 : decode cX12_groups 16 = .ok (.iconst 1, 1) := by decide +kernel
theorem dX12_groups_17 : decode cX12_groups 17 = .ok (.iand, 1) := by decide +kernel
theorem dX12_groups_18 : decode cX12_groups 18 = .ok (.ifCond .ne 6, 3) := by decide +kernel
theorem dX12_groups_21 : decode cX12_groups 21 = .ok (.goto 33, 3) := by decide +kernel
theorem dX12_groups_24 : decode cX12_groups 24 = .ok (.aload_n 0, 1) := by decide +kernel
theorem dX12_groups_25 : decode cX12_groups 25 = .ok (.getfield 176, 3) := by decide +kernel
theorem dX12_groups_28 : decode cX12_groups 28 = .ok (.aload_n 0, 1) := by decide +kernel
theorem dX12_groups_29 : decode cX12_groups 29 = .ok (.getfield 576, 3) := by decide +kernel
theorem dX12_groups_32 : decode cX12_groups 32 = .ok (.iload_n 3, 1) := by decide +kernel
theorem dX12_groups_33 : decode cX12_groups 33 = .ok (.iastore, 1) := by decide +kernel
theorem dX12_groups_34 : decode cX12_groups 34 = .ok (.aload_n 0, 1) := by decide +kernel
theorem dX12_groups_35 : decode cX12_groups 35 = .ok (.getfield 179, 3) := by decide +kernel
theorem dX12_groups_38 : decode cX12_groups 38 = .ok (.aload_n 0, 1) := by decide +kernel
theorem dX12_groups_39 : decode cX12_groups 39 = .ok (.getfield 576, 3) := by decide +kernel
theorem dX12_groups_42 : decode cX12_groups 42 = .ok (.iconst 0, 1) := by decide +kernel
theorem dX12_groups_43 : decode cX12_groups 43 = .ok (.iastore, 1) := by decide +kernel
theorem dX12_groups_44 : decode cX12_groups 44 = .ok (.aload_n 0, 1) := by decide +kernel
theorem dX12_groups_45 : decode cX12_groups 45 = .ok (.dup, 1) := by decide +kernel
theorem dX12_groups_46 : decode cX12_groups 46 = .ok (.getfield 576, 3) := by decide +kernel
theorem dX12_groups_49 : decode cX12_groups 49 = .ok (.iconst 1, 1) := by decide +kernel
theorem dX12_groups_50 : decode cX12_groups 50 = .ok (.iadd, 1) := by decide +kernel
theorem dX12_groups_51 : decode cX12_groups 51 = .ok (.putfield 576, 3) := by decide +kernel
theorem dX12_groups_54 : decode cX12_groups 54 = .ok (.iinc 3 1, 3) := by decide +kernel
theorem dX12_groups_57 : decode cX12_groups 57 = .ok (.goto (-50), 3) := by decide +kernel
theorem dX12_groups_60 : decode cX12_groups 60 = .ok (.iconst (-1), 1) := by decide +kernel
theorem dX12_groups_61 : decode cX12_groups 61 = .ok (.istore_n 3, 1) := by decide +kernel
theorem dX12_groups_62 : decode cX12_groups 62 = .ok (.iconst 0, 1) := by decide +kernel
theorem dX12_groups_63 : decode cX12_groups 63 = .ok (.istore 4, 2) := by decide +kernel
theorem dX12_groups_65 : decode cX12_groups 65 = .ok (.iconst 1, 1) := by decide +kernel
theorem dX12_groups_66 : decode cX12_groups 66 = .ok (.istore 5, 2) := by decide +kernel
theorem dX12_groups_68 : decode cX12_groups 68 = .ok (.iload 5, 2) := by decide +kernel
theorem dX12_groups_70 : decode cX12_groups 70 = .ok (.ifCond .eq 85, 3) := by decide +kernel
theorem dX12_groups_73 : decode cX12_groups 73 = .ok (.aload_n 0, 1) := by decide +kernel
theorem dX12_groups_74 : decode cX12_groups 74 = .ok (.invokevirtual 579, 3) := by decide +kernel
theorem dX12_groups_77 : decode cX12_groups 77 = .ok (.istore 6, 2) := by decide +kernel
theorem dX12_groups_79 : decode cX12_groups 79 = .ok (.iload 6, 2) := by decide +kernel
theorem dX12_groups_81 : decode cX12_groups 81 = .ok (.iload_n 2, 1) := by decide +kernel
theorem dX12_groups_82 : decode cX12_groups 82 = .ok (.if_icmp .gt 12, 3) := by decide +kernel
theorem dX12_groups_85 : decode cX12_groups 85 = .ok (.aload_n 0, 1) := by decide +kernel
theorem dX12_groups_86 : decode cX12_groups 86 = .ok (.iload 6, 2) := by decide +kernel
theorem dX12_groups_88 : decode cX12_groups 88 = .ok (.invokevirtual 582, 3) := by decide +kernel
theorem dX12_groups_91 : decode cX12_groups 91 = .ok (.goto 4, 3) := by decide +kernel
theorem dX12_groups_94 : decode cX12_groups 94 = .ok (.iconst (-1), 1) := by decide +kernel
theorem dX12_groups_95 : decode cX12_groups 95 = .ok (.istore 7, 2) := by decide +kernel
theorem dX12_groups_97 : decode cX12_groups 97 = .ok (.iload 7, 2) := by decide +kernel
theorem dX12_groups_99 : decode cX12_groups 99 = .ok (.iconst (-1), 1) := by decide +kernel
theorem dX12_groups_100 : decode cX12_groups 100 = .ok (.if_icmp .eq 46, 3) := by decide +kernel
theorem dX12_groups_103 : decode cX12_groups 103 = .ok (.iload_n 3, 1) := by decide +kernel
theorem dX12_groups_104 : decode cX12_groups 104 = .ok (.iconst (-1), 1) := by decide +kernel
theorem dX12_groups_105 : decode cX12_groups 105 = .ok (.if_icmp .eq 22, 3) := by decide +kernel
theorem dX12_groups_108 : decode cX12_groups 108 = .ok (.iload 7, 2) := by decide +kernel
theorem dX12_groups_110 : decode cX12_groups 110 = .ok (.iload_n 3, 1) := by decide +kernel
theorem dX12_groups_111 : decode cX12_groups 111 = .ok (.if_icmp .lt 16, 3) := by decide +kernel
theorem dX12_groups_114 : decode cX12_groups 114 = .ok (.iload 7, 2) := by decide +kernel
theorem dX12_groups_116 : decode cX12_groups 116 = .ok (.iload_n 3, 1) := by decide +kernel
theorem dX12_groups_117 : decode cX12_groups 117 = .ok (.if_icmp .ne 29, 3) := by decide +kernel
theorem dX12_groups_120 : decode cX12_groups 120 = .ok (.iload 6, 2) := by decide +kernel
theorem dX12_groups_122 : decode cX12_groups 122 = .ok (.iload 4, 2) := by decide +kernel
theorem dX12_groups_124 : decode cX12_groups 124 = .ok (.if_icmp .ge 22, 3) := by decide +kernel
theorem dX12_groups_127 : decode cX12_groups 127 = .ok (.iload 7, 2) := by decide +kernel
theorem dX12_groups_129 : decode cX12_groups 129 = .ok (.istore_n 3, 1) := by decide +kernel
theorem dX12_groups_130 : decode cX12_groups 130 = .ok (.iload 6, 2) := by decide +kernel
theorem dX12_groups_132 : decode cX12_groups 132 = .ok (.istore 4, 2) := by decide +kernel
theorem dX12_groups_134 : decode cX12_groups 134 = .ok (.aload_n 0, 1) := by decide +kernel
theorem dX12_groups_135 : decode cX12_groups 135 = .ok (.aload_n 0, 1) := by decide +kernel
theorem dX12_groups_136 : decode cX12_groups 136 = .ok (.getfield 179, 3) := by decide +kernel
theorem dX12_groups_139 : decode cX12_groups 139 = .ok (.aload_n 0, 1) := by decide +kernel
theorem dX12_groups_140 : decode cX12_groups 140 = .ok (.getfield 182, 3) := by decide +kernel
theorem dX12_groups_143 : decode cX12_groups 143 = .ok (.invokevirtual 227, 3) := by decide +kernel
theorem dX12_groups_146 : decode cX12_groups 146 = .ok (.aload_n 0, 1) := by decide +kernel
theorem dX12_groups_147 : decode cX12_groups 147 = .ok (.invokevirtual 585, 3) := by decide +kernel
theorem dX12_groups_150 : decode cX12_groups 150 = .ok (.istore 5, 2) := by decide +kernel
theorem dX12_groups_152 : decode cX12_groups 152 = .ok (.goto (-84), 3) := by decide +kernel
theorem dX12_groups_155 : decode cX12_groups 155 = .ok (.iload_n 3, 1) := by decide +kernel
theorem dX12_groups_156 : decode cX12_groups 156 = .ok (.ireturn, 1) := by decide +kernel
theorem dX12_group_0 : decode cX12_group 0 = .ok (.aload_n 0, 1) := by decide +kernel
theorem dX12_group_1 : decode cX12_group 1 = .ok (.iconst 0, 1) := by decide +kernel
theorem dX12_group_2 : decode cX12_group 2 = .ok (.putfield 1, 3) := by decide +kernel
theorem dX12_group_5 : decode cX12_group 5 = .ok (.aload_n 0, 1) := by decide +kernel
theorem dX12_group_6 : decode cX12_group 6 = .ok (.iload_n 1, 1) := by decide +kernel
theorem dX12_group_7 : decode cX12_group 7 = .ok (.iconst 1, 1) := by decide +kernel
theorem dX12_group_8 : decode cX12_group 8 = .ok (.bipush 8, 2) := by decide +kernel
theorem dX12_group_10 : decode cX12_group 10 = .ok (.invokevirtual 570, 3) := by decide +kernel
theorem dX12_group_13 : decode cX12_group 13 = .ok (.ifCond .eq 22, 3) := by decide +kernel
theorem dX12_group_16 : decode cX12_group 16 = .ok (.iload_n 2, 1) := by decide +kernel
theorem dX12_group_17 : decode cX12_group 17 = .ok (.iconst 1, 1) := by decide +kernel
theorem dX12_group_18 : decode cX12_group 18 = .ok (.bipush 8, 2) := by decide +kernel
theorem dX12_group_20 : decode cX12_group 20 = .ok (.invokestatic 215, 3) := by decide +kernel
theorem dX12_group_23 : decode cX12_group 23 = .ok (.ifCond .eq 12, 3) := by decide +kernel
theorem dX12_group_26 : decode cX12_group 26 = .ok (.aload_n 0, 1) := by decide +kernel
theorem dX12_group_27 : decode cX12_group 27 = .ok (.iload_n 1, 1) := by decide +kernel
theorem dX12_group_28 : decode cX12_group 28 = .ok (.iload_n 2, 1) := by decide +kernel
theorem dX12_group_29 : decode cX12_group 29 = .ok (.invokevirtual 588, 3) := by decide +kernel
theorem dX12_group_32 : decode cX12_group 32 = .ok (.goto 4, 3) := by decide +kernel
theorem dX12_group_35 : decode cX12_group 35 = .ok (.iconst (-1), 1) := by decide +kernel
theorem dX12_group_36 : decode cX12_group 36 = .ok (.ireturn, 1) := by decide +kernel
theorem dX12_grouped_0 : decode cX12_grouped 0 = .ok (.aload_n 0, 1) := by decide +kernel
theorem dX12_grouped_1 : decode cX12_grouped 1 = .ok (.iconst 0, 1) := by decide +kernel
theorem dX12_grouped_2 : decode cX12_grouped 2 = .ok (.putfield 1, 3) := by decide +kernel
theorem dX12_grouped_5 : decode cX12_grouped 5 = .ok (.aload_n 0, 1) := by decide +kernel
theorem dX12_grouped_6 : decode cX12_grouped 6 = .ok (.iload_n 1, 1) := by decide +kernel
theorem dX12_grouped_7 : decode cX12_grouped 7 = .ok (.iconst 1, 1) := by decide +kernel
theorem dX12_grouped_8 : decode cX12_grouped 8 = .ok (.bipush 8, 2) := by decide +kernel
theorem dX12_grouped_10 : decode cX12_grouped 10 = .ok (.invokevirtual 570, 3) := by decide +kernel
theorem dX12_grouped_13 : decode cX12_grouped 13 = .ok (.ifCond .eq 39, 3) := by decide +kernel
theorem dX12_grouped_16 : decode cX12_grouped 16 = .ok (.iload_n 2, 1) := by decide +kernel
theorem dX12_grouped_17 : decode cX12_grouped 17 = .ok (.iconst 1, 1) := by decide +kernel
theorem dX12_grouped_18 : decode cX12_grouped 18 = .ok (.bipush 8, 2) := by decide +kernel
theorem dX12_grouped_20 : decode cX12_grouped 20 = .ok (.invokestatic 215, 3) := by decide +kernel
theorem dX12_grouped_23 : decode cX12_grouped 23 = .ok (.ifCond .eq 29, 3) := by decide +kernel
theorem dX12_grouped_26 : decode cX12_grouped 26 = .ok (.aload_n 0, 1) := by decide +kernel
theorem dX12_grouped_27 : decode cX12_grouped 27 = .ok (.iload_n 3, 1) := by decide +kernel
theorem dX12_grouped_28 : decode cX12_grouped 28 = .ok (.invokevirtual 234, 3) := by decide +kernel
theorem dX12_grouped_31 : decode cX12_grouped 31 = .ok (.ifCond .eq 21, 3) := by decide +kernel
theorem dX12_grouped_34 : decode cX12_grouped 34 = .ok (.iload_n 1, 1) := by decide +kernel
theorem dX12_grouped_35 : decode cX12_grouped 35 = .ok (.iload_n 3, 1) := by decide +kernel
theorem dX12_grouped_36 : decode cX12_grouped 36 = .ok (.ishr, 1) := by decide +kernel
theorem dX12_grouped_37 : decode cX12_grouped 37 = .ok (.iconst 1, 1) := by decide +kernel
theorem dX12_grouped_38 : decode cX12_grouped 38 = .ok (.iand, 1) := by decide +kernel
theorem dX12_grouped_39 : decode cX12_grouped 39 = .ok (.ifCond .eq 13, 3) := by decide +kernel
theorem dX12_grouped_42 : decode cX12_grouped 42 = .ok (.aload_n 0, 1) := by decide +kernel
theorem dX12_grouped_43 : decode cX12_grouped 43 = .ok (.iload_n 1, 1) := by decide +kernel
theorem dX12_grouped_44 : decode cX12_grouped 44 = .ok (.iload_n 2, 1) := by decide +kernel
theorem dX12_grouped_45 : decode cX12_grouped 45 = .ok (.invokevirtual 588, 3) := by decide +kernel
theorem dX12_grouped_48 : decode cX12_grouped 48 = .ok (.iconst (-1), 1) := by decide +kernel
theorem dX12_grouped_49 : decode cX12_grouped 49 = .ok (.if_icmp .ne 5, 3) := by decide +kernel
theorem dX12_grouped_52 : decode cX12_grouped 52 = .ok (.iconst (-1), 1) := by decide +kernel
theorem dX12_grouped_53 : decode cX12_grouped 53 = .ok (.ireturn, 1) := by decide +kernel
theorem dX12_grouped_54 : decode cX12_grouped 54 = .ok (.iconst 0, 1) := by decide +kernel
theorem dX12_grouped_55 : decode cX12_grouped 55 = .ok (.istore 4, 2) := by decide +kernel
theorem dX12_grouped_57 : decode cX12_grouped 57 = .ok (.aload_n 0, 1) := by decide +kernel
theorem dX12_grouped_58 : decode cX12_grouped 58 = .ok (.getfield 176, 3) := by decide +kernel
theorem dX12_grouped_61 : decode cX12_grouped 61 = .ok (.iload 4, 2) := by decide +kernel
theorem dX12_grouped_63 : decode cX12_grouped 63 = .ok (.iaload, 1) := by decide +kernel
theorem dX12_grouped_64 : decode cX12_grouped 64 = .ok (.iload_n 3, 1) := by decide +kernel
theorem dX12_grouped_65 : decode cX12_grouped 65 = .ok (.if_icmp .eq 9, 3) := by decide +kernel
theorem dX12_grouped_68 : decode cX12_grouped 68 = .ok (.iinc 4 1, 3) := by decide +kernel
theorem dX12_grouped_71 : decode cX12_grouped 71 = .ok (.goto (-14), 3) := by decide +kernel
theorem dX12_grouped_74 : decode cX12_grouped 74 = .ok (.aload_n 0, 1) := by decide +kernel
theorem dX12_grouped_75 : decode cX12_grouped 75 = .ok (.getfield 182, 3) := by decide +kernel
theorem dX12_grouped_78 : decode cX12_grouped 78 = .ok (.iload 4, 2) := by decide +kernel
theorem dX12_grouped_80 : decode cX12_grouped 80 = .ok (.iaload, 1) := by decide +kernel
theorem dX12_grouped_81 : decode cX12_grouped 81 = .ok (.ireturn, 1) := by decide +kernel
theorem dX12_wouldPass_0 : decode cX12_wouldPass 0 = .ok (.aload_n 0, 1) := by decide +kernel
theorem dX12_wouldPass_1 : decode cX12_wouldPass 1 = .ok (.iload_n 1, 1) := by decide +kernel
theorem dX12_wouldPass_2 : decode cX12_wouldPass 2 = .ok (.aload_n 0, 1) := by decide +kernel
theorem dX12_wouldPass_3 : decode cX12_wouldPass 3 = .ok (.getfield 212, 3) := by decide +kernel
theorem dX12_wouldPass_6 : decode cX12_wouldPass 6 = .ok (.iload_n 2, 1) := by decide +kernel
theorem dX12_wouldPass_7 : decode cX12_wouldPass 7 = .ok (.iload_n 3, 1) := by decide +kernel
theorem dX12_wouldPass_8 : decode cX12_wouldPass 8 = .ok (.iconst 0, 1) := by decide +kernel
theorem dX12_wouldPass_9 : decode cX12_wouldPass 9 = .ok (.invokevirtual 479, 3) := by decide +kernel
theorem dX12_wouldPass_12 : decode cX12_wouldPass 12 = .ok (.aload_n 0, 1) := by decide +kernel
theorem dX12_wouldPass_13 : decode cX12_wouldPass 13 = .ok (.iload_n 1, 1) := by decide +kernel
theorem dX12_wouldPass_14 : decode cX12_wouldPass 14 = .ok (.aload_n 0, 1) := by decide +kernel
theorem dX12_wouldPass_15 : decode cX12_wouldPass 15 = .ok (.getfield 212, 3) := by decide +kernel
theorem dX12_wouldPass_18 : decode cX12_wouldPass 18 = .ok (.aload 4, 2) := by decide +kernel
theorem dX12_wouldPass_20 : decode cX12_wouldPass 20 = .ok (.invokevirtual 541, 3) := by decide +kernel
theorem dX12_wouldPass_23 : decode cX12_wouldPass 23 = .ok (.ireturn, 1) := by decide +kernel
theorem dX12_would_0 : decode cX12_would 0 = .ok (.aload_n 0, 1) := by decide +kernel
theorem dX12_would_1 : decode cX12_would 1 = .ok (.iconst 0, 1) := by decide +kernel
theorem dX12_would_2 : decode cX12_would 2 = .ok (.putfield 1, 3) := by decide +kernel
theorem dX12_would_5 : decode cX12_would 5 = .ok (.aload_n 0, 1) := by decide +kernel
theorem dX12_would_6 : decode cX12_would 6 = .ok (.iload_n 1, 1) := by decide +kernel
theorem dX12_would_7 : decode cX12_would 7 = .ok (.invokevirtual 243, 3) := by decide +kernel
theorem dX12_would_10 : decode cX12_would 10 = .ok (.ifCond .eq 20, 3) := by decide +kernel
theorem dX12_would_13 : decode cX12_would 13 = .ok (.aload_n 0, 1) := by decide +kernel
theorem dX12_would_14 : decode cX12_would 14 = .ok (.iload_n 1, 1) := by decide +kernel
theorem dX12_would_15 : decode cX12_would 15 = .ok (.invokevirtual 246, 3) := by decide +kernel
theorem dX12_would_18 : decode cX12_would 18 = .ok (.ifCond .ne 12, 3) := by decide +kernel
theorem dX12_would_21 : decode cX12_would 21 = .ok (.iload_n 2, 1) := by decide +kernel
theorem dX12_would_22 : decode cX12_would 22 = .ok (.iconst 0, 1) := by decide +kernel
theorem dX12_would_23 : decode cX12_would 23 = .ok (.iconst 3, 1) := by decide +kernel
theorem dX12_would_24 : decode cX12_would 24 = .ok (.invokestatic 215, 3) := by decide +kernel
theorem dX12_would_27 : decode cX12_would 27 = .ok (.ifCond .ne 5, 3) := by decide +kernel
theorem dX12_would_30 : decode cX12_would 30 = .ok (.iconst (-1), 1) := by decide +kernel
theorem dX12_would_31 : decode cX12_would 31 = .ok (.ireturn, 1) := by decide +kernel
theorem dX12_would_32 : decode cX12_would 32 = .ok (.aload_n 0, 1) := by decide +kernel
theorem dX12_would_33 : decode cX12_would 33 = .ok (.iload_n 1, 1) := by decide +kernel
theorem dX12_would_34 : decode cX12_would 34 = .ok (.iload_n 2, 1) := by decide +kernel
theorem dX12_would_35 : decode cX12_would 35 = .ok (.iconst (-1), 1) := by decide +kernel
theorem dX12_would_36 : decode cX12_would 36 = .ok (.aload_n 0, 1) := by decide +kernel
theorem dX12_would_37 : decode cX12_would 37 = .ok (.getfield 66, 3) := by decide +kernel
theorem dX12_would_40 : decode cX12_would 40 = .ok (.invokevirtual 591, 3) := by decide +kernel
theorem dX12_would_43 : decode cX12_would 43 = .ok (.ifCond .eq 7, 3) := by decide +kernel
theorem dX12_would_46 : decode cX12_would 46 = .ok (.iconst 1, 1) := by decide +kernel
theorem dX12_would_47 : decode cX12_would 47 = .ok (.goto 4, 3) := by decide +kernel
theorem dX12_would_50 : decode cX12_would 50 = .ok (.iconst 0, 1) := by decide +kernel
theorem dX12_would_51 : decode cX12_would 51 = .ok (.ireturn, 1) := by decide +kernel
theorem dX12_worth_0 : decode cX12_worth 0 = .ok (.aload_n 0, 1) := by decide +kernel
theorem dX12_worth_1 : decode cX12_worth 1 = .ok (.iconst 0, 1) := by decide +kernel
theorem dX12_worth_2 : decode cX12_worth 2 = .ok (.putfield 1, 3) := by decide +kernel
theorem dX12_worth_5 : decode cX12_worth 5 = .ok (.aload_n 0, 1) := by decide +kernel
theorem dX12_worth_6 : decode cX12_worth 6 = .ok (.iload_n 1, 1) := by decide +kernel
theorem dX12_worth_7 : decode cX12_worth 7 = .ok (.invokevirtual 219, 3) := by decide +kernel
theorem dX12_worth_10 : decode cX12_worth 10 = .ok (.ifCond .eq 22, 3) := by decide +kernel
theorem dX12_worth_13 : decode cX12_worth 13 = .ok (.aload_n 0, 1) := by decide +kernel
theorem dX12_worth_14 : decode cX12_worth 14 = .ok (.iload_n 2, 1) := by decide +kernel
theorem dX12_worth_15 : decode cX12_worth 15 = .ok (.invokevirtual 234, 3) := by decide +kernel
theorem dX12_worth_18 : decode cX12_worth 18 = .ok (.ifCond .eq 14, 3) := by decide +kernel
theorem dX12_worth_21 : decode cX12_worth 21 = .ok (.iload_n 3, 1) := by decide +kernel
theorem dX12_worth_22 : decode cX12_worth 22 = .ok (.bipush (-9), 2) := by decide +kernel
theorem dX12_worth_24 : decode cX12_worth 24 = .ok (.bipush 9, 2) := by decide +kernel
theorem dX12_worth_26 : decode cX12_worth 26 = .ok (.invokestatic 215, 3) := by decide +kernel
theorem dX12_worth_29 : decode cX12_worth 29 = .ok (.ifCond .ne 5, 3) := by decide +kernel
theorem dX12_worth_32 : decode cX12_worth 32 = .ok (.iconst 0, 1) := by decide +kernel
theorem dX12_worth_33 : decode cX12_worth 33 = .ok (.ireturn, 1) := by decide +kernel
theorem dX12_worth_34 : decode cX12_worth 34 = .ok (.aload_n 0, 1) := by decide +kernel
theorem dX12_worth_35 : decode cX12_worth 35 = .ok (.getfield 185, 3) := by decide +kernel
theorem dX12_worth_38 : decode cX12_worth 38 = .ok (.bipush 24, 2) := by decide +kernel
theorem dX12_worth_40 : decode cX12_worth 40 = .ok (.iload_n 1, 1) := by decide +kernel
theorem dX12_worth_41 : decode cX12_worth 41 = .ok (.imul, 1) := by decide +kernel
theorem dX12_worth_42 : decode cX12_worth 42 = .ok (.iload_n 2, 1) := by decide +kernel
theorem dX12_worth_43 : decode cX12_worth 43 = .ok (.iadd, 1) := by decide +kernel
theorem dX12_worth_44 : decode cX12_worth 44 = .ok (.iload_n 3, 1) := by decide +kernel
theorem dX12_worth_45 : decode cX12_worth 45 = .ok (.iastore, 1) := by decide +kernel
theorem dX12_worth_46 : decode cX12_worth 46 = .ok (.iconst 1, 1) := by decide +kernel
theorem dX12_worth_47 : decode cX12_worth 47 = .ok (.ireturn, 1) := by decide +kernel
theorem dX12_listsMotions_0 : decode cX12_listsMotions 0 = .ok (.aload_n 0, 1) := by decide +kernel
theorem dX12_listsMotions_1 : decode cX12_listsMotions 1 = .ok (.iconst 0, 1) := by decide +kernel
theorem dX12_listsMotions_2 : decode cX12_listsMotions 2 = .ok (.putfield 576, 3) := by decide +kernel
theorem dX12_listsMotions_5 : decode cX12_listsMotions 5 = .ok (.iconst 0, 1) := by decide +kernel
theorem dX12_listsMotions_6 : decode cX12_listsMotions 6 = .ok (.istore_n 2, 1) := by decide +kernel
theorem dX12_listsMotions_7 : decode cX12_listsMotions 7 = .ok (.iload_n 2, 1) := by decide +kernel
theorem dX12_listsMotions_8 : decode cX12_listsMotions 8 = .ok (.bipush 24, 2) := by decide +kernel
theorem dX12_listsMotions_10 : decode cX12_listsMotions 10 = .ok (.if_icmp .ge 40, 3) := by decide +kernel
theorem dX12_listsMotions_13 : decode cX12_listsMotions 13 = .ok (.iload_n 1, 1) := by decide +kernel
theorem dX12_listsMotions_14 : decode cX12_listsMotions 14 = .ok (.iload_n 2, 1) := by decide +kernel
theorem dX12_listsMotions_15 : decode cX12_listsMotions 15 = .ok (.ishr, 1) := by decide +kernel
theorem dX12_listsMotions_16 : decode cX12_listsMotions 16 = .ok (.iconst 1, 1) := by decide +kernel
theorem dX12_listsMotions_17 : decode cX12_listsMotions 17 = .ok (.iand, 1) := by decide +kernel
theorem dX12_listsMotions_18 : decode cX12_listsMotions 18 = .ok (.ifCond .ne 6, 3) := by decide +kernel
theorem dX12_listsMotions_21 : decode cX12_listsMotions 21 = .ok (.goto 23, 3) := by decide +kernel
theorem dX12_listsMotions_24 : decode cX12_listsMotions 24 = .ok (.aload_n 0, 1) := by decide +kernel
theorem dX12_listsMotions_25 : decode cX12_listsMotions 25 = .ok (.getfield 176, 3) := by decide +kernel
theorem dX12_listsMotions_28 : decode cX12_listsMotions 28 = .ok (.aload_n 0, 1) := by decide +kernel
theorem dX12_listsMotions_29 : decode cX12_listsMotions 29 = .ok (.getfield 576, 3) := by decide +kernel
theorem dX12_listsMotions_32 : decode cX12_listsMotions 32 = .ok (.iload_n 2, 1) := by decide +kernel
theorem dX12_listsMotions_33 : decode cX12_listsMotions 33 = .ok (.iastore, 1) := by decide +kernel
theorem dX12_listsMotions_34 : decode cX12_listsMotions 34 = .ok (.aload_n 0, 1) := by decide +kernel
theorem dX12_listsMotions_35 : decode cX12_listsMotions 35 = .ok (.dup, 1) := by decide +kernel
theorem dX12_listsMotions_36 : decode cX12_listsMotions 36 = .ok (.getfield 576, 3) := by decide +kernel
theorem dX12_listsMotions_39 : decode cX12_listsMotions 39 = .ok (.iconst 1, 1) := by decide +kernel
theorem dX12_listsMotions_40 : decode cX12_listsMotions 40 = .ok (.iadd, 1) := by decide +kernel
theorem dX12_listsMotions_41 : decode cX12_listsMotions 41 = .ok (.putfield 576, 3) := by decide +kernel
theorem dX12_listsMotions_44 : decode cX12_listsMotions 44 = .ok (.iinc 2 1, 3) := by decide +kernel
theorem dX12_listsMotions_47 : decode cX12_listsMotions 47 = .ok (.goto (-40), 3) := by decide +kernel
theorem dX12_listsMotions_50 : decode cX12_listsMotions 50 = .ok (.return_, 1) := by decide +kernel
theorem dX12_worthOf_0 : decode cX12_worthOf 0 = .ok (.aload_n 0, 1) := by decide +kernel
theorem dX12_worthOf_1 : decode cX12_worthOf 1 = .ok (.aload_n 0, 1) := by decide +kernel
theorem dX12_worthOf_2 : decode cX12_worthOf 2 = .ok (.getfield 66, 3) := by decide +kernel
theorem dX12_worthOf_5 : decode cX12_worthOf 5 = .ok (.aload_n 0, 1) := by decide +kernel
theorem dX12_worthOf_6 : decode cX12_worthOf 6 = .ok (.getfield 194, 3) := by decide +kernel
theorem dX12_worthOf_9 : decode cX12_worthOf 9 = .ok (.invokevirtual 227, 3) := by decide +kernel
theorem dX12_worthOf_12 : decode cX12_worthOf 12 = .ok (.iconst 0, 1) := by decide +kernel
theorem dX12_worthOf_13 : decode cX12_worthOf 13 = .ok (.istore_n 2, 1) := by decide +kernel
theorem dX12_worthOf_14 : decode cX12_worthOf 14 = .ok (.iconst 0, 1) := by decide +kernel
theorem dX12_worthOf_15 : decode cX12_worthOf 15 = .ok (.istore_n 3, 1) := by decide +kernel
theorem dX12_worthOf_16 : decode cX12_worthOf 16 = .ok (.iconst 0, 1) := by decide +kernel
theorem dX12_worthOf_17 : decode cX12_worthOf 17 = .ok (.istore 4, 2) := by decide +kernel
theorem dX12_worthOf_19 : decode cX12_worthOf 19 = .ok (.iload 4, 2) := by decide +kernel
theorem dX12_worthOf_21 : decode cX12_worthOf 21 = .ok (.aload_n 0, 1) := by decide +kernel
theorem dX12_worthOf_22 : decode cX12_worthOf 22 = .ok (.getfield 576, 3) := by decide +kernel
theorem dX12_worthOf_25 : decode cX12_worthOf 25 = .ok (.if_icmp .ge 158, 3) := by decide +kernel
theorem dX12_worthOf_28 : decode cX12_worthOf 28 = .ok (.aload_n 0, 1) := by decide +kernel
theorem dX12_worthOf_29 : decode cX12_worthOf 29 = .ok (.getfield 176, 3) := by decide +kernel
theorem dX12_worthOf_32 : decode cX12_worthOf 32 = .ok (.aload_n 0, 1) := by decide +kernel
theorem dX12_worthOf_33 : decode cX12_worthOf 33 = .ok (.getfield 188, 3) := by decide +kernel
theorem dX12_worthOf_36 : decode cX12_worthOf 36 = .ok (.iload 4, 2) := by decide +kernel
theorem dX12_worthOf_38 : decode cX12_worthOf 38 = .ok (.iaload, 1) := by decide +kernel
theorem dX12_worthOf_39 : decode cX12_worthOf 39 = .ok (.iaload, 1) := by decide +kernel
theorem dX12_worthOf_40 : decode cX12_worthOf 40 = .ok (.istore 5, 2) := by decide +kernel
theorem dX12_worthOf_42 : decode cX12_worthOf 42 = .ok (.iload_n 3, 1) := by decide +kernel
theorem dX12_worthOf_43 : decode cX12_worthOf 43 = .ok (.iload 5, 2) := by decide +kernel
theorem dX12_worthOf_45 : decode cX12_worthOf 45 = .ok (.ishr, 1) := by decide +kernel
theorem dX12_worthOf_46 : decode cX12_worthOf 46 = .ok (.iconst 1, 1) := by decide +kernel
theorem dX12_worthOf_47 : decode cX12_worthOf 47 = .ok (.iand, 1) := by decide +kernel
theorem dX12_worthOf_48 : decode cX12_worthOf 48 = .ok (.iconst 1, 1) := by decide +kernel
theorem dX12_worthOf_49 : decode cX12_worthOf 49 = .ok (.if_icmp .eq 128, 3) := by decide +kernel
theorem dX12_worthOf_52 : decode cX12_worthOf 52 = .ok (.aload_n 0, 1) := by decide +kernel
theorem dX12_worthOf_53 : decode cX12_worthOf 53 = .ok (.iload 5, 2) := by decide +kernel
theorem dX12_worthOf_55 : decode cX12_worthOf 55 = .ok (.iconst 0, 1) := by decide +kernel
theorem dX12_worthOf_56 : decode cX12_worthOf 56 = .ok (.iconst (-1), 1) := by decide +kernel
theorem dX12_worthOf_57 : decode cX12_worthOf 57 = .ok (.aload_n 0, 1) := by decide +kernel
theorem dX12_worthOf_58 : decode cX12_worthOf 58 = .ok (.getfield 194, 3) := by decide +kernel
theorem dX12_worthOf_61 : decode cX12_worthOf 61 = .ok (.invokevirtual 591, 3) := by decide +kernel
theorem dX12_worthOf_64 : decode cX12_worthOf 64 = .ok (.ifCond .ne 6, 3) := by decide +kernel
theorem dX12_worthOf_67 : decode cX12_worthOf 67 = .ok (.goto 110, 3) := by decide +kernel
theorem dX12_worthOf_70 : decode cX12_worthOf 70 = .ok (.iload_n 2, 1) := by decide +kernel
theorem dX12_worthOf_71 : decode cX12_worthOf 71 = .ok (.aload_n 0, 1) := by decide +kernel
theorem dX12_worthOf_72 : decode cX12_worthOf 72 = .ok (.getfield 185, 3) := by decide +kernel
theorem dX12_worthOf_75 : decode cX12_worthOf 75 = .ok (.bipush 24, 2) := by decide +kernel
theorem dX12_worthOf_77 : decode cX12_worthOf 77 = .ok (.iload_n 1, 1) := by decide +kernel
theorem dX12_worthOf_78 : decode cX12_worthOf 78 = .ok (.imul, 1) := by decide +kernel
theorem dX12_worthOf_79 : decode cX12_worthOf 79 = .ok (.iload 5, 2) := by decide +kernel
theorem dX12_worthOf_81 : decode cX12_worthOf 81 = .ok (.iadd, 1) := by decide +kernel
theorem dX12_worthOf_82 : decode cX12_worthOf 82 = .ok (.iaload, 1) := by decide +kernel
theorem dX12_worthOf_83 : decode cX12_worthOf 83 = .ok (.iadd, 1) := by decide +kernel
theorem dX12_worthOf_84 : decode cX12_worthOf 84 = .ok (.istore_n 2, 1) := by decide +kernel
theorem dX12_worthOf_85 : decode cX12_worthOf 85 = .ok (.iconst 0, 1) := by decide +kernel
theorem dX12_worthOf_86 : decode cX12_worthOf 86 = .ok (.istore 6, 2) := by decide +kernel
theorem dX12_worthOf_88 : decode cX12_worthOf 88 = .ok (.iload 6, 2) := by decide +kernel
theorem dX12_worthOf_90 : decode cX12_worthOf 90 = .ok (.aload_n 0, 1) := by decide +kernel
theorem dX12_worthOf_91 : decode cX12_worthOf 91 = .ok (.getfield 53, 3) := by decide +kernel
theorem dX12_worthOf_94 : decode cX12_worthOf 94 = .ok (.iload 5, 2) := by decide +kernel
theorem dX12_worthOf_96 : decode cX12_worthOf 96 = .ok (.iaload, 1) := by decide +kernel
theorem dX12_worthOf_97 : decode cX12_worthOf 97 = .ok (.if_icmp .ge 80, 3) := by decide +kernel
theorem dX12_worthOf_100 : decode cX12_worthOf 100 = .ok (.aload_n 0, 1) := by decide +kernel
theorem dX12_worthOf_101 : decode cX12_worthOf 101 = .ok (.getfield 56, 3) := by decide +kernel
theorem dX12_worthOf_104 : decode cX12_worthOf 104 = .ok (.bipush 12, 2) := by decide +kernel
theorem dX12_worthOf_106 : decode cX12_worthOf 106 = .ok (.iload 5, 2) := by decide +kernel
theorem dX12_worthOf_108 : decode cX12_worthOf 108 = .ok (.imul, 1) := by decide +kernel
theorem dX12_worthOf_109 : decode cX12_worthOf 109 = .ok (.iload 6, 2) := by decide +kernel
theorem dX12_worthOf_111 : decode cX12_worthOf 111 = .ok (.iadd, 1) := by decide +kernel
theorem dX12_worthOf_112 : decode cX12_worthOf 112 = .ok (.iaload, 1) := by decide +kernel
theorem dX12_worthOf_113 : decode cX12_worthOf 113 = .ok (.istore 7, 2) := by decide +kernel
theorem dX12_worthOf_115 : decode cX12_worthOf 115 = .ok (.aload_n 0, 1) := by decide +kernel
theorem dX12_worthOf_116 : decode cX12_worthOf 116 = .ok (.getfield 194, 3) := by decide +kernel
theorem dX12_worthOf_119 : decode cX12_worthOf 119 = .ok (.iload 7, 2) := by decide +kernel
theorem dX12_worthOf_121 : decode cX12_worthOf 121 = .ok (.invokestatic 489, 3) := by decide +kernel
theorem dX12_worthOf_124 : decode cX12_worthOf 124 = .ok (.iload 7, 2) := by decide +kernel
theorem dX12_worthOf_126 : decode cX12_worthOf 126 = .ok (.ifCond .le 7, 3) := by decide +kernel
theorem dX12_worthOf_129 : decode cX12_worthOf 129 = .ok (.iconst 1, 1) := by decide +kernel
theorem dX12_worthOf_130 : decode cX12_worthOf 130 = .ok (.goto 4, 3) := by decide +kernel
theorem dX12_worthOf_133 : decode cX12_worthOf 133 = .ok (.iconst (-1), 1) := by decide +kernel
theorem dX12_worthOf_134 : decode cX12_worthOf 134 = .ok (.iastore, 1) := by decide +kernel
theorem dX12_worthOf_135 : decode cX12_worthOf 135 = .ok (.iconst 0, 1) := by decide +kernel
theorem dX12_worthOf_136 : decode cX12_worthOf 136 = .ok (.istore 8, 2) := by decide +kernel
theorem dX12_worthOf_138 : decode cX12_worthOf 138 = .ok (.iload 8, 2) := by decide +kernel
theorem dX12_worthOf_140 : decode cX12_worthOf 140 = .ok (.aload_n 0, 1) := by decide +kernel
theorem dX12_worthOf_141 : decode cX12_worthOf 141 = .ok (.getfield 231, 3) := by decide +kernel
theorem dX12_worthOf_144 : decode cX12_worthOf 144 = .ok (.if_icmp .ge 27, 3) := by decide +kernel
theorem dX12_worthOf_147 : decode cX12_worthOf 147 = .ok (.aload_n 0, 1) := by decide +kernel
theorem dX12_worthOf_148 : decode cX12_worthOf 148 = .ok (.iload 8, 2) := by decide +kernel
theorem dX12_worthOf_150 : decode cX12_worthOf 150 = .ok (.iload 7, 2) := by decide +kernel
theorem dX12_worthOf_152 : decode cX12_worthOf 152 = .ok (.invokevirtual 537, 3) := by decide +kernel
theorem dX12_worthOf_155 : decode cX12_worthOf 155 = .ok (.ifCond .eq 10, 3) := by decide +kernel
theorem dX12_worthOf_158 : decode cX12_worthOf 158 = .ok (.iload_n 3, 1) := by decide +kernel
theorem dX12_worthOf_159 : decode cX12_worthOf 159 = .ok (.iconst 1, 1) := by decide +kernel
theorem dX12_worthOf_160 : decode cX12_worthOf 160 = .ok (.iload 8, 2) := by decide +kernel
theorem dX12_worthOf_162 : decode cX12_worthOf 162 = .ok (.ishl, 1) := by decide +kernel
theorem dX12_worthOf_163 : decode cX12_worthOf 163 = .ok (.ior, 1) := by decide +kernel
theorem dX12_worthOf_164 : decode cX12_worthOf 164 = .ok (.istore_n 3, 1) := by decide +kernel
theorem dX12_worthOf_165 : decode cX12_worthOf 165 = .ok (.iinc 8 1, 3) := by decide +kernel
theorem dX12_worthOf_168 : decode cX12_worthOf 168 = .ok (.goto (-30), 3) := by decide +kernel
theorem dX12_worthOf_171 : decode cX12_worthOf 171 = .ok (.iinc 6 1, 3) := by decide +kernel
theorem dX12_worthOf_174 : decode cX12_worthOf 174 = .ok (.goto (-86), 3) := by decide +kernel
theorem dX12_worthOf_177 : decode cX12_worthOf 177 = .ok (.iinc 4 1, 3) := by decide +kernel
theorem dX12_worthOf_180 : decode cX12_worthOf 180 = .ok (.goto (-161), 3) := by decide +kernel
theorem dX12_worthOf_183 : decode cX12_worthOf 183 = .ok (.iload_n 2, 1) := by decide +kernel
theorem dX12_worthOf_184 : decode cX12_worthOf 184 = .ok (.ireturn, 1) := by decide +kernel
theorem dX12_inOrder_0 : decode cX12_inOrder 0 = .ok (.aload_n 0, 1) := by decide +kernel
theorem dX12_inOrder_1 : decode cX12_inOrder 1 = .ok (.iconst 0, 1) := by decide +kernel
theorem dX12_inOrder_2 : decode cX12_inOrder 2 = .ok (.putfield 1, 3) := by decide +kernel
theorem dX12_inOrder_5 : decode cX12_inOrder 5 = .ok (.aload_n 0, 1) := by decide +kernel
theorem dX12_inOrder_6 : decode cX12_inOrder 6 = .ok (.iload_n 1, 1) := by decide +kernel
theorem dX12_inOrder_7 : decode cX12_inOrder 7 = .ok (.iconst 1, 1) := by decide +kernel
theorem dX12_inOrder_8 : decode cX12_inOrder 8 = .ok (.bipush 6, 2) := by decide +kernel
theorem dX12_inOrder_10 : decode cX12_inOrder 10 = .ok (.invokevirtual 570, 3) := by decide +kernel
theorem dX12_inOrder_13 : decode cX12_inOrder 13 = .ok (.ifCond .eq 11, 3) := by decide +kernel
theorem dX12_inOrder_16 : decode cX12_inOrder 16 = .ok (.aload_n 0, 1) := by decide +kernel
theorem dX12_inOrder_17 : decode cX12_inOrder 17 = .ok (.iload_n 3, 1) := by decide +kernel
theorem dX12_inOrder_18 : decode cX12_inOrder 18 = .ok (.invokevirtual 219, 3) := by decide +kernel
theorem dX12_inOrder_21 : decode cX12_inOrder 21 = .ok (.ifCond .ne 7, 3) := by decide +kernel
theorem dX12_inOrder_24 : decode cX12_inOrder 24 = .ok (.sipush (-1000), 3) := by decide +kernel
theorem dX12_inOrder_27 : decode cX12_inOrder 27 = .ok (.ireturn, 1) := by decide +kernel
theorem dX12_inOrder_28 : decode cX12_inOrder 28 = .ok (.aload_n 0, 1) := by decide +kernel
theorem dX12_inOrder_29 : decode cX12_inOrder 29 = .ok (.iload_n 1, 1) := by decide +kernel
theorem dX12_inOrder_30 : decode cX12_inOrder 30 = .ok (.invokevirtual 595, 3) := by decide +kernel
theorem dX12_inOrder_33 : decode cX12_inOrder 33 = .ok (.iload_n 2, 1) := by decide +kernel
theorem dX12_inOrder_34 : decode cX12_inOrder 34 = .ok (.istore 4, 2) := by decide +kernel
theorem dX12_inOrder_36 : decode cX12_inOrder 36 = .ok (.iconst 0, 1) := by decide +kernel
theorem dX12_inOrder_37 : decode cX12_inOrder 37 = .ok (.istore 5, 2) := by decide +kernel
theorem dX12_inOrder_39 : decode cX12_inOrder 39 = .ok (.aload_n 0, 1) := by decide +kernel
theorem dX12_inOrder_40 : decode cX12_inOrder 40 = .ok (.getfield 576, 3) := by decide +kernel
theorem dX12_inOrder_43 : decode cX12_inOrder 43 = .ok (.iconst 1, 1) := by decide +kernel
theorem dX12_inOrder_44 : decode cX12_inOrder 44 = .ok (.isub, 1) := by decide +kernel
theorem dX12_inOrder_45 : decode cX12_inOrder 45 = .ok (.istore 6, 2) := by decide +kernel
theorem dX12_inOrder_47 : decode cX12_inOrder 47 = .ok (.iload 6, 2) := by decide +kernel
theorem dX12_inOrder_49 : decode cX12_inOrder 49 = .ok (.ifCond .lt 71, 3) := by decide +kernel
theorem dX12_inOrder_52 : decode cX12_inOrder 52 = .ok (.iload 4, 2) := by decide +kernel
theorem dX12_inOrder_54 : decode cX12_inOrder 54 = .ok (.bipush 10, 2) := by decide +kernel
theorem dX12_inOrder_56 : decode cX12_inOrder 56 = .ok (.irem, 1) := by decide +kernel
theorem dX12_inOrder_57 : decode cX12_inOrder 57 = .ok (.istore 7, 2) := by decide +kernel
theorem dX12_inOrder_59 : decode cX12_inOrder 59 = .ok (.iload 4, 2) := by decide +kernel
theorem dX12_inOrder_61 : decode cX12_inOrder 61 = .ok (.bipush 10, 2) := by decide +kernel
theorem dX12_inOrder_63 : decode cX12_inOrder 63 = .ok (.idiv, 1) := by decide +kernel
theorem dX12_inOrder_64 : decode cX12_inOrder 64 = .ok (.istore 4, 2) := by decide +kernel
theorem dX12_inOrder_66 : decode cX12_inOrder 66 = .ok (.iload 7, 2) := by decide +kernel
theorem dX12_inOrder_68 : decode cX12_inOrder 68 = .ok (.iconst 1, 1) := by decide +kernel
theorem dX12_inOrder_69 : decode cX12_inOrder 69 = .ok (.aload_n 0, 1) := by decide +kernel
theorem dX12_inOrder_70 : decode cX12_inOrder 70 = .ok (.getfield 576, 3) := by decide +kernel
theorem dX12_inOrder_73 : decode cX12_inOrder 73 = .ok (.invokestatic 215, 3) := by decide +kernel
theorem dX12_inOrder_76 : decode cX12_inOrder 76 = .ok (.ifCond .eq 14, 3) := by decide +kernel
theorem dX12_inOrder_79 : decode cX12_inOrder 79 = .ok (.iload 5, 2) := by decide +kernel
theorem dX12_inOrder_81 : decode cX12_inOrder 81 = .ok (.iload 7, 2) := by decide +kernel
theorem dX12_inOrder_83 : decode cX12_inOrder 83 = .ok (.ishr, 1) := by decide +kernel
theorem dX12_inOrder_84 : decode cX12_inOrder 84 = .ok (.iconst 1, 1) := by decide +kernel
theorem dX12_inOrder_85 : decode cX12_inOrder 85 = .ok (.iand, 1) := by decide +kernel
theorem dX12_inOrder_86 : decode cX12_inOrder 86 = .ok (.iconst 1, 1) := by decide +kernel
theorem dX12_inOrder_87 : decode cX12_inOrder 87 = .ok (.if_icmp .ne 7, 3) := by decide +kernel
theorem dX12_inOrder_90 : decode cX12_inOrder 90 = .ok (.sipush (-1000), 3) := by decide +kernel
theorem dX12_inOrder_93 : decode cX12_inOrder 93 = .ok (.ireturn, 1) := by decide +kernel
theorem dX12_inOrder_94 : decode cX12_inOrder 94 = .ok (.iload 5, 2) := by decide +kernel
theorem dX12_inOrder_96 : decode cX12_inOrder 96 = .ok (.iconst 1, 1) := by decide +kernel
theorem dX12_inOrder_97 : decode cX12_inOrder 97 = .ok (.iload 7, 2) := by decide +kernel
theorem dX12_inOrder_99 : decode cX12_inOrder 99 = .ok (.ishl, 1) := by decide +kernel
theorem dX12_inOrder_100 : decode cX12_inOrder 100 = .ok (.ior, 1) := by decide +kernel
theorem dX12_inOrder_101 : decode cX12_inOrder 101 = .ok (.istore 5, 2) := by decide +kernel
theorem dX12_inOrder_103 : decode cX12_inOrder 103 = .ok (.aload_n 0, 1) := by decide +kernel
theorem dX12_inOrder_104 : decode cX12_inOrder 104 = .ok (.getfield 188, 3) := by decide +kernel
theorem dX12_inOrder_107 : decode cX12_inOrder 107 = .ok (.iload 6, 2) := by decide +kernel
theorem dX12_inOrder_109 : decode cX12_inOrder 109 = .ok (.iload 7, 2) := by decide +kernel
theorem dX12_inOrder_111 : decode cX12_inOrder 111 = .ok (.iconst 1, 1) := by decide +kernel
theorem dX12_inOrder_112 : decode cX12_inOrder 112 = .ok (.isub, 1) := by decide +kernel
theorem dX12_inOrder_113 : decode cX12_inOrder 113 = .ok (.iastore, 1) := by decide +kernel
theorem dX12_inOrder_114 : decode cX12_inOrder 114 = .ok (.iinc 6 (-1), 3) := by decide +kernel
theorem dX12_inOrder_117 : decode cX12_inOrder 117 = .ok (.goto (-70), 3) := by decide +kernel
theorem dX12_inOrder_120 : decode cX12_inOrder 120 = .ok (.iload 4, 2) := by decide +kernel
theorem dX12_inOrder_122 : decode cX12_inOrder 122 = .ok (.ifCond .eq 9, 3) := by decide +kernel
theorem dX12_inOrder_125 : decode cX12_inOrder 125 = .ok (.sipush (-1000), 3) := by decide +kernel
theorem dX12_inOrder_128 : decode cX12_inOrder 128 = .ok (.goto 8, 3) := by decide +kernel
theorem dX12_inOrder_131 : decode cX12_inOrder 131 = .ok (.aload_n 0, 1) := by decide +kernel
theorem dX12_inOrder_132 : decode cX12_inOrder 132 = .ok (.iload_n 3, 1) := by decide +kernel
theorem dX12_inOrder_133 : decode cX12_inOrder 133 = .ok (.invokevirtual 598, 3) := by decide +kernel
theorem dX12_inOrder_136 : decode cX12_inOrder 136 = .ok (.ireturn, 1) := by decide +kernel
theorem dX12_goesOn_0 : decode cX12_goesOn 0 = .ok (.aload_n 0, 1) := by decide +kernel
theorem dX12_goesOn_1 : decode cX12_goesOn 1 = .ok (.getfield 576, 3) := by decide +kernel
theorem dX12_goesOn_4 : decode cX12_goesOn 4 = .ok (.iconst 2, 1) := by decide +kernel
theorem dX12_goesOn_5 : decode cX12_goesOn 5 = .ok (.isub, 1) := by decide +kernel
theorem dX12_goesOn_6 : decode cX12_goesOn 6 = .ok (.istore_n 1, 1) := by decide +kernel
theorem dX12_goesOn_7 : decode cX12_goesOn 7 = .ok (.iload_n 1, 1) := by decide +kernel
theorem dX12_goesOn_8 : decode cX12_goesOn 8 = .ok (.ifCond .lt 26, 3) := by decide +kernel
theorem dX12_goesOn_11 : decode cX12_goesOn 11 = .ok (.aload_n 0, 1) := by decide +kernel
theorem dX12_goesOn_12 : decode cX12_goesOn 12 = .ok (.getfield 188, 3) := by decide +kernel
theorem dX12_goesOn_15 : decode cX12_goesOn 15 = .ok (.iload_n 1, 1) := by decide +kernel
theorem dX12_goesOn_16 : decode cX12_goesOn 16 = .ok (.iaload, 1) := by decide +kernel
theorem dX12_goesOn_17 : decode cX12_goesOn 17 = .ok (.aload_n 0, 1) := by decide +kernel
theorem dX12_goesOn_18 : decode cX12_goesOn 18 = .ok (.getfield 188, 3) := by decide +kernel
theorem dX12_goesOn_21 : decode cX12_goesOn 21 = .ok (.iload_n 1, 1) := by decide +kernel
theorem dX12_goesOn_22 : decode cX12_goesOn 22 = .ok (.iconst 1, 1) := by decide +kernel
theorem dX12_goesOn_23 : decode cX12_goesOn 23 = .ok (.iadd, 1) := by decide +kernel
theorem dX12_goesOn_24 : decode cX12_goesOn 24 = .ok (.iaload, 1) := by decide +kernel
theorem dX12_goesOn_25 : decode cX12_goesOn 25 = .ok (.if_icmp .le 9, 3) := by decide +kernel
theorem dX12_goesOn_28 : decode cX12_goesOn 28 = .ok (.iinc 1 (-1), 3) := by decide +kernel
theorem dX12_goesOn_31 : decode cX12_goesOn 31 = .ok (.goto (-24), 3) := by decide +kernel
theorem dX12_goesOn_34 : decode cX12_goesOn 34 = .ok (.iload_n 1, 1) := by decide +kernel
theorem dX12_goesOn_35 : decode cX12_goesOn 35 = .ok (.ifCond .ge 5, 3) := by decide +kernel
theorem dX12_goesOn_38 : decode cX12_goesOn 38 = .ok (.iconst 0, 1) := by decide +kernel
theorem dX12_goesOn_39 : decode cX12_goesOn 39 = .ok (.ireturn, 1) := by decide +kernel
theorem dX12_goesOn_40 : decode cX12_goesOn 40 = .ok (.aload_n 0, 1) := by decide +kernel
theorem dX12_goesOn_41 : decode cX12_goesOn 41 = .ok (.getfield 576, 3) := by decide +kernel
theorem dX12_goesOn_44 : decode cX12_goesOn 44 = .ok (.iconst 1, 1) := by decide +kernel
theorem dX12_goesOn_45 : decode cX12_goesOn 45 = .ok (.isub, 1) := by decide +kernel
theorem dX12_goesOn_46 : decode cX12_goesOn 46 = .ok (.istore_n 2, 1) := by decide +kernel
theorem dX12_goesOn_47 : decode cX12_goesOn 47 = .ok (.aload_n 0, 1) := by decide +kernel
theorem dX12_goesOn_48 : decode cX12_goesOn 48 = .ok (.getfield 188, 3) := by decide +kernel
theorem dX12_goesOn_51 : decode cX12_goesOn 51 = .ok (.iload_n 2, 1) := by decide +kernel
theorem dX12_goesOn_52 : decode cX12_goesOn 52 = .ok (.iaload, 1) := by decide +kernel
theorem dX12_goesOn_53 : decode cX12_goesOn 53 = .ok (.aload_n 0, 1) := by decide +kernel
theorem dX12_goesOn_54 : decode cX12_goesOn 54 = .ok (.getfield 188, 3) := by decide +kernel
theorem dX12_goesOn_57 : decode cX12_goesOn 57 = .ok (.iload_n 1, 1) := by decide +kernel
theorem dX12_goesOn_58 : decode cX12_goesOn 58 = .ok (.iaload, 1) := by decide +kernel
theorem dX12_goesOn_59 : decode cX12_goesOn 59 = .ok (.if_icmp .ge 9, 3) := by decide +kernel
theorem dX12_goesOn_62 : decode cX12_goesOn 62 = .ok (.iinc 2 (-1), 3) := by decide +kernel
theorem dX12_goesOn_65 : decode cX12_goesOn 65 = .ok (.goto (-18), 3) := by decide +kernel
theorem dX12_goesOn_68 : decode cX12_goesOn 68 = .ok (.aload_n 0, 1) := by decide +kernel
theorem dX12_goesOn_69 : decode cX12_goesOn 69 = .ok (.iload_n 1, 1) := by decide +kernel
theorem dX12_goesOn_70 : decode cX12_goesOn 70 = .ok (.iload_n 2, 1) := by decide +kernel
theorem dX12_goesOn_71 : decode cX12_goesOn 71 = .ok (.invokevirtual 601, 3) := by decide +kernel
theorem dX12_goesOn_74 : decode cX12_goesOn 74 = .ok (.iload_n 1, 1) := by decide +kernel
theorem dX12_goesOn_75 : decode cX12_goesOn 75 = .ok (.iconst 1, 1) := by decide +kernel
theorem dX12_goesOn_76 : decode cX12_goesOn 76 = .ok (.iadd, 1) := by decide +kernel
theorem dX12_goesOn_77 : decode cX12_goesOn 77 = .ok (.istore_n 3, 1) := by decide +kernel
theorem dX12_goesOn_78 : decode cX12_goesOn 78 = .ok (.aload_n 0, 1) := by decide +kernel
theorem dX12_goesOn_79 : decode cX12_goesOn 79 = .ok (.getfield 576, 3) := by decide +kernel
theorem dX12_goesOn_82 : decode cX12_goesOn 82 = .ok (.iconst 1, 1) := by decide +kernel
theorem dX12_goesOn_83 : decode cX12_goesOn 83 = .ok (.isub, 1) := by decide +kernel
theorem dX12_goesOn_84 : decode cX12_goesOn 84 = .ok (.istore 4, 2) := by decide +kernel
theorem dX12_goesOn_86 : decode cX12_goesOn 86 = .ok (.iload_n 3, 1) := by decide +kernel
theorem dX12_goesOn_87 : decode cX12_goesOn 87 = .ok (.iload 4, 2) := by decide +kernel
theorem dX12_goesOn_89 : decode cX12_goesOn 89 = .ok (.if_icmp .ge 19, 3) := by decide +kernel
theorem dX12_goesOn_92 : decode cX12_goesOn 92 = .ok (.aload_n 0, 1) := by decide +kernel
theorem dX12_goesOn_93 : decode cX12_goesOn 93 = .ok (.iload_n 3, 1) := by decide +kernel
theorem dX12_goesOn_94 : decode cX12_goesOn 94 = .ok (.iload 4, 2) := by decide +kernel
theorem dX12_goesOn_96 : decode cX12_goesOn 96 = .ok (.invokevirtual 601, 3) := by decide +kernel
theorem dX12_goesOn_99 : decode cX12_goesOn 99 = .ok (.iinc 3 1, 3) := by decide +kernel
theorem dX12_goesOn_102 : decode cX12_goesOn 102 = .ok (.iinc 4 (-1), 3) := by decide +kernel
theorem dX12_goesOn_105 : decode cX12_goesOn 105 = .ok (.goto (-19), 3) := by decide +kernel
theorem dX12_goesOn_108 : decode cX12_goesOn 108 = .ok (.iconst 1, 1) := by decide +kernel
theorem dX12_goesOn_109 : decode cX12_goesOn 109 = .ok (.ireturn, 1) := by decide +kernel
theorem dX12_swaps_0 : decode cX12_swaps 0 = .ok (.aload_n 0, 1) := by decide +kernel
theorem dX12_swaps_1 : decode cX12_swaps 1 = .ok (.getfield 188, 3) := by decide +kernel
theorem dX12_swaps_4 : decode cX12_swaps 4 = .ok (.iload_n 1, 1) := by decide +kernel
theorem dX12_swaps_5 : decode cX12_swaps 5 = .ok (.iaload, 1) := by decide +kernel
theorem dX12_swaps_6 : decode cX12_swaps 6 = .ok (.istore_n 3, 1) := by decide +kernel
theorem dX12_swaps_7 : decode cX12_swaps 7 = .ok (.aload_n 0, 1) := by decide +kernel
theorem dX12_swaps_8 : decode cX12_swaps 8 = .ok (.getfield 188, 3) := by decide +kernel
theorem dX12_swaps_11 : decode cX12_swaps 11 = .ok (.iload_n 1, 1) := by decide +kernel
theorem dX12_swaps_12 : decode cX12_swaps 12 = .ok (.aload_n 0, 1) := by decide +kernel
theorem dX12_swaps_13 : decode cX12_swaps 13 = .ok (.getfield 188, 3) := by decide +kernel
theorem dX12_swaps_16 : decode cX12_swaps 16 = .ok (.iload_n 2, 1) := by decide +kernel
theorem dX12_swaps_17 : decode cX12_swaps 17 = .ok (.iaload, 1) := by decide +kernel
theorem dX12_swaps_18 : decode cX12_swaps 18 = .ok (.iastore, 1) := by decide +kernel
theorem dX12_swaps_19 : decode cX12_swaps 19 = .ok (.aload_n 0, 1) := by decide +kernel
theorem dX12_swaps_20 : decode cX12_swaps 20 = .ok (.getfield 188, 3) := by decide +kernel
theorem dX12_swaps_23 : decode cX12_swaps 23 = .ok (.iload_n 2, 1) := by decide +kernel
theorem dX12_swaps_24 : decode cX12_swaps 24 = .ok (.iload_n 3, 1) := by decide +kernel
theorem dX12_swaps_25 : decode cX12_swaps 25 = .ok (.iastore, 1) := by decide +kernel
theorem dX12_swaps_26 : decode cX12_swaps 26 = .ok (.return_, 1) := by decide +kernel
theorem dX12_best_0 : decode cX12_best 0 = .ok (.aload_n 0, 1) := by decide +kernel
theorem dX12_best_1 : decode cX12_best 1 = .ok (.iconst 0, 1) := by decide +kernel
theorem dX12_best_2 : decode cX12_best 2 = .ok (.putfield 1, 3) := by decide +kernel
theorem dX12_best_5 : decode cX12_best 5 = .ok (.aload_n 0, 1) := by decide +kernel
theorem dX12_best_6 : decode cX12_best 6 = .ok (.iload_n 1, 1) := by decide +kernel
theorem dX12_best_7 : decode cX12_best 7 = .ok (.iconst 1, 1) := by decide +kernel
theorem dX12_best_8 : decode cX12_best 8 = .ok (.bipush 6, 2) := by decide +kernel
theorem dX12_best_10 : decode cX12_best 10 = .ok (.invokevirtual 570, 3) := by decide +kernel
theorem dX12_best_13 : decode cX12_best 13 = .ok (.ifCond .eq 25, 3) := by decide +kernel
theorem dX12_best_16 : decode cX12_best 16 = .ok (.aload_n 0, 1) := by decide +kernel
theorem dX12_best_17 : decode cX12_best 17 = .ok (.iload_n 2, 1) := by decide +kernel
theorem dX12_best_18 : decode cX12_best 18 = .ok (.invokevirtual 219, 3) := by decide +kernel
theorem dX12_best_21 : decode cX12_best 21 = .ok (.ifCond .eq 17, 3) := by decide +kernel
theorem dX12_best_24 : decode cX12_best 24 = .ok (.iload_n 3, 1) := by decide +kernel
theorem dX12_best_25 : decode cX12_best 25 = .ok (.iconst (-1), 1) := by decide +kernel
theorem dX12_best_26 : decode cX12_best 26 = .ok (.iload_n 1, 1) := by decide +kernel
theorem dX12_best_27 : decode cX12_best 27 = .ok (.invokestatic 563, 3) := by decide +kernel
theorem dX12_best_30 : decode cX12_best 30 = .ok (.iconst 1, 1) := by decide +kernel
theorem dX12_best_31 : decode cX12_best 31 = .ok (.isub, 1) := by decide +kernel
theorem dX12_best_32 : decode cX12_best 32 = .ok (.invokestatic 215, 3) := by decide +kernel
theorem dX12_best_35 : decode cX12_best 35 = .ok (.ifCond .ne 7, 3) := by decide +kernel
theorem dX12_best_38 : decode cX12_best 38 = .ok (.sipush (-1000), 3) := by decide +kernel
theorem dX12_best_41 : decode cX12_best 41 = .ok (.ireturn, 1) := by decide +kernel
theorem dX12_best_42 : decode cX12_best 42 = .ok (.aload_n 0, 1) := by decide +kernel
theorem dX12_best_43 : decode cX12_best 43 = .ok (.iload_n 1, 1) := by decide +kernel
theorem dX12_best_44 : decode cX12_best 44 = .ok (.invokevirtual 595, 3) := by decide +kernel
theorem dX12_best_47 : decode cX12_best 47 = .ok (.iconst 0, 1) := by decide +kernel
theorem dX12_best_48 : decode cX12_best 48 = .ok (.istore 4, 2) := by decide +kernel
theorem dX12_best_50 : decode cX12_best 50 = .ok (.iload 4, 2) := by decide +kernel
theorem dX12_best_52 : decode cX12_best 52 = .ok (.aload_n 0, 1) := by decide +kernel
theorem dX12_best_53 : decode cX12_best 53 = .ok (.getfield 576, 3) := by decide +kernel
theorem dX12_best_56 : decode cX12_best 56 = .ok (.if_icmp .ge 18, 3) := by decide +kernel
theorem dX12_best_59 : decode cX12_best 59 = .ok (.aload_n 0, 1) := by decide +kernel
theorem dX12_best_60 : decode cX12_best 60 = .ok (.getfield 188, 3) := by decide +kernel
theorem dX12_best_63 : decode cX12_best 63 = .ok (.iload 4, 2) := by decide +kernel
theorem dX12_best_65 : decode cX12_best 65 = .ok (.iload 4, 2) := by decide +kernel
theorem dX12_best_67 : decode cX12_best 67 = .ok (.iastore, 1) := by decide +kernel
theorem dX12_best_68 : decode cX12_best 68 = .ok (.iinc 4 1, 3) := by decide +kernel
theorem dX12_best_71 : decode cX12_best 71 = .ok (.goto (-21), 3) := by decide +kernel
theorem dX12_best_74 : decode cX12_best 74 = .ok (.sipush (-1000), 3) := by decide +kernel
theorem dX12_best_77 : decode cX12_best 77 = .ok (.istore 4, 2) := by decide +kernel
theorem dX12_best_79 : decode cX12_best 79 = .ok (.iconst 1, 1) := by decide +kernel
theorem dX12_best_80 : decode cX12_best 80 = .ok (.istore 5, 2) := by decide +kernel
theorem dX12_best_82 : decode cX12_best 82 = .ok (.iload 5, 2) := by decide +kernel
theorem dX12_best_84 : decode cX12_best 84 = .ok (.ifCond .eq 42, 3) := by decide +kernel
theorem dX12_best_87 : decode cX12_best 87 = .ok (.aload_n 0, 1) := by decide +kernel
theorem dX12_best_88 : decode cX12_best 88 = .ok (.iload_n 2, 1) := by decide +kernel
theorem dX12_best_89 : decode cX12_best 89 = .ok (.invokevirtual 598, 3) := by decide +kernel
theorem dX12_best_92 : decode cX12_best 92 = .ok (.istore 6, 2) := by decide +kernel
theorem dX12_best_94 : decode cX12_best 94 = .ok (.iload 6, 2) := by decide +kernel
theorem dX12_best_96 : decode cX12_best 96 = .ok (.iload 4, 2) := by decide +kernel
theorem dX12_best_98 : decode cX12_best 98 = .ok (.if_icmp .le 19, 3) := by decide +kernel
theorem dX12_best_101 : decode cX12_best 101 = .ok (.iload 6, 2) := by decide +kernel
theorem dX12_best_103 : decode cX12_best 103 = .ok (.istore 4, 2) := by decide +kernel
theorem dX12_best_105 : decode cX12_best 105 = .ok (.aload_n 0, 1) := by decide +kernel
theorem dX12_best_106 : decode cX12_best 106 = .ok (.aload_n 0, 1) := by decide +kernel
theorem dX12_best_107 : decode cX12_best 107 = .ok (.getfield 188, 3) := by decide +kernel
theorem dX12_best_110 : decode cX12_best 110 = .ok (.aload_n 0, 1) := by decide +kernel
theorem dX12_best_111 : decode cX12_best 111 = .ok (.getfield 191, 3) := by decide +kernel
theorem dX12_best_114 : decode cX12_best 114 = .ok (.invokevirtual 227, 3) := by decide +kernel
theorem dX12_best_117 : decode cX12_best 117 = .ok (.aload_n 0, 1) := by decide +kernel
theorem dX12_best_118 : decode cX12_best 118 = .ok (.invokevirtual 604, 3) := by decide +kernel
theorem dX12_best_121 : decode cX12_best 121 = .ok (.istore 5, 2) := by decide +kernel
theorem dX12_best_123 : decode cX12_best 123 = .ok (.goto (-41), 3) := by decide +kernel
theorem dX12_best_126 : decode cX12_best 126 = .ok (.iload_n 3, 1) := by decide +kernel
theorem dX12_best_127 : decode cX12_best 127 = .ok (.iconst (-1), 1) := by decide +kernel
theorem dX12_best_128 : decode cX12_best 128 = .ok (.if_icmp .ne 8, 3) := by decide +kernel
theorem dX12_best_131 : decode cX12_best 131 = .ok (.iload 4, 2) := by decide +kernel
theorem dX12_best_133 : decode cX12_best 133 = .ok (.goto 14, 3) := by decide +kernel
theorem dX12_best_136 : decode cX12_best 136 = .ok (.aload_n 0, 1) := by decide +kernel
theorem dX12_best_137 : decode cX12_best 137 = .ok (.getfield 176, 3) := by decide +kernel
theorem dX12_best_140 : decode cX12_best 140 = .ok (.aload_n 0, 1) := by decide +kernel
theorem dX12_best_141 : decode cX12_best 141 = .ok (.getfield 191, 3) := by decide +kernel
theorem dX12_best_144 : decode cX12_best 144 = .ok (.iload_n 3, 1) := by decide +kernel
theorem dX12_best_145 : decode cX12_best 145 = .ok (.iaload, 1) := by decide +kernel
theorem dX12_best_146 : decode cX12_best 146 = .ok (.iaload, 1) := by decide +kernel
theorem dX12_best_147 : decode cX12_best 147 = .ok (.ireturn, 1) := by decide +kernel
theorem dX12_findTurns_0 : decode cX12_findTurns 0 = .ok (.iconst 0, 1) := by decide +kernel
theorem dX12_findTurns_1 : decode cX12_findTurns 1 = .ok (.istore_n 1, 1) := by decide +kernel
theorem dX12_findTurns_2 : decode cX12_findTurns 2 = .ok (.iload_n 1, 1) := by decide +kernel
theorem dX12_findTurns_3 : decode cX12_findTurns 3 = .ok (.aload_n 0, 1) := by decide +kernel
theorem dX12_findTurns_4 : decode cX12_findTurns 4 = .ok (.getfield 231, 3) := by decide +kernel
theorem dX12_findTurns_7 : decode cX12_findTurns 7 = .ok (.if_icmp .ge 128, 3) := by decide +kernel
theorem dX12_findTurns_10 : decode cX12_findTurns 10 = .ok (.aload_n 0, 1) := by decide +kernel
theorem dX12_findTurns_11 : decode cX12_findTurns 11 = .ok (.getfield 44, 3) := by decide +kernel
theorem dX12_findTurns_14 : decode cX12_findTurns 14 = .ok (.iload_n 1, 1) := by decide +kernel
theorem dX12_findTurns_15 : decode cX12_findTurns 15 = .ok (.iaload, 1) := by decide +kernel
theorem dX12_findTurns_16 : decode cX12_findTurns 16 = .ok (.ifCond .eq 6, 3) := by decide +kernel
theorem dX12_findTurns_19 : decode cX12_findTurns 19 = .ok (.goto 110, 3) := by decide +kernel
theorem dX12_findTurns_22 : decode cX12_findTurns 22 = .ok (.aload_n 0, 1) := by decide +kernel
theorem dX12_findTurns_23 : decode cX12_findTurns 23 = .ok (.getfield 197, 3) := by decide +kernel
theorem dX12_findTurns_26 : decode cX12_findTurns 26 = .ok (.iload_n 1, 1) := by decide +kernel
theorem dX12_findTurns_27 : decode cX12_findTurns 27 = .ok (.aload_n 0, 1) := by decide +kernel
theorem dX12_findTurns_28 : decode cX12_findTurns 28 = .ok (.iload_n 1, 1) := by decide +kernel
theorem dX12_findTurns_29 : decode cX12_findTurns 29 = .ok (.iconst 0, 1) := by decide +kernel
theorem dX12_findTurns_30 : decode cX12_findTurns 30 = .ok (.iconst (-1), 1) := by decide +kernel
theorem dX12_findTurns_31 : decode cX12_findTurns 31 = .ok (.aload_n 0, 1) := by decide +kernel
theorem dX12_findTurns_32 : decode cX12_findTurns 32 = .ok (.getfield 66, 3) := by decide +kernel
theorem dX12_findTurns_35 : decode cX12_findTurns 35 = .ok (.invokevirtual 591, 3) := by decide +kernel
theorem dX12_findTurns_38 : decode cX12_findTurns 38 = .ok (.bastore, 1) := by decide +kernel
theorem dX12_findTurns_39 : decode cX12_findTurns 39 = .ok (.iconst 0, 1) := by decide +kernel
theorem dX12_findTurns_40 : decode cX12_findTurns 40 = .ok (.istore_n 2, 1) := by decide +kernel
theorem dX12_findTurns_41 : decode cX12_findTurns 41 = .ok (.iload_n 2, 1) := by decide +kernel
theorem dX12_findTurns_42 : decode cX12_findTurns 42 = .ok (.aload_n 0, 1) := by decide +kernel
theorem dX12_findTurns_43 : decode cX12_findTurns 43 = .ok (.getfield 209, 3) := by decide +kernel
theorem dX12_findTurns_46 : decode cX12_findTurns 46 = .ok (.if_icmp .ge 83, 3) := by decide +kernel
theorem dX12_findTurns_49 : decode cX12_findTurns 49 = .ok (.aload_n 0, 1) := by decide +kernel
theorem dX12_findTurns_50 : decode cX12_findTurns 50 = .ok (.getfield 203, 3) := by decide +kernel
theorem dX12_findTurns_53 : decode cX12_findTurns 53 = .ok (.bipush 24, 2) := by decide +kernel
theorem dX12_findTurns_55 : decode cX12_findTurns 55 = .ok (.iload_n 2, 1) := by decide +kernel
theorem dX12_findTurns_56 : decode cX12_findTurns 56 = .ok (.imul, 1) := by decide +kernel
theorem dX12_findTurns_57 : decode cX12_findTurns 57 = .ok (.iload_n 1, 1) := by decide +kernel
theorem dX12_findTurns_58 : decode cX12_findTurns 58 = .ok (.iadd, 1) := by decide +kernel
theorem dX12_findTurns_59 : decode cX12_findTurns 59 = .ok (.aload_n 0, 1) := by decide +kernel
theorem dX12_findTurns_60 : decode cX12_findTurns 60 = .ok (.iload_n 2, 1) := by decide +kernel
theorem dX12_findTurns_61 : decode cX12_findTurns 61 = .ok (.iload_n 1, 1) := by decide +kernel
theorem dX12_findTurns_62 : decode cX12_findTurns 62 = .ok (.aload_n 0, 1) := by decide +kernel
theorem dX12_findTurns_63 : decode cX12_findTurns 63 = .ok (.getfield 212, 3) := by decide +kernel
theorem dX12_findTurns_66 : decode cX12_findTurns 66 = .ok (.invokevirtual 273, 3) := by decide +kernel
theorem dX12_findTurns_69 : decode cX12_findTurns 69 = .ok (.iconst 2, 1) := by decide +kernel
theorem dX12_findTurns_70 : decode cX12_findTurns 70 = .ok (.if_icmp .eq 7, 3) := by decide +kernel
theorem dX12_findTurns_73 : decode cX12_findTurns 73 = .ok (.iconst 1, 1) := by decide +kernel
theorem dX12_findTurns_74 : decode cX12_findTurns 74 = .ok (.goto 4, 3) := by decide +kernel
theorem dX12_findTurns_77 : decode cX12_findTurns 77 = .ok (.iconst 0, 1) := by decide +kernel
theorem dX12_findTurns_78 : decode cX12_findTurns 78 = .ok (.bastore, 1) := by decide +kernel
theorem dX12_findTurns_79 : decode cX12_findTurns 79 = .ok (.aload_n 0, 1) := by decide +kernel
theorem dX12_findTurns_80 : decode cX12_findTurns 80 = .ok (.getfield 200, 3) := by decide +kernel
theorem dX12_findTurns_83 : decode cX12_findTurns 83 = .ok (.bipush 24, 2) := by decide +kernel
theorem dX12_findTurns_85 : decode cX12_findTurns 85 = .ok (.iload_n 2, 1) := by decide +kernel
theorem dX12_findTurns_86 : decode cX12_findTurns 86 = .ok (.imul, 1) := by decide +kernel
theorem dX12_findTurns_87 : decode cX12_findTurns 87 = .ok (.iload_n 1, 1) := by decide +kernel
theorem dX12_findTurns_88 : decode cX12_findTurns 88 = .ok (.iadd, 1) := by decide +kernel
theorem dX12_findTurns_89 : decode cX12_findTurns 89 = .ok (.aload_n 0, 1) := by decide +kernel
theorem dX12_findTurns_90 : decode cX12_findTurns 90 = .ok (.getfield 203, 3) := by decide +kernel
theorem dX12_findTurns_93 : decode cX12_findTurns 93 = .ok (.bipush 24, 2) := by decide +kernel
theorem dX12_findTurns_95 : decode cX12_findTurns 95 = .ok (.iload_n 2, 1) := by decide +kernel
theorem dX12_findTurns_96 : decode cX12_findTurns 96 = .ok (.imul, 1) := by decide +kernel
theorem dX12_findTurns_97 : decode cX12_findTurns 97 = .ok (.iload_n 1, 1) := by decide +kernel
theorem dX12_findTurns_98 : decode cX12_findTurns 98 = .ok (.iadd, 1) := by decide +kernel
theorem dX12_findTurns_99 : decode cX12_findTurns 99 = .ok (.baload, 1) := by decide +kernel
theorem dX12_findTurns_100 : decode cX12_findTurns 100 = .ok (.ifCond .eq 21, 3) := by decide +kernel
theorem dX12_findTurns_103 : decode cX12_findTurns 103 = .ok (.aload_n 0, 1) := by decide +kernel
theorem dX12_findTurns_104 : decode cX12_findTurns 104 = .ok (.iload_n 1, 1) := by decide +kernel
theorem dX12_findTurns_105 : decode cX12_findTurns 105 = .ok (.iconst 0, 1) := by decide +kernel
theorem dX12_findTurns_106 : decode cX12_findTurns 106 = .ok (.iload_n 2, 1) := by decide +kernel
theorem dX12_findTurns_107 : decode cX12_findTurns 107 = .ok (.aload_n 0, 1) := by decide +kernel
theorem dX12_findTurns_108 : decode cX12_findTurns 108 = .ok (.getfield 66, 3) := by decide +kernel
theorem dX12_findTurns_111 : decode cX12_findTurns 111 = .ok (.invokevirtual 591, 3) := by decide +kernel
theorem dX12_findTurns_114 : decode cX12_findTurns 114 = .ok (.ifCond .eq 7, 3) := by decide +kernel
theorem dX12_findTurns_117 : decode cX12_findTurns 117 = .ok (.iconst 1, 1) := by decide +kernel
theorem dX12_findTurns_118 : decode cX12_findTurns 118 = .ok (.goto 4, 3) := by decide +kernel
theorem dX12_findTurns_121 : decode cX12_findTurns 121 = .ok (.iconst 0, 1) := by decide +kernel
theorem dX12_findTurns_122 : decode cX12_findTurns 122 = .ok (.bastore, 1) := by decide +kernel
theorem dX12_findTurns_123 : decode cX12_findTurns 123 = .ok (.iinc 2 1, 3) := by decide +kernel
theorem dX12_findTurns_126 : decode cX12_findTurns 126 = .ok (.goto (-85), 3) := by decide +kernel
theorem dX12_findTurns_129 : decode cX12_findTurns 129 = .ok (.iinc 1 1, 3) := by decide +kernel
theorem dX12_findTurns_132 : decode cX12_findTurns 132 = .ok (.goto (-130), 3) := by decide +kernel
theorem dX12_findTurns_135 : decode cX12_findTurns 135 = .ok (.return_, 1) := by decide +kernel
theorem dX12_gain_0 : decode cX12_gain 0 = .ok (.aload_n 0, 1) := by decide +kernel
theorem dX12_gain_1 : decode cX12_gain 1 = .ok (.getfield 185, 3) := by decide +kernel
theorem dX12_gain_4 : decode cX12_gain 4 = .ok (.bipush 24, 2) := by decide +kernel
theorem dX12_gain_6 : decode cX12_gain 6 = .ok (.iload_n 1, 1) := by decide +kernel
theorem dX12_gain_7 : decode cX12_gain 7 = .ok (.imul, 1) := by decide +kernel
theorem dX12_gain_8 : decode cX12_gain 8 = .ok (.iload_n 3, 1) := by decide +kernel
theorem dX12_gain_9 : decode cX12_gain 9 = .ok (.iadd, 1) := by decide +kernel
theorem dX12_gain_10 : decode cX12_gain 10 = .ok (.iaload, 1) := by decide +kernel
theorem dX12_gain_11 : decode cX12_gain 11 = .ok (.istore 4, 2) := by decide +kernel
theorem dX12_gain_13 : decode cX12_gain 13 = .ok (.aload_n 0, 1) := by decide +kernel
theorem dX12_gain_14 : decode cX12_gain 14 = .ok (.getfield 200, 3) := by decide +kernel
theorem dX12_gain_17 : decode cX12_gain 17 = .ok (.bipush 24, 2) := by decide +kernel
theorem dX12_gain_19 : decode cX12_gain 19 = .ok (.iload_n 2, 1) := by decide +kernel
theorem dX12_gain_20 : decode cX12_gain 20 = .ok (.imul, 1) := by decide +kernel
theorem dX12_gain_21 : decode cX12_gain 21 = .ok (.iload_n 3, 1) := by decide +kernel
theorem dX12_gain_22 : decode cX12_gain 22 = .ok (.iadd, 1) := by decide +kernel
theorem dX12_gain_23 : decode cX12_gain 23 = .ok (.baload, 1) := by decide +kernel
theorem dX12_gain_24 : decode cX12_gain 24 = .ok (.ifCond .eq 8, 3) := by decide +kernel
theorem dX12_gain_27 : decode cX12_gain 27 = .ok (.iload 4, 2) := by decide +kernel
theorem dX12_gain_29 : decode cX12_gain 29 = .ok (.goto 4, 3) := by decide +kernel
theorem dX12_gain_32 : decode cX12_gain 32 = .ok (.iconst 0, 1) := by decide +kernel
theorem dX12_gain_33 : decode cX12_gain 33 = .ok (.aload_n 0, 1) := by decide +kernel
theorem dX12_gain_34 : decode cX12_gain 34 = .ok (.getfield 197, 3) := by decide +kernel
theorem dX12_gain_37 : decode cX12_gain 37 = .ok (.iload_n 3, 1) := by decide +kernel
theorem dX12_gain_38 : decode cX12_gain 38 = .ok (.baload, 1) := by decide +kernel
theorem dX12_gain_39 : decode cX12_gain 39 = .ok (.ifCond .eq 8, 3) := by decide +kernel
theorem dX12_gain_42 : decode cX12_gain 42 = .ok (.iload 4, 2) := by decide +kernel
theorem dX12_gain_44 : decode cX12_gain 44 = .ok (.goto 4, 3) := by decide +kernel
theorem dX12_gain_47 : decode cX12_gain 47 = .ok (.iconst 0, 1) := by decide +kernel
theorem dX12_gain_48 : decode cX12_gain 48 = .ok (.isub, 1) := by decide +kernel
theorem dX12_gain_49 : decode cX12_gain 49 = .ok (.ireturn, 1) := by decide +kernel
theorem dX12_findDeal_0 : decode cX12_findDeal 0 = .ok (.aload_n 0, 1) := by decide +kernel
theorem dX12_findDeal_1 : decode cX12_findDeal 1 = .ok (.invokevirtual 607, 3) := by decide +kernel
theorem dX12_findDeal_4 : decode cX12_findDeal 4 = .ok (.iconst 0, 1) := by decide +kernel
theorem dX12_findDeal_5 : decode cX12_findDeal 5 = .ok (.istore_n 1, 1) := by decide +kernel
theorem dX12_findDeal_6 : decode cX12_findDeal 6 = .ok (.iconst 0, 1) := by decide +kernel
theorem dX12_findDeal_7 : decode cX12_findDeal 7 = .ok (.istore_n 2, 1) := by decide +kernel
theorem dX12_findDeal_8 : decode cX12_findDeal 8 = .ok (.iload_n 2, 1) := by decide +kernel
theorem dX12_findDeal_9 : decode cX12_findDeal 9 = .ok (.aload_n 0, 1) := by decide +kernel
theorem dX12_findDeal_10 : decode cX12_findDeal 10 = .ok (.getfield 209, 3) := by decide +kernel
theorem dX12_findDeal_13 : decode cX12_findDeal 13 = .ok (.if_icmp .ge 238, 3) := by decide +kernel
theorem dX12_findDeal_16 : decode cX12_findDeal 16 = .ok (.iload_n 2, 1) := by decide +kernel
theorem dX12_findDeal_17 : decode cX12_findDeal 17 = .ok (.iconst 1, 1) := by decide +kernel
theorem dX12_findDeal_18 : decode cX12_findDeal 18 = .ok (.iadd, 1) := by decide +kernel
theorem dX12_findDeal_19 : decode cX12_findDeal 19 = .ok (.istore_n 3, 1) := by decide +kernel
theorem dX12_findDeal_20 : decode cX12_findDeal 20 = .ok (.iload_n 3, 1) := by decide +kernel
theorem dX12_findDeal_21 : decode cX12_findDeal 21 = .ok (.aload_n 0, 1) := by decide +kernel
theorem dX12_findDeal_22 : decode cX12_findDeal 22 = .ok (.getfield 209, 3) := by decide +kernel
theorem dX12_findDeal_25 : decode cX12_findDeal 25 = .ok (.if_icmp .ge 220, 3) := by decide +kernel
theorem dX12_findDeal_28 : decode cX12_findDeal 28 = .ok (.iconst 0, 1) := by decide +kernel
theorem dX12_findDeal_29 : decode cX12_findDeal 29 = .ok (.istore 4, 2) := by decide +kernel
theorem dX12_findDeal_31 : decode cX12_findDeal 31 = .ok (.iload 4, 2) := by decide +kernel
theorem dX12_findDeal_33 : decode cX12_findDeal 33 = .ok (.aload_n 0, 1) := by decide +kernel
theorem dX12_findDeal_34 : decode cX12_findDeal 34 = .ok (.getfield 231, 3) := by decide +kernel
theorem dX12_findDeal_37 : decode cX12_findDeal 37 = .ok (.if_icmp .ge 202, 3) := by decide +kernel
theorem dX12_findDeal_40 : decode cX12_findDeal 40 = .ok (.aload_n 0, 1) := by decide +kernel
theorem dX12_findDeal_41 : decode cX12_findDeal 41 = .ok (.getfield 44, 3) := by decide +kernel
theorem dX12_findDeal_44 : decode cX12_findDeal 44 = .ok (.iload 4, 2) := by decide +kernel
theorem dX12_findDeal_46 : decode cX12_findDeal 46 = .ok (.iaload, 1) := by decide +kernel
theorem dX12_findDeal_47 : decode cX12_findDeal 47 = .ok (.ifCond .ne 186, 3) := by decide +kernel
theorem dX12_findDeal_50 : decode cX12_findDeal 50 = .ok (.aload_n 0, 1) := by decide +kernel
theorem dX12_findDeal_51 : decode cX12_findDeal 51 = .ok (.getfield 203, 3) := by decide +kernel
theorem dX12_findDeal_54 : decode cX12_findDeal 54 = .ok (.bipush 24, 2) := by decide +kernel
theorem dX12_findDeal_56 : decode cX12_findDeal 56 = .ok (.iload_n 2, 1) := by decide +kernel
theorem dX12_findDeal_57 : decode cX12_findDeal 57 = .ok (.imul, 1) := by decide +kernel
theorem dX12_findDeal_58 : decode cX12_findDeal 58 = .ok (.iload 4, 2) := by decide +kernel
theorem dX12_findDeal_60 : decode cX12_findDeal 60 = .ok (.iadd, 1) := by decide +kernel
theorem dX12_findDeal_61 : decode cX12_findDeal 61 = .ok (.baload, 1) := by decide +kernel
theorem dX12_findDeal_62 : decode cX12_findDeal 62 = .ok (.ifCond .ne 6, 3) := by decide +kernel
theorem dX12_findDeal_65 : decode cX12_findDeal 65 = .ok (.goto 168, 3) := by decide +kernel
theorem dX12_findDeal_68 : decode cX12_findDeal 68 = .ok (.iconst 0, 1) := by decide +kernel
theorem dX12_findDeal_69 : decode cX12_findDeal 69 = .ok (.istore 5, 2) := by decide +kernel
theorem dX12_findDeal_71 : decode cX12_findDeal 71 = .ok (.iload 5, 2) := by decide +kernel
theorem dX12_findDeal_73 : decode cX12_findDeal 73 = .ok (.aload_n 0, 1) := by decide +kernel
theorem dX12_findDeal_74 : decode cX12_findDeal 74 = .ok (.getfield 231, 3) := by decide +kernel
theorem dX12_findDeal_77 : decode cX12_findDeal 77 = .ok (.if_icmp .ge 156, 3) := by decide +kernel
theorem dX12_findDeal_80 : decode cX12_findDeal 80 = .ok (.iload 5, 2) := by decide +kernel
theorem dX12_findDeal_82 : decode cX12_findDeal 82 = .ok (.iload 4, 2) := by decide +kernel
theorem dX12_findDeal_84 : decode cX12_findDeal 84 = .ok (.if_icmp .eq 143, 3) := by decide +kernel
theorem dX12_findDeal_87 : decode cX12_findDeal 87 = .ok (.aload_n 0, 1) := by decide +kernel
theorem dX12_findDeal_88 : decode cX12_findDeal 88 = .ok (.getfield 44, 3) := by decide +kernel
theorem dX12_findDeal_91 : decode cX12_findDeal 91 = .ok (.iload 5, 2) := by decide +kernel
theorem dX12_findDeal_93 : decode cX12_findDeal 93 = .ok (.iaload, 1) := by decide +kernel
theorem dX12_findDeal_94 : decode cX12_findDeal 94 = .ok (.ifCond .ne 133, 3) := by decide +kernel
theorem dX12_findDeal_97 : decode cX12_findDeal 97 = .ok (.aload_n 0, 1) := by decide +kernel
theorem dX12_findDeal_98 : decode cX12_findDeal 98 = .ok (.getfield 203, 3) := by decide +kernel
theorem dX12_findDeal_101 : decode cX12_findDeal 101 = .ok (.bipush 24, 2) := by decide +kernel
theorem dX12_findDeal_103 : decode cX12_findDeal 103 = .ok (.iload_n 3, 1) := by decide +kernel
theorem dX12_findDeal_104 : decode cX12_findDeal 104 = .ok (.imul, 1) := by decide +kernel
theorem dX12_findDeal_105 : decode cX12_findDeal 105 = .ok (.iload 5, 2) := by decide +kernel
theorem dX12_findDeal_107 : decode cX12_findDeal 107 = .ok (.iadd, 1) := by decide +kernel
theorem dX12_findDeal_108 : decode cX12_findDeal 108 = .ok (.baload, 1) := by decide +kernel
theorem dX12_findDeal_109 : decode cX12_findDeal 109 = .ok (.ifCond .ne 6, 3) := by decide +kernel
theorem dX12_findDeal_112 : decode cX12_findDeal 112 = .ok (.goto 115, 3) := by decide +kernel
theorem dX12_findDeal_115 : decode cX12_findDeal 115 = .ok (.aload_n 0, 1) := by decide +kernel
theorem dX12_findDeal_116 : decode cX12_findDeal 116 = .ok (.iload_n 2, 1) := by decide +kernel
theorem dX12_findDeal_117 : decode cX12_findDeal 117 = .ok (.iload_n 2, 1) := by decide +kernel
theorem dX12_findDeal_118 : decode cX12_findDeal 118 = .ok (.iload 4, 2) := by decide +kernel
theorem dX12_findDeal_120 : decode cX12_findDeal 120 = .ok (.invokevirtual 610, 3) := by decide +kernel
theorem dX12_findDeal_123 : decode cX12_findDeal 123 = .ok (.aload_n 0, 1) := by decide +kernel
theorem dX12_findDeal_124 : decode cX12_findDeal 124 = .ok (.iload_n 2, 1) := by decide +kernel
theorem dX12_findDeal_125 : decode cX12_findDeal 125 = .ok (.iload_n 3, 1) := by decide +kernel
theorem dX12_findDeal_126 : decode cX12_findDeal 126 = .ok (.iload 5, 2) := by decide +kernel
theorem dX12_findDeal_128 : decode cX12_findDeal 128 = .ok (.invokevirtual 610, 3) := by decide +kernel
theorem dX12_findDeal_131 : decode cX12_findDeal 131 = .ok (.iadd, 1) := by decide +kernel
theorem dX12_findDeal_132 : decode cX12_findDeal 132 = .ok (.istore 6, 2) := by decide +kernel
theorem dX12_findDeal_134 : decode cX12_findDeal 134 = .ok (.aload_n 0, 1) := by decide +kernel
theorem dX12_findDeal_135 : decode cX12_findDeal 135 = .ok (.iload_n 3, 1) := by decide +kernel
theorem dX12_findDeal_136 : decode cX12_findDeal 136 = .ok (.iload_n 2, 1) := by decide +kernel
theorem dX12_findDeal_137 : decode cX12_findDeal 137 = .ok (.iload 4, 2) := by decide +kernel
theorem dX12_findDeal_139 : decode cX12_findDeal 139 = .ok (.invokevirtual 610, 3) := by decide +kernel
theorem dX12_findDeal_142 : decode cX12_findDeal 142 = .ok (.aload_n 0, 1) := by decide +kernel
theorem dX12_findDeal_143 : decode cX12_findDeal 143 = .ok (.iload_n 3, 1) := by decide +kernel
theorem dX12_findDeal_144 : decode cX12_findDeal 144 = .ok (.iload_n 3, 1) := by decide +kernel
theorem dX12_findDeal_145 : decode cX12_findDeal 145 = .ok (.iload 5, 2) := by decide +kernel
theorem dX12_findDeal_147 : decode cX12_findDeal 147 = .ok (.invokevirtual 610, 3) := by decide +kernel
theorem dX12_findDeal_150 : decode cX12_findDeal 150 = .ok (.iadd, 1) := by decide +kernel
theorem dX12_findDeal_151 : decode cX12_findDeal 151 = .ok (.istore 7, 2) := by decide +kernel
theorem dX12_findDeal_153 : decode cX12_findDeal 153 = .ok (.iload 6, 2) := by decide +kernel
theorem dX12_findDeal_155 : decode cX12_findDeal 155 = .ok (.ifCond .le 72, 3) := by decide +kernel
theorem dX12_findDeal_158 : decode cX12_findDeal 158 = .ok (.iload 7, 2) := by decide +kernel
theorem dX12_findDeal_160 : decode cX12_findDeal 160 = .ok (.ifCond .le 67, 3) := by decide +kernel
theorem dX12_findDeal_163 : decode cX12_findDeal 163 = .ok (.iload 6, 2) := by decide +kernel
theorem dX12_findDeal_165 : decode cX12_findDeal 165 = .ok (.iload 7, 2) := by decide +kernel
theorem dX12_findDeal_167 : decode cX12_findDeal 167 = .ok (.iadd, 1) := by decide +kernel
theorem dX12_findDeal_168 : decode cX12_findDeal 168 = .ok (.iload_n 1, 1) := by decide +kernel
theorem dX12_findDeal_169 : decode cX12_findDeal 169 = .ok (.if_icmp .gt 6, 3) := by decide +kernel
theorem dX12_findDeal_172 : decode cX12_findDeal 172 = .ok (.goto 55, 3) := by decide +kernel
theorem dX12_findDeal_175 : decode cX12_findDeal 175 = .ok (.iload 6, 2) := by decide +kernel
theorem dX12_findDeal_177 : decode cX12_findDeal 177 = .ok (.iload 7, 2) := by decide +kernel
theorem dX12_findDeal_179 : decode cX12_findDeal 179 = .ok (.iadd, 1) := by decide +kernel
theorem dX12_findDeal_180 : decode cX12_findDeal 180 = .ok (.istore_n 1, 1) := by decide +kernel
theorem dX12_findDeal_181 : decode cX12_findDeal 181 = .ok (.aload_n 0, 1) := by decide +kernel
theorem dX12_findDeal_182 : decode cX12_findDeal 182 = .ok (.getfield 206, 3) := by decide +kernel
theorem dX12_findDeal_185 : decode cX12_findDeal 185 = .ok (.iconst 0, 1) := by decide +kernel
theorem dX12_findDeal_186 : decode cX12_findDeal 186 = .ok (.iload_n 2, 1) := by decide +kernel
theorem dX12_findDeal_187 : decode cX12_findDeal 187 = .ok (.iastore, 1) := by decide +kernel
theorem dX12_findDeal_188 : decode cX12_findDeal 188 = .ok (.aload_n 0, 1) := by decide +kernel
theorem dX12_findDeal_189 : decode cX12_findDeal 189 = .ok (.getfield 206, 3) := by decide +kernel
theorem dX12_findDeal_192 : decode cX12_findDeal 192 = .ok (.iconst 1, 1) := by decide +kernel
theorem dX12_findDeal_193 : decode cX12_findDeal 193 = .ok (.iload_n 3, 1) := by decide +kernel
theorem dX12_findDeal_194 : decode cX12_findDeal 194 = .ok (.iastore, 1) := by decide +kernel
theorem dX12_findDeal_195 : decode cX12_findDeal 195 = .ok (.aload_n 0, 1) := by decide +kernel
theorem dX12_findDeal_196 : decode cX12_findDeal 196 = .ok (.getfield 206, 3) := by decide +kernel
theorem dX12_findDeal_199 : decode cX12_findDeal 199 = .ok (.iconst 2, 1) := by decide +kernel
theorem dX12_findDeal_200 : decode cX12_findDeal 200 = .ok (.iload 4, 2) := by decide +kernel
theorem dX12_findDeal_202 : decode cX12_findDeal 202 = .ok (.iastore, 1) := by decide +kernel
theorem dX12_findDeal_203 : decode cX12_findDeal 203 = .ok (.aload_n 0, 1) := by decide +kernel
theorem dX12_findDeal_204 : decode cX12_findDeal 204 = .ok (.getfield 206, 3) := by decide +kernel
theorem dX12_findDeal_207 : decode cX12_findDeal 207 = .ok (.iconst 3, 1) := by decide +kernel
theorem dX12_findDeal_208 : decode cX12_findDeal 208 = .ok (.iload 5, 2) := by decide +kernel
theorem dX12_findDeal_210 : decode cX12_findDeal 210 = .ok (.iastore, 1) := by decide +kernel
theorem dX12_findDeal_211 : decode cX12_findDeal 211 = .ok (.aload_n 0, 1) := by decide +kernel
theorem dX12_findDeal_212 : decode cX12_findDeal 212 = .ok (.getfield 206, 3) := by decide +kernel
theorem dX12_findDeal_215 : decode cX12_findDeal 215 = .ok (.iconst 4, 1) := by decide +kernel
theorem dX12_findDeal_216 : decode cX12_findDeal 216 = .ok (.iload 6, 2) := by decide +kernel
theorem dX12_findDeal_218 : decode cX12_findDeal 218 = .ok (.iastore, 1) := by decide +kernel
theorem dX12_findDeal_219 : decode cX12_findDeal 219 = .ok (.aload_n 0, 1) := by decide +kernel
theorem dX12_findDeal_220 : decode cX12_findDeal 220 = .ok (.getfield 206, 3) := by decide +kernel
theorem dX12_findDeal_223 : decode cX12_findDeal 223 = .ok (.iconst 5, 1) := by decide +kernel
theorem dX12_findDeal_224 : decode cX12_findDeal 224 = .ok (.iload 7, 2) := by decide +kernel
theorem dX12_findDeal_226 : decode cX12_findDeal 226 = .ok (.iastore, 1) := by decide +kernel
theorem dX12_findDeal_227 : decode cX12_findDeal 227 = .ok (.iinc 5 1, 3) := by decide +kernel
theorem dX12_findDeal_230 : decode cX12_findDeal 230 = .ok (.goto (-159), 3) := by decide +kernel
theorem dX12_findDeal_233 : decode cX12_findDeal 233 = .ok (.iinc 4 1, 3) := by decide +kernel
theorem dX12_findDeal_236 : decode cX12_findDeal 236 = .ok (.goto (-205), 3) := by decide +kernel
theorem dX12_findDeal_239 : decode cX12_findDeal 239 = .ok (.iinc 3 1, 3) := by decide +kernel
theorem dX12_findDeal_242 : decode cX12_findDeal 242 = .ok (.goto (-222), 3) := by decide +kernel
theorem dX12_findDeal_245 : decode cX12_findDeal 245 = .ok (.iinc 2 1, 3) := by decide +kernel
theorem dX12_findDeal_248 : decode cX12_findDeal 248 = .ok (.goto (-240), 3) := by decide +kernel
theorem dX12_findDeal_251 : decode cX12_findDeal 251 = .ok (.iload_n 1, 1) := by decide +kernel
theorem dX12_findDeal_252 : decode cX12_findDeal 252 = .ok (.ifCond .le 7, 3) := by decide +kernel
theorem dX12_findDeal_255 : decode cX12_findDeal 255 = .ok (.iconst 1, 1) := by decide +kernel
theorem dX12_findDeal_256 : decode cX12_findDeal 256 = .ok (.goto 4, 3) := by decide +kernel
theorem dX12_findDeal_259 : decode cX12_findDeal 259 = .ok (.iconst 0, 1) := by decide +kernel
theorem dX12_findDeal_260 : decode cX12_findDeal 260 = .ok (.ireturn, 1) := by decide +kernel
theorem dX12_deal_0 : decode cX12_deal 0 = .ok (.aload_n 0, 1) := by decide +kernel
theorem dX12_deal_1 : decode cX12_deal 1 = .ok (.iconst 0, 1) := by decide +kernel
theorem dX12_deal_2 : decode cX12_deal 2 = .ok (.putfield 1, 3) := by decide +kernel
theorem dX12_deal_5 : decode cX12_deal 5 = .ok (.iload_n 1, 1) := by decide +kernel
theorem dX12_deal_6 : decode cX12_deal 6 = .ok (.iconst 0, 1) := by decide +kernel
theorem dX12_deal_7 : decode cX12_deal 7 = .ok (.iconst 5, 1) := by decide +kernel
theorem dX12_deal_8 : decode cX12_deal 8 = .ok (.invokestatic 215, 3) := by decide +kernel
theorem dX12_deal_11 : decode cX12_deal 11 = .ok (.ifCond .eq 19, 3) := by decide +kernel
theorem dX12_deal_14 : decode cX12_deal 14 = .ok (.aload_n 0, 1) := by decide +kernel
theorem dX12_deal_15 : decode cX12_deal 15 = .ok (.invokevirtual 613, 3) := by decide +kernel
theorem dX12_deal_18 : decode cX12_deal 18 = .ok (.ifCond .eq 12, 3) := by decide +kernel
theorem dX12_deal_21 : decode cX12_deal 21 = .ok (.aload_n 0, 1) := by decide +kernel
theorem dX12_deal_22 : decode cX12_deal 22 = .ok (.getfield 206, 3) := by decide +kernel
theorem dX12_deal_25 : decode cX12_deal 25 = .ok (.iload_n 1, 1) := by decide +kernel
theorem dX12_deal_26 : decode cX12_deal 26 = .ok (.iaload, 1) := by decide +kernel
theorem dX12_deal_27 : decode cX12_deal 27 = .ok (.goto 4, 3) := by decide +kernel
theorem dX12_deal_30 : decode cX12_deal 30 = .ok (.iconst (-1), 1) := by decide +kernel
theorem dX12_deal_31 : decode cX12_deal 31 = .ok (.ireturn, 1) := by decide +kernel
theorem dX12_count_0 : decode cX12_count 0 = .ok (.aload_n 0, 1) := by decide +kernel
theorem dX12_count_1 : decode cX12_count 1 = .ok (.iconst 0, 1) := by decide +kernel
theorem dX12_count_2 : decode cX12_count 2 = .ok (.putfield 1, 3) := by decide +kernel
theorem dX12_count_5 : decode cX12_count 5 = .ok (.iconst 0, 1) := by decide +kernel
theorem dX12_count_6 : decode cX12_count 6 = .ok (.istore_n 2, 1) := by decide +kernel
theorem dX12_count_7 : decode cX12_count 7 = .ok (.iload_n 1, 1) := by decide +kernel
theorem dX12_count_8 : decode cX12_count 8 = .ok (.tableswitch 172 0 11 #[64, 69, 74, 79, 84, 89, 94, 99, 104, 109, 114, 144], 64) := by decide +kernel
theorem dX12_count_72 : decode cX12_count 72 = .ok (.aload_n 0, 1) := by decide +kernel
theorem dX12_count_73 : decode cX12_count 73 = .ok (.getfield 212, 3) := by decide +kernel
theorem dX12_count_76 : decode cX12_count 76 = .ok (.ireturn, 1) := by decide +kernel
theorem dX12_count_77 : decode cX12_count 77 = .ok (.aload_n 0, 1) := by decide +kernel
theorem dX12_count_78 : decode cX12_count 78 = .ok (.getfield 209, 3) := by decide +kernel
theorem dX12_count_81 : decode cX12_count 81 = .ok (.ireturn, 1) := by decide +kernel
theorem dX12_count_82 : decode cX12_count 82 = .ok (.aload_n 0, 1) := by decide +kernel
theorem dX12_count_83 : decode cX12_count 83 = .ok (.getfield 223, 3) := by decide +kernel
theorem dX12_count_86 : decode cX12_count 86 = .ok (.ireturn, 1) := by decide +kernel
theorem dX12_count_87 : decode cX12_count 87 = .ok (.aload_n 0, 1) := by decide +kernel
theorem dX12_count_88 : decode cX12_count 88 = .ok (.getfield 250, 3) := by decide +kernel
theorem dX12_count_91 : decode cX12_count 91 = .ok (.ireturn, 1) := by decide +kernel
theorem dX12_count_92 : decode cX12_count 92 = .ok (.aload_n 0, 1) := by decide +kernel
theorem dX12_count_93 : decode cX12_count 93 = .ok (.getfield 231, 3) := by decide +kernel
theorem dX12_count_96 : decode cX12_count 96 = .ok (.ireturn, 1) := by decide +kernel
theorem dX12_count_97 : decode cX12_count 97 = .ok (.aload_n 0, 1) := by decide +kernel
theorem dX12_count_98 : decode cX12_count 98 = .ok (.getfield 237, 3) := by decide +kernel
theorem dX12_count_101 : decode cX12_count 101 = .ok (.ireturn, 1) := by decide +kernel
theorem dX12_count_102 : decode cX12_count 102 = .ok (.aload_n 0, 1) := by decide +kernel
theorem dX12_count_103 : decode cX12_count 103 = .ok (.getfield 240, 3) := by decide +kernel
theorem dX12_count_106 : decode cX12_count 106 = .ok (.ireturn, 1) := by decide +kernel
theorem dX12_count_107 : decode cX12_count 107 = .ok (.aload_n 0, 1) := by decide +kernel
theorem dX12_count_108 : decode cX12_count 108 = .ok (.getfield 41, 3) := by decide +kernel
theorem dX12_count_111 : decode cX12_count 111 = .ok (.ireturn, 1) := by decide +kernel
theorem dX12_count_112 : decode cX12_count 112 = .ok (.aload_n 0, 1) := by decide +kernel
theorem dX12_count_113 : decode cX12_count 113 = .ok (.getfield 551, 3) := by decide +kernel
theorem dX12_count_116 : decode cX12_count 116 = .ok (.ireturn, 1) := by decide +kernel
theorem dX12_count_117 : decode cX12_count 117 = .ok (.aload_n 0, 1) := by decide +kernel
theorem dX12_count_118 : decode cX12_count 118 = .ok (.getfield 276, 3) := by decide +kernel
theorem dX12_count_121 : decode cX12_count 121 = .ok (.ireturn, 1) := by decide +kernel
theorem dX12_count_122 : decode cX12_count 122 = .ok (.iconst 0, 1) := by decide +kernel
theorem dX12_count_123 : decode cX12_count 123 = .ok (.istore_n 3, 1) := by decide +kernel
theorem dX12_count_124 : decode cX12_count 124 = .ok (.iload_n 3, 1) := by decide +kernel
theorem dX12_count_125 : decode cX12_count 125 = .ok (.aload_n 0, 1) := by decide +kernel
theorem dX12_count_126 : decode cX12_count 126 = .ok (.getfield 231, 3) := by decide +kernel
theorem dX12_count_129 : decode cX12_count 129 = .ok (.if_icmp .ge 21, 3) := by decide +kernel
theorem dX12_count_132 : decode cX12_count 132 = .ok (.aload_n 0, 1) := by decide +kernel
theorem dX12_count_133 : decode cX12_count 133 = .ok (.getfield 44, 3) := by decide +kernel
theorem dX12_count_136 : decode cX12_count 136 = .ok (.iload_n 3, 1) := by decide +kernel
theorem dX12_count_137 : decode cX12_count 137 = .ok (.iaload, 1) := by decide +kernel
theorem dX12_count_138 : decode cX12_count 138 = .ok (.ifCond .ne 6, 3) := by decide +kernel
theorem dX12_count_141 : decode cX12_count 141 = .ok (.iinc 2 1, 3) := by decide +kernel
theorem dX12_count_144 : decode cX12_count 144 = .ok (.iinc 3 1, 3) := by decide +kernel
theorem dX12_count_147 : decode cX12_count 147 = .ok (.goto (-23), 3) := by decide +kernel
theorem dX12_count_150 : decode cX12_count 150 = .ok (.iload_n 2, 1) := by decide +kernel
theorem dX12_count_151 : decode cX12_count 151 = .ok (.ireturn, 1) := by decide +kernel
theorem dX12_count_152 : decode cX12_count 152 = .ok (.iconst 1, 1) := by decide +kernel
theorem dX12_count_153 : decode cX12_count 153 = .ok (.istore_n 3, 1) := by decide +kernel
theorem dX12_count_154 : decode cX12_count 154 = .ok (.iload_n 3, 1) := by decide +kernel
theorem dX12_count_155 : decode cX12_count 155 = .ok (.bipush 60, 2) := by decide +kernel
theorem dX12_count_157 : decode cX12_count 157 = .ok (.if_icmp .gt 21, 3) := by decide +kernel
theorem dX12_count_160 : decode cX12_count 160 = .ok (.aload_n 0, 1) := by decide +kernel
theorem dX12_count_161 : decode cX12_count 161 = .ok (.getfield 66, 3) := by decide +kernel
theorem dX12_count_164 : decode cX12_count 164 = .ok (.iload_n 3, 1) := by decide +kernel
theorem dX12_count_165 : decode cX12_count 165 = .ok (.iaload, 1) := by decide +kernel
theorem dX12_count_166 : decode cX12_count 166 = .ok (.ifCond .eq 6, 3) := by decide +kernel
theorem dX12_count_169 : decode cX12_count 169 = .ok (.iinc 2 1, 3) := by decide +kernel
theorem dX12_count_172 : decode cX12_count 172 = .ok (.iinc 3 1, 3) := by decide +kernel
theorem dX12_count_175 : decode cX12_count 175 = .ok (.goto (-21), 3) := by decide +kernel
theorem dX12_count_178 : decode cX12_count 178 = .ok (.iload_n 2, 1) := by decide +kernel
theorem dX12_count_179 : decode cX12_count 179 = .ok (.ireturn, 1) := by decide +kernel
theorem dX12_count_180 : decode cX12_count 180 = .ok (.iconst (-1), 1) := by decide +kernel
theorem dX12_count_181 : decode cX12_count 181 = .ok (.ireturn, 1) := by decide +kernel
theorem dJ6_bitCount_0f7a4_0 : decode cJ6_bitCount_0f7a4 0 = .ok (.iload_n 0, 1) := by decide +kernel
theorem dJ6_bitCount_0f7a4_1 : decode cJ6_bitCount_0f7a4 1 = .ok (.iload_n 0, 1) := by decide +kernel
theorem dJ6_bitCount_0f7a4_2 : decode cJ6_bitCount_0f7a4 2 = .ok (.iconst 1, 1) := by decide +kernel
theorem dJ6_bitCount_0f7a4_3 : decode cJ6_bitCount_0f7a4 3 = .ok (.iushr, 1) := by decide +kernel
theorem dJ6_bitCount_0f7a4_4 : decode cJ6_bitCount_0f7a4 4 = .ok (.ldc_w 265, 3) := by decide +kernel
theorem dJ6_bitCount_0f7a4_7 : decode cJ6_bitCount_0f7a4 7 = .ok (.iand, 1) := by decide +kernel
theorem dJ6_bitCount_0f7a4_8 : decode cJ6_bitCount_0f7a4 8 = .ok (.isub, 1) := by decide +kernel
theorem dJ6_bitCount_0f7a4_9 : decode cJ6_bitCount_0f7a4 9 = .ok (.istore_n 0, 1) := by decide +kernel
theorem dJ6_bitCount_0f7a4_10 : decode cJ6_bitCount_0f7a4 10 = .ok (.iload_n 0, 1) := by decide +kernel
theorem dJ6_bitCount_0f7a4_11 : decode cJ6_bitCount_0f7a4 11 = .ok (.ldc_w 266, 3) := by decide +kernel
theorem dJ6_bitCount_0f7a4_14 : decode cJ6_bitCount_0f7a4 14 = .ok (.iand, 1) := by decide +kernel
theorem dJ6_bitCount_0f7a4_15 : decode cJ6_bitCount_0f7a4 15 = .ok (.iload_n 0, 1) := by decide +kernel
theorem dJ6_bitCount_0f7a4_16 : decode cJ6_bitCount_0f7a4 16 = .ok (.iconst 2, 1) := by decide +kernel
theorem dJ6_bitCount_0f7a4_17 : decode cJ6_bitCount_0f7a4 17 = .ok (.iushr, 1) := by decide +kernel
theorem dJ6_bitCount_0f7a4_18 : decode cJ6_bitCount_0f7a4 18 = .ok (.ldc_w 266, 3) := by decide +kernel
theorem dJ6_bitCount_0f7a4_21 : decode cJ6_bitCount_0f7a4 21 = .ok (.iand, 1) := by decide +kernel
theorem dJ6_bitCount_0f7a4_22 : decode cJ6_bitCount_0f7a4 22 = .ok (.iadd, 1) := by decide +kernel
theorem dJ6_bitCount_0f7a4_23 : decode cJ6_bitCount_0f7a4 23 = .ok (.istore_n 0, 1) := by decide +kernel
theorem dJ6_bitCount_0f7a4_24 : decode cJ6_bitCount_0f7a4 24 = .ok (.iload_n 0, 1) := by decide +kernel
theorem dJ6_bitCount_0f7a4_25 : decode cJ6_bitCount_0f7a4 25 = .ok (.iload_n 0, 1) := by decide +kernel
theorem dJ6_bitCount_0f7a4_26 : decode cJ6_bitCount_0f7a4 26 = .ok (.iconst 4, 1) := by decide +kernel
theorem dJ6_bitCount_0f7a4_27 : decode cJ6_bitCount_0f7a4 27 = .ok (.iushr, 1) := by decide +kernel
theorem dJ6_bitCount_0f7a4_28 : decode cJ6_bitCount_0f7a4 28 = .ok (.iadd, 1) := by decide +kernel
theorem dJ6_bitCount_0f7a4_29 : decode cJ6_bitCount_0f7a4 29 = .ok (.ldc_w 267, 3) := by decide +kernel
theorem dJ6_bitCount_0f7a4_32 : decode cJ6_bitCount_0f7a4 32 = .ok (.iand, 1) := by decide +kernel
theorem dJ6_bitCount_0f7a4_33 : decode cJ6_bitCount_0f7a4 33 = .ok (.istore_n 0, 1) := by decide +kernel
theorem dJ6_bitCount_0f7a4_34 : decode cJ6_bitCount_0f7a4 34 = .ok (.iload_n 0, 1) := by decide +kernel
theorem dJ6_bitCount_0f7a4_35 : decode cJ6_bitCount_0f7a4 35 = .ok (.iload_n 0, 1) := by decide +kernel
theorem dJ6_bitCount_0f7a4_36 : decode cJ6_bitCount_0f7a4 36 = .ok (.bipush 8, 2) := by decide +kernel
theorem dJ6_bitCount_0f7a4_38 : decode cJ6_bitCount_0f7a4 38 = .ok (.iushr, 1) := by decide +kernel
theorem dJ6_bitCount_0f7a4_39 : decode cJ6_bitCount_0f7a4 39 = .ok (.iadd, 1) := by decide +kernel
theorem dJ6_bitCount_0f7a4_40 : decode cJ6_bitCount_0f7a4 40 = .ok (.istore_n 0, 1) := by decide +kernel
theorem dJ6_bitCount_0f7a4_41 : decode cJ6_bitCount_0f7a4 41 = .ok (.iload_n 0, 1) := by decide +kernel
theorem dJ6_bitCount_0f7a4_42 : decode cJ6_bitCount_0f7a4 42 = .ok (.iload_n 0, 1) := by decide +kernel
theorem dJ6_bitCount_0f7a4_43 : decode cJ6_bitCount_0f7a4 43 = .ok (.bipush 16, 2) := by decide +kernel
theorem dJ6_bitCount_0f7a4_45 : decode cJ6_bitCount_0f7a4 45 = .ok (.iushr, 1) := by decide +kernel
theorem dJ6_bitCount_0f7a4_46 : decode cJ6_bitCount_0f7a4 46 = .ok (.iadd, 1) := by decide +kernel
theorem dJ6_bitCount_0f7a4_47 : decode cJ6_bitCount_0f7a4 47 = .ok (.istore_n 0, 1) := by decide +kernel
theorem dJ6_bitCount_0f7a4_48 : decode cJ6_bitCount_0f7a4 48 = .ok (.iload_n 0, 1) := by decide +kernel
theorem dJ6_bitCount_0f7a4_49 : decode cJ6_bitCount_0f7a4 49 = .ok (.bipush 63, 2) := by decide +kernel
theorem dJ6_bitCount_0f7a4_51 : decode cJ6_bitCount_0f7a4 51 = .ok (.iand, 1) := by decide +kernel
theorem dJ6_bitCount_0f7a4_52 : decode cJ6_bitCount_0f7a4 52 = .ok (.ireturn, 1) := by decide +kernel
theorem dJ13_bitCount_95d88_0 : decode cJ13_bitCount_95d88 0 = .ok (.lload_n 0, 1) := by decide +kernel
theorem dJ13_bitCount_95d88_1 : decode cJ13_bitCount_95d88 1 = .ok (.lload_n 0, 1) := by decide +kernel
theorem dJ13_bitCount_95d88_2 : decode cJ13_bitCount_95d88 2 = .ok (.iconst 1, 1) := by decide +kernel
theorem dJ13_bitCount_95d88_3 : decode cJ13_bitCount_95d88 3 = .ok (.lushr, 1) := by decide +kernel
theorem dJ13_bitCount_95d88_4 : decode cJ13_bitCount_95d88 4 = .ok (.ldc2_w 314, 3) := by decide +kernel
theorem dJ13_bitCount_95d88_7 : decode cJ13_bitCount_95d88 7 = .ok (.land, 1) := by decide +kernel
theorem dJ13_bitCount_95d88_8 : decode cJ13_bitCount_95d88 8 = .ok (.lsub, 1) := by decide +kernel
theorem dJ13_bitCount_95d88_9 : decode cJ13_bitCount_95d88 9 = .ok (.lstore_n 0, 1) := by decide +kernel
theorem dJ13_bitCount_95d88_10 : decode cJ13_bitCount_95d88 10 = .ok (.lload_n 0, 1) := by decide +kernel
theorem dJ13_bitCount_95d88_11 : decode cJ13_bitCount_95d88 11 = .ok (.ldc2_w 316, 3) := by decide +kernel
theorem dJ13_bitCount_95d88_14 : decode cJ13_bitCount_95d88 14 = .ok (.land, 1) := by decide +kernel
theorem dJ13_bitCount_95d88_15 : decode cJ13_bitCount_95d88 15 = .ok (.lload_n 0, 1) := by decide +kernel
theorem dJ13_bitCount_95d88_16 : decode cJ13_bitCount_95d88 16 = .ok (.iconst 2, 1) := by decide +kernel
theorem dJ13_bitCount_95d88_17 : decode cJ13_bitCount_95d88 17 = .ok (.lushr, 1) := by decide +kernel
theorem dJ13_bitCount_95d88_18 : decode cJ13_bitCount_95d88 18 = .ok (.ldc2_w 316, 3) := by decide +kernel
theorem dJ13_bitCount_95d88_21 : decode cJ13_bitCount_95d88 21 = .ok (.land, 1) := by decide +kernel
theorem dJ13_bitCount_95d88_22 : decode cJ13_bitCount_95d88 22 = .ok (.ladd, 1) := by decide +kernel
theorem dJ13_bitCount_95d88_23 : decode cJ13_bitCount_95d88 23 = .ok (.lstore_n 0, 1) := by decide +kernel
theorem dJ13_bitCount_95d88_24 : decode cJ13_bitCount_95d88 24 = .ok (.lload_n 0, 1) := by decide +kernel
theorem dJ13_bitCount_95d88_25 : decode cJ13_bitCount_95d88 25 = .ok (.lload_n 0, 1) := by decide +kernel
theorem dJ13_bitCount_95d88_26 : decode cJ13_bitCount_95d88 26 = .ok (.iconst 4, 1) := by decide +kernel
theorem dJ13_bitCount_95d88_27 : decode cJ13_bitCount_95d88 27 = .ok (.lushr, 1) := by decide +kernel
theorem dJ13_bitCount_95d88_28 : decode cJ13_bitCount_95d88 28 = .ok (.ladd, 1) := by decide +kernel
theorem dJ13_bitCount_95d88_29 : decode cJ13_bitCount_95d88 29 = .ok (.ldc2_w 318, 3) := by decide +kernel
theorem dJ13_bitCount_95d88_32 : decode cJ13_bitCount_95d88 32 = .ok (.land, 1) := by decide +kernel
theorem dJ13_bitCount_95d88_33 : decode cJ13_bitCount_95d88 33 = .ok (.lstore_n 0, 1) := by decide +kernel
theorem dJ13_bitCount_95d88_34 : decode cJ13_bitCount_95d88 34 = .ok (.lload_n 0, 1) := by decide +kernel
theorem dJ13_bitCount_95d88_35 : decode cJ13_bitCount_95d88 35 = .ok (.lload_n 0, 1) := by decide +kernel
theorem dJ13_bitCount_95d88_36 : decode cJ13_bitCount_95d88 36 = .ok (.bipush 8, 2) := by decide +kernel
theorem dJ13_bitCount_95d88_38 : decode cJ13_bitCount_95d88 38 = .ok (.lushr, 1) := by decide +kernel
theorem dJ13_bitCount_95d88_39 : decode cJ13_bitCount_95d88 39 = .ok (.ladd, 1) := by decide +kernel
theorem dJ13_bitCount_95d88_40 : decode cJ13_bitCount_95d88 40 = .ok (.lstore_n 0, 1) := by decide +kernel
theorem dJ13_bitCount_95d88_41 : decode cJ13_bitCount_95d88 41 = .ok (.lload_n 0, 1) := by decide +kernel
theorem dJ13_bitCount_95d88_42 : decode cJ13_bitCount_95d88 42 = .ok (.lload_n 0, 1) := by decide +kernel
theorem dJ13_bitCount_95d88_43 : decode cJ13_bitCount_95d88 43 = .ok (.bipush 16, 2) := by decide +kernel
theorem dJ13_bitCount_95d88_45 : decode cJ13_bitCount_95d88 45 = .ok (.lushr, 1) := by decide +kernel
theorem dJ13_bitCount_95d88_46 : decode cJ13_bitCount_95d88 46 = .ok (.ladd, 1) := by decide +kernel
theorem dJ13_bitCount_95d88_47 : decode cJ13_bitCount_95d88 47 = .ok (.lstore_n 0, 1) := by decide +kernel
theorem dJ13_bitCount_95d88_48 : decode cJ13_bitCount_95d88 48 = .ok (.lload_n 0, 1) := by decide +kernel
theorem dJ13_bitCount_95d88_49 : decode cJ13_bitCount_95d88 49 = .ok (.lload_n 0, 1) := by decide +kernel
theorem dJ13_bitCount_95d88_50 : decode cJ13_bitCount_95d88 50 = .ok (.bipush 32, 2) := by decide +kernel
theorem dJ13_bitCount_95d88_52 : decode cJ13_bitCount_95d88 52 = .ok (.lushr, 1) := by decide +kernel
theorem dJ13_bitCount_95d88_53 : decode cJ13_bitCount_95d88 53 = .ok (.ladd, 1) := by decide +kernel
theorem dJ13_bitCount_95d88_54 : decode cJ13_bitCount_95d88 54 = .ok (.lstore_n 0, 1) := by decide +kernel
theorem dJ13_bitCount_95d88_55 : decode cJ13_bitCount_95d88 55 = .ok (.lload_n 0, 1) := by decide +kernel
theorem dJ13_bitCount_95d88_56 : decode cJ13_bitCount_95d88 56 = .ok (.l2i, 1) := by decide +kernel
theorem dJ13_bitCount_95d88_57 : decode cJ13_bitCount_95d88 57 = .ok (.bipush 127, 2) := by decide +kernel
theorem dJ13_bitCount_95d88_59 : decode cJ13_bitCount_95d88 59 = .ok (.iand, 1) := by decide +kernel
theorem dJ13_bitCount_95d88_60 : decode cJ13_bitCount_95d88 60 = .ok (.ireturn, 1) := by decide +kernel
theorem dJ9_abs_0f7a4_0 : decode cJ9_abs_0f7a4 0 = .ok (.iload_n 0, 1) := by decide +kernel
theorem dJ9_abs_0f7a4_1 : decode cJ9_abs_0f7a4 1 = .ok (.ifCond .ge 8, 3) := by decide +kernel
theorem dJ9_abs_0f7a4_4 : decode cJ9_abs_0f7a4 4 = .ok (.iload_n 0, 1) := by decide +kernel
theorem dJ9_abs_0f7a4_5 : decode cJ9_abs_0f7a4 5 = .ok (.ineg, 1) := by decide +kernel
theorem dJ9_abs_0f7a4_6 : decode cJ9_abs_0f7a4 6 = .ok (.goto 4, 3) := by decide +kernel
theorem dJ9_abs_0f7a4_9 : decode cJ9_abs_0f7a4 9 = .ok (.iload_n 0, 1) := by decide +kernel
theorem dJ9_abs_0f7a4_10 : decode cJ9_abs_0f7a4 10 = .ok (.ireturn, 1) := by decide +kernel
theorem dJ9_max_7cf53_0 : decode cJ9_max_7cf53 0 = .ok (.iload_n 0, 1) := by decide +kernel
theorem dJ9_max_7cf53_1 : decode cJ9_max_7cf53 1 = .ok (.iload_n 1, 1) := by decide +kernel
theorem dJ9_max_7cf53_2 : decode cJ9_max_7cf53 2 = .ok (.if_icmp .lt 7, 3) := by decide +kernel
theorem dJ9_max_7cf53_5 : decode cJ9_max_7cf53 5 = .ok (.iload_n 0, 1) := by decide +kernel
theorem dJ9_max_7cf53_6 : decode cJ9_max_7cf53 6 = .ok (.goto 4, 3) := by decide +kernel
theorem dJ9_max_7cf53_9 : decode cJ9_max_7cf53 9 = .ok (.iload_n 1, 1) := by decide +kernel
theorem dJ9_max_7cf53_10 : decode cJ9_max_7cf53 10 = .ok (.ireturn, 1) := by decide +kernel
theorem dJ9_min_7cf53_0 : decode cJ9_min_7cf53 0 = .ok (.iload_n 0, 1) := by decide +kernel
theorem dJ9_min_7cf53_1 : decode cJ9_min_7cf53 1 = .ok (.iload_n 1, 1) := by decide +kernel
theorem dJ9_min_7cf53_2 : decode cJ9_min_7cf53 2 = .ok (.if_icmp .gt 7, 3) := by decide +kernel
theorem dJ9_min_7cf53_5 : decode cJ9_min_7cf53 5 = .ok (.iload_n 0, 1) := by decide +kernel
theorem dJ9_min_7cf53_6 : decode cJ9_min_7cf53 6 = .ok (.goto 4, 3) := by decide +kernel
theorem dJ9_min_7cf53_9 : decode cJ9_min_7cf53 9 = .ok (.iload_n 1, 1) := by decide +kernel
theorem dJ9_min_7cf53_10 : decode cJ9_min_7cf53 10 = .ok (.ireturn, 1) := by decide +kernel
theorem dJ0_length_8abf5_0 : decode cJ0_length_8abf5 0 = .ok (.aload_n 0, 1) := by decide +kernel
theorem dJ0_length_8abf5_1 : decode cJ0_length_8abf5 1 = .ok (.getfield 9, 3) := by decide +kernel
theorem dJ0_length_8abf5_4 : decode cJ0_length_8abf5 4 = .ok (.arraylength, 1) := by decide +kernel
theorem dJ0_length_8abf5_5 : decode cJ0_length_8abf5 5 = .ok (.aload_n 0, 1) := by decide +kernel
theorem dJ0_length_8abf5_6 : decode cJ0_length_8abf5 6 = .ok (.invokevirtual 335, 3) := by decide +kernel
theorem dJ0_length_8abf5_9 : decode cJ0_length_8abf5 9 = .ok (.ishr, 1) := by decide +kernel
theorem dJ0_length_8abf5_10 : decode cJ0_length_8abf5 10 = .ok (.ireturn, 1) := by decide +kernel
theorem dJ0_charAt_5068e_0 : decode cJ0_charAt_5068e 0 = .ok (.aload_n 0, 1) := by decide +kernel
theorem dJ0_charAt_5068e_1 : decode cJ0_charAt_5068e 1 = .ok (.invokevirtual 492, 3) := by decide +kernel
theorem dJ0_charAt_5068e_4 : decode cJ0_charAt_5068e 4 = .ok (.ifCond .eq 12, 3) := by decide +kernel
theorem dJ0_charAt_5068e_7 : decode cJ0_charAt_5068e 7 = .ok (.aload_n 0, 1) := by decide +kernel
theorem dJ0_charAt_5068e_8 : decode cJ0_charAt_5068e 8 = .ok (.getfield 9, 3) := by decide +kernel
theorem dJ0_charAt_5068e_11 : decode cJ0_charAt_5068e 11 = .ok (.iload_n 1, 1) := by decide +kernel
theorem dJ0_charAt_5068e_12 : decode cJ0_charAt_5068e 12 = .ok (.invokestatic 495, 3) := by decide +kernel
theorem dJ0_charAt_5068e_15 : decode cJ0_charAt_5068e 15 = .ok (.ireturn, 1) := by decide +kernel
theorem dJ0_charAt_5068e_16 : decode cJ0_charAt_5068e 16 = .ok (.aload_n 0, 1) := by decide +kernel
theorem dJ0_charAt_5068e_17 : decode cJ0_charAt_5068e 17 = .ok (.getfield 9, 3) := by decide +kernel
theorem dJ0_charAt_5068e_20 : decode cJ0_charAt_5068e 20 = .ok (.iload_n 1, 1) := by decide +kernel
theorem dJ0_charAt_5068e_21 : decode cJ0_charAt_5068e 21 = .ok (.invokestatic 498, 3) := by decide +kernel
theorem dJ0_charAt_5068e_24 : decode cJ0_charAt_5068e 24 = .ok (.ireturn, 1) := by decide +kernel
theorem dJ0_coder_7d493_0 : decode cJ0_coder_7d493 0 = .ok (.getstatic 38, 3) := by decide +kernel
theorem dJ0_coder_7d493_3 : decode cJ0_coder_7d493 3 = .ok (.ifCond .eq 10, 3) := by decide +kernel
theorem dJ0_coder_7d493_6 : decode cJ0_coder_7d493 6 = .ok (.aload_n 0, 1) := by decide +kernel
theorem dJ0_coder_7d493_7 : decode cJ0_coder_7d493 7 = .ok (.getfield 15, 3) := by decide +kernel
theorem dJ0_coder_7d493_10 : decode cJ0_coder_7d493 10 = .ok (.goto 4, 3) := by decide +kernel
theorem dJ0_coder_7d493_13 : decode cJ0_coder_7d493 13 = .ok (.iconst 1, 1) := by decide +kernel
theorem dJ0_coder_7d493_14 : decode cJ0_coder_7d493 14 = .ok (.ireturn, 1) := by decide +kernel
theorem dJ0_isLatin1_aae02_0 : decode cJ0_isLatin1_aae02 0 = .ok (.getstatic 38, 3) := by decide +kernel
theorem dJ0_isLatin1_aae02_3 : decode cJ0_isLatin1_aae02 3 = .ok (.ifCond .eq 14, 3) := by decide +kernel
theorem dJ0_isLatin1_aae02_6 : decode cJ0_isLatin1_aae02 6 = .ok (.aload_n 0, 1) := by decide +kernel
theorem dJ0_isLatin1_aae02_7 : decode cJ0_isLatin1_aae02 7 = .ok (.getfield 15, 3) := by decide +kernel
theorem dJ0_isLatin1_aae02_10 : decode cJ0_isLatin1_aae02 10 = .ok (.ifCond .ne 7, 3) := by decide +kernel
theorem dJ0_isLatin1_aae02_13 : decode cJ0_isLatin1_aae02 13 = .ok (.iconst 1, 1) := by decide +kernel
theorem dJ0_isLatin1_aae02_14 : decode cJ0_isLatin1_aae02 14 = .ok (.goto 4, 3) := by decide +kernel
theorem dJ0_isLatin1_aae02_17 : decode cJ0_isLatin1_aae02 17 = .ok (.iconst 0, 1) := by decide +kernel
theorem dJ0_isLatin1_aae02_18 : decode cJ0_isLatin1_aae02 18 = .ok (.ireturn, 1) := by decide +kernel
theorem dJ0_checkIndex_df160_0 : decode cJ0_checkIndex_df160 0 = .ok (.iload_n 0, 1) := by decide +kernel
theorem dJ0_checkIndex_df160_1 : decode cJ0_checkIndex_df160 1 = .ok (.iload_n 1, 1) := by decide +kernel
theorem dJ0_checkIndex_df160_2 : decode cJ0_checkIndex_df160 2 = .ok (.getstatic 1053, 3) := by decide +kernel
theorem dJ0_checkIndex_df160_5 : decode cJ0_checkIndex_df160 5 = .ok (.invokestatic 1059, 3) := by decide +kernel
theorem dJ0_checkIndex_df160_8 : decode cJ0_checkIndex_df160 8 = .ok (.pop, 1) := by decide +kernel
theorem dJ0_checkIndex_df160_9 : decode cJ0_checkIndex_df160 9 = .ok (.return_, 1) := by decide +kernel
theorem dJ1_charAt_3b067_0 : decode cJ1_charAt_3b067 0 = .ok (.iload_n 1, 1) := by decide +kernel
theorem dJ1_charAt_3b067_1 : decode cJ1_charAt_3b067 1 = .ok (.aload_n 0, 1) := by decide +kernel
theorem dJ1_charAt_3b067_2 : decode cJ1_charAt_3b067 2 = .ok (.arraylength, 1) := by decide +kernel
theorem dJ1_charAt_3b067_3 : decode cJ1_charAt_3b067 3 = .ok (.invokestatic 9, 3) := by decide +kernel
theorem dJ1_charAt_3b067_6 : decode cJ1_charAt_3b067 6 = .ok (.aload_n 0, 1) := by decide +kernel
theorem dJ1_charAt_3b067_7 : decode cJ1_charAt_3b067 7 = .ok (.iload_n 1, 1) := by decide +kernel
theorem dJ1_charAt_3b067_8 : decode cJ1_charAt_3b067 8 = .ok (.baload, 1) := by decide +kernel
theorem dJ1_charAt_3b067_9 : decode cJ1_charAt_3b067 9 = .ok (.sipush 255, 3) := by decide +kernel
theorem dJ1_charAt_3b067_12 : decode cJ1_charAt_3b067 12 = .ok (.iand, 1) := by decide +kernel
theorem dJ1_charAt_3b067_13 : decode cJ1_charAt_3b067 13 = .ok (.i2c, 1) := by decide +kernel
theorem dJ1_charAt_3b067_14 : decode cJ1_charAt_3b067 14 = .ok (.ireturn, 1) := by decide +kernel
theorem dJ2_getChar_3b067_0 : decode cJ2_getChar_3b067 0 = .ok (.getstatic 44, 3) := by decide +kernel
theorem dJ2_getChar_3b067_3 : decode cJ2_getChar_3b067 3 = .ok (.ifCond .ne 25, 3) := by decide +kernel
theorem dJ2_getChar_3b067_6 : decode cJ2_getChar_3b067 6 = .ok (.iload_n 1, 1) := by decide +kernel
theorem dJ2_getChar_3b067_7 : decode cJ2_getChar_3b067 7 = .ok (.ifCond .lt 11, 3) := by decide +kernel
theorem dJ2_getChar_3b067_10 : decode cJ2_getChar_3b067 10 = .ok (.iload_n 1, 1) := by decide +kernel
theorem dJ2_getChar_3b067_11 : decode cJ2_getChar_3b067 11 = .ok (.aload_n 0, 1) := by decide +kernel
theorem dJ2_getChar_3b067_12 : decode cJ2_getChar_3b067 12 = .ok (.invokestatic 48, 3) := by decide +kernel
theorem dJ2_getChar_3b067_15 : decode cJ2_getChar_3b067 15 = .ok (.if_icmp .lt 13, 3) := by decide +kernel
theorem dJ2_getChar_3b067_18 : decode cJ2_getChar_3b067 18 = .ok (.new 52, 3) := by decide +kernel
theorem dJ2_getChar_3b067_21 : decode cJ2_getChar_3b067 21 = .ok (.dup, 1) := by decide +kernel
theorem dJ2_getChar_3b067_22 : decode cJ2_getChar_3b067 22 = .ok (.ldc 54, 2) := by decide +kernel
theorem dJ2_getChar_3b067_24 : decode cJ2_getChar_3b067 24 = .ok (.invokespecial 56, 3) := by decide +kernel
theorem dJ2_getChar_3b067_27 : decode cJ2_getChar_3b067 27 = .ok (.athrow, 1) := by decide +kernel
theorem dJ2_getChar_3b067_28 : decode cJ2_getChar_3b067 28 = .ok (.iload_n 1, 1) := by decide +kernel
theorem dJ2_getChar_3b067_29 : decode cJ2_getChar_3b067 29 = .ok (.iconst 1, 1) := by decide +kernel
theorem dJ2_getChar_3b067_30 : decode cJ2_getChar_3b067 30 = .ok (.ishl, 1) := by decide +kernel
theorem dJ2_getChar_3b067_31 : decode cJ2_getChar_3b067 31 = .ok (.istore_n 1, 1) := by decide +kernel
theorem dJ2_getChar_3b067_32 : decode cJ2_getChar_3b067 32 = .ok (.aload_n 0, 1) := by decide +kernel
theorem dJ2_getChar_3b067_33 : decode cJ2_getChar_3b067 33 = .ok (.iload_n 1, 1) := by decide +kernel
theorem dJ2_getChar_3b067_34 : decode cJ2_getChar_3b067 34 = .ok (.iinc 1 1, 3) := by decide +kernel
theorem dJ2_getChar_3b067_37 : decode cJ2_getChar_3b067 37 = .ok (.baload, 1) := by decide +kernel
theorem dJ2_getChar_3b067_38 : decode cJ2_getChar_3b067 38 = .ok (.sipush 255, 3) := by decide +kernel
theorem dJ2_getChar_3b067_41 : decode cJ2_getChar_3b067 41 = .ok (.iand, 1) := by decide +kernel
theorem dJ2_getChar_3b067_42 : decode cJ2_getChar_3b067 42 = .ok (.getstatic 59, 3) := by decide +kernel
theorem dJ2_getChar_3b067_45 : decode cJ2_getChar_3b067 45 = .ok (.ishl, 1) := by decide +kernel
theorem dJ2_getChar_3b067_46 : decode cJ2_getChar_3b067 46 = .ok (.aload_n 0, 1) := by decide +kernel
theorem dJ2_getChar_3b067_47 : decode cJ2_getChar_3b067 47 = .ok (.iload_n 1, 1) := by decide +kernel
theorem dJ2_getChar_3b067_48 : decode cJ2_getChar_3b067 48 = .ok (.baload, 1) := by decide +kernel
theorem dJ2_getChar_3b067_49 : decode cJ2_getChar_3b067 49 = .ok (.sipush 255, 3) := by decide +kernel
theorem dJ2_getChar_3b067_52 : decode cJ2_getChar_3b067 52 = .ok (.iand, 1) := by decide +kernel
theorem dJ2_getChar_3b067_53 : decode cJ2_getChar_3b067 53 = .ok (.getstatic 63, 3) := by decide +kernel
theorem dJ2_getChar_3b067_56 : decode cJ2_getChar_3b067 56 = .ok (.ishl, 1) := by decide +kernel
theorem dJ2_getChar_3b067_57 : decode cJ2_getChar_3b067 57 = .ok (.ior, 1) := by decide +kernel
theorem dJ2_getChar_3b067_58 : decode cJ2_getChar_3b067 58 = .ok (.i2c, 1) := by decide +kernel
theorem dJ2_getChar_3b067_59 : decode cJ2_getChar_3b067 59 = .ok (.ireturn, 1) := by decide +kernel
theorem dJ2_length_9d52b_0 : decode cJ2_length_9d52b 0 = .ok (.aload_n 0, 1) := by decide +kernel
theorem dJ2_length_9d52b_1 : decode cJ2_length_9d52b 1 = .ok (.arraylength, 1) := by decide +kernel
theorem dJ2_length_9d52b_2 : decode cJ2_length_9d52b 2 = .ok (.iconst 1, 1) := by decide +kernel
theorem dJ2_length_9d52b_3 : decode cJ2_length_9d52b 3 = .ok (.ishr, 1) := by decide +kernel
theorem dJ2_length_9d52b_4 : decode cJ2_length_9d52b 4 = .ok (.ireturn, 1) := by decide +kernel
theorem dJ2_charAt_3b067_0 : decode cJ2_charAt_3b067 0 = .ok (.iload_n 1, 1) := by decide +kernel
theorem dJ2_charAt_3b067_1 : decode cJ2_charAt_3b067 1 = .ok (.aload_n 0, 1) := by decide +kernel
theorem dJ2_charAt_3b067_2 : decode cJ2_charAt_3b067 2 = .ok (.invokestatic 67, 3) := by decide +kernel
theorem dJ2_charAt_3b067_5 : decode cJ2_charAt_3b067 5 = .ok (.aload_n 0, 1) := by decide +kernel
theorem dJ2_charAt_3b067_6 : decode cJ2_charAt_3b067 6 = .ok (.iload_n 1, 1) := by decide +kernel
theorem dJ2_charAt_3b067_7 : decode cJ2_charAt_3b067 7 = .ok (.invokestatic 71, 3) := by decide +kernel
theorem dJ2_charAt_3b067_10 : decode cJ2_charAt_3b067 10 = .ok (.ireturn, 1) := by decide +kernel
theorem dJ2_checkIndex_2214a_0 : decode cJ2_checkIndex_2214a 0 = .ok (.iload_n 0, 1) := by decide +kernel
theorem dJ2_checkIndex_2214a_1 : decode cJ2_checkIndex_2214a 1 = .ok (.aload_n 1, 1) := by decide +kernel
theorem dJ2_checkIndex_2214a_2 : decode cJ2_checkIndex_2214a 2 = .ok (.invokestatic 48, 3) := by decide +kernel
theorem dJ2_checkIndex_2214a_5 : decode cJ2_checkIndex_2214a 5 = .ok (.invokestatic 414, 3) := by decide +kernel
theorem dJ2_checkIndex_2214a_8 : decode cJ2_checkIndex_2214a 8 = .ok (.return_, 1) := by decide +kernel
theorem dJ3_checkIndex_8e157_0 : decode cJ3_checkIndex_8e157 0 = .ok (.iload_n 0, 1) := by decide +kernel
theorem dJ3_checkIndex_8e157_1 : decode cJ3_checkIndex_8e157 1 = .ok (.ifCond .lt 8, 3) := by decide +kernel
theorem dJ3_checkIndex_8e157_4 : decode cJ3_checkIndex_8e157 4 = .ok (.iload_n 0, 1) := by decide +kernel
theorem dJ3_checkIndex_8e157_5 : decode cJ3_checkIndex_8e157 5 = .ok (.iload_n 1, 1) := by decide +kernel
theorem dJ3_checkIndex_8e157_6 : decode cJ3_checkIndex_8e157 6 = .ok (.if_icmp .lt 10, 3) := by decide +kernel
theorem dJ3_checkIndex_8e157_9 : decode cJ3_checkIndex_8e157 9 = .ok (.aload_n 2, 1) := by decide +kernel
theorem dJ3_checkIndex_8e157_10 : decode cJ3_checkIndex_8e157 10 = .ok (.iload_n 0, 1) := by decide +kernel
theorem dJ3_checkIndex_8e157_11 : decode cJ3_checkIndex_8e157 11 = .ok (.iload_n 1, 1) := by decide +kernel
theorem dJ3_checkIndex_8e157_12 : decode cJ3_checkIndex_8e157 12 = .ok (.invokestatic 95, 3) := by decide +kernel
theorem dJ3_checkIndex_8e157_15 : decode cJ3_checkIndex_8e157 15 = .ok (.athrow, 1) := by decide +kernel
theorem dJ3_checkIndex_8e157_16 : decode cJ3_checkIndex_8e157 16 = .ok (.iload_n 0, 1) := by decide +kernel
theorem dJ3_checkIndex_8e157_17 : decode cJ3_checkIndex_8e157 17 = .ok (.ireturn, 1) := by decide +kernel
theorem dL_row_0 : decode cL_row 0 = .ok (.aload_n 3, 1) := by decide +kernel
theorem dL_row_1 : decode cL_row 1 = .ok (.iconst 0, 1) := by decide +kernel
theorem dL_row_2 : decode cL_row 2 = .ok (.aload_n 0, 1) := by decide +kernel
theorem dL_row_3 : decode cL_row 3 = .ok (.iload_n 1, 1) := by decide +kernel
theorem dL_row_4 : decode cL_row 4 = .ok (.iload_n 2, 1) := by decide +kernel
theorem dL_row_5 : decode cL_row 5 = .ok (.invokevirtual 7, 3) := by decide +kernel
theorem dL_row_8 : decode cL_row 8 = .ok (.i2l, 1) := by decide +kernel
theorem dL_row_9 : decode cL_row 9 = .ok (.lastore, 1) := by decide +kernel
theorem dL_row_10 : decode cL_row 10 = .ok (.goto 7, 3) := by decide +kernel
theorem dL_row_13 : decode cL_row 13 = .ok (.astore 4, 2) := by decide +kernel
theorem dL_row_15 : decode cL_row 15 = .ok (.iconst 1, 1) := by decide +kernel
theorem dL_row_16 : decode cL_row 16 = .ok (.ireturn, 1) := by decide +kernel
theorem dL_row_17 : decode cL_row 17 = .ok (.iconst 0, 1) := by decide +kernel
theorem dL_row_18 : decode cL_row 18 = .ok (.ireturn, 1) := by decide +kernel
theorem dL_law_0 : decode cL_law 0 = .ok (.new 8, 3) := by decide +kernel
theorem dL_law_3 : decode cL_law 3 = .ok (.dup, 1) := by decide +kernel
theorem dL_law_4 : decode cL_law 4 = .ok (.invokespecial 15, 3) := by decide +kernel
theorem dL_law_7 : decode cL_law 7 = .ok (.astore_n 1, 1) := by decide +kernel
theorem dL_law_8 : decode cL_law 8 = .ok (.new 16, 3) := by decide +kernel
theorem dL_law_11 : decode cL_law 11 = .ok (.dup, 1) := by decide +kernel
theorem dL_law_12 : decode cL_law 12 = .ok (.invokespecial 18, 3) := by decide +kernel
theorem dL_law_15 : decode cL_law 15 = .ok (.astore_n 2, 1) := by decide +kernel
theorem dL_law_16 : decode cL_law 16 = .ok (.iconst 1, 1) := by decide +kernel
theorem dL_law_17 : decode cL_law 17 = .ok (.newarray .long, 2) := by decide +kernel
theorem dL_law_19 : decode cL_law 19 = .ok (.astore_n 3, 1) := by decide +kernel
theorem dL_law_20 : decode cL_law 20 = .ok (.iconst 0, 1) := by decide +kernel
theorem dL_law_21 : decode cL_law 21 = .ok (.istore 4, 2) := by decide +kernel
theorem dL_law_23 : decode cL_law 23 = .ok (.iload 4, 2) := by decide +kernel
theorem dL_law_25 : decode cL_law 25 = .ok (.aload_n 0, 1) := by decide +kernel
theorem dL_law_26 : decode cL_law 26 = .ok (.arraylength, 1) := by decide +kernel
theorem dL_law_27 : decode cL_law 27 = .ok (.bipush 6, 2) := by decide +kernel
theorem dL_law_29 : decode cL_law 29 = .ok (.isub, 1) := by decide +kernel
theorem dL_law_30 : decode cL_law 30 = .ok (.if_icmp .gt 1438, 3) := by decide +kernel
theorem dL_law_33 : decode cL_law 33 = .ok (.aload_n 0, 1) := by decide +kernel
theorem dL_law_34 : decode cL_law 34 = .ok (.iload 4, 2) := by decide +kernel
theorem dL_law_36 : decode cL_law 36 = .ok (.iaload, 1) := by decide +kernel
theorem dL_law_37 : decode cL_law 37 = .ok (.bipush 63, 2) := by decide +kernel
theorem dL_law_39 : decode cL_law 39 = .ok (.iand, 1) := by decide +kernel
theorem dL_law_40 : decode cL_law 40 = .ok (.tableswitch 1422 0 34 #[156, 181, 218, 255, 292, 341, 390, 415, 440, 513, 538, 551, 576, 601, 614, 651, 688, 749, 798, 835, 860, 885, 953, 978, 1027, 1052, 1077, 1102, 1139, 1188, 1225, 1274, 1323, 1372, 1397], 156) := by decide +kernel
theorem dL_law_196 : decode cL_law 196 = .ok (.aload_n 1, 1) := by decide +kernel
theorem dL_law_197 : decode cL_law 197 = .ok (.aload_n 0, 1) := by decide +kernel
theorem dL_law_198 : decode cL_law 198 = .ok (.iload 4, 2) := by decide +kernel
theorem dL_law_200 : decode cL_law 200 = .ok (.iconst 1, 1) := by decide +kernel
theorem dL_law_201 : decode cL_law 201 = .ok (.iadd, 1) := by decide +kernel
theorem dL_law_202 : decode cL_law 202 = .ok (.iaload, 1) := by decide +kernel
theorem dL_law_203 : decode cL_law 203 = .ok (.invokevirtual 19, 3) := by decide +kernel
theorem dL_law_206 : decode cL_law 206 = .ok (.aload_n 2, 1) := by decide +kernel
theorem dL_law_207 : decode cL_law 207 = .ok (.aload_n 0, 1) := by decide +kernel
theorem dL_law_208 : decode cL_law 208 = .ok (.iload 4, 2) := by decide +kernel
theorem dL_law_210 : decode cL_law 210 = .ok (.iconst 1, 1) := by decide +kernel
theorem dL_law_211 : decode cL_law 211 = .ok (.iadd, 1) := by decide +kernel
theorem dL_law_212 : decode cL_law 212 = .ok (.iaload, 1) := by decide +kernel
theorem dL_law_213 : decode cL_law 213 = .ok (.invokevirtual 23, 3) := by decide +kernel
theorem dL_law_216 : decode cL_law 216 = .ok (.if_icmp .eq 1246, 3) := by decide +kernel
theorem dL_law_219 : decode cL_law 219 = .ok (.iconst 0, 1) := by decide +kernel
theorem dL_law_220 : decode cL_law 220 = .ok (.ireturn, 1) := by decide +kernel
theorem dL_law_221 : decode cL_law 221 = .ok (.aload_n 1, 1) := by decide +kernel
theorem dL_law_222 : decode cL_law 222 = .ok (.aload_n 0, 1) := by decide +kernel
theorem dL_law_223 : decode cL_law 223 = .ok (.iload 4, 2) := by decide +kernel
theorem dL_law_225 : decode cL_law 225 = .ok (.iconst 1, 1) := by decide +kernel
theorem dL_law_226 : decode cL_law 226 = .ok (.iadd, 1) := by decide +kernel
theorem dL_law_227 : decode cL_law 227 = .ok (.iaload, 1) := by decide +kernel
theorem dL_law_228 : decode cL_law 228 = .ok (.aload_n 0, 1) := by decide +kernel
theorem dL_law_229 : decode cL_law 229 = .ok (.iload 4, 2) := by decide +kernel
theorem dL_law_231 : decode cL_law 231 = .ok (.iconst 2, 1) := by decide +kernel
theorem dL_law_232 : decode cL_law 232 = .ok (.iadd, 1) := by decide +kernel
theorem dL_law_233 : decode cL_law 233 = .ok (.iaload, 1) := by decide +kernel
theorem dL_law_234 : decode cL_law 234 = .ok (.invokevirtual 24, 3) := by decide +kernel
theorem dL_law_237 : decode cL_law 237 = .ok (.aload_n 2, 1) := by decide +kernel
theorem dL_law_238 : decode cL_law 238 = .ok (.aload_n 0, 1) := by decide +kernel
theorem dL_law_239 : decode cL_law 239 = .ok (.iload 4, 2) := by decide +kernel
theorem dL_law_241 : decode cL_law 241 = .ok (.iconst 1, 1) := by decide +kernel
theorem dL_law_242 : decode cL_law 242 = .ok (.iadd, 1) := by decide +kernel
theorem dL_law_243 : decode cL_law 243 = .ok (.iaload, 1) := by decide +kernel
theorem dL_law_244 : decode cL_law 244 = .ok (.aload_n 0, 1) := by decide +kernel
theorem dL_law_245 : decode cL_law 245 = .ok (.iload 4, 2) := by decide +kernel
theorem dL_law_247 : decode cL_law 247 = .ok (.iconst 2, 1) := by decide +kernel
theorem dL_law_248 : decode cL_law 248 = .ok (.iadd, 1) := by decide +kernel
theorem dL_law_249 : decode cL_law 249 = .ok (.iaload, 1) := by decide +kernel
theorem dL_law_250 : decode cL_law 250 = .ok (.invokevirtual 27, 3) := by decide +kernel
theorem dL_law_253 : decode cL_law 253 = .ok (.if_icmp .eq 1209, 3) := by decide +kernel
theorem dL_law_256 : decode cL_law 256 = .ok (.iconst 0, 1) := by decide +kernel
theorem dL_law_257 : decode cL_law 257 = .ok (.ireturn, 1) := by decide +kernel
theorem dL_law_258 : decode cL_law 258 = .ok (.aload_n 1, 1) := by decide +kernel
theorem dL_law_259 : decode cL_law 259 = .ok (.aload_n 0, 1) := by decide +kernel
theorem dL_law_260 : decode cL_law 260 = .ok (.iload 4, 2) := by decide +kernel
theorem dL_law_262 : decode cL_law 262 = .ok (.iconst 1, 1) := by decide +kernel
theorem dL_law_263 : decode cL_law 263 = .ok (.iadd, 1) := by decide +kernel
theorem dL_law_264 : decode cL_law 264 = .ok (.iaload, 1) := by decide +kernel
theorem dL_law_265 : decode cL_law 265 = .ok (.aload_n 0, 1) := by decide +kernel
theorem dL_law_266 : decode cL_law 266 = .ok (.iload 4, 2) := by decide +kernel
theorem dL_law_268 : decode cL_law 268 = .ok (.iconst 2, 1) := by decide +kernel
theorem dL_law_269 : decode cL_law 269 = .ok (.iadd, 1) := by decide +kernel
theorem dL_law_270 : decode cL_law 270 = .ok (.iaload, 1) := by decide +kernel
theorem dL_law_271 : decode cL_law 271 = .ok (.invokevirtual 28, 3) := by decide +kernel
theorem dL_law_274 : decode cL_law 274 = .ok (.aload_n 2, 1) := by decide +kernel
theorem dL_law_275 : decode cL_law 275 = .ok (.aload_n 0, 1) := by decide +kernel
theorem dL_law_276 : decode cL_law 276 = .ok (.iload 4, 2) := by decide +kernel
theorem dL_law_278 : decode cL_law 278 = .ok (.iconst 1, 1) := by decide +kernel
theorem dL_law_279 : decode cL_law 279 = .ok (.iadd, 1) := by decide +kernel
theorem dL_law_280 : decode cL_law 280 = .ok (.iaload, 1) := by decide +kernel
theorem dL_law_281 : decode cL_law 281 = .ok (.aload_n 0, 1) := by decide +kernel
theorem dL_law_282 : decode cL_law 282 = .ok (.iload 4, 2) := by decide +kernel
theorem dL_law_284 : decode cL_law 284 = .ok (.iconst 2, 1) := by decide +kernel
theorem dL_law_285 : decode cL_law 285 = .ok (.iadd, 1) := by decide +kernel
theorem dL_law_286 : decode cL_law 286 = .ok (.iaload, 1) := by decide +kernel
theorem dL_law_287 : decode cL_law 287 = .ok (.invokevirtual 32, 3) := by decide +kernel
theorem dL_law_290 : decode cL_law 290 = .ok (.if_icmp .eq 1172, 3) := by decide +kernel
theorem dL_law_293 : decode cL_law 293 = .ok (.iconst 0, 1) := by decide +kernel
theorem dL_law_294 : decode cL_law 294 = .ok (.ireturn, 1) := by decide +kernel
theorem dL_law_295 : decode cL_law 295 = .ok (.aload_n 1, 1) := by decide +kernel
theorem dL_law_296 : decode cL_law 296 = .ok (.aload_n 0, 1) := by decide +kernel
theorem dL_law_297 : decode cL_law 297 = .ok (.iload 4, 2) := by decide +kernel
theorem dL_law_299 : decode cL_law 299 = .ok (.iconst 1, 1) := by decide +kernel
theorem dL_law_300 : decode cL_law 300 = .ok (.iadd, 1) := by decide +kernel
theorem dL_law_301 : decode cL_law 301 = .ok (.iaload, 1) := by decide +kernel
theorem dL_law_302 : decode cL_law 302 = .ok (.aload_n 0, 1) := by decide +kernel
theorem dL_law_303 : decode cL_law 303 = .ok (.iload 4, 2) := by decide +kernel
theorem dL_law_305 : decode cL_law 305 = .ok (.iconst 2, 1) := by decide +kernel
theorem dL_law_306 : decode cL_law 306 = .ok (.iadd, 1) := by decide +kernel
theorem dL_law_307 : decode cL_law 307 = .ok (.iaload, 1) := by decide +kernel
theorem dL_law_308 : decode cL_law 308 = .ok (.invokevirtual 33, 3) := by decide +kernel
theorem dL_law_311 : decode cL_law 311 = .ok (.aload_n 2, 1) := by decide +kernel
theorem dL_law_312 : decode cL_law 312 = .ok (.aload_n 0, 1) := by decide +kernel
theorem dL_law_313 : decode cL_law 313 = .ok (.iload 4, 2) := by decide +kernel
theorem dL_law_315 : decode cL_law 315 = .ok (.iconst 1, 1) := by decide +kernel
theorem dL_law_316 : decode cL_law 316 = .ok (.iadd, 1) := by decide +kernel
theorem dL_law_317 : decode cL_law 317 = .ok (.iaload, 1) := by decide +kernel
theorem dL_law_318 : decode cL_law 318 = .ok (.aload_n 0, 1) := by decide +kernel
theorem dL_law_319 : decode cL_law 319 = .ok (.iload 4, 2) := by decide +kernel
theorem dL_law_321 : decode cL_law 321 = .ok (.iconst 2, 1) := by decide +kernel
theorem dL_law_322 : decode cL_law 322 = .ok (.iadd, 1) := by decide +kernel
theorem dL_law_323 : decode cL_law 323 = .ok (.iaload, 1) := by decide +kernel
theorem dL_law_324 : decode cL_law 324 = .ok (.invokevirtual 36, 3) := by decide +kernel
theorem dL_law_327 : decode cL_law 327 = .ok (.if_icmp .eq 1135, 3) := by decide +kernel
theorem dL_law_330 : decode cL_law 330 = .ok (.iconst 0, 1) := by decide +kernel
theorem dL_law_331 : decode cL_law 331 = .ok (.ireturn, 1) := by decide +kernel
theorem dL_law_332 : decode cL_law 332 = .ok (.aload_n 1, 1) := by decide +kernel
theorem dL_law_333 : decode cL_law 333 = .ok (.aload_n 0, 1) := by decide +kernel
theorem dL_law_334 : decode cL_law 334 = .ok (.iload 4, 2) := by decide +kernel
theorem dL_law_336 : decode cL_law 336 = .ok (.iconst 1, 1) := by decide +kernel
theorem dL_law_337 : decode cL_law 337 = .ok (.iadd, 1) := by decide +kernel
theorem dL_law_338 : decode cL_law 338 = .ok (.iaload, 1) := by decide +kernel
theorem dL_law_339 : decode cL_law 339 = .ok (.aload_n 0, 1) := by decide +kernel
theorem dL_law_340 : decode cL_law 340 = .ok (.iload 4, 2) := by decide +kernel
theorem dL_law_342 : decode cL_law 342 = .ok (.iconst 2, 1) := by decide +kernel
theorem dL_law_343 : decode cL_law 343 = .ok (.iadd, 1) := by decide +kernel
theorem dL_law_344 : decode cL_law 344 = .ok (.iaload, 1) := by decide +kernel
theorem dL_law_345 : decode cL_law 345 = .ok (.aload_n 0, 1) := by decide +kernel
theorem dL_law_346 : decode cL_law 346 = .ok (.iload 4, 2) := by decide +kernel
theorem dL_law_348 : decode cL_law 348 = .ok (.iconst 3, 1) := by decide +kernel
theorem dL_law_349 : decode cL_law 349 = .ok (.iadd, 1) := by decide +kernel
theorem dL_law_350 : decode cL_law 350 = .ok (.iaload, 1) := by decide +kernel
theorem dL_law_351 : decode cL_law 351 = .ok (.invokevirtual 37, 3) := by decide +kernel
theorem dL_law_354 : decode cL_law 354 = .ok (.aload_n 2, 1) := by decide +kernel
theorem dL_law_355 : decode cL_law 355 = .ok (.aload_n 0, 1) := by decide +kernel
theorem dL_law_356 : decode cL_law 356 = .ok (.iload 4, 2) := by decide +kernel
theorem dL_law_358 : decode cL_law 358 = .ok (.iconst 1, 1) := by decide +kernel
theorem dL_law_359 : decode cL_law 359 = .ok (.iadd, 1) := by decide +kernel
theorem dL_law_360 : decode cL_law 360 = .ok (.iaload, 1) := by decide +kernel
theorem dL_law_361 : decode cL_law 361 = .ok (.aload_n 0, 1) := by decide +kernel
theorem dL_law_362 : decode cL_law 362 = .ok (.iload 4, 2) := by decide +kernel
theorem dL_law_364 : decode cL_law 364 = .ok (.iconst 2, 1) := by decide +kernel
theorem dL_law_365 : decode cL_law 365 = .ok (.iadd, 1) := by decide +kernel
theorem dL_law_366 : decode cL_law 366 = .ok (.iaload, 1) := by decide +kernel
theorem dL_law_367 : decode cL_law 367 = .ok (.aload_n 0, 1) := by decide +kernel
theorem dL_law_368 : decode cL_law 368 = .ok (.iload 4, 2) := by decide +kernel
theorem dL_law_370 : decode cL_law 370 = .ok (.iconst 3, 1) := by decide +kernel
theorem dL_law_371 : decode cL_law 371 = .ok (.iadd, 1) := by decide +kernel
theorem dL_law_372 : decode cL_law 372 = .ok (.iaload, 1) := by decide +kernel
theorem dL_law_373 : decode cL_law 373 = .ok (.invokevirtual 41, 3) := by decide +kernel
theorem dL_law_376 : decode cL_law 376 = .ok (.if_icmp .eq 1086, 3) := by decide +kernel
theorem dL_law_379 : decode cL_law 379 = .ok (.iconst 0, 1) := by decide +kernel
theorem dL_law_380 : decode cL_law 380 = .ok (.ireturn, 1) := by decide +kernel
theorem dL_law_381 : decode cL_law 381 = .ok (.aload_n 1, 1) := by decide +kernel
theorem dL_law_382 : decode cL_law 382 = .ok (.aload_n 0, 1) := by decide +kernel
theorem dL_law_383 : decode cL_law 383 = .ok (.iload 4, 2) := by decide +kernel
theorem dL_law_385 : decode cL_law 385 = .ok (.iconst 1, 1) := by decide +kernel
theorem dL_law_386 : decode cL_law 386 = .ok (.iadd, 1) := by decide +kernel
theorem dL_law_387 : decode cL_law 387 = .ok (.iaload, 1) := by decide +kernel
theorem dL_law_388 : decode cL_law 388 = .ok (.aload_n 0, 1) := by decide +kernel
theorem dL_law_389 : decode cL_law 389 = .ok (.iload 4, 2) := by decide +kernel
theorem dL_law_391 : decode cL_law 391 = .ok (.iconst 2, 1) := by decide +kernel
theorem dL_law_392 : decode cL_law 392 = .ok (.iadd, 1) := by decide +kernel
theorem dL_law_393 : decode cL_law 393 = .ok (.iaload, 1) := by decide +kernel
theorem dL_law_394 : decode cL_law 394 = .ok (.aload_n 0, 1) := by decide +kernel
theorem dL_law_395 : decode cL_law 395 = .ok (.iload 4, 2) := by decide +kernel
theorem dL_law_397 : decode cL_law 397 = .ok (.iconst 3, 1) := by decide +kernel
theorem dL_law_398 : decode cL_law 398 = .ok (.iadd, 1) := by decide +kernel
theorem dL_law_399 : decode cL_law 399 = .ok (.iaload, 1) := by decide +kernel
theorem dL_law_400 : decode cL_law 400 = .ok (.invokevirtual 42, 3) := by decide +kernel
theorem dL_law_403 : decode cL_law 403 = .ok (.aload_n 2, 1) := by decide +kernel
theorem dL_law_404 : decode cL_law 404 = .ok (.aload_n 0, 1) := by decide +kernel
theorem dL_law_405 : decode cL_law 405 = .ok (.iload 4, 2) := by decide +kernel
theorem dL_law_407 : decode cL_law 407 = .ok (.iconst 1, 1) := by decide +kernel
theorem dL_law_408 : decode cL_law 408 = .ok (.iadd, 1) := by decide +kernel
theorem dL_law_409 : decode cL_law 409 = .ok (.iaload, 1) := by decide +kernel
theorem dL_law_410 : decode cL_law 410 = .ok (.aload_n 0, 1) := by decide +kernel
theorem dL_law_411 : decode cL_law 411 = .ok (.iload 4, 2) := by decide +kernel
theorem dL_law_413 : decode cL_law 413 = .ok (.iconst 2, 1) := by decide +kernel
theorem dL_law_414 : decode cL_law 414 = .ok (.iadd, 1) := by decide +kernel
theorem dL_law_415 : decode cL_law 415 = .ok (.iaload, 1) := by decide +kernel
theorem dL_law_416 : decode cL_law 416 = .ok (.aload_n 0, 1) := by decide +kernel
theorem dL_law_417 : decode cL_law 417 = .ok (.iload 4, 2) := by decide +kernel
theorem dL_law_419 : decode cL_law 419 = .ok (.iconst 3, 1) := by decide +kernel
theorem dL_law_420 : decode cL_law 420 = .ok (.iadd, 1) := by decide +kernel
theorem dL_law_421 : decode cL_law 421 = .ok (.iaload, 1) := by decide +kernel
theorem dL_law_422 : decode cL_law 422 = .ok (.invokevirtual 45, 3) := by decide +kernel
theorem dL_law_425 : decode cL_law 425 = .ok (.if_icmp .eq 1037, 3) := by decide +kernel
theorem dL_law_428 : decode cL_law 428 = .ok (.iconst 0, 1) := by decide +kernel
theorem dL_law_429 : decode cL_law 429 = .ok (.ireturn, 1) := by decide +kernel
theorem dL_law_430 : decode cL_law 430 = .ok (.aload_n 1, 1) := by decide +kernel
theorem dL_law_431 : decode cL_law 431 = .ok (.aload_n 0, 1) := by decide +kernel
theorem dL_law_432 : decode cL_law 432 = .ok (.iload 4, 2) := by decide +kernel
theorem dL_law_434 : decode cL_law 434 = .ok (.iconst 1, 1) := by decide +kernel
theorem dL_law_435 : decode cL_law 435 = .ok (.iadd, 1) := by decide +kernel
theorem dL_law_436 : decode cL_law 436 = .ok (.iaload, 1) := by decide +kernel
theorem dL_law_437 : decode cL_law 437 = .ok (.invokevirtual 46, 3) := by decide +kernel
theorem dL_law_440 : decode cL_law 440 = .ok (.aload_n 2, 1) := by decide +kernel
theorem dL_law_441 : decode cL_law 441 = .ok (.aload_n 0, 1) := by decide +kernel
theorem dL_law_442 : decode cL_law 442 = .ok (.iload 4, 2) := by decide +kernel
theorem dL_law_444 : decode cL_law 444 = .ok (.iconst 1, 1) := by decide +kernel
theorem dL_law_445 : decode cL_law 445 = .ok (.iadd, 1) := by decide +kernel
theorem dL_law_446 : decode cL_law 446 = .ok (.iaload, 1) := by decide +kernel
theorem dL_law_447 : decode cL_law 447 = .ok (.invokevirtual 49, 3) := by decide +kernel
theorem dL_law_450 : decode cL_law 450 = .ok (.if_icmp .eq 1012, 3) := by decide +kernel
theorem dL_law_453 : decode cL_law 453 = .ok (.iconst 0, 1) := by decide +kernel
theorem dL_law_454 : decode cL_law 454 = .ok (.ireturn, 1) := by decide +kernel
theorem dL_law_455 : decode cL_law 455 = .ok (.aload_n 1, 1) := by decide +kernel
theorem dL_law_456 : decode cL_law 456 = .ok (.aload_n 0, 1) := by decide +kernel
theorem dL_law_457 : decode cL_law 457 = .ok (.iload 4, 2) := by decide +kernel
theorem dL_law_459 : decode cL_law 459 = .ok (.iconst 1, 1) := by decide +kernel
theorem dL_law_460 : decode cL_law 460 = .ok (.iadd, 1) := by decide +kernel
theorem dL_law_461 : decode cL_law 461 = .ok (.iaload, 1) := by decide +kernel
theorem dL_law_462 : decode cL_law 462 = .ok (.invokevirtual 50, 3) := by decide +kernel
theorem dL_law_465 : decode cL_law 465 = .ok (.aload_n 2, 1) := by decide +kernel
theorem dL_law_466 : decode cL_law 466 = .ok (.aload_n 0, 1) := by decide +kernel
theorem dL_law_467 : decode cL_law 467 = .ok (.iload 4, 2) := by decide +kernel
theorem dL_law_469 : decode cL_law 469 = .ok (.iconst 1, 1) := by decide +kernel
theorem dL_law_470 : decode cL_law 470 = .ok (.iadd, 1) := by decide +kernel
theorem dL_law_471 : decode cL_law 471 = .ok (.iaload, 1) := by decide +kernel
theorem dL_law_472 : decode cL_law 472 = .ok (.invokevirtual 54, 3) := by decide +kernel
theorem dL_law_475 : decode cL_law 475 = .ok (.if_icmp .eq 987, 3) := by decide +kernel
theorem dL_law_478 : decode cL_law 478 = .ok (.iconst 0, 1) := by decide +kernel
theorem dL_law_479 : decode cL_law 479 = .ok (.ireturn, 1) := by decide +kernel
theorem dL_law_480 : decode cL_law 480 = .ok (.aload_n 1, 1) := by decide +kernel
theorem dL_law_481 : decode cL_law 481 = .ok (.aload_n 0, 1) := by decide +kernel
theorem dL_law_482 : decode cL_law 482 = .ok (.iload 4, 2) := by decide +kernel
theorem dL_law_484 : decode cL_law 484 = .ok (.iconst 1, 1) := by decide +kernel
theorem dL_law_485 : decode cL_law 485 = .ok (.iadd, 1) := by decide +kernel
theorem dL_law_486 : decode cL_law 486 = .ok (.iaload, 1) := by decide +kernel
theorem dL_law_487 : decode cL_law 487 = .ok (.aload_n 0, 1) := by decide +kernel
theorem dL_law_488 : decode cL_law 488 = .ok (.iload 4, 2) := by decide +kernel
theorem dL_law_490 : decode cL_law 490 = .ok (.iconst 2, 1) := by decide +kernel
theorem dL_law_491 : decode cL_law 491 = .ok (.iadd, 1) := by decide +kernel
theorem dL_law_492 : decode cL_law 492 = .ok (.iaload, 1) := by decide +kernel
theorem dL_law_493 : decode cL_law 493 = .ok (.aload_n 0, 1) := by decide +kernel
theorem dL_law_494 : decode cL_law 494 = .ok (.iload 4, 2) := by decide +kernel
theorem dL_law_496 : decode cL_law 496 = .ok (.iconst 3, 1) := by decide +kernel
theorem dL_law_497 : decode cL_law 497 = .ok (.iadd, 1) := by decide +kernel
theorem dL_law_498 : decode cL_law 498 = .ok (.iaload, 1) := by decide +kernel
theorem dL_law_499 : decode cL_law 499 = .ok (.aload_n 0, 1) := by decide +kernel
theorem dL_law_500 : decode cL_law 500 = .ok (.iload 4, 2) := by decide +kernel
theorem dL_law_502 : decode cL_law 502 = .ok (.iconst 4, 1) := by decide +kernel
theorem dL_law_503 : decode cL_law 503 = .ok (.iadd, 1) := by decide +kernel
theorem dL_law_504 : decode cL_law 504 = .ok (.iaload, 1) := by decide +kernel
theorem dL_law_505 : decode cL_law 505 = .ok (.aload_n 0, 1) := by decide +kernel
theorem dL_law_506 : decode cL_law 506 = .ok (.iload 4, 2) := by decide +kernel
theorem dL_law_508 : decode cL_law 508 = .ok (.iconst 5, 1) := by decide +kernel
theorem dL_law_509 : decode cL_law 509 = .ok (.iadd, 1) := by decide +kernel
theorem dL_law_510 : decode cL_law 510 = .ok (.iaload, 1) := by decide +kernel
theorem dL_law_511 : decode cL_law 511 = .ok (.invokevirtual 55, 3) := by decide +kernel
theorem dL_law_514 : decode cL_law 514 = .ok (.aload_n 2, 1) := by decide +kernel
theorem dL_law_515 : decode cL_law 515 = .ok (.aload_n 0, 1) := by decide +kernel
theorem dL_law_516 : decode cL_law 516 = .ok (.iload 4, 2) := by decide +kernel
theorem dL_law_518 : decode cL_law 518 = .ok (.iconst 1, 1) := by decide +kernel
theorem dL_law_519 : decode cL_law 519 = .ok (.iadd, 1) := by decide +kernel
theorem dL_law_520 : decode cL_law 520 = .ok (.iaload, 1) := by decide +kernel
theorem dL_law_521 : decode cL_law 521 = .ok (.aload_n 0, 1) := by decide +kernel
theorem dL_law_522 : decode cL_law 522 = .ok (.iload 4, 2) := by decide +kernel
theorem dL_law_524 : decode cL_law 524 = .ok (.iconst 2, 1) := by decide +kernel
theorem dL_law_525 : decode cL_law 525 = .ok (.iadd, 1) := by decide +kernel
theorem dL_law_526 : decode cL_law 526 = .ok (.iaload, 1) := by decide +kernel
theorem dL_law_527 : decode cL_law 527 = .ok (.aload_n 0, 1) := by decide +kernel
theorem dL_law_528 : decode cL_law 528 = .ok (.iload 4, 2) := by decide +kernel
theorem dL_law_530 : decode cL_law 530 = .ok (.iconst 3, 1) := by decide +kernel
theorem dL_law_531 : decode cL_law 531 = .ok (.iadd, 1) := by decide +kernel
theorem dL_law_532 : decode cL_law 532 = .ok (.iaload, 1) := by decide +kernel
theorem dL_law_533 : decode cL_law 533 = .ok (.aload_n 0, 1) := by decide +kernel
theorem dL_law_534 : decode cL_law 534 = .ok (.iload 4, 2) := by decide +kernel
theorem dL_law_536 : decode cL_law 536 = .ok (.iconst 4, 1) := by decide +kernel
theorem dL_law_537 : decode cL_law 537 = .ok (.iadd, 1) := by decide +kernel
theorem dL_law_538 : decode cL_law 538 = .ok (.iaload, 1) := by decide +kernel
theorem dL_law_539 : decode cL_law 539 = .ok (.aload_n 0, 1) := by decide +kernel
theorem dL_law_540 : decode cL_law 540 = .ok (.iload 4, 2) := by decide +kernel
theorem dL_law_542 : decode cL_law 542 = .ok (.iconst 5, 1) := by decide +kernel
theorem dL_law_543 : decode cL_law 543 = .ok (.iadd, 1) := by decide +kernel
theorem dL_law_544 : decode cL_law 544 = .ok (.iaload, 1) := by decide +kernel
theorem dL_law_545 : decode cL_law 545 = .ok (.invokevirtual 59, 3) := by decide +kernel
theorem dL_law_548 : decode cL_law 548 = .ok (.if_icmp .eq 914, 3) := by decide +kernel
theorem dL_law_551 : decode cL_law 551 = .ok (.iconst 0, 1) := by decide +kernel
theorem dL_law_552 : decode cL_law 552 = .ok (.ireturn, 1) := by decide +kernel
theorem dL_law_553 : decode cL_law 553 = .ok (.aload_n 1, 1) := by decide +kernel
theorem dL_law_554 : decode cL_law 554 = .ok (.aload_n 0, 1) := by decide +kernel
theorem dL_law_555 : decode cL_law 555 = .ok (.iload 4, 2) := by decide +kernel
theorem dL_law_557 : decode cL_law 557 = .ok (.iconst 1, 1) := by decide +kernel
theorem dL_law_558 : decode cL_law 558 = .ok (.iadd, 1) := by decide +kernel
theorem dL_law_559 : decode cL_law 559 = .ok (.iaload, 1) := by decide +kernel
theorem dL_law_560 : decode cL_law 560 = .ok (.invokevirtual 60, 3) := by decide +kernel
theorem dL_law_563 : decode cL_law 563 = .ok (.aload_n 2, 1) := by decide +kernel
theorem dL_law_564 : decode cL_law 564 = .ok (.aload_n 0, 1) := by decide +kernel
theorem dL_law_565 : decode cL_law 565 = .ok (.iload 4, 2) := by decide +kernel
theorem dL_law_567 : decode cL_law 567 = .ok (.iconst 1, 1) := by decide +kernel
theorem dL_law_568 : decode cL_law 568 = .ok (.iadd, 1) := by decide +kernel
theorem dL_law_569 : decode cL_law 569 = .ok (.iaload, 1) := by decide +kernel
theorem dL_law_570 : decode cL_law 570 = .ok (.invokevirtual 63, 3) := by decide +kernel
theorem dL_law_573 : decode cL_law 573 = .ok (.if_icmp .eq 889, 3) := by decide +kernel
theorem dL_law_576 : decode cL_law 576 = .ok (.iconst 0, 1) := by decide +kernel
theorem dL_law_577 : decode cL_law 577 = .ok (.ireturn, 1) := by decide +kernel
theorem dL_law_578 : decode cL_law 578 = .ok (.aload_n 1, 1) := by decide +kernel
theorem dL_law_579 : decode cL_law 579 = .ok (.invokevirtual 64, 3) := by decide +kernel
theorem dL_law_582 : decode cL_law 582 = .ok (.aload_n 2, 1) := by decide +kernel
theorem dL_law_583 : decode cL_law 583 = .ok (.invokevirtual 68, 3) := by decide +kernel
theorem dL_law_586 : decode cL_law 586 = .ok (.if_icmp .eq 876, 3) := by decide +kernel
theorem dL_law_589 : decode cL_law 589 = .ok (.iconst 0, 1) := by decide +kernel
theorem dL_law_590 : decode cL_law 590 = .ok (.ireturn, 1) := by decide +kernel
theorem dL_law_591 : decode cL_law 591 = .ok (.aload_n 1, 1) := by decide +kernel
theorem dL_law_592 : decode cL_law 592 = .ok (.aload_n 0, 1) := by decide +kernel
theorem dL_law_593 : decode cL_law 593 = .ok (.iload 4, 2) := by decide +kernel
theorem dL_law_595 : decode cL_law 595 = .ok (.iconst 1, 1) := by decide +kernel
theorem dL_law_596 : decode cL_law 596 = .ok (.iadd, 1) := by decide +kernel
theorem dL_law_597 : decode cL_law 597 = .ok (.iaload, 1) := by decide +kernel
theorem dL_law_598 : decode cL_law 598 = .ok (.invokevirtual 69, 3) := by decide +kernel
theorem dL_law_601 : decode cL_law 601 = .ok (.aload_n 2, 1) := by decide +kernel
theorem dL_law_602 : decode cL_law 602 = .ok (.aload_n 0, 1) := by decide +kernel
theorem dL_law_603 : decode cL_law 603 = .ok (.iload 4, 2) := by decide +kernel
theorem dL_law_605 : decode cL_law 605 = .ok (.iconst 1, 1) := by decide +kernel
theorem dL_law_606 : decode cL_law 606 = .ok (.iadd, 1) := by decide +kernel
theorem dL_law_607 : decode cL_law 607 = .ok (.iaload, 1) := by decide +kernel
theorem dL_law_608 : decode cL_law 608 = .ok (.invokevirtual 72, 3) := by decide +kernel
theorem dL_law_611 : decode cL_law 611 = .ok (.if_icmp .eq 851, 3) := by decide +kernel
theorem dL_law_614 : decode cL_law 614 = .ok (.iconst 0, 1) := by decide +kernel
theorem dL_law_615 : decode cL_law 615 = .ok (.ireturn, 1) := by decide +kernel
theorem dL_law_616 : decode cL_law 616 = .ok (.aload_n 1, 1) := by decide +kernel
theorem dL_law_617 : decode cL_law 617 = .ok (.aload_n 0, 1) := by decide +kernel
theorem dL_law_618 : decode cL_law 618 = .ok (.iload 4, 2) := by decide +kernel
theorem dL_law_620 : decode cL_law 620 = .ok (.iconst 1, 1) := by decide +kernel
theorem dL_law_621 : decode cL_law 621 = .ok (.iadd, 1) := by decide +kernel
theorem dL_law_622 : decode cL_law 622 = .ok (.iaload, 1) := by decide +kernel
theorem dL_law_623 : decode cL_law 623 = .ok (.invokevirtual 73, 3) := by decide +kernel
theorem dL_law_626 : decode cL_law 626 = .ok (.aload_n 2, 1) := by decide +kernel
theorem dL_law_627 : decode cL_law 627 = .ok (.aload_n 0, 1) := by decide +kernel
theorem dL_law_628 : decode cL_law 628 = .ok (.iload 4, 2) := by decide +kernel
theorem dL_law_630 : decode cL_law 630 = .ok (.iconst 1, 1) := by decide +kernel
theorem dL_law_631 : decode cL_law 631 = .ok (.iadd, 1) := by decide +kernel
theorem dL_law_632 : decode cL_law 632 = .ok (.iaload, 1) := by decide +kernel
theorem dL_law_633 : decode cL_law 633 = .ok (.invokevirtual 76, 3) := by decide +kernel
theorem dL_law_636 : decode cL_law 636 = .ok (.if_icmp .eq 826, 3) := by decide +kernel
theorem dL_law_639 : decode cL_law 639 = .ok (.iconst 0, 1) := by decide +kernel
theorem dL_law_640 : decode cL_law 640 = .ok (.ireturn, 1) := by decide +kernel
theorem dL_law_641 : decode cL_law 641 = .ok (.aload_n 1, 1) := by decide +kernel
theorem dL_law_642 : decode cL_law 642 = .ok (.invokevirtual 77, 3) := by decide +kernel
theorem dL_law_645 : decode cL_law 645 = .ok (.aload_n 2, 1) := by decide +kernel
theorem dL_law_646 : decode cL_law 646 = .ok (.invokevirtual 80, 3) := by decide +kernel
theorem dL_law_649 : decode cL_law 649 = .ok (.if_icmp .eq 813, 3) := by decide +kernel
theorem dL_law_652 : decode cL_law 652 = .ok (.iconst 0, 1) := by decide +kernel
theorem dL_law_653 : decode cL_law 653 = .ok (.ireturn, 1) := by decide +kernel
theorem dL_law_654 : decode cL_law 654 = .ok (.aload_n 1, 1) := by decide +kernel
theorem dL_law_655 : decode cL_law 655 = .ok (.aload_n 0, 1) := by decide +kernel
theorem dL_law_656 : decode cL_law 656 = .ok (.iload 4, 2) := by decide +kernel
theorem dL_law_658 : decode cL_law 658 = .ok (.iconst 1, 1) := by decide +kernel
theorem dL_law_659 : decode cL_law 659 = .ok (.iadd, 1) := by decide +kernel
theorem dL_law_660 : decode cL_law 660 = .ok (.iaload, 1) := by decide +kernel
theorem dL_law_661 : decode cL_law 661 = .ok (.aload_n 0, 1) := by decide +kernel
theorem dL_law_662 : decode cL_law 662 = .ok (.iload 4, 2) := by decide +kernel
theorem dL_law_664 : decode cL_law 664 = .ok (.iconst 2, 1) := by decide +kernel
theorem dL_law_665 : decode cL_law 665 = .ok (.iadd, 1) := by decide +kernel
theorem dL_law_666 : decode cL_law 666 = .ok (.iaload, 1) := by decide +kernel
theorem dL_law_667 : decode cL_law 667 = .ok (.invokevirtual 81, 3) := by decide +kernel
theorem dL_law_670 : decode cL_law 670 = .ok (.aload_n 2, 1) := by decide +kernel
theorem dL_law_671 : decode cL_law 671 = .ok (.aload_n 0, 1) := by decide +kernel
theorem dL_law_672 : decode cL_law 672 = .ok (.iload 4, 2) := by decide +kernel
theorem dL_law_674 : decode cL_law 674 = .ok (.iconst 1, 1) := by decide +kernel
theorem dL_law_675 : decode cL_law 675 = .ok (.iadd, 1) := by decide +kernel
theorem dL_law_676 : decode cL_law 676 = .ok (.iaload, 1) := by decide +kernel
theorem dL_law_677 : decode cL_law 677 = .ok (.aload_n 0, 1) := by decide +kernel
theorem dL_law_678 : decode cL_law 678 = .ok (.iload 4, 2) := by decide +kernel
theorem dL_law_680 : decode cL_law 680 = .ok (.iconst 2, 1) := by decide +kernel
theorem dL_law_681 : decode cL_law 681 = .ok (.iadd, 1) := by decide +kernel
theorem dL_law_682 : decode cL_law 682 = .ok (.iaload, 1) := by decide +kernel
theorem dL_law_683 : decode cL_law 683 = .ok (.invokevirtual 84, 3) := by decide +kernel
theorem dL_law_686 : decode cL_law 686 = .ok (.if_icmp .eq 776, 3) := by decide +kernel
theorem dL_law_689 : decode cL_law 689 = .ok (.iconst 0, 1) := by decide +kernel
theorem dL_law_690 : decode cL_law 690 = .ok (.ireturn, 1) := by decide +kernel
theorem dL_law_691 : decode cL_law 691 = .ok (.aload_n 1, 1) := by decide +kernel
theorem dL_law_692 : decode cL_law 692 = .ok (.aload_n 0, 1) := by decide +kernel
theorem dL_law_693 : decode cL_law 693 = .ok (.iload 4, 2) := by decide +kernel
theorem dL_law_695 : decode cL_law 695 = .ok (.iconst 1, 1) := by decide +kernel
theorem dL_law_696 : decode cL_law 696 = .ok (.iadd, 1) := by decide +kernel
theorem dL_law_697 : decode cL_law 697 = .ok (.iaload, 1) := by decide +kernel
theorem dL_law_698 : decode cL_law 698 = .ok (.aload_n 0, 1) := by decide +kernel
theorem dL_law_699 : decode cL_law 699 = .ok (.iload 4, 2) := by decide +kernel
theorem dL_law_701 : decode cL_law 701 = .ok (.iconst 2, 1) := by decide +kernel
theorem dL_law_702 : decode cL_law 702 = .ok (.iadd, 1) := by decide +kernel
theorem dL_law_703 : decode cL_law 703 = .ok (.iaload, 1) := by decide +kernel
theorem dL_law_704 : decode cL_law 704 = .ok (.invokevirtual 85, 3) := by decide +kernel
theorem dL_law_707 : decode cL_law 707 = .ok (.aload_n 2, 1) := by decide +kernel
theorem dL_law_708 : decode cL_law 708 = .ok (.aload_n 0, 1) := by decide +kernel
theorem dL_law_709 : decode cL_law 709 = .ok (.iload 4, 2) := by decide +kernel
theorem dL_law_711 : decode cL_law 711 = .ok (.iconst 1, 1) := by decide +kernel
theorem dL_law_712 : decode cL_law 712 = .ok (.iadd, 1) := by decide +kernel
theorem dL_law_713 : decode cL_law 713 = .ok (.iaload, 1) := by decide +kernel
theorem dL_law_714 : decode cL_law 714 = .ok (.aload_n 0, 1) := by decide +kernel
theorem dL_law_715 : decode cL_law 715 = .ok (.iload 4, 2) := by decide +kernel
theorem dL_law_717 : decode cL_law 717 = .ok (.iconst 2, 1) := by decide +kernel
theorem dL_law_718 : decode cL_law 718 = .ok (.iadd, 1) := by decide +kernel
theorem dL_law_719 : decode cL_law 719 = .ok (.iaload, 1) := by decide +kernel
theorem dL_law_720 : decode cL_law 720 = .ok (.invokevirtual 88, 3) := by decide +kernel
theorem dL_law_723 : decode cL_law 723 = .ok (.if_icmp .eq 739, 3) := by decide +kernel
theorem dL_law_726 : decode cL_law 726 = .ok (.iconst 0, 1) := by decide +kernel
theorem dL_law_727 : decode cL_law 727 = .ok (.ireturn, 1) := by decide +kernel
theorem dL_law_728 : decode cL_law 728 = .ok (.aload_n 1, 1) := by decide +kernel
theorem dL_law_729 : decode cL_law 729 = .ok (.aload_n 0, 1) := by decide +kernel
theorem dL_law_730 : decode cL_law 730 = .ok (.iload 4, 2) := by decide +kernel
theorem dL_law_732 : decode cL_law 732 = .ok (.iconst 1, 1) := by decide +kernel
theorem dL_law_733 : decode cL_law 733 = .ok (.iadd, 1) := by decide +kernel
theorem dL_law_734 : decode cL_law 734 = .ok (.iaload, 1) := by decide +kernel
theorem dL_law_735 : decode cL_law 735 = .ok (.aload_n 0, 1) := by decide +kernel
theorem dL_law_736 : decode cL_law 736 = .ok (.iload 4, 2) := by decide +kernel
theorem dL_law_738 : decode cL_law 738 = .ok (.iconst 2, 1) := by decide +kernel
theorem dL_law_739 : decode cL_law 739 = .ok (.iadd, 1) := by decide +kernel
theorem dL_law_740 : decode cL_law 740 = .ok (.iaload, 1) := by decide +kernel
theorem dL_law_741 : decode cL_law 741 = .ok (.aload_n 0, 1) := by decide +kernel
theorem dL_law_742 : decode cL_law 742 = .ok (.iload 4, 2) := by decide +kernel
theorem dL_law_744 : decode cL_law 744 = .ok (.iconst 3, 1) := by decide +kernel
theorem dL_law_745 : decode cL_law 745 = .ok (.iadd, 1) := by decide +kernel
theorem dL_law_746 : decode cL_law 746 = .ok (.iaload, 1) := by decide +kernel
theorem dL_law_747 : decode cL_law 747 = .ok (.aload_n 0, 1) := by decide +kernel
theorem dL_law_748 : decode cL_law 748 = .ok (.iload 4, 2) := by decide +kernel
theorem dL_law_750 : decode cL_law 750 = .ok (.iconst 4, 1) := by decide +kernel
theorem dL_law_751 : decode cL_law 751 = .ok (.iadd, 1) := by decide +kernel
theorem dL_law_752 : decode cL_law 752 = .ok (.iaload, 1) := by decide +kernel
theorem dL_law_753 : decode cL_law 753 = .ok (.invokevirtual 89, 3) := by decide +kernel
theorem dL_law_756 : decode cL_law 756 = .ok (.aload_n 2, 1) := by decide +kernel
theorem dL_law_757 : decode cL_law 757 = .ok (.aload_n 0, 1) := by decide +kernel
theorem dL_law_758 : decode cL_law 758 = .ok (.iload 4, 2) := by decide +kernel
theorem dL_law_760 : decode cL_law 760 = .ok (.iconst 1, 1) := by decide +kernel
theorem dL_law_761 : decode cL_law 761 = .ok (.iadd, 1) := by decide +kernel
theorem dL_law_762 : decode cL_law 762 = .ok (.iaload, 1) := by decide +kernel
theorem dL_law_763 : decode cL_law 763 = .ok (.aload_n 0, 1) := by decide +kernel
theorem dL_law_764 : decode cL_law 764 = .ok (.iload 4, 2) := by decide +kernel
theorem dL_law_766 : decode cL_law 766 = .ok (.iconst 2, 1) := by decide +kernel
theorem dL_law_767 : decode cL_law 767 = .ok (.iadd, 1) := by decide +kernel
theorem dL_law_768 : decode cL_law 768 = .ok (.iaload, 1) := by decide +kernel
theorem dL_law_769 : decode cL_law 769 = .ok (.aload_n 0, 1) := by decide +kernel
theorem dL_law_770 : decode cL_law 770 = .ok (.iload 4, 2) := by decide +kernel
theorem dL_law_772 : decode cL_law 772 = .ok (.iconst 3, 1) := by decide +kernel
theorem dL_law_773 : decode cL_law 773 = .ok (.iadd, 1) := by decide +kernel
theorem dL_law_774 : decode cL_law 774 = .ok (.iaload, 1) := by decide +kernel
theorem dL_law_775 : decode cL_law 775 = .ok (.aload_n 0, 1) := by decide +kernel
theorem dL_law_776 : decode cL_law 776 = .ok (.iload 4, 2) := by decide +kernel
theorem dL_law_778 : decode cL_law 778 = .ok (.iconst 4, 1) := by decide +kernel
theorem dL_law_779 : decode cL_law 779 = .ok (.iadd, 1) := by decide +kernel
theorem dL_law_780 : decode cL_law 780 = .ok (.iaload, 1) := by decide +kernel
theorem dL_law_781 : decode cL_law 781 = .ok (.invokevirtual 93, 3) := by decide +kernel
theorem dL_law_784 : decode cL_law 784 = .ok (.if_icmp .eq 678, 3) := by decide +kernel
theorem dL_law_787 : decode cL_law 787 = .ok (.iconst 0, 1) := by decide +kernel
theorem dL_law_788 : decode cL_law 788 = .ok (.ireturn, 1) := by decide +kernel
theorem dL_law_789 : decode cL_law 789 = .ok (.aload_n 1, 1) := by decide +kernel
theorem dL_law_790 : decode cL_law 790 = .ok (.aload_n 0, 1) := by decide +kernel
theorem dL_law_791 : decode cL_law 791 = .ok (.iload 4, 2) := by decide +kernel
theorem dL_law_793 : decode cL_law 793 = .ok (.iconst 1, 1) := by decide +kernel
theorem dL_law_794 : decode cL_law 794 = .ok (.iadd, 1) := by decide +kernel
theorem dL_law_795 : decode cL_law 795 = .ok (.iaload, 1) := by decide +kernel
theorem dL_law_796 : decode cL_law 796 = .ok (.aload_n 0, 1) := by decide +kernel
theorem dL_law_797 : decode cL_law 797 = .ok (.iload 4, 2) := by decide +kernel
theorem dL_law_799 : decode cL_law 799 = .ok (.iconst 2, 1) := by decide +kernel
theorem dL_law_800 : decode cL_law 800 = .ok (.iadd, 1) := by decide +kernel
theorem dL_law_801 : decode cL_law 801 = .ok (.iaload, 1) := by decide +kernel
theorem dL_law_802 : decode cL_law 802 = .ok (.aload_n 0, 1) := by decide +kernel
theorem dL_law_803 : decode cL_law 803 = .ok (.iload 4, 2) := by decide +kernel
theorem dL_law_805 : decode cL_law 805 = .ok (.iconst 3, 1) := by decide +kernel
theorem dL_law_806 : decode cL_law 806 = .ok (.iadd, 1) := by decide +kernel
theorem dL_law_807 : decode cL_law 807 = .ok (.iaload, 1) := by decide +kernel
theorem dL_law_808 : decode cL_law 808 = .ok (.invokevirtual 94, 3) := by decide +kernel
theorem dL_law_811 : decode cL_law 811 = .ok (.aload_n 2, 1) := by decide +kernel
theorem dL_law_812 : decode cL_law 812 = .ok (.aload_n 0, 1) := by decide +kernel
theorem dL_law_813 : decode cL_law 813 = .ok (.iload 4, 2) := by decide +kernel
theorem dL_law_815 : decode cL_law 815 = .ok (.iconst 1, 1) := by decide +kernel
theorem dL_law_816 : decode cL_law 816 = .ok (.iadd, 1) := by decide +kernel
theorem dL_law_817 : decode cL_law 817 = .ok (.iaload, 1) := by decide +kernel
theorem dL_law_818 : decode cL_law 818 = .ok (.aload_n 0, 1) := by decide +kernel
theorem dL_law_819 : decode cL_law 819 = .ok (.iload 4, 2) := by decide +kernel
theorem dL_law_821 : decode cL_law 821 = .ok (.iconst 2, 1) := by decide +kernel
theorem dL_law_822 : decode cL_law 822 = .ok (.iadd, 1) := by decide +kernel
theorem dL_law_823 : decode cL_law 823 = .ok (.iaload, 1) := by decide +kernel
theorem dL_law_824 : decode cL_law 824 = .ok (.aload_n 0, 1) := by decide +kernel
theorem dL_law_825 : decode cL_law 825 = .ok (.iload 4, 2) := by decide +kernel
theorem dL_law_827 : decode cL_law 827 = .ok (.iconst 3, 1) := by decide +kernel
theorem dL_law_828 : decode cL_law 828 = .ok (.iadd, 1) := by decide +kernel
theorem dL_law_829 : decode cL_law 829 = .ok (.iaload, 1) := by decide +kernel
theorem dL_law_830 : decode cL_law 830 = .ok (.invokevirtual 98, 3) := by decide +kernel
theorem dL_law_833 : decode cL_law 833 = .ok (.if_icmp .eq 629, 3) := by decide +kernel
theorem dL_law_836 : decode cL_law 836 = .ok (.iconst 0, 1) := by decide +kernel
theorem dL_law_837 : decode cL_law 837 = .ok (.ireturn, 1) := by decide +kernel
theorem dL_law_838 : decode cL_law 838 = .ok (.aload_n 1, 1) := by decide +kernel
theorem dL_law_839 : decode cL_law 839 = .ok (.aload_n 0, 1) := by decide +kernel
theorem dL_law_840 : decode cL_law 840 = .ok (.iload 4, 2) := by decide +kernel
theorem dL_law_842 : decode cL_law 842 = .ok (.iconst 1, 1) := by decide +kernel
theorem dL_law_843 : decode cL_law 843 = .ok (.iadd, 1) := by decide +kernel
theorem dL_law_844 : decode cL_law 844 = .ok (.iaload, 1) := by decide +kernel
theorem dL_law_845 : decode cL_law 845 = .ok (.aload_n 0, 1) := by decide +kernel
theorem dL_law_846 : decode cL_law 846 = .ok (.iload 4, 2) := by decide +kernel
theorem dL_law_848 : decode cL_law 848 = .ok (.iconst 2, 1) := by decide +kernel
theorem dL_law_849 : decode cL_law 849 = .ok (.iadd, 1) := by decide +kernel
theorem dL_law_850 : decode cL_law 850 = .ok (.iaload, 1) := by decide +kernel
theorem dL_law_851 : decode cL_law 851 = .ok (.invokevirtual 99, 3) := by decide +kernel
theorem dL_law_854 : decode cL_law 854 = .ok (.aload_n 2, 1) := by decide +kernel
theorem dL_law_855 : decode cL_law 855 = .ok (.aload_n 0, 1) := by decide +kernel
theorem dL_law_856 : decode cL_law 856 = .ok (.iload 4, 2) := by decide +kernel
theorem dL_law_858 : decode cL_law 858 = .ok (.iconst 1, 1) := by decide +kernel
theorem dL_law_859 : decode cL_law 859 = .ok (.iadd, 1) := by decide +kernel
theorem dL_law_860 : decode cL_law 860 = .ok (.iaload, 1) := by decide +kernel
theorem dL_law_861 : decode cL_law 861 = .ok (.aload_n 0, 1) := by decide +kernel
theorem dL_law_862 : decode cL_law 862 = .ok (.iload 4, 2) := by decide +kernel
theorem dL_law_864 : decode cL_law 864 = .ok (.iconst 2, 1) := by decide +kernel
theorem dL_law_865 : decode cL_law 865 = .ok (.iadd, 1) := by decide +kernel
theorem dL_law_866 : decode cL_law 866 = .ok (.iaload, 1) := by decide +kernel
theorem dL_law_867 : decode cL_law 867 = .ok (.invokevirtual 102, 3) := by decide +kernel
theorem dL_law_870 : decode cL_law 870 = .ok (.if_icmp .eq 592, 3) := by decide +kernel
theorem dL_law_873 : decode cL_law 873 = .ok (.iconst 0, 1) := by decide +kernel
theorem dL_law_874 : decode cL_law 874 = .ok (.ireturn, 1) := by decide +kernel
theorem dL_law_875 : decode cL_law 875 = .ok (.aload_n 1, 1) := by decide +kernel
theorem dL_law_876 : decode cL_law 876 = .ok (.aload_n 0, 1) := by decide +kernel
theorem dL_law_877 : decode cL_law 877 = .ok (.iload 4, 2) := by decide +kernel
theorem dL_law_879 : decode cL_law 879 = .ok (.iconst 1, 1) := by decide +kernel
theorem dL_law_880 : decode cL_law 880 = .ok (.iadd, 1) := by decide +kernel
theorem dL_law_881 : decode cL_law 881 = .ok (.iaload, 1) := by decide +kernel
theorem dL_law_882 : decode cL_law 882 = .ok (.invokevirtual 103, 3) := by decide +kernel
theorem dL_law_885 : decode cL_law 885 = .ok (.aload_n 2, 1) := by decide +kernel
theorem dL_law_886 : decode cL_law 886 = .ok (.aload_n 0, 1) := by decide +kernel
theorem dL_law_887 : decode cL_law 887 = .ok (.iload 4, 2) := by decide +kernel
theorem dL_law_889 : decode cL_law 889 = .ok (.iconst 1, 1) := by decide +kernel
theorem dL_law_890 : decode cL_law 890 = .ok (.iadd, 1) := by decide +kernel
theorem dL_law_891 : decode cL_law 891 = .ok (.iaload, 1) := by decide +kernel
theorem dL_law_892 : decode cL_law 892 = .ok (.invokevirtual 106, 3) := by decide +kernel
theorem dL_law_895 : decode cL_law 895 = .ok (.if_icmp .eq 567, 3) := by decide +kernel
theorem dL_law_898 : decode cL_law 898 = .ok (.iconst 0, 1) := by decide +kernel
theorem dL_law_899 : decode cL_law 899 = .ok (.ireturn, 1) := by decide +kernel
theorem dL_law_900 : decode cL_law 900 = .ok (.aload_n 1, 1) := by decide +kernel
theorem dL_law_901 : decode cL_law 901 = .ok (.aload_n 0, 1) := by decide +kernel
theorem dL_law_902 : decode cL_law 902 = .ok (.iload 4, 2) := by decide +kernel
theorem dL_law_904 : decode cL_law 904 = .ok (.iconst 1, 1) := by decide +kernel
theorem dL_law_905 : decode cL_law 905 = .ok (.iadd, 1) := by decide +kernel
theorem dL_law_906 : decode cL_law 906 = .ok (.iaload, 1) := by decide +kernel
theorem dL_law_907 : decode cL_law 907 = .ok (.invokevirtual 107, 3) := by decide +kernel
theorem dL_law_910 : decode cL_law 910 = .ok (.aload_n 2, 1) := by decide +kernel
theorem dL_law_911 : decode cL_law 911 = .ok (.aload_n 0, 1) := by decide +kernel
theorem dL_law_912 : decode cL_law 912 = .ok (.iload 4, 2) := by decide +kernel
theorem dL_law_914 : decode cL_law 914 = .ok (.iconst 1, 1) := by decide +kernel
theorem dL_law_915 : decode cL_law 915 = .ok (.iadd, 1) := by decide +kernel
theorem dL_law_916 : decode cL_law 916 = .ok (.iaload, 1) := by decide +kernel
theorem dL_law_917 : decode cL_law 917 = .ok (.invokevirtual 110, 3) := by decide +kernel
theorem dL_law_920 : decode cL_law 920 = .ok (.if_icmp .eq 542, 3) := by decide +kernel
theorem dL_law_923 : decode cL_law 923 = .ok (.iconst 0, 1) := by decide +kernel
theorem dL_law_924 : decode cL_law 924 = .ok (.ireturn, 1) := by decide +kernel
theorem dL_law_925 : decode cL_law 925 = .ok (.aload_n 1, 1) := by decide +kernel
theorem dL_law_926 : decode cL_law 926 = .ok (.aload_n 0, 1) := by decide +kernel
theorem dL_law_927 : decode cL_law 927 = .ok (.iload 4, 2) := by decide +kernel
theorem dL_law_929 : decode cL_law 929 = .ok (.iconst 1, 1) := by decide +kernel
theorem dL_law_930 : decode cL_law 930 = .ok (.iadd, 1) := by decide +kernel
theorem dL_law_931 : decode cL_law 931 = .ok (.iaload, 1) := by decide +kernel
theorem dL_law_932 : decode cL_law 932 = .ok (.aload_n 0, 1) := by decide +kernel
theorem dL_law_933 : decode cL_law 933 = .ok (.iload 4, 2) := by decide +kernel
theorem dL_law_935 : decode cL_law 935 = .ok (.iconst 2, 1) := by decide +kernel
theorem dL_law_936 : decode cL_law 936 = .ok (.iadd, 1) := by decide +kernel
theorem dL_law_937 : decode cL_law 937 = .ok (.iaload, 1) := by decide +kernel
theorem dL_law_938 : decode cL_law 938 = .ok (.aload_n 3, 1) := by decide +kernel
theorem dL_law_939 : decode cL_law 939 = .ok (.invokestatic 111, 3) := by decide +kernel
theorem dL_law_942 : decode cL_law 942 = .ok (.istore 5, 2) := by decide +kernel
theorem dL_law_944 : decode cL_law 944 = .ok (.aload_n 2, 1) := by decide +kernel
theorem dL_law_945 : decode cL_law 945 = .ok (.aload_n 0, 1) := by decide +kernel
theorem dL_law_946 : decode cL_law 946 = .ok (.iload 4, 2) := by decide +kernel
theorem dL_law_948 : decode cL_law 948 = .ok (.iconst 1, 1) := by decide +kernel
theorem dL_law_949 : decode cL_law 949 = .ok (.iadd, 1) := by decide +kernel
theorem dL_law_950 : decode cL_law 950 = .ok (.iaload, 1) := by decide +kernel
theorem dL_law_951 : decode cL_law 951 = .ok (.aload_n 0, 1) := by decide +kernel
theorem dL_law_952 : decode cL_law 952 = .ok (.iload 4, 2) := by decide +kernel
theorem dL_law_954 : decode cL_law 954 = .ok (.iconst 2, 1) := by decide +kernel
theorem dL_law_955 : decode cL_law 955 = .ok (.iadd, 1) := by decide +kernel
theorem dL_law_956 : decode cL_law 956 = .ok (.iaload, 1) := by decide +kernel
theorem dL_law_957 : decode cL_law 957 = .ok (.invokevirtual 116, 3) := by decide +kernel
theorem dL_law_960 : decode cL_law 960 = .ok (.istore 6, 2) := by decide +kernel
theorem dL_law_962 : decode cL_law 962 = .ok (.aload_n 2, 1) := by decide +kernel
theorem dL_law_963 : decode cL_law 963 = .ok (.invokevirtual 117, 3) := by decide +kernel
theorem dL_law_966 : decode cL_law 966 = .ok (.iload 5, 2) := by decide +kernel
theorem dL_law_968 : decode cL_law 968 = .ok (.if_icmp .eq 5, 3) := by decide +kernel
theorem dL_law_971 : decode cL_law 971 = .ok (.iconst 0, 1) := by decide +kernel
theorem dL_law_972 : decode cL_law 972 = .ok (.ireturn, 1) := by decide +kernel
theorem dL_law_973 : decode cL_law 973 = .ok (.iload 5, 2) := by decide +kernel
theorem dL_law_975 : decode cL_law 975 = .ok (.ifCond .ne 15, 3) := by decide +kernel
theorem dL_law_978 : decode cL_law 978 = .ok (.aload_n 3, 1) := by decide +kernel
theorem dL_law_979 : decode cL_law 979 = .ok (.iconst 0, 1) := by decide +kernel
theorem dL_law_980 : decode cL_law 980 = .ok (.laload, 1) := by decide +kernel
theorem dL_law_981 : decode cL_law 981 = .ok (.iload 6, 2) := by decide +kernel
theorem dL_law_983 : decode cL_law 983 = .ok (.i2l, 1) := by decide +kernel
theorem dL_law_984 : decode cL_law 984 = .ok (.lcmp, 1) := by decide +kernel
theorem dL_law_985 : decode cL_law 985 = .ok (.ifCond .eq 5, 3) := by decide +kernel
theorem dL_law_988 : decode cL_law 988 = .ok (.iconst 0, 1) := by decide +kernel
theorem dL_law_989 : decode cL_law 989 = .ok (.ireturn, 1) := by decide +kernel
theorem dL_law_990 : decode cL_law 990 = .ok (.goto 472, 3) := by decide +kernel
theorem dL_law_993 : decode cL_law 993 = .ok (.aload_n 1, 1) := by decide +kernel
theorem dL_law_994 : decode cL_law 994 = .ok (.aload_n 0, 1) := by decide +kernel
theorem dL_law_995 : decode cL_law 995 = .ok (.iload 4, 2) := by decide +kernel
theorem dL_law_997 : decode cL_law 997 = .ok (.iconst 1, 1) := by decide +kernel
theorem dL_law_998 : decode cL_law 998 = .ok (.iadd, 1) := by decide +kernel
theorem dL_law_999 : decode cL_law 999 = .ok (.iaload, 1) := by decide +kernel
theorem dL_law_1000 : decode cL_law 1000 = .ok (.invokevirtual 120, 3) := by decide +kernel
theorem dL_law_1003 : decode cL_law 1003 = .ok (.aload_n 2, 1) := by decide +kernel
theorem dL_law_1004 : decode cL_law 1004 = .ok (.aload_n 0, 1) := by decide +kernel
theorem dL_law_1005 : decode cL_law 1005 = .ok (.iload 4, 2) := by decide +kernel
theorem dL_law_1007 : decode cL_law 1007 = .ok (.iconst 1, 1) := by decide +kernel
theorem dL_law_1008 : decode cL_law 1008 = .ok (.iadd, 1) := by decide +kernel
theorem dL_law_1009 : decode cL_law 1009 = .ok (.iaload, 1) := by decide +kernel
theorem dL_law_1010 : decode cL_law 1010 = .ok (.invokevirtual 123, 3) := by decide +kernel
theorem dL_law_1013 : decode cL_law 1013 = .ok (.if_icmp .eq 449, 3) := by decide +kernel
theorem dL_law_1016 : decode cL_law 1016 = .ok (.iconst 0, 1) := by decide +kernel
theorem dL_law_1017 : decode cL_law 1017 = .ok (.ireturn, 1) := by decide +kernel
theorem dL_law_1018 : decode cL_law 1018 = .ok (.aload_n 1, 1) := by decide +kernel
theorem dL_law_1019 : decode cL_law 1019 = .ok (.aload_n 0, 1) := by decide +kernel
theorem dL_law_1020 : decode cL_law 1020 = .ok (.iload 4, 2) := by decide +kernel
theorem dL_law_1022 : decode cL_law 1022 = .ok (.iconst 1, 1) := by decide +kernel
theorem dL_law_1023 : decode cL_law 1023 = .ok (.iadd, 1) := by decide +kernel
theorem dL_law_1024 : decode cL_law 1024 = .ok (.iaload, 1) := by decide +kernel
theorem dL_law_1025 : decode cL_law 1025 = .ok (.aload_n 0, 1) := by decide +kernel
theorem dL_law_1026 : decode cL_law 1026 = .ok (.iload 4, 2) := by decide +kernel
theorem dL_law_1028 : decode cL_law 1028 = .ok (.iconst 2, 1) := by decide +kernel
theorem dL_law_1029 : decode cL_law 1029 = .ok (.iadd, 1) := by decide +kernel
theorem dL_law_1030 : decode cL_law 1030 = .ok (.iaload, 1) := by decide +kernel
theorem dL_law_1031 : decode cL_law 1031 = .ok (.aload_n 0, 1) := by decide +kernel
theorem dL_law_1032 : decode cL_law 1032 = .ok (.iload 4, 2) := by decide +kernel
theorem dL_law_1034 : decode cL_law 1034 = .ok (.iconst 3, 1) := by decide +kernel
theorem dL_law_1035 : decode cL_law 1035 = .ok (.iadd, 1) := by decide +kernel
theorem dL_law_1036 : decode cL_law 1036 = .ok (.iaload, 1) := by decide +kernel
theorem dL_law_1037 : decode cL_law 1037 = .ok (.invokevirtual 124, 3) := by decide +kernel
theorem dL_law_1040 : decode cL_law 1040 = .ok (.aload_n 2, 1) := by decide +kernel
theorem dL_law_1041 : decode cL_law 1041 = .ok (.aload_n 0, 1) := by decide +kernel
theorem dL_law_1042 : decode cL_law 1042 = .ok (.iload 4, 2) := by decide +kernel
theorem dL_law_1044 : decode cL_law 1044 = .ok (.iconst 1, 1) := by decide +kernel
theorem dL_law_1045 : decode cL_law 1045 = .ok (.iadd, 1) := by decide +kernel
theorem dL_law_1046 : decode cL_law 1046 = .ok (.iaload, 1) := by decide +kernel
theorem dL_law_1047 : decode cL_law 1047 = .ok (.aload_n 0, 1) := by decide +kernel
theorem dL_law_1048 : decode cL_law 1048 = .ok (.iload 4, 2) := by decide +kernel
theorem dL_law_1050 : decode cL_law 1050 = .ok (.iconst 2, 1) := by decide +kernel
theorem dL_law_1051 : decode cL_law 1051 = .ok (.iadd, 1) := by decide +kernel
theorem dL_law_1052 : decode cL_law 1052 = .ok (.iaload, 1) := by decide +kernel
theorem dL_law_1053 : decode cL_law 1053 = .ok (.aload_n 0, 1) := by decide +kernel
theorem dL_law_1054 : decode cL_law 1054 = .ok (.iload 4, 2) := by decide +kernel
theorem dL_law_1056 : decode cL_law 1056 = .ok (.iconst 3, 1) := by decide +kernel
theorem dL_law_1057 : decode cL_law 1057 = .ok (.iadd, 1) := by decide +kernel
theorem dL_law_1058 : decode cL_law 1058 = .ok (.iaload, 1) := by decide +kernel
theorem dL_law_1059 : decode cL_law 1059 = .ok (.invokevirtual 127, 3) := by decide +kernel
theorem dL_law_1062 : decode cL_law 1062 = .ok (.if_icmp .eq 400, 3) := by decide +kernel
theorem dL_law_1065 : decode cL_law 1065 = .ok (.iconst 0, 1) := by decide +kernel
theorem dL_law_1066 : decode cL_law 1066 = .ok (.ireturn, 1) := by decide +kernel
theorem dL_law_1067 : decode cL_law 1067 = .ok (.aload_n 1, 1) := by decide +kernel
theorem dL_law_1068 : decode cL_law 1068 = .ok (.aload_n 0, 1) := by decide +kernel
theorem dL_law_1069 : decode cL_law 1069 = .ok (.iload 4, 2) := by decide +kernel
theorem dL_law_1071 : decode cL_law 1071 = .ok (.iconst 1, 1) := by decide +kernel
theorem dL_law_1072 : decode cL_law 1072 = .ok (.iadd, 1) := by decide +kernel
theorem dL_law_1073 : decode cL_law 1073 = .ok (.iaload, 1) := by decide +kernel
theorem dL_law_1074 : decode cL_law 1074 = .ok (.invokevirtual 128, 3) := by decide +kernel
theorem dL_law_1077 : decode cL_law 1077 = .ok (.aload_n 2, 1) := by decide +kernel
theorem dL_law_1078 : decode cL_law 1078 = .ok (.aload_n 0, 1) := by decide +kernel
theorem dL_law_1079 : decode cL_law 1079 = .ok (.iload 4, 2) := by decide +kernel
theorem dL_law_1081 : decode cL_law 1081 = .ok (.iconst 1, 1) := by decide +kernel
theorem dL_law_1082 : decode cL_law 1082 = .ok (.iadd, 1) := by decide +kernel
theorem dL_law_1083 : decode cL_law 1083 = .ok (.iaload, 1) := by decide +kernel
theorem dL_law_1084 : decode cL_law 1084 = .ok (.invokevirtual 131, 3) := by decide +kernel
theorem dL_law_1087 : decode cL_law 1087 = .ok (.if_icmp .eq 375, 3) := by decide +kernel
theorem dL_law_1090 : decode cL_law 1090 = .ok (.iconst 0, 1) := by decide +kernel
theorem dL_law_1091 : decode cL_law 1091 = .ok (.ireturn, 1) := by decide +kernel
theorem dL_law_1092 : decode cL_law 1092 = .ok (.aload_n 1, 1) := by decide +kernel
theorem dL_law_1093 : decode cL_law 1093 = .ok (.aload_n 0, 1) := by decide +kernel
theorem dL_law_1094 : decode cL_law 1094 = .ok (.iload 4, 2) := by decide +kernel
theorem dL_law_1096 : decode cL_law 1096 = .ok (.iconst 1, 1) := by decide +kernel
theorem dL_law_1097 : decode cL_law 1097 = .ok (.iadd, 1) := by decide +kernel
theorem dL_law_1098 : decode cL_law 1098 = .ok (.iaload, 1) := by decide +kernel
theorem dL_law_1099 : decode cL_law 1099 = .ok (.invokevirtual 132, 3) := by decide +kernel
theorem dL_law_1102 : decode cL_law 1102 = .ok (.aload_n 2, 1) := by decide +kernel
theorem dL_law_1103 : decode cL_law 1103 = .ok (.aload_n 0, 1) := by decide +kernel
theorem dL_law_1104 : decode cL_law 1104 = .ok (.iload 4, 2) := by decide +kernel
theorem dL_law_1106 : decode cL_law 1106 = .ok (.iconst 1, 1) := by decide +kernel
theorem dL_law_1107 : decode cL_law 1107 = .ok (.iadd, 1) := by decide +kernel
theorem dL_law_1108 : decode cL_law 1108 = .ok (.iaload, 1) := by decide +kernel
theorem dL_law_1109 : decode cL_law 1109 = .ok (.invokevirtual 135, 3) := by decide +kernel
theorem dL_law_1112 : decode cL_law 1112 = .ok (.if_icmp .eq 350, 3) := by decide +kernel
theorem dL_law_1115 : decode cL_law 1115 = .ok (.iconst 0, 1) := by decide +kernel
theorem dL_law_1116 : decode cL_law 1116 = .ok (.ireturn, 1) := by decide +kernel
theorem dL_law_1117 : decode cL_law 1117 = .ok (.aload_n 1, 1) := by decide +kernel
theorem dL_law_1118 : decode cL_law 1118 = .ok (.aload_n 0, 1) := by decide +kernel
theorem dL_law_1119 : decode cL_law 1119 = .ok (.iload 4, 2) := by decide +kernel
theorem dL_law_1121 : decode cL_law 1121 = .ok (.iconst 1, 1) := by decide +kernel
theorem dL_law_1122 : decode cL_law 1122 = .ok (.iadd, 1) := by decide +kernel
theorem dL_law_1123 : decode cL_law 1123 = .ok (.iaload, 1) := by decide +kernel
theorem dL_law_1124 : decode cL_law 1124 = .ok (.invokevirtual 136, 3) := by decide +kernel
theorem dL_law_1127 : decode cL_law 1127 = .ok (.aload_n 2, 1) := by decide +kernel
theorem dL_law_1128 : decode cL_law 1128 = .ok (.aload_n 0, 1) := by decide +kernel
theorem dL_law_1129 : decode cL_law 1129 = .ok (.iload 4, 2) := by decide +kernel
theorem dL_law_1131 : decode cL_law 1131 = .ok (.iconst 1, 1) := by decide +kernel
theorem dL_law_1132 : decode cL_law 1132 = .ok (.iadd, 1) := by decide +kernel
theorem dL_law_1133 : decode cL_law 1133 = .ok (.iaload, 1) := by decide +kernel
theorem dL_law_1134 : decode cL_law 1134 = .ok (.invokevirtual 139, 3) := by decide +kernel
theorem dL_law_1137 : decode cL_law 1137 = .ok (.if_icmp .eq 325, 3) := by decide +kernel
theorem dL_law_1140 : decode cL_law 1140 = .ok (.iconst 0, 1) := by decide +kernel
theorem dL_law_1141 : decode cL_law 1141 = .ok (.ireturn, 1) := by decide +kernel
theorem dL_law_1142 : decode cL_law 1142 = .ok (.aload_n 1, 1) := by decide +kernel
theorem dL_law_1143 : decode cL_law 1143 = .ok (.aload_n 0, 1) := by decide +kernel
theorem dL_law_1144 : decode cL_law 1144 = .ok (.iload 4, 2) := by decide +kernel
theorem dL_law_1146 : decode cL_law 1146 = .ok (.iconst 1, 1) := by decide +kernel
theorem dL_law_1147 : decode cL_law 1147 = .ok (.iadd, 1) := by decide +kernel
theorem dL_law_1148 : decode cL_law 1148 = .ok (.iaload, 1) := by decide +kernel
theorem dL_law_1149 : decode cL_law 1149 = .ok (.aload_n 0, 1) := by decide +kernel
theorem dL_law_1150 : decode cL_law 1150 = .ok (.iload 4, 2) := by decide +kernel
theorem dL_law_1152 : decode cL_law 1152 = .ok (.iconst 2, 1) := by decide +kernel
theorem dL_law_1153 : decode cL_law 1153 = .ok (.iadd, 1) := by decide +kernel
theorem dL_law_1154 : decode cL_law 1154 = .ok (.iaload, 1) := by decide +kernel
theorem dL_law_1155 : decode cL_law 1155 = .ok (.invokevirtual 140, 3) := by decide +kernel
theorem dL_law_1158 : decode cL_law 1158 = .ok (.aload_n 2, 1) := by decide +kernel
theorem dL_law_1159 : decode cL_law 1159 = .ok (.aload_n 0, 1) := by decide +kernel
theorem dL_law_1160 : decode cL_law 1160 = .ok (.iload 4, 2) := by decide +kernel
theorem dL_law_1162 : decode cL_law 1162 = .ok (.iconst 1, 1) := by decide +kernel
theorem dL_law_1163 : decode cL_law 1163 = .ok (.iadd, 1) := by decide +kernel
theorem dL_law_1164 : decode cL_law 1164 = .ok (.iaload, 1) := by decide +kernel
theorem dL_law_1165 : decode cL_law 1165 = .ok (.aload_n 0, 1) := by decide +kernel
theorem dL_law_1166 : decode cL_law 1166 = .ok (.iload 4, 2) := by decide +kernel
theorem dL_law_1168 : decode cL_law 1168 = .ok (.iconst 2, 1) := by decide +kernel
theorem dL_law_1169 : decode cL_law 1169 = .ok (.iadd, 1) := by decide +kernel
theorem dL_law_1170 : decode cL_law 1170 = .ok (.iaload, 1) := by decide +kernel
theorem dL_law_1171 : decode cL_law 1171 = .ok (.invokevirtual 143, 3) := by decide +kernel
theorem dL_law_1174 : decode cL_law 1174 = .ok (.if_icmp .eq 288, 3) := by decide +kernel
theorem dL_law_1177 : decode cL_law 1177 = .ok (.iconst 0, 1) := by decide +kernel
theorem dL_law_1178 : decode cL_law 1178 = .ok (.ireturn, 1) := by decide +kernel
theorem dL_law_1179 : decode cL_law 1179 = .ok (.aload_n 1, 1) := by decide +kernel
theorem dL_law_1180 : decode cL_law 1180 = .ok (.aload_n 0, 1) := by decide +kernel
theorem dL_law_1181 : decode cL_law 1181 = .ok (.iload 4, 2) := by decide +kernel
theorem dL_law_1183 : decode cL_law 1183 = .ok (.iconst 1, 1) := by decide +kernel
theorem dL_law_1184 : decode cL_law 1184 = .ok (.iadd, 1) := by decide +kernel
theorem dL_law_1185 : decode cL_law 1185 = .ok (.iaload, 1) := by decide +kernel
theorem dL_law_1186 : decode cL_law 1186 = .ok (.aload_n 0, 1) := by decide +kernel
theorem dL_law_1187 : decode cL_law 1187 = .ok (.iload 4, 2) := by decide +kernel
theorem dL_law_1189 : decode cL_law 1189 = .ok (.iconst 2, 1) := by decide +kernel
theorem dL_law_1190 : decode cL_law 1190 = .ok (.iadd, 1) := by decide +kernel
theorem dL_law_1191 : decode cL_law 1191 = .ok (.iaload, 1) := by decide +kernel
theorem dL_law_1192 : decode cL_law 1192 = .ok (.aload_n 0, 1) := by decide +kernel
theorem dL_law_1193 : decode cL_law 1193 = .ok (.iload 4, 2) := by decide +kernel
theorem dL_law_1195 : decode cL_law 1195 = .ok (.iconst 3, 1) := by decide +kernel
theorem dL_law_1196 : decode cL_law 1196 = .ok (.iadd, 1) := by decide +kernel
theorem dL_law_1197 : decode cL_law 1197 = .ok (.iaload, 1) := by decide +kernel
theorem dL_law_1198 : decode cL_law 1198 = .ok (.invokevirtual 144, 3) := by decide +kernel
theorem dL_law_1201 : decode cL_law 1201 = .ok (.aload_n 2, 1) := by decide +kernel
theorem dL_law_1202 : decode cL_law 1202 = .ok (.aload_n 0, 1) := by decide +kernel
theorem dL_law_1203 : decode cL_law 1203 = .ok (.iload 4, 2) := by decide +kernel
theorem dL_law_1205 : decode cL_law 1205 = .ok (.iconst 1, 1) := by decide +kernel
theorem dL_law_1206 : decode cL_law 1206 = .ok (.iadd, 1) := by decide +kernel
theorem dL_law_1207 : decode cL_law 1207 = .ok (.iaload, 1) := by decide +kernel
theorem dL_law_1208 : decode cL_law 1208 = .ok (.aload_n 0, 1) := by decide +kernel
theorem dL_law_1209 : decode cL_law 1209 = .ok (.iload 4, 2) := by decide +kernel
theorem dL_law_1211 : decode cL_law 1211 = .ok (.iconst 2, 1) := by decide +kernel
theorem dL_law_1212 : decode cL_law 1212 = .ok (.iadd, 1) := by decide +kernel
theorem dL_law_1213 : decode cL_law 1213 = .ok (.iaload, 1) := by decide +kernel
theorem dL_law_1214 : decode cL_law 1214 = .ok (.aload_n 0, 1) := by decide +kernel
theorem dL_law_1215 : decode cL_law 1215 = .ok (.iload 4, 2) := by decide +kernel
theorem dL_law_1217 : decode cL_law 1217 = .ok (.iconst 3, 1) := by decide +kernel
theorem dL_law_1218 : decode cL_law 1218 = .ok (.iadd, 1) := by decide +kernel
theorem dL_law_1219 : decode cL_law 1219 = .ok (.iaload, 1) := by decide +kernel
theorem dL_law_1220 : decode cL_law 1220 = .ok (.invokevirtual 147, 3) := by decide +kernel
theorem dL_law_1223 : decode cL_law 1223 = .ok (.if_icmp .eq 239, 3) := by decide +kernel
theorem dL_law_1226 : decode cL_law 1226 = .ok (.iconst 0, 1) := by decide +kernel
theorem dL_law_1227 : decode cL_law 1227 = .ok (.ireturn, 1) := by decide +kernel
theorem dL_law_1228 : decode cL_law 1228 = .ok (.aload_n 1, 1) := by decide +kernel
theorem dL_law_1229 : decode cL_law 1229 = .ok (.aload_n 0, 1) := by decide +kernel
theorem dL_law_1230 : decode cL_law 1230 = .ok (.iload 4, 2) := by decide +kernel
theorem dL_law_1232 : decode cL_law 1232 = .ok (.iconst 1, 1) := by decide +kernel
theorem dL_law_1233 : decode cL_law 1233 = .ok (.iadd, 1) := by decide +kernel
theorem dL_law_1234 : decode cL_law 1234 = .ok (.iaload, 1) := by decide +kernel
theorem dL_law_1235 : decode cL_law 1235 = .ok (.aload_n 0, 1) := by decide +kernel
theorem dL_law_1236 : decode cL_law 1236 = .ok (.iload 4, 2) := by decide +kernel
theorem dL_law_1238 : decode cL_law 1238 = .ok (.iconst 2, 1) := by decide +kernel
theorem dL_law_1239 : decode cL_law 1239 = .ok (.iadd, 1) := by decide +kernel
theorem dL_law_1240 : decode cL_law 1240 = .ok (.iaload, 1) := by decide +kernel
theorem dL_law_1241 : decode cL_law 1241 = .ok (.invokevirtual 148, 3) := by decide +kernel
theorem dL_law_1244 : decode cL_law 1244 = .ok (.aload_n 2, 1) := by decide +kernel
theorem dL_law_1245 : decode cL_law 1245 = .ok (.aload_n 0, 1) := by decide +kernel
theorem dL_law_1246 : decode cL_law 1246 = .ok (.iload 4, 2) := by decide +kernel
theorem dL_law_1248 : decode cL_law 1248 = .ok (.iconst 1, 1) := by decide +kernel
theorem dL_law_1249 : decode cL_law 1249 = .ok (.iadd, 1) := by decide +kernel
theorem dL_law_1250 : decode cL_law 1250 = .ok (.iaload, 1) := by decide +kernel
theorem dL_law_1251 : decode cL_law 1251 = .ok (.aload_n 0, 1) := by decide +kernel
theorem dL_law_1252 : decode cL_law 1252 = .ok (.iload 4, 2) := by decide +kernel
theorem dL_law_1254 : decode cL_law 1254 = .ok (.iconst 2, 1) := by decide +kernel
theorem dL_law_1255 : decode cL_law 1255 = .ok (.iadd, 1) := by decide +kernel
theorem dL_law_1256 : decode cL_law 1256 = .ok (.iaload, 1) := by decide +kernel
theorem dL_law_1257 : decode cL_law 1257 = .ok (.invokevirtual 151, 3) := by decide +kernel
theorem dL_law_1260 : decode cL_law 1260 = .ok (.if_icmp .eq 202, 3) := by decide +kernel
theorem dL_law_1263 : decode cL_law 1263 = .ok (.iconst 0, 1) := by decide +kernel
theorem dL_law_1264 : decode cL_law 1264 = .ok (.ireturn, 1) := by decide +kernel
theorem dL_law_1265 : decode cL_law 1265 = .ok (.aload_n 1, 1) := by decide +kernel
theorem dL_law_1266 : decode cL_law 1266 = .ok (.aload_n 0, 1) := by decide +kernel
theorem dL_law_1267 : decode cL_law 1267 = .ok (.iload 4, 2) := by decide +kernel
theorem dL_law_1269 : decode cL_law 1269 = .ok (.iconst 1, 1) := by decide +kernel
theorem dL_law_1270 : decode cL_law 1270 = .ok (.iadd, 1) := by decide +kernel
theorem dL_law_1271 : decode cL_law 1271 = .ok (.iaload, 1) := by decide +kernel
theorem dL_law_1272 : decode cL_law 1272 = .ok (.aload_n 0, 1) := by decide +kernel
theorem dL_law_1273 : decode cL_law 1273 = .ok (.iload 4, 2) := by decide +kernel
theorem dL_law_1275 : decode cL_law 1275 = .ok (.iconst 2, 1) := by decide +kernel
theorem dL_law_1276 : decode cL_law 1276 = .ok (.iadd, 1) := by decide +kernel
theorem dL_law_1277 : decode cL_law 1277 = .ok (.iaload, 1) := by decide +kernel
theorem dL_law_1278 : decode cL_law 1278 = .ok (.aload_n 0, 1) := by decide +kernel
theorem dL_law_1279 : decode cL_law 1279 = .ok (.iload 4, 2) := by decide +kernel
theorem dL_law_1281 : decode cL_law 1281 = .ok (.iconst 3, 1) := by decide +kernel
theorem dL_law_1282 : decode cL_law 1282 = .ok (.iadd, 1) := by decide +kernel
theorem dL_law_1283 : decode cL_law 1283 = .ok (.iaload, 1) := by decide +kernel
theorem dL_law_1284 : decode cL_law 1284 = .ok (.invokevirtual 152, 3) := by decide +kernel
theorem dL_law_1287 : decode cL_law 1287 = .ok (.aload_n 2, 1) := by decide +kernel
theorem dL_law_1288 : decode cL_law 1288 = .ok (.aload_n 0, 1) := by decide +kernel
theorem dL_law_1289 : decode cL_law 1289 = .ok (.iload 4, 2) := by decide +kernel
theorem dL_law_1291 : decode cL_law 1291 = .ok (.iconst 1, 1) := by decide +kernel
theorem dL_law_1292 : decode cL_law 1292 = .ok (.iadd, 1) := by decide +kernel
theorem dL_law_1293 : decode cL_law 1293 = .ok (.iaload, 1) := by decide +kernel
theorem dL_law_1294 : decode cL_law 1294 = .ok (.aload_n 0, 1) := by decide +kernel
theorem dL_law_1295 : decode cL_law 1295 = .ok (.iload 4, 2) := by decide +kernel
theorem dL_law_1297 : decode cL_law 1297 = .ok (.iconst 2, 1) := by decide +kernel
theorem dL_law_1298 : decode cL_law 1298 = .ok (.iadd, 1) := by decide +kernel
theorem dL_law_1299 : decode cL_law 1299 = .ok (.iaload, 1) := by decide +kernel
theorem dL_law_1300 : decode cL_law 1300 = .ok (.aload_n 0, 1) := by decide +kernel
theorem dL_law_1301 : decode cL_law 1301 = .ok (.iload 4, 2) := by decide +kernel
theorem dL_law_1303 : decode cL_law 1303 = .ok (.iconst 3, 1) := by decide +kernel
theorem dL_law_1304 : decode cL_law 1304 = .ok (.iadd, 1) := by decide +kernel
theorem dL_law_1305 : decode cL_law 1305 = .ok (.iaload, 1) := by decide +kernel
theorem dL_law_1306 : decode cL_law 1306 = .ok (.invokevirtual 155, 3) := by decide +kernel
theorem dL_law_1309 : decode cL_law 1309 = .ok (.if_icmp .eq 153, 3) := by decide +kernel
theorem dL_law_1312 : decode cL_law 1312 = .ok (.iconst 0, 1) := by decide +kernel
theorem dL_law_1313 : decode cL_law 1313 = .ok (.ireturn, 1) := by decide +kernel
theorem dL_law_1314 : decode cL_law 1314 = .ok (.aload_n 1, 1) := by decide +kernel
theorem dL_law_1315 : decode cL_law 1315 = .ok (.aload_n 0, 1) := by decide +kernel
theorem dL_law_1316 : decode cL_law 1316 = .ok (.iload 4, 2) := by decide +kernel
theorem dL_law_1318 : decode cL_law 1318 = .ok (.iconst 1, 1) := by decide +kernel
theorem dL_law_1319 : decode cL_law 1319 = .ok (.iadd, 1) := by decide +kernel
theorem dL_law_1320 : decode cL_law 1320 = .ok (.iaload, 1) := by decide +kernel
theorem dL_law_1321 : decode cL_law 1321 = .ok (.aload_n 0, 1) := by decide +kernel
theorem dL_law_1322 : decode cL_law 1322 = .ok (.iload 4, 2) := by decide +kernel
theorem dL_law_1324 : decode cL_law 1324 = .ok (.iconst 2, 1) := by decide +kernel
theorem dL_law_1325 : decode cL_law 1325 = .ok (.iadd, 1) := by decide +kernel
theorem dL_law_1326 : decode cL_law 1326 = .ok (.iaload, 1) := by decide +kernel
theorem dL_law_1327 : decode cL_law 1327 = .ok (.aload_n 0, 1) := by decide +kernel
theorem dL_law_1328 : decode cL_law 1328 = .ok (.iload 4, 2) := by decide +kernel
theorem dL_law_1330 : decode cL_law 1330 = .ok (.iconst 3, 1) := by decide +kernel
theorem dL_law_1331 : decode cL_law 1331 = .ok (.iadd, 1) := by decide +kernel
theorem dL_law_1332 : decode cL_law 1332 = .ok (.iaload, 1) := by decide +kernel
theorem dL_law_1333 : decode cL_law 1333 = .ok (.invokevirtual 156, 3) := by decide +kernel
theorem dL_law_1336 : decode cL_law 1336 = .ok (.aload_n 2, 1) := by decide +kernel
theorem dL_law_1337 : decode cL_law 1337 = .ok (.aload_n 0, 1) := by decide +kernel
theorem dL_law_1338 : decode cL_law 1338 = .ok (.iload 4, 2) := by decide +kernel
theorem dL_law_1340 : decode cL_law 1340 = .ok (.iconst 1, 1) := by decide +kernel
theorem dL_law_1341 : decode cL_law 1341 = .ok (.iadd, 1) := by decide +kernel
theorem dL_law_1342 : decode cL_law 1342 = .ok (.iaload, 1) := by decide +kernel
theorem dL_law_1343 : decode cL_law 1343 = .ok (.aload_n 0, 1) := by decide +kernel
theorem dL_law_1344 : decode cL_law 1344 = .ok (.iload 4, 2) := by decide +kernel
theorem dL_law_1346 : decode cL_law 1346 = .ok (.iconst 2, 1) := by decide +kernel
theorem dL_law_1347 : decode cL_law 1347 = .ok (.iadd, 1) := by decide +kernel
theorem dL_law_1348 : decode cL_law 1348 = .ok (.iaload, 1) := by decide +kernel
theorem dL_law_1349 : decode cL_law 1349 = .ok (.aload_n 0, 1) := by decide +kernel
theorem dL_law_1350 : decode cL_law 1350 = .ok (.iload 4, 2) := by decide +kernel
theorem dL_law_1352 : decode cL_law 1352 = .ok (.iconst 3, 1) := by decide +kernel
theorem dL_law_1353 : decode cL_law 1353 = .ok (.iadd, 1) := by decide +kernel
theorem dL_law_1354 : decode cL_law 1354 = .ok (.iaload, 1) := by decide +kernel
theorem dL_law_1355 : decode cL_law 1355 = .ok (.invokevirtual 159, 3) := by decide +kernel
theorem dL_law_1358 : decode cL_law 1358 = .ok (.if_icmp .eq 104, 3) := by decide +kernel
theorem dL_law_1361 : decode cL_law 1361 = .ok (.iconst 0, 1) := by decide +kernel
theorem dL_law_1362 : decode cL_law 1362 = .ok (.ireturn, 1) := by decide +kernel
theorem dL_law_1363 : decode cL_law 1363 = .ok (.aload_n 1, 1) := by decide +kernel
theorem dL_law_1364 : decode cL_law 1364 = .ok (.aload_n 0, 1) := by decide +kernel
theorem dL_law_1365 : decode cL_law 1365 = .ok (.iload 4, 2) := by decide +kernel
theorem dL_law_1367 : decode cL_law 1367 = .ok (.iconst 1, 1) := by decide +kernel
theorem dL_law_1368 : decode cL_law 1368 = .ok (.iadd, 1) := by decide +kernel
theorem dL_law_1369 : decode cL_law 1369 = .ok (.iaload, 1) := by decide +kernel
theorem dL_law_1370 : decode cL_law 1370 = .ok (.aload_n 0, 1) := by decide +kernel
theorem dL_law_1371 : decode cL_law 1371 = .ok (.iload 4, 2) := by decide +kernel
theorem dL_law_1373 : decode cL_law 1373 = .ok (.iconst 2, 1) := by decide +kernel
theorem dL_law_1374 : decode cL_law 1374 = .ok (.iadd, 1) := by decide +kernel
theorem dL_law_1375 : decode cL_law 1375 = .ok (.iaload, 1) := by decide +kernel
theorem dL_law_1376 : decode cL_law 1376 = .ok (.aload_n 0, 1) := by decide +kernel
theorem dL_law_1377 : decode cL_law 1377 = .ok (.iload 4, 2) := by decide +kernel
theorem dL_law_1379 : decode cL_law 1379 = .ok (.iconst 3, 1) := by decide +kernel
theorem dL_law_1380 : decode cL_law 1380 = .ok (.iadd, 1) := by decide +kernel
theorem dL_law_1381 : decode cL_law 1381 = .ok (.iaload, 1) := by decide +kernel
theorem dL_law_1382 : decode cL_law 1382 = .ok (.invokevirtual 160, 3) := by decide +kernel
theorem dL_law_1385 : decode cL_law 1385 = .ok (.aload_n 2, 1) := by decide +kernel
theorem dL_law_1386 : decode cL_law 1386 = .ok (.aload_n 0, 1) := by decide +kernel
theorem dL_law_1387 : decode cL_law 1387 = .ok (.iload 4, 2) := by decide +kernel
theorem dL_law_1389 : decode cL_law 1389 = .ok (.iconst 1, 1) := by decide +kernel
theorem dL_law_1390 : decode cL_law 1390 = .ok (.iadd, 1) := by decide +kernel
theorem dL_law_1391 : decode cL_law 1391 = .ok (.iaload, 1) := by decide +kernel
theorem dL_law_1392 : decode cL_law 1392 = .ok (.aload_n 0, 1) := by decide +kernel
theorem dL_law_1393 : decode cL_law 1393 = .ok (.iload 4, 2) := by decide +kernel
theorem dL_law_1395 : decode cL_law 1395 = .ok (.iconst 2, 1) := by decide +kernel
theorem dL_law_1396 : decode cL_law 1396 = .ok (.iadd, 1) := by decide +kernel
theorem dL_law_1397 : decode cL_law 1397 = .ok (.iaload, 1) := by decide +kernel
theorem dL_law_1398 : decode cL_law 1398 = .ok (.aload_n 0, 1) := by decide +kernel
theorem dL_law_1399 : decode cL_law 1399 = .ok (.iload 4, 2) := by decide +kernel
theorem dL_law_1401 : decode cL_law 1401 = .ok (.iconst 3, 1) := by decide +kernel
theorem dL_law_1402 : decode cL_law 1402 = .ok (.iadd, 1) := by decide +kernel
theorem dL_law_1403 : decode cL_law 1403 = .ok (.iaload, 1) := by decide +kernel
theorem dL_law_1404 : decode cL_law 1404 = .ok (.invokevirtual 163, 3) := by decide +kernel
theorem dL_law_1407 : decode cL_law 1407 = .ok (.if_icmp .eq 55, 3) := by decide +kernel
theorem dL_law_1410 : decode cL_law 1410 = .ok (.iconst 0, 1) := by decide +kernel
theorem dL_law_1411 : decode cL_law 1411 = .ok (.ireturn, 1) := by decide +kernel
theorem dL_law_1412 : decode cL_law 1412 = .ok (.aload_n 1, 1) := by decide +kernel
theorem dL_law_1413 : decode cL_law 1413 = .ok (.aload_n 0, 1) := by decide +kernel
theorem dL_law_1414 : decode cL_law 1414 = .ok (.iload 4, 2) := by decide +kernel
theorem dL_law_1416 : decode cL_law 1416 = .ok (.iconst 1, 1) := by decide +kernel
theorem dL_law_1417 : decode cL_law 1417 = .ok (.iadd, 1) := by decide +kernel
theorem dL_law_1418 : decode cL_law 1418 = .ok (.iaload, 1) := by decide +kernel
theorem dL_law_1419 : decode cL_law 1419 = .ok (.invokevirtual 164, 3) := by decide +kernel
theorem dL_law_1422 : decode cL_law 1422 = .ok (.aload_n 2, 1) := by decide +kernel
theorem dL_law_1423 : decode cL_law 1423 = .ok (.aload_n 0, 1) := by decide +kernel
theorem dL_law_1424 : decode cL_law 1424 = .ok (.iload 4, 2) := by decide +kernel
theorem dL_law_1426 : decode cL_law 1426 = .ok (.iconst 1, 1) := by decide +kernel
theorem dL_law_1427 : decode cL_law 1427 = .ok (.iadd, 1) := by decide +kernel
theorem dL_law_1428 : decode cL_law 1428 = .ok (.iaload, 1) := by decide +kernel
theorem dL_law_1429 : decode cL_law 1429 = .ok (.invokevirtual 167, 3) := by decide +kernel
theorem dL_law_1432 : decode cL_law 1432 = .ok (.if_icmp .eq 30, 3) := by decide +kernel
theorem dL_law_1435 : decode cL_law 1435 = .ok (.iconst 0, 1) := by decide +kernel
theorem dL_law_1436 : decode cL_law 1436 = .ok (.ireturn, 1) := by decide +kernel
theorem dL_law_1437 : decode cL_law 1437 = .ok (.aload_n 1, 1) := by decide +kernel
theorem dL_law_1438 : decode cL_law 1438 = .ok (.aload_n 0, 1) := by decide +kernel
theorem dL_law_1439 : decode cL_law 1439 = .ok (.iload 4, 2) := by decide +kernel
theorem dL_law_1441 : decode cL_law 1441 = .ok (.iconst 1, 1) := by decide +kernel
theorem dL_law_1442 : decode cL_law 1442 = .ok (.iadd, 1) := by decide +kernel
theorem dL_law_1443 : decode cL_law 1443 = .ok (.iaload, 1) := by decide +kernel
theorem dL_law_1444 : decode cL_law 1444 = .ok (.invokevirtual 168, 3) := by decide +kernel
theorem dL_law_1447 : decode cL_law 1447 = .ok (.aload_n 2, 1) := by decide +kernel
theorem dL_law_1448 : decode cL_law 1448 = .ok (.aload_n 0, 1) := by decide +kernel
theorem dL_law_1449 : decode cL_law 1449 = .ok (.iload 4, 2) := by decide +kernel
theorem dL_law_1451 : decode cL_law 1451 = .ok (.iconst 1, 1) := by decide +kernel
theorem dL_law_1452 : decode cL_law 1452 = .ok (.iadd, 1) := by decide +kernel
theorem dL_law_1453 : decode cL_law 1453 = .ok (.iaload, 1) := by decide +kernel
theorem dL_law_1454 : decode cL_law 1454 = .ok (.invokevirtual 171, 3) := by decide +kernel
theorem dL_law_1457 : decode cL_law 1457 = .ok (.if_icmp .eq 5, 3) := by decide +kernel
theorem dL_law_1460 : decode cL_law 1460 = .ok (.iconst 0, 1) := by decide +kernel
theorem dL_law_1461 : decode cL_law 1461 = .ok (.ireturn, 1) := by decide +kernel
theorem dL_law_1462 : decode cL_law 1462 = .ok (.iinc 4 6, 3) := by decide +kernel
theorem dL_law_1465 : decode cL_law 1465 = .ok (.goto (-1442), 3) := by decide +kernel
theorem dL_law_1468 : decode cL_law 1468 = .ok (.iconst 1, 1) := by decide +kernel
theorem dL_law_1469 : decode cL_law 1469 = .ok (.ireturn, 1) := by decide +kernel
