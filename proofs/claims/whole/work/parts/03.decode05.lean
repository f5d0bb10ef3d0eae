theorem dX6_turned_0 : decode cX6_turned 0 = .ok (.aload_n 0, 1) := by decide +kernel
theorem dX6_turned_1 : decode cX6_turned 1 = .ok (.iconst 0, 1) := by decide +kernel
theorem dX6_turned_2 : decode cX6_turned 2 = .ok (.putfield 60, 3) := by decide +kernel
theorem dX6_turned_5 : decode cX6_turned 5 = .ok (.aload_n 0, 1) := by decide +kernel
theorem dX6_turned_6 : decode cX6_turned 6 = .ok (.iload_n 1, 1) := by decide +kernel
theorem dX6_turned_7 : decode cX6_turned 7 = .ok (.iload_n 2, 1) := by decide +kernel
theorem dX6_turned_8 : decode cX6_turned 8 = .ok (.invokevirtual 101, 3) := by decide +kernel
theorem dX6_turned_11 : decode cX6_turned 11 = .ok (.ifCond .ne 6, 3) := by decide +kernel
theorem dX6_turned_14 : decode cX6_turned 14 = .ok (.bipush (-2), 2) := by decide +kernel
theorem dX6_turned_16 : decode cX6_turned 16 = .ok (.ireturn, 1) := by decide +kernel
theorem dX6_turned_17 : decode cX6_turned 17 = .ok (.aload_n 0, 1) := by decide +kernel
theorem dX6_turned_18 : decode cX6_turned 18 = .ok (.invokevirtual 182, 3) := by decide +kernel
theorem dX6_turned_21 : decode cX6_turned 21 = .ok (.aload_n 0, 1) := by decide +kernel
theorem dX6_turned_22 : decode cX6_turned 22 = .ok (.iload_n 1, 1) := by decide +kernel
theorem dX6_turned_23 : decode cX6_turned 23 = .ok (.iload_n 2, 1) := by decide +kernel
theorem dX6_turned_24 : decode cX6_turned 24 = .ok (.invokevirtual 104, 3) := by decide +kernel
theorem dX6_turned_27 : decode cX6_turned 27 = .ok (.aload_n 0, 1) := by decide +kernel
theorem dX6_turned_28 : decode cX6_turned 28 = .ok (.invokevirtual 224, 3) := by decide +kernel
theorem dX6_turned_31 : decode cX6_turned 31 = .ok (.istore_n 3, 1) := by decide +kernel
theorem dX6_turned_32 : decode cX6_turned 32 = .ok (.aload_n 0, 1) := by decide +kernel
theorem dX6_turned_33 : decode cX6_turned 33 = .ok (.invokevirtual 188, 3) := by decide +kernel
theorem dX6_turned_36 : decode cX6_turned 36 = .ok (.iload_n 3, 1) := by decide +kernel
theorem dX6_turned_37 : decode cX6_turned 37 = .ok (.ireturn, 1) := by decide +kernel
theorem dX6_bestTurn_0 : decode cX6_bestTurn 0 = .ok (.aload_n 0, 1) := by decide +kernel
theorem dX6_bestTurn_1 : decode cX6_bestTurn 1 = .ok (.iconst 0, 1) := by decide +kernel
theorem dX6_bestTurn_2 : decode cX6_bestTurn 2 = .ok (.putfield 60, 3) := by decide +kernel
theorem dX6_bestTurn_5 : decode cX6_bestTurn 5 = .ok (.iload_n 1, 1) := by decide +kernel
theorem dX6_bestTurn_6 : decode cX6_bestTurn 6 = .ok (.iconst 0, 1) := by decide +kernel
theorem dX6_bestTurn_7 : decode cX6_bestTurn 7 = .ok (.iconst 2, 1) := by decide +kernel
theorem dX6_bestTurn_8 : decode cX6_bestTurn 8 = .ok (.invokestatic 68, 3) := by decide +kernel
theorem dX6_bestTurn_11 : decode cX6_bestTurn 11 = .ok (.ifCond .ne 6, 3) := by decide +kernel
theorem dX6_bestTurn_14 : decode cX6_bestTurn 14 = .ok (.bipush (-2), 2) := by decide +kernel
theorem dX6_bestTurn_16 : decode cX6_bestTurn 16 = .ok (.ireturn, 1) := by decide +kernel
theorem dX6_bestTurn_17 : decode cX6_bestTurn 17 = .ok (.aload_n 0, 1) := by decide +kernel
theorem dX6_bestTurn_18 : decode cX6_bestTurn 18 = .ok (.invokevirtual 224, 3) := by decide +kernel
theorem dX6_bestTurn_21 : decode cX6_bestTurn 21 = .ok (.istore_n 2, 1) := by decide +kernel
theorem dX6_bestTurn_22 : decode cX6_bestTurn 22 = .ok (.iload_n 2, 1) := by decide +kernel
theorem dX6_bestTurn_23 : decode cX6_bestTurn 23 = .ok (.iconst (-1), 1) := by decide +kernel
theorem dX6_bestTurn_24 : decode cX6_bestTurn 24 = .ok (.if_icmp .ne 8, 3) := by decide +kernel
theorem dX6_bestTurn_27 : decode cX6_bestTurn 27 = .ok (.bipush 41, 2) := by decide +kernel
theorem dX6_bestTurn_29 : decode cX6_bestTurn 29 = .ok (.goto 4, 3) := by decide +kernel
theorem dX6_bestTurn_32 : decode cX6_bestTurn 32 = .ok (.iload_n 2, 1) := by decide +kernel
theorem dX6_bestTurn_33 : decode cX6_bestTurn 33 = .ok (.istore_n 3, 1) := by decide +kernel
theorem dX6_bestTurn_34 : decode cX6_bestTurn 34 = .ok (.iconst (-1), 1) := by decide +kernel
theorem dX6_bestTurn_35 : decode cX6_bestTurn 35 = .ok (.istore 4, 2) := by decide +kernel
theorem dX6_bestTurn_37 : decode cX6_bestTurn 37 = .ok (.iconst 0, 1) := by decide +kernel
theorem dX6_bestTurn_38 : decode cX6_bestTurn 38 = .ok (.istore 5, 2) := by decide +kernel
theorem dX6_bestTurn_40 : decode cX6_bestTurn 40 = .ok (.aload_n 0, 1) := by decide +kernel
theorem dX6_bestTurn_41 : decode cX6_bestTurn 41 = .ok (.invokevirtual 182, 3) := by decide +kernel
theorem dX6_bestTurn_44 : decode cX6_bestTurn 44 = .ok (.iconst 1, 1) := by decide +kernel
theorem dX6_bestTurn_45 : decode cX6_bestTurn 45 = .ok (.istore 6, 2) := by decide +kernel
theorem dX6_bestTurn_47 : decode cX6_bestTurn 47 = .ok (.iload 6, 2) := by decide +kernel
theorem dX6_bestTurn_49 : decode cX6_bestTurn 49 = .ok (.bipush 99, 2) := by decide +kernel
theorem dX6_bestTurn_51 : decode cX6_bestTurn 51 = .ok (.if_icmp .ge 105, 3) := by decide +kernel
theorem dX6_bestTurn_54 : decode cX6_bestTurn 54 = .ok (.iconst 0, 1) := by decide +kernel
theorem dX6_bestTurn_55 : decode cX6_bestTurn 55 = .ok (.istore 7, 2) := by decide +kernel
theorem dX6_bestTurn_57 : decode cX6_bestTurn 57 = .ok (.iload 7, 2) := by decide +kernel
theorem dX6_bestTurn_59 : decode cX6_bestTurn 59 = .ok (.iconst 2, 1) := by decide +kernel
theorem dX6_bestTurn_60 : decode cX6_bestTurn 60 = .ok (.aload_n 0, 1) := by decide +kernel
theorem dX6_bestTurn_61 : decode cX6_bestTurn 61 = .ok (.invokevirtual 72, 3) := by decide +kernel
theorem dX6_bestTurn_64 : decode cX6_bestTurn 64 = .ok (.imul, 1) := by decide +kernel
theorem dX6_bestTurn_65 : decode cX6_bestTurn 65 = .ok (.if_icmp .ge 85, 3) := by decide +kernel
theorem dX6_bestTurn_68 : decode cX6_bestTurn 68 = .ok (.iload 7, 2) := by decide +kernel
theorem dX6_bestTurn_70 : decode cX6_bestTurn 70 = .ok (.iconst 2, 1) := by decide +kernel
theorem dX6_bestTurn_71 : decode cX6_bestTurn 71 = .ok (.irem, 1) := by decide +kernel
theorem dX6_bestTurn_72 : decode cX6_bestTurn 72 = .ok (.ifCond .ne 8, 3) := by decide +kernel
theorem dX6_bestTurn_75 : decode cX6_bestTurn 75 = .ok (.iload 6, 2) := by decide +kernel
theorem dX6_bestTurn_77 : decode cX6_bestTurn 77 = .ok (.goto 6, 3) := by decide +kernel
theorem dX6_bestTurn_80 : decode cX6_bestTurn 80 = .ok (.iload 6, 2) := by decide +kernel
theorem dX6_bestTurn_82 : decode cX6_bestTurn 82 = .ok (.ineg, 1) := by decide +kernel
theorem dX6_bestTurn_83 : decode cX6_bestTurn 83 = .ok (.istore 8, 2) := by decide +kernel
theorem dX6_bestTurn_85 : decode cX6_bestTurn 85 = .ok (.aload_n 0, 1) := by decide +kernel
theorem dX6_bestTurn_86 : decode cX6_bestTurn 86 = .ok (.iload 7, 2) := by decide +kernel
theorem dX6_bestTurn_88 : decode cX6_bestTurn 88 = .ok (.iconst 2, 1) := by decide +kernel
theorem dX6_bestTurn_89 : decode cX6_bestTurn 89 = .ok (.idiv, 1) := by decide +kernel
theorem dX6_bestTurn_90 : decode cX6_bestTurn 90 = .ok (.iload 8, 2) := by decide +kernel
theorem dX6_bestTurn_92 : decode cX6_bestTurn 92 = .ok (.invokevirtual 101, 3) := by decide +kernel
theorem dX6_bestTurn_95 : decode cX6_bestTurn 95 = .ok (.ifCond .ne 6, 3) := by decide +kernel
theorem dX6_bestTurn_98 : decode cX6_bestTurn 98 = .ok (.goto 46, 3) := by decide +kernel
theorem dX6_bestTurn_101 : decode cX6_bestTurn 101 = .ok (.aload_n 0, 1) := by decide +kernel
theorem dX6_bestTurn_102 : decode cX6_bestTurn 102 = .ok (.iload 7, 2) := by decide +kernel
theorem dX6_bestTurn_104 : decode cX6_bestTurn 104 = .ok (.iconst 2, 1) := by decide +kernel
theorem dX6_bestTurn_105 : decode cX6_bestTurn 105 = .ok (.idiv, 1) := by decide +kernel
theorem dX6_bestTurn_106 : decode cX6_bestTurn 106 = .ok (.iload 8, 2) := by decide +kernel
theorem dX6_bestTurn_108 : decode cX6_bestTurn 108 = .ok (.invokevirtual 104, 3) := by decide +kernel
theorem dX6_bestTurn_111 : decode cX6_bestTurn 111 = .ok (.aload_n 0, 1) := by decide +kernel
theorem dX6_bestTurn_112 : decode cX6_bestTurn 112 = .ok (.iload_n 3, 1) := by decide +kernel
theorem dX6_bestTurn_113 : decode cX6_bestTurn 113 = .ok (.invokevirtual 221, 3) := by decide +kernel
theorem dX6_bestTurn_116 : decode cX6_bestTurn 116 = .ok (.istore 9, 2) := by decide +kernel
theorem dX6_bestTurn_118 : decode cX6_bestTurn 118 = .ok (.aload_n 0, 1) := by decide +kernel
theorem dX6_bestTurn_119 : decode cX6_bestTurn 119 = .ok (.invokevirtual 188, 3) := by decide +kernel
theorem dX6_bestTurn_122 : decode cX6_bestTurn 122 = .ok (.iload 9, 2) := by decide +kernel
theorem dX6_bestTurn_124 : decode cX6_bestTurn 124 = .ok (.iconst (-1), 1) := by decide +kernel
theorem dX6_bestTurn_125 : decode cX6_bestTurn 125 = .ok (.if_icmp .ne 6, 3) := by decide +kernel
theorem dX6_bestTurn_128 : decode cX6_bestTurn 128 = .ok (.goto 16, 3) := by decide +kernel
theorem dX6_bestTurn_131 : decode cX6_bestTurn 131 = .ok (.iload 9, 2) := by decide +kernel
theorem dX6_bestTurn_133 : decode cX6_bestTurn 133 = .ok (.istore_n 3, 1) := by decide +kernel
theorem dX6_bestTurn_134 : decode cX6_bestTurn 134 = .ok (.iload 7, 2) := by decide +kernel
theorem dX6_bestTurn_136 : decode cX6_bestTurn 136 = .ok (.iconst 2, 1) := by decide +kernel
theorem dX6_bestTurn_137 : decode cX6_bestTurn 137 = .ok (.idiv, 1) := by decide +kernel
theorem dX6_bestTurn_138 : decode cX6_bestTurn 138 = .ok (.istore 4, 2) := by decide +kernel
theorem dX6_bestTurn_140 : decode cX6_bestTurn 140 = .ok (.iload 8, 2) := by decide +kernel
theorem dX6_bestTurn_142 : decode cX6_bestTurn 142 = .ok (.istore 5, 2) := by decide +kernel
theorem dX6_bestTurn_144 : decode cX6_bestTurn 144 = .ok (.iinc 7 1, 3) := by decide +kernel
theorem dX6_bestTurn_147 : decode cX6_bestTurn 147 = .ok (.goto (-90), 3) := by decide +kernel
theorem dX6_bestTurn_150 : decode cX6_bestTurn 150 = .ok (.iinc 6 1, 3) := by decide +kernel
theorem dX6_bestTurn_153 : decode cX6_bestTurn 153 = .ok (.goto (-106), 3) := by decide +kernel
theorem dX6_bestTurn_156 : decode cX6_bestTurn 156 = .ok (.iload 4, 2) := by decide +kernel
theorem dX6_bestTurn_158 : decode cX6_bestTurn 158 = .ok (.iconst (-1), 1) := by decide +kernel
theorem dX6_bestTurn_159 : decode cX6_bestTurn 159 = .ok (.if_icmp .ne 6, 3) := by decide +kernel
theorem dX6_bestTurn_162 : decode cX6_bestTurn 162 = .ok (.bipush (-2), 2) := by decide +kernel
theorem dX6_bestTurn_164 : decode cX6_bestTurn 164 = .ok (.ireturn, 1) := by decide +kernel
theorem dX6_bestTurn_165 : decode cX6_bestTurn 165 = .ok (.iload_n 1, 1) := by decide +kernel
theorem dX6_bestTurn_166 : decode cX6_bestTurn 166 = .ok (.ifCond .ne 7, 3) := by decide +kernel
theorem dX6_bestTurn_169 : decode cX6_bestTurn 169 = .ok (.iload_n 3, 1) := by decide +kernel
theorem dX6_bestTurn_170 : decode cX6_bestTurn 170 = .ok (.goto 15, 3) := by decide +kernel
theorem dX6_bestTurn_173 : decode cX6_bestTurn 173 = .ok (.iload_n 1, 1) := by decide +kernel
theorem dX6_bestTurn_174 : decode cX6_bestTurn 174 = .ok (.iconst 1, 1) := by decide +kernel
theorem dX6_bestTurn_175 : decode cX6_bestTurn 175 = .ok (.if_icmp .ne 8, 3) := by decide +kernel
theorem dX6_bestTurn_178 : decode cX6_bestTurn 178 = .ok (.iload 4, 2) := by decide +kernel
theorem dX6_bestTurn_180 : decode cX6_bestTurn 180 = .ok (.goto 5, 3) := by decide +kernel
theorem dX6_bestTurn_183 : decode cX6_bestTurn 183 = .ok (.iload 5, 2) := by decide +kernel
theorem dX6_bestTurn_185 : decode cX6_bestTurn 185 = .ok (.ireturn, 1) := by decide +kernel
theorem dX6_bits_0 : decode cX6_bits 0 = .ok (.iconst 0, 1) := by decide +kernel
theorem dX6_bits_1 : decode cX6_bits 1 = .ok (.istore_n 1, 1) := by decide +kernel
theorem dX6_bits_2 : decode cX6_bits 2 = .ok (.iload_n 0, 1) := by decide +kernel
theorem dX6_bits_3 : decode cX6_bits 3 = .ok (.istore_n 2, 1) := by decide +kernel
theorem dX6_bits_4 : decode cX6_bits 4 = .ok (.iload_n 2, 1) := by decide +kernel
theorem dX6_bits_5 : decode cX6_bits 5 = .ok (.ifCond .le 16, 3) := by decide +kernel
theorem dX6_bits_8 : decode cX6_bits 8 = .ok (.iload_n 1, 1) := by decide +kernel
theorem dX6_bits_9 : decode cX6_bits 9 = .ok (.iload_n 2, 1) := by decide +kernel
theorem dX6_bits_10 : decode cX6_bits 10 = .ok (.iconst 2, 1) := by decide +kernel
theorem dX6_bits_11 : decode cX6_bits 11 = .ok (.irem, 1) := by decide +kernel
theorem dX6_bits_12 : decode cX6_bits 12 = .ok (.iadd, 1) := by decide +kernel
theorem dX6_bits_13 : decode cX6_bits 13 = .ok (.istore_n 1, 1) := by decide +kernel
theorem dX6_bits_14 : decode cX6_bits 14 = .ok (.iload_n 2, 1) := by decide +kernel
theorem dX6_bits_15 : decode cX6_bits 15 = .ok (.iconst 2, 1) := by decide +kernel
theorem dX6_bits_16 : decode cX6_bits 16 = .ok (.idiv, 1) := by decide +kernel
theorem dX6_bits_17 : decode cX6_bits 17 = .ok (.istore_n 2, 1) := by decide +kernel
theorem dX6_bits_18 : decode cX6_bits 18 = .ok (.goto (-14), 3) := by decide +kernel
theorem dX6_bits_21 : decode cX6_bits 21 = .ok (.iload_n 1, 1) := by decide +kernel
theorem dX6_bits_22 : decode cX6_bits 22 = .ok (.ireturn, 1) := by decide +kernel
theorem dX6_laysRow_0 : decode cX6_laysRow 0 = .ok (.iload_n 2, 1) := by decide +kernel
theorem dX6_laysRow_1 : decode cX6_laysRow 1 = .ok (.istore 4, 2) := by decide +kernel
theorem dX6_laysRow_3 : decode cX6_laysRow 3 = .ok (.iconst 0, 1) := by decide +kernel
theorem dX6_laysRow_4 : decode cX6_laysRow 4 = .ok (.istore 5, 2) := by decide +kernel
theorem dX6_laysRow_6 : decode cX6_laysRow 6 = .ok (.bipush 11, 2) := by decide +kernel
theorem dX6_laysRow_8 : decode cX6_laysRow 8 = .ok (.istore 6, 2) := by decide +kernel
theorem dX6_laysRow_10 : decode cX6_laysRow 10 = .ok (.iload 6, 2) := by decide +kernel
theorem dX6_laysRow_12 : decode cX6_laysRow 12 = .ok (.ifCond .lt 104, 3) := by decide +kernel
theorem dX6_laysRow_15 : decode cX6_laysRow 15 = .ok (.iload_n 1, 1) := by decide +kernel
theorem dX6_laysRow_16 : decode cX6_laysRow 16 = .ok (.iload 6, 2) := by decide +kernel
theorem dX6_laysRow_18 : decode cX6_laysRow 18 = .ok (.ishr, 1) := by decide +kernel
theorem dX6_laysRow_19 : decode cX6_laysRow 19 = .ok (.iconst 1, 1) := by decide +kernel
theorem dX6_laysRow_20 : decode cX6_laysRow 20 = .ok (.iand, 1) := by decide +kernel
theorem dX6_laysRow_21 : decode cX6_laysRow 21 = .ok (.ifCond .ne 6, 3) := by decide +kernel
theorem dX6_laysRow_24 : decode cX6_laysRow 24 = .ok (.goto 86, 3) := by decide +kernel
theorem dX6_laysRow_27 : decode cX6_laysRow 27 = .ok (.iload 4, 2) := by decide +kernel
theorem dX6_laysRow_29 : decode cX6_laysRow 29 = .ok (.iconst 3, 1) := by decide +kernel
theorem dX6_laysRow_30 : decode cX6_laysRow 30 = .ok (.irem, 1) := by decide +kernel
theorem dX6_laysRow_31 : decode cX6_laysRow 31 = .ok (.istore 7, 2) := by decide +kernel
theorem dX6_laysRow_33 : decode cX6_laysRow 33 = .ok (.iload 4, 2) := by decide +kernel
theorem dX6_laysRow_35 : decode cX6_laysRow 35 = .ok (.iconst 3, 1) := by decide +kernel
theorem dX6_laysRow_36 : decode cX6_laysRow 36 = .ok (.idiv, 1) := by decide +kernel
theorem dX6_laysRow_37 : decode cX6_laysRow 37 = .ok (.istore 4, 2) := by decide +kernel
theorem dX6_laysRow_39 : decode cX6_laysRow 39 = .ok (.iload 5, 2) := by decide +kernel
theorem dX6_laysRow_41 : decode cX6_laysRow 41 = .ok (.iload 7, 2) := by decide +kernel
theorem dX6_laysRow_43 : decode cX6_laysRow 43 = .ok (.ifCond .le 7, 3) := by decide +kernel
theorem dX6_laysRow_46 : decode cX6_laysRow 46 = .ok (.iconst 1, 1) := by decide +kernel
theorem dX6_laysRow_47 : decode cX6_laysRow 47 = .ok (.goto 4, 3) := by decide +kernel
theorem dX6_laysRow_50 : decode cX6_laysRow 50 = .ok (.iconst 0, 1) := by decide +kernel
theorem dX6_laysRow_51 : decode cX6_laysRow 51 = .ok (.iadd, 1) := by decide +kernel
theorem dX6_laysRow_52 : decode cX6_laysRow 52 = .ok (.istore 5, 2) := by decide +kernel
theorem dX6_laysRow_54 : decode cX6_laysRow 54 = .ok (.aload_n 0, 1) := by decide +kernel
theorem dX6_laysRow_55 : decode cX6_laysRow 55 = .ok (.iload 6, 2) := by decide +kernel
theorem dX6_laysRow_57 : decode cX6_laysRow 57 = .ok (.iconst 3, 1) := by decide +kernel
theorem dX6_laysRow_58 : decode cX6_laysRow 58 = .ok (.invokevirtual 97, 3) := by decide +kernel
theorem dX6_laysRow_61 : decode cX6_laysRow 61 = .ok (.aload_n 0, 1) := by decide +kernel
theorem dX6_laysRow_62 : decode cX6_laysRow 62 = .ok (.iload 6, 2) := by decide +kernel
theorem dX6_laysRow_64 : decode cX6_laysRow 64 = .ok (.iconst 4, 1) := by decide +kernel
theorem dX6_laysRow_65 : decode cX6_laysRow 65 = .ok (.invokevirtual 97, 3) := by decide +kernel
theorem dX6_laysRow_68 : decode cX6_laysRow 68 = .ok (.iadd, 1) := by decide +kernel
theorem dX6_laysRow_69 : decode cX6_laysRow 69 = .ok (.istore 8, 2) := by decide +kernel
theorem dX6_laysRow_71 : decode cX6_laysRow 71 = .ok (.iload_n 3, 1) := by decide +kernel
theorem dX6_laysRow_72 : decode cX6_laysRow 72 = .ok (.ifCond .eq 38, 3) := by decide +kernel
theorem dX6_laysRow_75 : decode cX6_laysRow 75 = .ok (.iload 7, 2) := by decide +kernel
theorem dX6_laysRow_77 : decode cX6_laysRow 77 = .ok (.ifCond .le 33, 3) := by decide +kernel
theorem dX6_laysRow_80 : decode cX6_laysRow 80 = .ok (.aload_n 0, 1) := by decide +kernel
theorem dX6_laysRow_81 : decode cX6_laysRow 81 = .ok (.iload 6, 2) := by decide +kernel
theorem dX6_laysRow_83 : decode cX6_laysRow 83 = .ok (.iload 7, 2) := by decide +kernel
theorem dX6_laysRow_85 : decode cX6_laysRow 85 = .ok (.iconst 1, 1) := by decide +kernel
theorem dX6_laysRow_86 : decode cX6_laysRow 86 = .ok (.if_icmp .ne 8, 3) := by decide +kernel
theorem dX6_laysRow_89 : decode cX6_laysRow 89 = .ok (.iload 8, 2) := by decide +kernel
theorem dX6_laysRow_91 : decode cX6_laysRow 91 = .ok (.goto 4, 3) := by decide +kernel
theorem dX6_laysRow_94 : decode cX6_laysRow 94 = .ok (.iconst 0, 1) := by decide +kernel
theorem dX6_laysRow_95 : decode cX6_laysRow 95 = .ok (.iload 7, 2) := by decide +kernel
theorem dX6_laysRow_97 : decode cX6_laysRow 97 = .ok (.iconst 1, 1) := by decide +kernel
theorem dX6_laysRow_98 : decode cX6_laysRow 98 = .ok (.if_icmp .ne 7, 3) := by decide +kernel
theorem dX6_laysRow_101 : decode cX6_laysRow 101 = .ok (.iconst 0, 1) := by decide +kernel
theorem dX6_laysRow_102 : decode cX6_laysRow 102 = .ok (.goto 5, 3) := by decide +kernel
theorem dX6_laysRow_105 : decode cX6_laysRow 105 = .ok (.iload 8, 2) := by decide +kernel
theorem dX6_laysRow_107 : decode cX6_laysRow 107 = .ok (.invokevirtual 230, 3) := by decide +kernel
theorem dX6_laysRow_110 : decode cX6_laysRow 110 = .ok (.iinc 6 (-1), 3) := by decide +kernel
theorem dX6_laysRow_113 : decode cX6_laysRow 113 = .ok (.goto (-103), 3) := by decide +kernel
theorem dX6_laysRow_116 : decode cX6_laysRow 116 = .ok (.iload 5, 2) := by decide +kernel
theorem dX6_laysRow_118 : decode cX6_laysRow 118 = .ok (.ireturn, 1) := by decide +kernel
theorem dX6_turns_0 : decode cX6_turns 0 = .ok (.aload_n 0, 1) := by decide +kernel
theorem dX6_turns_1 : decode cX6_turns 1 = .ok (.iconst 0, 1) := by decide +kernel
theorem dX6_turns_2 : decode cX6_turns 2 = .ok (.putfield 60, 3) := by decide +kernel
theorem dX6_turns_5 : decode cX6_turns 5 = .ok (.iload_n 1, 1) := by decide +kernel
theorem dX6_turns_6 : decode cX6_turns 6 = .ok (.iconst 0, 1) := by decide +kernel
theorem dX6_turns_7 : decode cX6_turns 7 = .ok (.iconst 1, 1) := by decide +kernel
theorem dX6_turns_8 : decode cX6_turns 8 = .ok (.aload_n 0, 1) := by decide +kernel
theorem dX6_turns_9 : decode cX6_turns 9 = .ok (.invokevirtual 72, 3) := by decide +kernel
theorem dX6_turns_12 : decode cX6_turns 12 = .ok (.ishl, 1) := by decide +kernel
theorem dX6_turns_13 : decode cX6_turns 13 = .ok (.iconst 1, 1) := by decide +kernel
theorem dX6_turns_14 : decode cX6_turns 14 = .ok (.isub, 1) := by decide +kernel
theorem dX6_turns_15 : decode cX6_turns 15 = .ok (.invokestatic 68, 3) := by decide +kernel
theorem dX6_turns_18 : decode cX6_turns 18 = .ok (.ifCond .eq 20, 3) := by decide +kernel
theorem dX6_turns_21 : decode cX6_turns 21 = .ok (.iload_n 1, 1) := by decide +kernel
theorem dX6_turns_22 : decode cX6_turns 22 = .ok (.invokestatic 237, 3) := by decide +kernel
theorem dX6_turns_25 : decode cX6_turns 25 = .ok (.iconst 4, 1) := by decide +kernel
theorem dX6_turns_26 : decode cX6_turns 26 = .ok (.if_icmp .gt 12, 3) := by decide +kernel
theorem dX6_turns_29 : decode cX6_turns 29 = .ok (.iload_n 2, 1) := by decide +kernel
theorem dX6_turns_30 : decode cX6_turns 30 = .ok (.iconst 0, 1) := by decide +kernel
theorem dX6_turns_31 : decode cX6_turns 31 = .ok (.iconst 1, 1) := by decide +kernel
theorem dX6_turns_32 : decode cX6_turns 32 = .ok (.invokestatic 68, 3) := by decide +kernel
theorem dX6_turns_35 : decode cX6_turns 35 = .ok (.ifCond .ne 6, 3) := by decide +kernel
theorem dX6_turns_38 : decode cX6_turns 38 = .ok (.bipush (-2), 2) := by decide +kernel
theorem dX6_turns_40 : decode cX6_turns 40 = .ok (.ireturn, 1) := by decide +kernel
theorem dX6_turns_41 : decode cX6_turns 41 = .ok (.aload_n 0, 1) := by decide +kernel
theorem dX6_turns_42 : decode cX6_turns 42 = .ok (.invokevirtual 224, 3) := by decide +kernel
theorem dX6_turns_45 : decode cX6_turns 45 = .ok (.istore_n 3, 1) := by decide +kernel
theorem dX6_turns_46 : decode cX6_turns 46 = .ok (.iconst 0, 1) := by decide +kernel
theorem dX6_turns_47 : decode cX6_turns 47 = .ok (.istore 4, 2) := by decide +kernel
theorem dX6_turns_49 : decode cX6_turns 49 = .ok (.iconst 1, 1) := by decide +kernel
theorem dX6_turns_50 : decode cX6_turns 50 = .ok (.istore 5, 2) := by decide +kernel
theorem dX6_turns_52 : decode cX6_turns 52 = .ok (.iconst 0, 1) := by decide +kernel
theorem dX6_turns_53 : decode cX6_turns 53 = .ok (.istore 6, 2) := by decide +kernel
theorem dX6_turns_55 : decode cX6_turns 55 = .ok (.iload 6, 2) := by decide +kernel
theorem dX6_turns_57 : decode cX6_turns 57 = .ok (.iload_n 1, 1) := by decide +kernel
theorem dX6_turns_58 : decode cX6_turns 58 = .ok (.invokestatic 237, 3) := by decide +kernel
theorem dX6_turns_61 : decode cX6_turns 61 = .ok (.if_icmp .ge 15, 3) := by decide +kernel
theorem dX6_turns_64 : decode cX6_turns 64 = .ok (.iload 5, 2) := by decide +kernel
theorem dX6_turns_66 : decode cX6_turns 66 = .ok (.iconst 3, 1) := by decide +kernel
theorem dX6_turns_67 : decode cX6_turns 67 = .ok (.imul, 1) := by decide +kernel
theorem dX6_turns_68 : decode cX6_turns 68 = .ok (.istore 5, 2) := by decide +kernel
theorem dX6_turns_70 : decode cX6_turns 70 = .ok (.iinc 6 1, 3) := by decide +kernel
theorem dX6_turns_73 : decode cX6_turns 73 = .ok (.goto (-18), 3) := by decide +kernel
theorem dX6_turns_76 : decode cX6_turns 76 = .ok (.aload_n 0, 1) := by decide +kernel
theorem dX6_turns_77 : decode cX6_turns 77 = .ok (.invokevirtual 182, 3) := by decide +kernel
theorem dX6_turns_80 : decode cX6_turns 80 = .ok (.iconst 1, 1) := by decide +kernel
theorem dX6_turns_81 : decode cX6_turns 81 = .ok (.istore 6, 2) := by decide +kernel
theorem dX6_turns_83 : decode cX6_turns 83 = .ok (.iload 6, 2) := by decide +kernel
theorem dX6_turns_85 : decode cX6_turns 85 = .ok (.iconst 4, 1) := by decide +kernel
theorem dX6_turns_86 : decode cX6_turns 86 = .ok (.if_icmp .gt 88, 3) := by decide +kernel
theorem dX6_turns_89 : decode cX6_turns 89 = .ok (.iconst 1, 1) := by decide +kernel
theorem dX6_turns_90 : decode cX6_turns 90 = .ok (.istore 7, 2) := by decide +kernel
theorem dX6_turns_92 : decode cX6_turns 92 = .ok (.iload 7, 2) := by decide +kernel
theorem dX6_turns_94 : decode cX6_turns 94 = .ok (.iload 5, 2) := by decide +kernel
theorem dX6_turns_96 : decode cX6_turns 96 = .ok (.if_icmp .ge 72, 3) := by decide +kernel
theorem dX6_turns_99 : decode cX6_turns 99 = .ok (.aload_n 0, 1) := by decide +kernel
theorem dX6_turns_100 : decode cX6_turns 100 = .ok (.iload_n 1, 1) := by decide +kernel
theorem dX6_turns_101 : decode cX6_turns 101 = .ok (.iload 7, 2) := by decide +kernel
theorem dX6_turns_103 : decode cX6_turns 103 = .ok (.iconst 0, 1) := by decide +kernel
theorem dX6_turns_104 : decode cX6_turns 104 = .ok (.invokevirtual 240, 3) := by decide +kernel
theorem dX6_turns_107 : decode cX6_turns 107 = .ok (.iload 6, 2) := by decide +kernel
theorem dX6_turns_109 : decode cX6_turns 109 = .ok (.if_icmp .eq 6, 3) := by decide +kernel
theorem dX6_turns_112 : decode cX6_turns 112 = .ok (.goto 50, 3) := by decide +kernel
theorem dX6_turns_115 : decode cX6_turns 115 = .ok (.aload_n 0, 1) := by decide +kernel
theorem dX6_turns_116 : decode cX6_turns 116 = .ok (.iload_n 1, 1) := by decide +kernel
theorem dX6_turns_117 : decode cX6_turns 117 = .ok (.iload 7, 2) := by decide +kernel
theorem dX6_turns_119 : decode cX6_turns 119 = .ok (.iconst 1, 1) := by decide +kernel
theorem dX6_turns_120 : decode cX6_turns 120 = .ok (.invokevirtual 240, 3) := by decide +kernel
theorem dX6_turns_123 : decode cX6_turns 123 = .ok (.istore 6, 2) := by decide +kernel
theorem dX6_turns_125 : decode cX6_turns 125 = .ok (.aload_n 0, 1) := by decide +kernel
theorem dX6_turns_126 : decode cX6_turns 126 = .ok (.iload_n 3, 1) := by decide +kernel
theorem dX6_turns_127 : decode cX6_turns 127 = .ok (.iconst (-1), 1) := by decide +kernel
theorem dX6_turns_128 : decode cX6_turns 128 = .ok (.if_icmp .ne 8, 3) := by decide +kernel
theorem dX6_turns_131 : decode cX6_turns 131 = .ok (.bipush 41, 2) := by decide +kernel
theorem dX6_turns_133 : decode cX6_turns 133 = .ok (.goto 4, 3) := by decide +kernel
theorem dX6_turns_136 : decode cX6_turns 136 = .ok (.iload_n 3, 1) := by decide +kernel
theorem dX6_turns_137 : decode cX6_turns 137 = .ok (.invokevirtual 221, 3) := by decide +kernel
theorem dX6_turns_140 : decode cX6_turns 140 = .ok (.istore 8, 2) := by decide +kernel
theorem dX6_turns_142 : decode cX6_turns 142 = .ok (.aload_n 0, 1) := by decide +kernel
theorem dX6_turns_143 : decode cX6_turns 143 = .ok (.invokevirtual 188, 3) := by decide +kernel
theorem dX6_turns_146 : decode cX6_turns 146 = .ok (.iload 8, 2) := by decide +kernel
theorem dX6_turns_148 : decode cX6_turns 148 = .ok (.iconst (-1), 1) := by decide +kernel
theorem dX6_turns_149 : decode cX6_turns 149 = .ok (.if_icmp .ne 6, 3) := by decide +kernel
theorem dX6_turns_152 : decode cX6_turns 152 = .ok (.goto 10, 3) := by decide +kernel
theorem dX6_turns_155 : decode cX6_turns 155 = .ok (.iload 8, 2) := by decide +kernel
theorem dX6_turns_157 : decode cX6_turns 157 = .ok (.istore_n 3, 1) := by decide +kernel
theorem dX6_turns_158 : decode cX6_turns 158 = .ok (.iload 7, 2) := by decide +kernel
theorem dX6_turns_160 : decode cX6_turns 160 = .ok (.istore 4, 2) := by decide +kernel
theorem dX6_turns_162 : decode cX6_turns 162 = .ok (.iinc 7 1, 3) := by decide +kernel
theorem dX6_turns_165 : decode cX6_turns 165 = .ok (.goto (-73), 3) := by decide +kernel
theorem dX6_turns_168 : decode cX6_turns 168 = .ok (.iinc 6 1, 3) := by decide +kernel
theorem dX6_turns_171 : decode cX6_turns 171 = .ok (.goto (-88), 3) := by decide +kernel
theorem dX6_turns_174 : decode cX6_turns 174 = .ok (.iload_n 2, 1) := by decide +kernel
theorem dX6_turns_175 : decode cX6_turns 175 = .ok (.ifCond .ne 7, 3) := by decide +kernel
theorem dX6_turns_178 : decode cX6_turns 178 = .ok (.iload_n 3, 1) := by decide +kernel
theorem dX6_turns_179 : decode cX6_turns 179 = .ok (.goto 5, 3) := by decide +kernel
theorem dX6_turns_182 : decode cX6_turns 182 = .ok (.iload 4, 2) := by decide +kernel
theorem dX6_turns_184 : decode cX6_turns 184 = .ok (.ireturn, 1) := by decide +kernel
theorem dX6_with_0 : decode cX6_with 0 = .ok (.aload_n 0, 1) := by decide +kernel
theorem dX6_with_1 : decode cX6_with 1 = .ok (.invokevirtual 182, 3) := by decide +kernel
theorem dX6_with_4 : decode cX6_with 4 = .ok (.aload_n 0, 1) := by decide +kernel
theorem dX6_with_5 : decode cX6_with 5 = .ok (.getfield 7, 3) := by decide +kernel
theorem dX6_with_8 : decode cX6_with 8 = .ok (.iconst 3, 1) := by decide +kernel
theorem dX6_with_9 : decode cX6_with 9 = .ok (.iconst 4, 1) := by decide +kernel
theorem dX6_with_10 : decode cX6_with 10 = .ok (.iload_n 1, 1) := by decide +kernel
theorem dX6_with_11 : decode cX6_with 11 = .ok (.imul, 1) := by decide +kernel
theorem dX6_with_12 : decode cX6_with 12 = .ok (.iadd, 1) := by decide +kernel
theorem dX6_with_13 : decode cX6_with 13 = .ok (.iload_n 2, 1) := by decide +kernel
theorem dX6_with_14 : decode cX6_with 14 = .ok (.iadd, 1) := by decide +kernel
theorem dX6_with_15 : decode cX6_with 15 = .ok (.iload_n 3, 1) := by decide +kernel
theorem dX6_with_16 : decode cX6_with 16 = .ok (.iastore, 1) := by decide +kernel
theorem dX6_with_17 : decode cX6_with 17 = .ok (.aload_n 0, 1) := by decide +kernel
theorem dX6_with_18 : decode cX6_with 18 = .ok (.invokevirtual 224, 3) := by decide +kernel
theorem dX6_with_21 : decode cX6_with 21 = .ok (.istore 4, 2) := by decide +kernel
theorem dX6_with_23 : decode cX6_with 23 = .ok (.aload_n 0, 1) := by decide +kernel
theorem dX6_with_24 : decode cX6_with 24 = .ok (.invokevirtual 188, 3) := by decide +kernel
theorem dX6_with_27 : decode cX6_with 27 = .ok (.iload 4, 2) := by decide +kernel
theorem dX6_with_29 : decode cX6_with 29 = .ok (.ireturn, 1) := by decide +kernel
theorem dX6_roomy_0 : decode cX6_roomy 0 = .ok (.aload_n 0, 1) := by decide +kernel
theorem dX6_roomy_1 : decode cX6_roomy 1 = .ok (.iconst 0, 1) := by decide +kernel
theorem dX6_roomy_2 : decode cX6_roomy 2 = .ok (.putfield 60, 3) := by decide +kernel
theorem dX6_roomy_5 : decode cX6_roomy 5 = .ok (.aload_n 0, 1) := by decide +kernel
theorem dX6_roomy_6 : decode cX6_roomy 6 = .ok (.iload_n 1, 1) := by decide +kernel
theorem dX6_roomy_7 : decode cX6_roomy 7 = .ok (.invokevirtual 86, 3) := by decide +kernel
theorem dX6_roomy_10 : decode cX6_roomy 10 = .ok (.ifCond .eq 21, 3) := by decide +kernel
theorem dX6_roomy_13 : decode cX6_roomy 13 = .ok (.iconst 1, 1) := by decide +kernel
theorem dX6_roomy_14 : decode cX6_roomy 14 = .ok (.iload_n 2, 1) := by decide +kernel
theorem dX6_roomy_15 : decode cX6_roomy 15 = .ok (.invokestatic 78, 3) := by decide +kernel
theorem dX6_roomy_18 : decode cX6_roomy 18 = .ok (.ifCond .eq 13, 3) := by decide +kernel
theorem dX6_roomy_21 : decode cX6_roomy 21 = .ok (.aload_n 0, 1) := by decide +kernel
theorem dX6_roomy_22 : decode cX6_roomy 22 = .ok (.iload_n 1, 1) := by decide +kernel
theorem dX6_roomy_23 : decode cX6_roomy 23 = .ok (.iconst 1, 1) := by decide +kernel
theorem dX6_roomy_24 : decode cX6_roomy 24 = .ok (.iload_n 2, 1) := by decide +kernel
theorem dX6_roomy_25 : decode cX6_roomy 25 = .ok (.invokevirtual 244, 3) := by decide +kernel
theorem dX6_roomy_28 : decode cX6_roomy 28 = .ok (.goto 5, 3) := by decide +kernel
theorem dX6_roomy_31 : decode cX6_roomy 31 = .ok (.bipush (-2), 2) := by decide +kernel
theorem dX6_roomy_33 : decode cX6_roomy 33 = .ok (.ireturn, 1) := by decide +kernel
theorem dX6_best_0 : decode cX6_best 0 = .ok (.aload_n 0, 1) := by decide +kernel
theorem dX6_best_1 : decode cX6_best 1 = .ok (.iconst 0, 1) := by decide +kernel
theorem dX6_best_2 : decode cX6_best 2 = .ok (.putfield 60, 3) := by decide +kernel
theorem dX6_best_5 : decode cX6_best 5 = .ok (.aload_n 0, 1) := by decide +kernel
theorem dX6_best_6 : decode cX6_best 6 = .ok (.invokevirtual 64, 3) := by decide +kernel
theorem dX6_best_9 : decode cX6_best 9 = .ok (.ifCond .eq 14, 3) := by decide +kernel
theorem dX6_best_12 : decode cX6_best 12 = .ok (.iload_n 1, 1) := by decide +kernel
theorem dX6_best_13 : decode cX6_best 13 = .ok (.iconst 1, 1) := by decide +kernel
theorem dX6_best_14 : decode cX6_best 14 = .ok (.sipush 300, 3) := by decide +kernel
theorem dX6_best_17 : decode cX6_best 17 = .ok (.invokestatic 68, 3) := by decide +kernel
theorem dX6_best_20 : decode cX6_best 20 = .ok (.ifCond .ne 6, 3) := by decide +kernel
theorem dX6_best_23 : decode cX6_best 23 = .ok (.bipush (-2), 2) := by decide +kernel
theorem dX6_best_25 : decode cX6_best 25 = .ok (.ireturn, 1) := by decide +kernel
theorem dX6_best_26 : decode cX6_best 26 = .ok (.iconst 0, 1) := by decide +kernel
theorem dX6_best_27 : decode cX6_best 27 = .ok (.istore_n 2, 1) := by decide +kernel
theorem dX6_best_28 : decode cX6_best 28 = .ok (.bipush 99, 2) := by decide +kernel
theorem dX6_best_30 : decode cX6_best 30 = .ok (.istore_n 3, 1) := by decide +kernel
theorem dX6_best_31 : decode cX6_best 31 = .ok (.iconst 0, 1) := by decide +kernel
theorem dX6_best_32 : decode cX6_best 32 = .ok (.istore 4, 2) := by decide +kernel
theorem dX6_best_34 : decode cX6_best 34 = .ok (.iload 4, 2) := by decide +kernel
theorem dX6_best_36 : decode cX6_best 36 = .ok (.aload_n 0, 1) := by decide +kernel
theorem dX6_best_37 : decode cX6_best 37 = .ok (.invokevirtual 64, 3) := by decide +kernel
theorem dX6_best_40 : decode cX6_best 40 = .ok (.if_icmp .ge 54, 3) := by decide +kernel
theorem dX6_best_43 : decode cX6_best 43 = .ok (.aload_n 0, 1) := by decide +kernel
theorem dX6_best_44 : decode cX6_best 44 = .ok (.iload 4, 2) := by decide +kernel
theorem dX6_best_46 : decode cX6_best 46 = .ok (.iconst 1, 1) := by decide +kernel
theorem dX6_best_47 : decode cX6_best 47 = .ok (.sipush 300, 3) := by decide +kernel
theorem dX6_best_50 : decode cX6_best 50 = .ok (.aload_n 0, 1) := by decide +kernel
theorem dX6_best_51 : decode cX6_best 51 = .ok (.iload 4, 2) := by decide +kernel
theorem dX6_best_53 : decode cX6_best 53 = .ok (.iconst 1, 1) := by decide +kernel
theorem dX6_best_54 : decode cX6_best 54 = .ok (.invokevirtual 108, 3) := by decide +kernel
theorem dX6_best_57 : decode cX6_best 57 = .ok (.iload_n 1, 1) := by decide +kernel
theorem dX6_best_58 : decode cX6_best 58 = .ok (.iadd, 1) := by decide +kernel
theorem dX6_best_59 : decode cX6_best 59 = .ok (.invokestatic 124, 3) := by decide +kernel
theorem dX6_best_62 : decode cX6_best 62 = .ok (.invokevirtual 244, 3) := by decide +kernel
theorem dX6_best_65 : decode cX6_best 65 = .ok (.istore 5, 2) := by decide +kernel
theorem dX6_best_67 : decode cX6_best 67 = .ok (.iload 5, 2) := by decide +kernel
theorem dX6_best_69 : decode cX6_best 69 = .ok (.iconst (-1), 1) := by decide +kernel
theorem dX6_best_70 : decode cX6_best 70 = .ok (.if_icmp .eq 18, 3) := by decide +kernel
theorem dX6_best_73 : decode cX6_best 73 = .ok (.iload 5, 2) := by decide +kernel
theorem dX6_best_75 : decode cX6_best 75 = .ok (.iload_n 3, 1) := by decide +kernel
theorem dX6_best_76 : decode cX6_best 76 = .ok (.if_icmp .lt 6, 3) := by decide +kernel
theorem dX6_best_79 : decode cX6_best 79 = .ok (.goto 9, 3) := by decide +kernel
theorem dX6_best_82 : decode cX6_best 82 = .ok (.iload 4, 2) := by decide +kernel
theorem dX6_best_84 : decode cX6_best 84 = .ok (.istore_n 2, 1) := by decide +kernel
theorem dX6_best_85 : decode cX6_best 85 = .ok (.iload 5, 2) := by decide +kernel
theorem dX6_best_87 : decode cX6_best 87 = .ok (.istore_n 3, 1) := by decide +kernel
theorem dX6_best_88 : decode cX6_best 88 = .ok (.iinc 4 1, 3) := by decide +kernel
theorem dX6_best_91 : decode cX6_best 91 = .ok (.goto (-57), 3) := by decide +kernel
theorem dX6_best_94 : decode cX6_best 94 = .ok (.iload_n 2, 1) := by decide +kernel
theorem dX6_best_95 : decode cX6_best 95 = .ok (.ireturn, 1) := by decide +kernel
theorem dX6_latest_0 : decode cX6_latest 0 = .ok (.aload_n 0, 1) := by decide +kernel
theorem dX6_latest_1 : decode cX6_latest 1 = .ok (.iconst 0, 1) := by decide +kernel
theorem dX6_latest_2 : decode cX6_latest 2 = .ok (.putfield 60, 3) := by decide +kernel
theorem dX6_latest_5 : decode cX6_latest 5 = .ok (.aload_n 0, 1) := by decide +kernel
theorem dX6_latest_6 : decode cX6_latest 6 = .ok (.iload_n 1, 1) := by decide +kernel
theorem dX6_latest_7 : decode cX6_latest 7 = .ok (.invokevirtual 86, 3) := by decide +kernel
theorem dX6_latest_10 : decode cX6_latest 10 = .ok (.ifCond .ne 6, 3) := by decide +kernel
theorem dX6_latest_13 : decode cX6_latest 13 = .ok (.bipush (-2), 2) := by decide +kernel
theorem dX6_latest_15 : decode cX6_latest 15 = .ok (.ireturn, 1) := by decide +kernel
theorem dX6_latest_16 : decode cX6_latest 16 = .ok (.aload_n 0, 1) := by decide +kernel
theorem dX6_latest_17 : decode cX6_latest 17 = .ok (.invokevirtual 224, 3) := by decide +kernel
theorem dX6_latest_20 : decode cX6_latest 20 = .ok (.istore_n 2, 1) := by decide +kernel
theorem dX6_latest_21 : decode cX6_latest 21 = .ok (.iload_n 2, 1) := by decide +kernel
theorem dX6_latest_22 : decode cX6_latest 22 = .ok (.iconst (-1), 1) := by decide +kernel
theorem dX6_latest_23 : decode cX6_latest 23 = .ok (.if_icmp .ne 5, 3) := by decide +kernel
theorem dX6_latest_26 : decode cX6_latest 26 = .ok (.iconst (-1), 1) := by decide +kernel
theorem dX6_latest_27 : decode cX6_latest 27 = .ok (.ireturn, 1) := by decide +kernel
theorem dX6_latest_28 : decode cX6_latest 28 = .ok (.aload_n 0, 1) := by decide +kernel
theorem dX6_latest_29 : decode cX6_latest 29 = .ok (.invokevirtual 182, 3) := by decide +kernel
theorem dX6_latest_32 : decode cX6_latest 32 = .ok (.bipush 20, 2) := by decide +kernel
theorem dX6_latest_34 : decode cX6_latest 34 = .ok (.istore_n 3, 1) := by decide +kernel
theorem dX6_latest_35 : decode cX6_latest 35 = .ok (.aload_n 0, 1) := by decide +kernel
theorem dX6_latest_36 : decode cX6_latest 36 = .ok (.getfield 7, 3) := by decide +kernel
theorem dX6_latest_39 : decode cX6_latest 39 = .ok (.iconst 3, 1) := by decide +kernel
theorem dX6_latest_40 : decode cX6_latest 40 = .ok (.iconst 4, 1) := by decide +kernel
theorem dX6_latest_41 : decode cX6_latest 41 = .ok (.iload_n 1, 1) := by decide +kernel
theorem dX6_latest_42 : decode cX6_latest 42 = .ok (.imul, 1) := by decide +kernel
theorem dX6_latest_43 : decode cX6_latest 43 = .ok (.iadd, 1) := by decide +kernel
theorem dX6_latest_44 : decode cX6_latest 44 = .ok (.iconst 2, 1) := by decide +kernel
theorem dX6_latest_45 : decode cX6_latest 45 = .ok (.iadd, 1) := by decide +kernel
theorem dX6_latest_46 : decode cX6_latest 46 = .ok (.iload_n 3, 1) := by decide +kernel
theorem dX6_latest_47 : decode cX6_latest 47 = .ok (.iastore, 1) := by decide +kernel
theorem dX6_latest_48 : decode cX6_latest 48 = .ok (.aload_n 0, 1) := by decide +kernel
theorem dX6_latest_49 : decode cX6_latest 49 = .ok (.iload_n 2, 1) := by decide +kernel
theorem dX6_latest_50 : decode cX6_latest 50 = .ok (.invokevirtual 218, 3) := by decide +kernel
theorem dX6_latest_53 : decode cX6_latest 53 = .ok (.ifCond .ne 22, 3) := by decide +kernel
theorem dX6_latest_56 : decode cX6_latest 56 = .ok (.iinc 3 (-1), 3) := by decide +kernel
theorem dX6_latest_59 : decode cX6_latest 59 = .ok (.aload_n 0, 1) := by decide +kernel
theorem dX6_latest_60 : decode cX6_latest 60 = .ok (.getfield 7, 3) := by decide +kernel
theorem dX6_latest_63 : decode cX6_latest 63 = .ok (.iconst 3, 1) := by decide +kernel
theorem dX6_latest_64 : decode cX6_latest 64 = .ok (.iconst 4, 1) := by decide +kernel
theorem dX6_latest_65 : decode cX6_latest 65 = .ok (.iload_n 1, 1) := by decide +kernel
theorem dX6_latest_66 : decode cX6_latest 66 = .ok (.imul, 1) := by decide +kernel
theorem dX6_latest_67 : decode cX6_latest 67 = .ok (.iadd, 1) := by decide +kernel
theorem dX6_latest_68 : decode cX6_latest 68 = .ok (.iconst 2, 1) := by decide +kernel
theorem dX6_latest_69 : decode cX6_latest 69 = .ok (.iadd, 1) := by decide +kernel
theorem dX6_latest_70 : decode cX6_latest 70 = .ok (.iload_n 3, 1) := by decide +kernel
theorem dX6_latest_71 : decode cX6_latest 71 = .ok (.iastore, 1) := by decide +kernel
theorem dX6_latest_72 : decode cX6_latest 72 = .ok (.goto (-24), 3) := by decide +kernel
theorem dX6_latest_75 : decode cX6_latest 75 = .ok (.aload_n 0, 1) := by decide +kernel
theorem dX6_latest_76 : decode cX6_latest 76 = .ok (.invokevirtual 188, 3) := by decide +kernel
theorem dX6_latest_79 : decode cX6_latest 79 = .ok (.iload_n 3, 1) := by decide +kernel
theorem dX6_latest_80 : decode cX6_latest 80 = .ok (.ireturn, 1) := by decide +kernel
theorem dX6_worst_0 : decode cX6_worst 0 = .ok (.aload_n 0, 1) := by decide +kernel
theorem dX6_worst_1 : decode cX6_worst 1 = .ok (.iconst 0, 1) := by decide +kernel
theorem dX6_worst_2 : decode cX6_worst 2 = .ok (.putfield 60, 3) := by decide +kernel
theorem dX6_worst_5 : decode cX6_worst 5 = .ok (.aload_n 0, 1) := by decide +kernel
theorem dX6_worst_6 : decode cX6_worst 6 = .ok (.invokevirtual 72, 3) := by decide +kernel
theorem dX6_worst_9 : decode cX6_worst 9 = .ok (.ifCond .ne 6, 3) := by decide +kernel
theorem dX6_worst_12 : decode cX6_worst 12 = .ok (.bipush (-2), 2) := by decide +kernel
theorem dX6_worst_14 : decode cX6_worst 14 = .ok (.ireturn, 1) := by decide +kernel
theorem dX6_worst_15 : decode cX6_worst 15 = .ok (.iconst (-1), 1) := by decide +kernel
theorem dX6_worst_16 : decode cX6_worst 16 = .ok (.istore_n 1, 1) := by decide +kernel
theorem dX6_worst_17 : decode cX6_worst 17 = .ok (.iconst (-1), 1) := by decide +kernel
theorem dX6_worst_18 : decode cX6_worst 18 = .ok (.istore_n 2, 1) := by decide +kernel
theorem dX6_worst_19 : decode cX6_worst 19 = .ok (.iconst 0, 1) := by decide +kernel
theorem dX6_worst_20 : decode cX6_worst 20 = .ok (.istore_n 3, 1) := by decide +kernel
theorem dX6_worst_21 : decode cX6_worst 21 = .ok (.iload_n 3, 1) := by decide +kernel
theorem dX6_worst_22 : decode cX6_worst 22 = .ok (.aload_n 0, 1) := by decide +kernel
theorem dX6_worst_23 : decode cX6_worst 23 = .ok (.invokevirtual 72, 3) := by decide +kernel
theorem dX6_worst_26 : decode cX6_worst 26 = .ok (.if_icmp .ge 45, 3) := by decide +kernel
theorem dX6_worst_29 : decode cX6_worst 29 = .ok (.aload_n 0, 1) := by decide +kernel
theorem dX6_worst_30 : decode cX6_worst 30 = .ok (.iload_n 3, 1) := by decide +kernel
theorem dX6_worst_31 : decode cX6_worst 31 = .ok (.invokevirtual 248, 3) := by decide +kernel
theorem dX6_worst_34 : decode cX6_worst 34 = .ok (.istore 4, 2) := by decide +kernel
theorem dX6_worst_36 : decode cX6_worst 36 = .ok (.iload 4, 2) := by decide +kernel
theorem dX6_worst_38 : decode cX6_worst 38 = .ok (.iconst (-1), 1) := by decide +kernel
theorem dX6_worst_39 : decode cX6_worst 39 = .ok (.if_icmp .ne 8, 3) := by decide +kernel
theorem dX6_worst_42 : decode cX6_worst 42 = .ok (.bipush 99, 2) := by decide +kernel
theorem dX6_worst_44 : decode cX6_worst 44 = .ok (.goto 5, 3) := by decide +kernel
theorem dX6_worst_47 : decode cX6_worst 47 = .ok (.iload 4, 2) := by decide +kernel
theorem dX6_worst_49 : decode cX6_worst 49 = .ok (.istore 4, 2) := by decide +kernel
theorem dX6_worst_51 : decode cX6_worst 51 = .ok (.iload 4, 2) := by decide +kernel
theorem dX6_worst_53 : decode cX6_worst 53 = .ok (.iload_n 2, 1) := by decide +kernel
theorem dX6_worst_54 : decode cX6_worst 54 = .ok (.if_icmp .gt 6, 3) := by decide +kernel
theorem dX6_worst_57 : decode cX6_worst 57 = .ok (.goto 8, 3) := by decide +kernel
theorem dX6_worst_60 : decode cX6_worst 60 = .ok (.iload_n 3, 1) := by decide +kernel
theorem dX6_worst_61 : decode cX6_worst 61 = .ok (.istore_n 1, 1) := by decide +kernel
theorem dX6_worst_62 : decode cX6_worst 62 = .ok (.iload 4, 2) := by decide +kernel
theorem dX6_worst_64 : decode cX6_worst 64 = .ok (.istore_n 2, 1) := by decide +kernel
theorem dX6_worst_65 : decode cX6_worst 65 = .ok (.iinc 3 1, 3) := by decide +kernel
theorem dX6_worst_68 : decode cX6_worst 68 = .ok (.goto (-47), 3) := by decide +kernel
theorem dX6_worst_71 : decode cX6_worst 71 = .ok (.iload_n 1, 1) := by decide +kernel
theorem dX6_worst_72 : decode cX6_worst 72 = .ok (.ireturn, 1) := by decide +kernel
theorem dX6_lacks_0 : decode cX6_lacks 0 = .ok (.aload_n 0, 1) := by decide +kernel
theorem dX6_lacks_1 : decode cX6_lacks 1 = .ok (.iconst 0, 1) := by decide +kernel
theorem dX6_lacks_2 : decode cX6_lacks 2 = .ok (.putfield 60, 3) := by decide +kernel
theorem dX6_lacks_5 : decode cX6_lacks 5 = .ok (.iload_n 1, 1) := by decide +kernel
theorem dX6_lacks_6 : decode cX6_lacks 6 = .ok (.invokestatic 212, 3) := by decide +kernel
theorem dX6_lacks_9 : decode cX6_lacks 9 = .ok (.ifCond .eq 11, 3) := by decide +kernel
theorem dX6_lacks_12 : decode cX6_lacks 12 = .ok (.aload_n 0, 1) := by decide +kernel
theorem dX6_lacks_13 : decode cX6_lacks 13 = .ok (.iload_n 2, 1) := by decide +kernel
theorem dX6_lacks_14 : decode cX6_lacks 14 = .ok (.invokevirtual 94, 3) := by decide +kernel
theorem dX6_lacks_17 : decode cX6_lacks 17 = .ok (.ifCond .ne 6, 3) := by decide +kernel
theorem dX6_lacks_20 : decode cX6_lacks 20 = .ok (.bipush (-2), 2) := by decide +kernel
theorem dX6_lacks_22 : decode cX6_lacks 22 = .ok (.ireturn, 1) := by decide +kernel
theorem dX6_lacks_23 : decode cX6_lacks 23 = .ok (.aload_n 0, 1) := by decide +kernel
theorem dX6_lacks_24 : decode cX6_lacks 24 = .ok (.invokevirtual 182, 3) := by decide +kernel
theorem dX6_lacks_27 : decode cX6_lacks 27 = .ok (.iconst 0, 1) := by decide +kernel
theorem dX6_lacks_28 : decode cX6_lacks 28 = .ok (.istore 4, 2) := by decide +kernel
theorem dX6_lacks_30 : decode cX6_lacks 30 = .ok (.iload 4, 2) := by decide +kernel
theorem dX6_lacks_32 : decode cX6_lacks 32 = .ok (.bipush 30, 2) := by decide +kernel
theorem dX6_lacks_34 : decode cX6_lacks 34 = .ok (.if_icmp .gt 42, 3) := by decide +kernel
theorem dX6_lacks_37 : decode cX6_lacks 37 = .ok (.aload_n 0, 1) := by decide +kernel
theorem dX6_lacks_38 : decode cX6_lacks 38 = .ok (.iload_n 1, 1) := by decide +kernel
theorem dX6_lacks_39 : decode cX6_lacks 39 = .ok (.invokevirtual 218, 3) := by decide +kernel
theorem dX6_lacks_42 : decode cX6_lacks 42 = .ok (.ifCond .ne 34, 3) := by decide +kernel
theorem dX6_lacks_45 : decode cX6_lacks 45 = .ok (.iinc 4 1, 3) := by decide +kernel
theorem dX6_lacks_48 : decode cX6_lacks 48 = .ok (.aload_n 0, 1) := by decide +kernel
theorem dX6_lacks_49 : decode cX6_lacks 49 = .ok (.getfield 7, 3) := by decide +kernel
theorem dX6_lacks_52 : decode cX6_lacks 52 = .ok (.bipush 35, 2) := by decide +kernel
theorem dX6_lacks_54 : decode cX6_lacks 54 = .ok (.iconst 5, 1) := by decide +kernel
theorem dX6_lacks_55 : decode cX6_lacks 55 = .ok (.iload_n 2, 1) := by decide +kernel
theorem dX6_lacks_56 : decode cX6_lacks 56 = .ok (.imul, 1) := by decide +kernel
theorem dX6_lacks_57 : decode cX6_lacks 57 = .ok (.iadd, 1) := by decide +kernel
theorem dX6_lacks_58 : decode cX6_lacks 58 = .ok (.iload_n 3, 1) := by decide +kernel
theorem dX6_lacks_59 : decode cX6_lacks 59 = .ok (.ifCond .eq 7, 3) := by decide +kernel
theorem dX6_lacks_62 : decode cX6_lacks 62 = .ok (.iconst 4, 1) := by decide +kernel
theorem dX6_lacks_63 : decode cX6_lacks 63 = .ok (.goto 4, 3) := by decide +kernel
theorem dX6_lacks_66 : decode cX6_lacks 66 = .ok (.iconst 3, 1) := by decide +kernel
theorem dX6_lacks_67 : decode cX6_lacks 67 = .ok (.iadd, 1) := by decide +kernel
theorem dX6_lacks_68 : decode cX6_lacks 68 = .ok (.dup2, 1) := by decide +kernel
theorem dX6_lacks_69 : decode cX6_lacks 69 = .ok (.iaload, 1) := by decide +kernel
theorem dX6_lacks_70 : decode cX6_lacks 70 = .ok (.iconst 1, 1) := by decide +kernel
theorem dX6_lacks_71 : decode cX6_lacks 71 = .ok (.iadd, 1) := by decide +kernel
theorem dX6_lacks_72 : decode cX6_lacks 72 = .ok (.iastore, 1) := by decide +kernel
theorem dX6_lacks_73 : decode cX6_lacks 73 = .ok (.goto (-43), 3) := by decide +kernel
theorem dX6_lacks_76 : decode cX6_lacks 76 = .ok (.aload_n 0, 1) := by decide +kernel
theorem dX6_lacks_77 : decode cX6_lacks 77 = .ok (.invokevirtual 188, 3) := by decide +kernel
theorem dX6_lacks_80 : decode cX6_lacks 80 = .ok (.iload 4, 2) := by decide +kernel
theorem dX6_lacks_82 : decode cX6_lacks 82 = .ok (.bipush 30, 2) := by decide +kernel
theorem dX6_lacks_84 : decode cX6_lacks 84 = .ok (.if_icmp .le 7, 3) := by decide +kernel
theorem dX6_lacks_87 : decode cX6_lacks 87 = .ok (.iconst (-1), 1) := by decide +kernel
theorem dX6_lacks_88 : decode cX6_lacks 88 = .ok (.goto 5, 3) := by decide +kernel
theorem dX6_lacks_91 : decode cX6_lacks 91 = .ok (.iload 4, 2) := by decide +kernel
theorem dX6_lacks_93 : decode cX6_lacks 93 = .ok (.ireturn, 1) := by decide +kernel
theorem dX6_leaving_0 : decode cX6_leaving 0 = .ok (.iload_n 2, 1) := by decide +kernel
theorem dX6_leaving_1 : decode cX6_leaving 1 = .ok (.aload_n 0, 1) := by decide +kernel
theorem dX6_leaving_2 : decode cX6_leaving 2 = .ok (.iload_n 1, 1) := by decide +kernel
theorem dX6_leaving_3 : decode cX6_leaving 3 = .ok (.iconst 2, 1) := by decide +kernel
theorem dX6_leaving_4 : decode cX6_leaving 4 = .ok (.invokevirtual 108, 3) := by decide +kernel
theorem dX6_leaving_7 : decode cX6_leaving 7 = .ok (.if_icmp .lt 12, 3) := by decide +kernel
theorem dX6_leaving_10 : decode cX6_leaving 10 = .ok (.aload_n 0, 1) := by decide +kernel
theorem dX6_leaving_11 : decode cX6_leaving 11 = .ok (.getfield 45, 3) := by decide +kernel
theorem dX6_leaving_14 : decode cX6_leaving 14 = .ok (.iload_n 1, 1) := by decide +kernel
theorem dX6_leaving_15 : decode cX6_leaving 15 = .ok (.iaload, 1) := by decide +kernel
theorem dX6_leaving_16 : decode cX6_leaving 16 = .ok (.goto 4, 3) := by decide +kernel
theorem dX6_leaving_19 : decode cX6_leaving 19 = .ok (.iconst 0, 1) := by decide +kernel
theorem dX6_leaving_20 : decode cX6_leaving 20 = .ok (.ireturn, 1) := by decide +kernel
theorem dX6_shelters_0 : decode cX6_shelters 0 = .ok (.aload_n 0, 1) := by decide +kernel
theorem dX6_shelters_1 : decode cX6_shelters 1 = .ok (.iload_n 1, 1) := by decide +kernel
theorem dX6_shelters_2 : decode cX6_shelters 2 = .ok (.iconst 1, 1) := by decide +kernel
theorem dX6_shelters_3 : decode cX6_shelters 3 = .ok (.invokevirtual 108, 3) := by decide +kernel
theorem dX6_shelters_6 : decode cX6_shelters 6 = .ok (.aload_n 0, 1) := by decide +kernel
theorem dX6_shelters_7 : decode cX6_shelters 7 = .ok (.getfield 51, 3) := by decide +kernel
theorem dX6_shelters_10 : decode cX6_shelters 10 = .ok (.iload_n 1, 1) := by decide +kernel
theorem dX6_shelters_11 : decode cX6_shelters 11 = .ok (.iaload, 1) := by decide +kernel
theorem dX6_shelters_12 : decode cX6_shelters 12 = .ok (.isub, 1) := by decide +kernel
theorem dX6_shelters_13 : decode cX6_shelters 13 = .ok (.istore_n 3, 1) := by decide +kernel
theorem dX6_shelters_14 : decode cX6_shelters 14 = .ok (.iload_n 3, 1) := by decide +kernel
theorem dX6_shelters_15 : decode cX6_shelters 15 = .ok (.aload_n 0, 1) := by decide +kernel
theorem dX6_shelters_16 : decode cX6_shelters 16 = .ok (.getfield 48, 3) := by decide +kernel
theorem dX6_shelters_19 : decode cX6_shelters 19 = .ok (.iload_n 1, 1) := by decide +kernel
theorem dX6_shelters_20 : decode cX6_shelters 20 = .ok (.iaload, 1) := by decide +kernel
theorem dX6_shelters_21 : decode cX6_shelters 21 = .ok (.invokestatic 124, 3) := by decide +kernel
theorem dX6_shelters_24 : decode cX6_shelters 24 = .ok (.istore 4, 2) := by decide +kernel
theorem dX6_shelters_26 : decode cX6_shelters 26 = .ok (.iload_n 3, 1) := by decide +kernel
theorem dX6_shelters_27 : decode cX6_shelters 27 = .ok (.iload 4, 2) := by decide +kernel
theorem dX6_shelters_29 : decode cX6_shelters 29 = .ok (.isub, 1) := by decide +kernel
theorem dX6_shelters_30 : decode cX6_shelters 30 = .ok (.aload_n 0, 1) := by decide +kernel
theorem dX6_shelters_31 : decode cX6_shelters 31 = .ok (.iload_n 1, 1) := by decide +kernel
theorem dX6_shelters_32 : decode cX6_shelters 32 = .ok (.iload_n 2, 1) := by decide +kernel
theorem dX6_shelters_33 : decode cX6_shelters 33 = .ok (.invokevirtual 251, 3) := by decide +kernel
theorem dX6_shelters_36 : decode cX6_shelters 36 = .ok (.invokestatic 124, 3) := by decide +kernel
theorem dX6_shelters_39 : decode cX6_shelters 39 = .ok (.istore 5, 2) := by decide +kernel
theorem dX6_shelters_41 : decode cX6_shelters 41 = .ok (.aload_n 0, 1) := by decide +kernel
theorem dX6_shelters_42 : decode cX6_shelters 42 = .ok (.getfield 48, 3) := by decide +kernel
theorem dX6_shelters_45 : decode cX6_shelters 45 = .ok (.iload_n 1, 1) := by decide +kernel
theorem dX6_shelters_46 : decode cX6_shelters 46 = .ok (.dup2, 1) := by decide +kernel
theorem dX6_shelters_47 : decode cX6_shelters 47 = .ok (.iaload, 1) := by decide +kernel
theorem dX6_shelters_48 : decode cX6_shelters 48 = .ok (.iload 4, 2) := by decide +kernel
theorem dX6_shelters_50 : decode cX6_shelters 50 = .ok (.isub, 1) := by decide +kernel
theorem dX6_shelters_51 : decode cX6_shelters 51 = .ok (.iastore, 1) := by decide +kernel
theorem dX6_shelters_52 : decode cX6_shelters 52 = .ok (.aload_n 0, 1) := by decide +kernel
theorem dX6_shelters_53 : decode cX6_shelters 53 = .ok (.getfield 45, 3) := by decide +kernel
theorem dX6_shelters_56 : decode cX6_shelters 56 = .ok (.iload_n 1, 1) := by decide +kernel
theorem dX6_shelters_57 : decode cX6_shelters 57 = .ok (.dup2, 1) := by decide +kernel
theorem dX6_shelters_58 : decode cX6_shelters 58 = .ok (.iaload, 1) := by decide +kernel
theorem dX6_shelters_59 : decode cX6_shelters 59 = .ok (.iload 5, 2) := by decide +kernel
theorem dX6_shelters_61 : decode cX6_shelters 61 = .ok (.isub, 1) := by decide +kernel
theorem dX6_shelters_62 : decode cX6_shelters 62 = .ok (.iastore, 1) := by decide +kernel
theorem dX6_shelters_63 : decode cX6_shelters 63 = .ok (.aload_n 0, 1) := by decide +kernel
theorem dX6_shelters_64 : decode cX6_shelters 64 = .ok (.getfield 51, 3) := by decide +kernel
theorem dX6_shelters_67 : decode cX6_shelters 67 = .ok (.iload_n 1, 1) := by decide +kernel
theorem dX6_shelters_68 : decode cX6_shelters 68 = .ok (.dup2, 1) := by decide +kernel
theorem dX6_shelters_69 : decode cX6_shelters 69 = .ok (.iaload, 1) := by decide +kernel
theorem dX6_shelters_70 : decode cX6_shelters 70 = .ok (.iload 4, 2) := by decide +kernel
theorem dX6_shelters_72 : decode cX6_shelters 72 = .ok (.iload 5, 2) := by decide +kernel
theorem dX6_shelters_74 : decode cX6_shelters 74 = .ok (.iadd, 1) := by decide +kernel
theorem dX6_shelters_75 : decode cX6_shelters 75 = .ok (.iadd, 1) := by decide +kernel
theorem dX6_shelters_76 : decode cX6_shelters 76 = .ok (.iastore, 1) := by decide +kernel
theorem dX6_shelters_77 : decode cX6_shelters 77 = .ok (.iload 4, 2) := by decide +kernel
theorem dX6_shelters_79 : decode cX6_shelters 79 = .ok (.iload 5, 2) := by decide +kernel
theorem dX6_shelters_81 : decode cX6_shelters 81 = .ok (.iadd, 1) := by decide +kernel
theorem dX6_shelters_82 : decode cX6_shelters 82 = .ok (.ifCond .le 8, 3) := by decide +kernel
theorem dX6_shelters_85 : decode cX6_shelters 85 = .ok (.aload_n 0, 1) := by decide +kernel
theorem dX6_shelters_86 : decode cX6_shelters 86 = .ok (.iload_n 2, 1) := by decide +kernel
theorem dX6_shelters_87 : decode cX6_shelters 87 = .ok (.putfield 254, 3) := by decide +kernel
theorem dX6_shelters_90 : decode cX6_shelters 90 = .ok (.return_, 1) := by decide +kernel
theorem dX6_moves__0 : decode cX6_moves_ 0 = .ok (.aload_n 0, 1) := by decide +kernel
theorem dX6_moves__1 : decode cX6_moves_ 1 = .ok (.iload_n 1, 1) := by decide +kernel
theorem dX6_moves__2 : decode cX6_moves_ 2 = .ok (.iconst 1, 1) := by decide +kernel
theorem dX6_moves__3 : decode cX6_moves_ 3 = .ok (.invokevirtual 111, 3) := by decide +kernel
theorem dX6_moves__6 : decode cX6_moves_ 6 = .ok (.istore_n 3, 1) := by decide +kernel
theorem dX6_moves__7 : decode cX6_moves_ 7 = .ok (.aload_n 0, 1) := by decide +kernel
theorem dX6_moves__8 : decode cX6_moves_ 8 = .ok (.iload_n 1, 1) := by decide +kernel
theorem dX6_moves__9 : decode cX6_moves_ 9 = .ok (.iconst 2, 1) := by decide +kernel
theorem dX6_moves__10 : decode cX6_moves_ 10 = .ok (.invokevirtual 111, 3) := by decide +kernel
theorem dX6_moves__13 : decode cX6_moves_ 13 = .ok (.istore 4, 2) := by decide +kernel
theorem dX6_moves__15 : decode cX6_moves_ 15 = .ok (.aload_n 0, 1) := by decide +kernel
theorem dX6_moves__16 : decode cX6_moves_ 16 = .ok (.iload_n 1, 1) := by decide +kernel
theorem dX6_moves__17 : decode cX6_moves_ 17 = .ok (.iconst 3, 1) := by decide +kernel
theorem dX6_moves__18 : decode cX6_moves_ 18 = .ok (.invokevirtual 111, 3) := by decide +kernel
theorem dX6_moves__21 : decode cX6_moves_ 21 = .ok (.istore 5, 2) := by decide +kernel
theorem dX6_moves__23 : decode cX6_moves_ 23 = .ok (.aload_n 0, 1) := by decide +kernel
theorem dX6_moves__24 : decode cX6_moves_ 24 = .ok (.getfield 57, 3) := by decide +kernel
theorem dX6_moves__27 : decode cX6_moves_ 27 = .ok (.iconst 2, 1) := by decide +kernel
theorem dX6_moves__28 : decode cX6_moves_ 28 = .ok (.iload_n 3, 1) := by decide +kernel
theorem dX6_moves__29 : decode cX6_moves_ 29 = .ok (.imul, 1) := by decide +kernel
theorem dX6_moves__30 : decode cX6_moves_ 30 = .ok (.iload 4, 2) := by decide +kernel
theorem dX6_moves__32 : decode cX6_moves_ 32 = .ok (.iadd, 1) := by decide +kernel
theorem dX6_moves__33 : decode cX6_moves_ 33 = .ok (.iaload, 1) := by decide +kernel
theorem dX6_moves__34 : decode cX6_moves_ 34 = .ok (.iload 5, 2) := by decide +kernel
theorem dX6_moves__36 : decode cX6_moves_ 36 = .ok (.iadd, 1) := by decide +kernel
theorem dX6_moves__37 : decode cX6_moves_ 37 = .ok (.aload_n 0, 1) := by decide +kernel
theorem dX6_moves__38 : decode cX6_moves_ 38 = .ok (.iload_n 3, 1) := by decide +kernel
theorem dX6_moves__39 : decode cX6_moves_ 39 = .ok (.iconst 3, 1) := by decide +kernel
theorem dX6_moves__40 : decode cX6_moves_ 40 = .ok (.iload 4, 2) := by decide +kernel
theorem dX6_moves__42 : decode cX6_moves_ 42 = .ok (.iadd, 1) := by decide +kernel
theorem dX6_moves__43 : decode cX6_moves_ 43 = .ok (.invokevirtual 97, 3) := by decide +kernel
theorem dX6_moves__46 : decode cX6_moves_ 46 = .ok (.if_icmp .le 5, 3) := by decide +kernel
theorem dX6_moves__49 : decode cX6_moves_ 49 = .ok (.iconst 1, 1) := by decide +kernel
theorem dX6_moves__50 : decode cX6_moves_ 50 = .ok (.ireturn, 1) := by decide +kernel
theorem dX6_moves__51 : decode cX6_moves_ 51 = .ok (.aload_n 0, 1) := by decide +kernel
theorem dX6_moves__52 : decode cX6_moves_ 52 = .ok (.iload_n 3, 1) := by decide +kernel
theorem dX6_moves__53 : decode cX6_moves_ 53 = .ok (.iload 4, 2) := by decide +kernel
theorem dX6_moves__55 : decode cX6_moves_ 55 = .ok (.ifCond .ne 7, 3) := by decide +kernel
theorem dX6_moves__58 : decode cX6_moves_ 58 = .ok (.iconst 0, 1) := by decide +kernel
theorem dX6_moves__59 : decode cX6_moves_ 59 = .ok (.goto 4, 3) := by decide +kernel
theorem dX6_moves__62 : decode cX6_moves_ 62 = .ok (.iconst 1, 1) := by decide +kernel
theorem dX6_moves__63 : decode cX6_moves_ 63 = .ok (.invokevirtual 97, 3) := by decide +kernel
theorem dX6_moves__66 : decode cX6_moves_ 66 = .ok (.istore 6, 2) := by decide +kernel
theorem dX6_moves__68 : decode cX6_moves_ 68 = .ok (.aload_n 0, 1) := by decide +kernel
theorem dX6_moves__69 : decode cX6_moves_ 69 = .ok (.getfield 48, 3) := by decide +kernel
theorem dX6_moves__72 : decode cX6_moves_ 72 = .ok (.iload 6, 2) := by decide +kernel
theorem dX6_moves__74 : decode cX6_moves_ 74 = .ok (.iaload, 1) := by decide +kernel
theorem dX6_moves__75 : decode cX6_moves_ 75 = .ok (.aload_n 0, 1) := by decide +kernel
theorem dX6_moves__76 : decode cX6_moves_ 76 = .ok (.iload 6, 2) := by decide +kernel
theorem dX6_moves__78 : decode cX6_moves_ 78 = .ok (.iload_n 2, 1) := by decide +kernel
theorem dX6_moves__79 : decode cX6_moves_ 79 = .ok (.invokevirtual 251, 3) := by decide +kernel
theorem dX6_moves__82 : decode cX6_moves_ 82 = .ok (.iadd, 1) := by decide +kernel
theorem dX6_moves__83 : decode cX6_moves_ 83 = .ok (.iload 5, 2) := by decide +kernel
theorem dX6_moves__85 : decode cX6_moves_ 85 = .ok (.if_icmp .ge 5, 3) := by decide +kernel
theorem dX6_moves__88 : decode cX6_moves_ 88 = .ok (.iconst 2, 1) := by decide +kernel
theorem dX6_moves__89 : decode cX6_moves_ 89 = .ok (.ireturn, 1) := by decide +kernel
theorem dX6_moves__90 : decode cX6_moves_ 90 = .ok (.aload_n 0, 1) := by decide +kernel
theorem dX6_moves__91 : decode cX6_moves_ 91 = .ok (.getfield 48, 3) := by decide +kernel
theorem dX6_moves__94 : decode cX6_moves_ 94 = .ok (.iload 6, 2) := by decide +kernel
theorem dX6_moves__96 : decode cX6_moves_ 96 = .ok (.iaload, 1) := by decide +kernel
theorem dX6_moves__97 : decode cX6_moves_ 97 = .ok (.iload 5, 2) := by decide +kernel
theorem dX6_moves__99 : decode cX6_moves_ 99 = .ok (.invokestatic 124, 3) := by decide +kernel
theorem dX6_moves__102 : decode cX6_moves_ 102 = .ok (.istore 7, 2) := by decide +kernel
theorem dX6_moves__104 : decode cX6_moves_ 104 = .ok (.aload_n 0, 1) := by decide +kernel
theorem dX6_moves__105 : decode cX6_moves_ 105 = .ok (.getfield 48, 3) := by decide +kernel
theorem dX6_moves__108 : decode cX6_moves_ 108 = .ok (.iload 6, 2) := by decide +kernel
theorem dX6_moves__110 : decode cX6_moves_ 110 = .ok (.dup2, 1) := by decide +kernel
theorem dX6_moves__111 : decode cX6_moves_ 111 = .ok (.iaload, 1) := by decide +kernel
theorem dX6_moves__112 : decode cX6_moves_ 112 = .ok (.iload 7, 2) := by decide +kernel
theorem dX6_moves__114 : decode cX6_moves_ 114 = .ok (.isub, 1) := by decide +kernel
theorem dX6_moves__115 : decode cX6_moves_ 115 = .ok (.iastore, 1) := by decide +kernel
theorem dX6_moves__116 : decode cX6_moves_ 116 = .ok (.aload_n 0, 1) := by decide +kernel
theorem dX6_moves__117 : decode cX6_moves_ 117 = .ok (.getfield 45, 3) := by decide +kernel
theorem dX6_moves__120 : decode cX6_moves_ 120 = .ok (.iload 6, 2) := by decide +kernel
theorem dX6_moves__122 : decode cX6_moves_ 122 = .ok (.dup2, 1) := by decide +kernel
theorem dX6_moves__123 : decode cX6_moves_ 123 = .ok (.iaload, 1) := by decide +kernel
theorem dX6_moves__124 : decode cX6_moves_ 124 = .ok (.iload 5, 2) := by decide +kernel
theorem dX6_moves__126 : decode cX6_moves_ 126 = .ok (.iload 7, 2) := by decide +kernel
theorem dX6_moves__128 : decode cX6_moves_ 128 = .ok (.isub, 1) := by decide +kernel
theorem dX6_moves__129 : decode cX6_moves_ 129 = .ok (.isub, 1) := by decide +kernel
theorem dX6_moves__130 : decode cX6_moves_ 130 = .ok (.iastore, 1) := by decide +kernel
theorem dX6_moves__131 : decode cX6_moves_ 131 = .ok (.aload_n 0, 1) := by decide +kernel
theorem dX6_moves__132 : decode cX6_moves_ 132 = .ok (.getfield 57, 3) := by decide +kernel
theorem dX6_moves__135 : decode cX6_moves_ 135 = .ok (.iconst 2, 1) := by decide +kernel
theorem dX6_moves__136 : decode cX6_moves_ 136 = .ok (.iload_n 3, 1) := by decide +kernel
theorem dX6_moves__137 : decode cX6_moves_ 137 = .ok (.imul, 1) := by decide +kernel
theorem dX6_moves__138 : decode cX6_moves_ 138 = .ok (.iload 4, 2) := by decide +kernel
theorem dX6_moves__140 : decode cX6_moves_ 140 = .ok (.iadd, 1) := by decide +kernel
theorem dX6_moves__141 : decode cX6_moves_ 141 = .ok (.dup2, 1) := by decide +kernel
theorem dX6_moves__142 : decode cX6_moves_ 142 = .ok (.iaload, 1) := by decide +kernel
theorem dX6_moves__143 : decode cX6_moves_ 143 = .ok (.iload 5, 2) := by decide +kernel
theorem dX6_moves__145 : decode cX6_moves_ 145 = .ok (.iadd, 1) := by decide +kernel
theorem dX6_moves__146 : decode cX6_moves_ 146 = .ok (.iastore, 1) := by decide +kernel
theorem dX6_moves__147 : decode cX6_moves_ 147 = .ok (.aload_n 0, 1) := by decide +kernel
theorem dX6_moves__148 : decode cX6_moves_ 148 = .ok (.getfield 42, 3) := by decide +kernel
theorem dX6_moves__151 : decode cX6_moves_ 151 = .ok (.bipush 8, 2) := by decide +kernel
theorem dX6_moves__153 : decode cX6_moves_ 153 = .ok (.iload_n 2, 1) := by decide +kernel
theorem dX6_moves__154 : decode cX6_moves_ 154 = .ok (.aload_n 0, 1) := by decide +kernel
theorem dX6_moves__155 : decode cX6_moves_ 155 = .ok (.iload_n 3, 1) := by decide +kernel
theorem dX6_moves__156 : decode cX6_moves_ 156 = .ok (.iconst 2, 1) := by decide +kernel
theorem dX6_moves__157 : decode cX6_moves_ 157 = .ok (.invokevirtual 97, 3) := by decide +kernel
theorem dX6_moves__160 : decode cX6_moves_ 160 = .ok (.iadd, 1) := by decide +kernel
theorem dX6_moves__161 : decode cX6_moves_ 161 = .ok (.imul, 1) := by decide +kernel
theorem dX6_moves__162 : decode cX6_moves_ 162 = .ok (.aload_n 0, 1) := by decide +kernel
theorem dX6_moves__163 : decode cX6_moves_ 163 = .ok (.iload_n 3, 1) := by decide +kernel
theorem dX6_moves__164 : decode cX6_moves_ 164 = .ok (.iload 4, 2) := by decide +kernel
theorem dX6_moves__166 : decode cX6_moves_ 166 = .ok (.ifCond .ne 7, 3) := by decide +kernel
theorem dX6_moves__169 : decode cX6_moves_ 169 = .ok (.iconst 1, 1) := by decide +kernel
theorem dX6_moves__170 : decode cX6_moves_ 170 = .ok (.goto 4, 3) := by decide +kernel
theorem dX6_moves__173 : decode cX6_moves_ 173 = .ok (.iconst 0, 1) := by decide +kernel
theorem dX6_moves__174 : decode cX6_moves_ 174 = .ok (.invokevirtual 97, 3) := by decide +kernel
theorem dX6_moves__177 : decode cX6_moves_ 177 = .ok (.iadd, 1) := by decide +kernel
theorem dX6_moves__178 : decode cX6_moves_ 178 = .ok (.dup2, 1) := by decide +kernel
theorem dX6_moves__179 : decode cX6_moves_ 179 = .ok (.iaload, 1) := by decide +kernel
theorem dX6_moves__180 : decode cX6_moves_ 180 = .ok (.iload 5, 2) := by decide +kernel
theorem dX6_moves__182 : decode cX6_moves_ 182 = .ok (.iadd, 1) := by decide +kernel
theorem dX6_moves__183 : decode cX6_moves_ 183 = .ok (.iastore, 1) := by decide +kernel
theorem dX6_moves__184 : decode cX6_moves_ 184 = .ok (.iconst 0, 1) := by decide +kernel
theorem dX6_moves__185 : decode cX6_moves_ 185 = .ok (.ireturn, 1) := by decide +kernel
theorem dX6_goes_0 : decode cX6_goes 0 = .ok (.iconst 0, 1) := by decide +kernel
theorem dX6_goes_1 : decode cX6_goes 1 = .ok (.istore_n 2, 1) := by decide +kernel
theorem dX6_goes_2 : decode cX6_goes 2 = .ok (.iload_n 2, 1) := by decide +kernel
theorem dX6_goes_3 : decode cX6_goes 3 = .ok (.sipush 480, 3) := by decide +kernel
theorem dX6_goes_6 : decode cX6_goes 6 = .ok (.if_icmp .ge 16, 3) := by decide +kernel
theorem dX6_goes_9 : decode cX6_goes 9 = .ok (.aload_n 0, 1) := by decide +kernel
theorem dX6_goes_10 : decode cX6_goes 10 = .ok (.getfield 42, 3) := by decide +kernel
theorem dX6_goes_13 : decode cX6_goes 13 = .ok (.iload_n 2, 1) := by decide +kernel
theorem dX6_goes_14 : decode cX6_goes 14 = .ok (.iconst 0, 1) := by decide +kernel
theorem dX6_goes_15 : decode cX6_goes 15 = .ok (.iastore, 1) := by decide +kernel
theorem dX6_goes_16 : decode cX6_goes 16 = .ok (.iinc 2 1, 3) := by decide +kernel
theorem dX6_goes_19 : decode cX6_goes 19 = .ok (.goto (-17), 3) := by decide +kernel
theorem dX6_goes_22 : decode cX6_goes 22 = .ok (.iconst 0, 1) := by decide +kernel
theorem dX6_goes_23 : decode cX6_goes 23 = .ok (.istore_n 2, 1) := by decide +kernel
theorem dX6_goes_24 : decode cX6_goes 24 = .ok (.iload_n 2, 1) := by decide +kernel
theorem dX6_goes_25 : decode cX6_goes 25 = .ok (.bipush 8, 2) := by decide +kernel
theorem dX6_goes_27 : decode cX6_goes 27 = .ok (.if_icmp .ge 47, 3) := by decide +kernel
theorem dX6_goes_30 : decode cX6_goes 30 = .ok (.aload_n 0, 1) := by decide +kernel
theorem dX6_goes_31 : decode cX6_goes 31 = .ok (.getfield 45, 3) := by decide +kernel
theorem dX6_goes_34 : decode cX6_goes 34 = .ok (.iload_n 2, 1) := by decide +kernel
theorem dX6_goes_35 : decode cX6_goes 35 = .ok (.iload_n 2, 1) := by decide +kernel
theorem dX6_goes_36 : decode cX6_goes 36 = .ok (.aload_n 0, 1) := by decide +kernel
theorem dX6_goes_37 : decode cX6_goes 37 = .ok (.invokevirtual 64, 3) := by decide +kernel
theorem dX6_goes_40 : decode cX6_goes 40 = .ok (.if_icmp .ge 12, 3) := by decide +kernel
theorem dX6_goes_43 : decode cX6_goes 43 = .ok (.aload_n 0, 1) := by decide +kernel
theorem dX6_goes_44 : decode cX6_goes 44 = .ok (.iload_n 2, 1) := by decide +kernel
theorem dX6_goes_45 : decode cX6_goes 45 = .ok (.iconst 0, 1) := by decide +kernel
theorem dX6_goes_46 : decode cX6_goes 46 = .ok (.invokevirtual 108, 3) := by decide +kernel
theorem dX6_goes_49 : decode cX6_goes 49 = .ok (.goto 4, 3) := by decide +kernel
theorem dX6_goes_52 : decode cX6_goes 52 = .ok (.iconst 0, 1) := by decide +kernel
theorem dX6_goes_53 : decode cX6_goes 53 = .ok (.iastore, 1) := by decide +kernel
theorem dX6_goes_54 : decode cX6_goes 54 = .ok (.aload_n 0, 1) := by decide +kernel
theorem dX6_goes_55 : decode cX6_goes 55 = .ok (.getfield 48, 3) := by decide +kernel
theorem dX6_goes_58 : decode cX6_goes 58 = .ok (.iload_n 2, 1) := by decide +kernel
theorem dX6_goes_59 : decode cX6_goes 59 = .ok (.iconst 0, 1) := by decide +kernel
theorem dX6_goes_60 : decode cX6_goes 60 = .ok (.iastore, 1) := by decide +kernel
theorem dX6_goes_61 : decode cX6_goes 61 = .ok (.aload_n 0, 1) := by decide +kernel
theorem dX6_goes_62 : decode cX6_goes 62 = .ok (.getfield 51, 3) := by decide +kernel
theorem dX6_goes_65 : decode cX6_goes 65 = .ok (.iload_n 2, 1) := by decide +kernel
theorem dX6_goes_66 : decode cX6_goes 66 = .ok (.iconst 0, 1) := by decide +kernel
theorem dX6_goes_67 : decode cX6_goes 67 = .ok (.iastore, 1) := by decide +kernel
theorem dX6_goes_68 : decode cX6_goes 68 = .ok (.iinc 2 1, 3) := by decide +kernel
theorem dX6_goes_71 : decode cX6_goes 71 = .ok (.goto (-47), 3) := by decide +kernel
theorem dX6_goes_74 : decode cX6_goes 74 = .ok (.aload_n 0, 1) := by decide +kernel
theorem dX6_goes_75 : decode cX6_goes 75 = .ok (.iconst 0, 1) := by decide +kernel
theorem dX6_goes_76 : decode cX6_goes 76 = .ok (.putfield 257, 3) := by decide +kernel
theorem dX6_goes_79 : decode cX6_goes 79 = .ok (.aload_n 0, 1) := by decide +kernel
theorem dX6_goes_80 : decode cX6_goes 80 = .ok (.iconst 0, 1) := by decide +kernel
theorem dX6_goes_81 : decode cX6_goes 81 = .ok (.putfield 260, 3) := by decide +kernel
theorem dX6_goes_84 : decode cX6_goes 84 = .ok (.aload_n 0, 1) := by decide +kernel
theorem dX6_goes_85 : decode cX6_goes 85 = .ok (.iconst 0, 1) := by decide +kernel
theorem dX6_goes_86 : decode cX6_goes 86 = .ok (.putfield 263, 3) := by decide +kernel
theorem dX6_goes_89 : decode cX6_goes 89 = .ok (.aload_n 0, 1) := by decide +kernel
theorem dX6_goes_90 : decode cX6_goes 90 = .ok (.iconst (-1), 1) := by decide +kernel
theorem dX6_goes_91 : decode cX6_goes 91 = .ok (.putfield 254, 3) := by decide +kernel
theorem dX6_goes_94 : decode cX6_goes 94 = .ok (.iconst 0, 1) := by decide +kernel
theorem dX6_goes_95 : decode cX6_goes 95 = .ok (.istore_n 2, 1) := by decide +kernel
theorem dX6_goes_96 : decode cX6_goes 96 = .ok (.iload_n 2, 1) := by decide +kernel
theorem dX6_goes_97 : decode cX6_goes 97 = .ok (.iload_n 1, 1) := by decide +kernel
theorem dX6_goes_98 : decode cX6_goes 98 = .ok (.if_icmp .gt 163, 3) := by decide +kernel
theorem dX6_goes_101 : decode cX6_goes 101 = .ok (.aload_n 0, 1) := by decide +kernel
theorem dX6_goes_102 : decode cX6_goes 102 = .ok (.getfield 257, 3) := by decide +kernel
theorem dX6_goes_105 : decode cX6_goes 105 = .ok (.ifCond .ne 156, 3) := by decide +kernel
theorem dX6_goes_108 : decode cX6_goes 108 = .ok (.iconst 0, 1) := by decide +kernel
theorem dX6_goes_109 : decode cX6_goes 109 = .ok (.istore_n 3, 1) := by decide +kernel
theorem dX6_goes_110 : decode cX6_goes 110 = .ok (.iload_n 3, 1) := by decide +kernel
theorem dX6_goes_111 : decode cX6_goes 111 = .ok (.aload_n 0, 1) := by decide +kernel
theorem dX6_goes_112 : decode cX6_goes 112 = .ok (.invokevirtual 64, 3) := by decide +kernel
theorem dX6_goes_115 : decode cX6_goes 115 = .ok (.if_icmp .ge 47, 3) := by decide +kernel
theorem dX6_goes_118 : decode cX6_goes 118 = .ok (.aload_n 0, 1) := by decide +kernel
theorem dX6_goes_119 : decode cX6_goes 119 = .ok (.getfield 48, 3) := by decide +kernel
theorem dX6_goes_122 : decode cX6_goes 122 = .ok (.iload_n 3, 1) := by decide +kernel
theorem dX6_goes_123 : decode cX6_goes 123 = .ok (.dup2, 1) := by decide +kernel
theorem dX6_goes_124 : decode cX6_goes 124 = .ok (.iaload, 1) := by decide +kernel
theorem dX6_goes_125 : decode cX6_goes 125 = .ok (.aload_n 0, 1) := by decide +kernel
theorem dX6_goes_126 : decode cX6_goes 126 = .ok (.getfield 42, 3) := by decide +kernel
theorem dX6_goes_129 : decode cX6_goes 129 = .ok (.bipush 8, 2) := by decide +kernel
theorem dX6_goes_131 : decode cX6_goes 131 = .ok (.iload_n 2, 1) := by decide +kernel
theorem dX6_goes_132 : decode cX6_goes 132 = .ok (.imul, 1) := by decide +kernel
theorem dX6_goes_133 : decode cX6_goes 133 = .ok (.iload_n 3, 1) := by decide +kernel
theorem dX6_goes_134 : decode cX6_goes 134 = .ok (.iadd, 1) := by decide +kernel
theorem dX6_goes_135 : decode cX6_goes 135 = .ok (.iaload, 1) := by decide +kernel
theorem dX6_goes_136 : decode cX6_goes 136 = .ok (.iadd, 1) := by decide +kernel
theorem dX6_goes_137 : decode cX6_goes 137 = .ok (.iastore, 1) := by decide +kernel
theorem dX6_goes_138 : decode cX6_goes 138 = .ok (.aload_n 0, 1) := by decide +kernel
theorem dX6_goes_139 : decode cX6_goes 139 = .ok (.getfield 42, 3) := by decide +kernel
theorem dX6_goes_142 : decode cX6_goes 142 = .ok (.bipush 8, 2) := by decide +kernel
theorem dX6_goes_144 : decode cX6_goes 144 = .ok (.iload_n 2, 1) := by decide +kernel
theorem dX6_goes_145 : decode cX6_goes 145 = .ok (.imul, 1) := by decide +kernel
theorem dX6_goes_146 : decode cX6_goes 146 = .ok (.iload_n 3, 1) := by decide +kernel
theorem dX6_goes_147 : decode cX6_goes 147 = .ok (.iadd, 1) := by decide +kernel
theorem dX6_goes_148 : decode cX6_goes 148 = .ok (.iconst 0, 1) := by decide +kernel
theorem dX6_goes_149 : decode cX6_goes 149 = .ok (.iastore, 1) := by decide +kernel
theorem dX6_goes_150 : decode cX6_goes 150 = .ok (.aload_n 0, 1) := by decide +kernel
theorem dX6_goes_151 : decode cX6_goes 151 = .ok (.iload_n 3, 1) := by decide +kernel
theorem dX6_goes_152 : decode cX6_goes 152 = .ok (.iload_n 2, 1) := by decide +kernel
theorem dX6_goes_153 : decode cX6_goes 153 = .ok (.invokevirtual 266, 3) := by decide +kernel
theorem dX6_goes_156 : decode cX6_goes 156 = .ok (.iinc 3 1, 3) := by decide +kernel
theorem dX6_goes_159 : decode cX6_goes 159 = .ok (.goto (-49), 3) := by decide +kernel
theorem dX6_goes_162 : decode cX6_goes 162 = .ok (.iconst 0, 1) := by decide +kernel
theorem dX6_goes_163 : decode cX6_goes 163 = .ok (.istore_n 3, 1) := by decide +kernel
theorem dX6_goes_164 : decode cX6_goes 164 = .ok (.iload_n 3, 1) := by decide +kernel
theorem dX6_goes_165 : decode cX6_goes 165 = .ok (.bipush 24, 2) := by decide +kernel
theorem dX6_goes_167 : decode cX6_goes 167 = .ok (.if_icmp .ge 16, 3) := by decide +kernel
theorem dX6_goes_170 : decode cX6_goes 170 = .ok (.aload_n 0, 1) := by decide +kernel
theorem dX6_goes_171 : decode cX6_goes 171 = .ok (.getfield 57, 3) := by decide +kernel
theorem dX6_goes_174 : decode cX6_goes 174 = .ok (.iload_n 3, 1) := by decide +kernel
theorem dX6_goes_175 : decode cX6_goes 175 = .ok (.iconst 0, 1) := by decide +kernel
theorem dX6_goes_176 : decode cX6_goes 176 = .ok (.iastore, 1) := by decide +kernel
theorem dX6_goes_177 : decode cX6_goes 177 = .ok (.iinc 3 1, 3) := by decide +kernel
theorem dX6_goes_180 : decode cX6_goes 180 = .ok (.goto (-16), 3) := by decide +kernel
theorem dX6_goes_183 : decode cX6_goes 183 = .ok (.iconst 0, 1) := by decide +kernel
theorem dX6_goes_184 : decode cX6_goes 184 = .ok (.istore_n 3, 1) := by decide +kernel
theorem dX6_goes_185 : decode cX6_goes 185 = .ok (.iload_n 3, 1) := by decide +kernel
theorem dX6_goes_186 : decode cX6_goes 186 = .ok (.aload_n 0, 1) := by decide +kernel
theorem dX6_goes_187 : decode cX6_goes 187 = .ok (.invokevirtual 75, 3) := by decide +kernel
theorem dX6_goes_190 : decode cX6_goes 190 = .ok (.if_icmp .ge 53, 3) := by decide +kernel
theorem dX6_goes_193 : decode cX6_goes 193 = .ok (.aload_n 0, 1) := by decide +kernel
theorem dX6_goes_194 : decode cX6_goes 194 = .ok (.getfield 257, 3) := by decide +kernel
theorem dX6_goes_197 : decode cX6_goes 197 = .ok (.ifCond .ne 46, 3) := by decide +kernel
theorem dX6_goes_200 : decode cX6_goes 200 = .ok (.aload_n 0, 1) := by decide +kernel
theorem dX6_goes_201 : decode cX6_goes 201 = .ok (.iload_n 3, 1) := by decide +kernel
theorem dX6_goes_202 : decode cX6_goes 202 = .ok (.iconst 0, 1) := by decide +kernel
theorem dX6_goes_203 : decode cX6_goes 203 = .ok (.invokevirtual 111, 3) := by decide +kernel
theorem dX6_goes_206 : decode cX6_goes 206 = .ok (.iload_n 2, 1) := by decide +kernel
theorem dX6_goes_207 : decode cX6_goes 207 = .ok (.if_icmp .eq 6, 3) := by decide +kernel
theorem dX6_goes_210 : decode cX6_goes 210 = .ok (.goto 27, 3) := by decide +kernel
theorem dX6_goes_213 : decode cX6_goes 213 = .ok (.aload_n 0, 1) := by decide +kernel
theorem dX6_goes_214 : decode cX6_goes 214 = .ok (.iload_n 3, 1) := by decide +kernel
theorem dX6_goes_215 : decode cX6_goes 215 = .ok (.iload_n 2, 1) := by decide +kernel
theorem dX6_goes_216 : decode cX6_goes 216 = .ok (.invokevirtual 269, 3) := by decide +kernel
theorem dX6_goes_219 : decode cX6_goes 219 = .ok (.istore 4, 2) := by decide +kernel
theorem dX6_goes_221 : decode cX6_goes 221 = .ok (.iload 4, 2) := by decide +kernel
theorem dX6_goes_223 : decode cX6_goes 223 = .ok (.ifCond .eq 14, 3) := by decide +kernel
theorem dX6_goes_226 : decode cX6_goes 226 = .ok (.aload_n 0, 1) := by decide +kernel
theorem dX6_goes_227 : decode cX6_goes 227 = .ok (.iload 4, 2) := by decide +kernel
theorem dX6_goes_229 : decode cX6_goes 229 = .ok (.bipush 8, 2) := by decide +kernel
theorem dX6_goes_231 : decode cX6_goes 231 = .ok (.iload_n 3, 1) := by decide +kernel
theorem dX6_goes_232 : decode cX6_goes 232 = .ok (.imul, 1) := by decide +kernel
theorem dX6_goes_233 : decode cX6_goes 233 = .ok (.iadd, 1) := by decide +kernel
theorem dX6_goes_234 : decode cX6_goes 234 = .ok (.putfield 257, 3) := by decide +kernel
theorem dX6_goes_237 : decode cX6_goes 237 = .ok (.iinc 3 1, 3) := by decide +kernel
theorem dX6_goes_240 : decode cX6_goes 240 = .ok (.goto (-55), 3) := by decide +kernel
theorem dX6_goes_243 : decode cX6_goes 243 = .ok (.aload_n 0, 1) := by decide +kernel
theorem dX6_goes_244 : decode cX6_goes 244 = .ok (.getfield 257, 3) := by decide +kernel
theorem dX6_goes_247 : decode cX6_goes 247 = .ok (.ifCond .ne 8, 3) := by decide +kernel
theorem dX6_goes_250 : decode cX6_goes 250 = .ok (.aload_n 0, 1) := by decide +kernel
theorem dX6_goes_251 : decode cX6_goes 251 = .ok (.iload_n 2, 1) := by decide +kernel
theorem dX6_goes_252 : decode cX6_goes 252 = .ok (.invokevirtual 271, 3) := by decide +kernel
theorem dX6_goes_255 : decode cX6_goes 255 = .ok (.iinc 2 1, 3) := by decide +kernel
theorem dX6_goes_258 : decode cX6_goes 258 = .ok (.goto (-162), 3) := by decide +kernel
theorem dX6_goes_261 : decode cX6_goes 261 = .ok (.return_, 1) := by decide +kernel
theorem dX6_minuteEnds_0 : decode cX6_minuteEnds 0 = .ok (.aload_n 0, 1) := by decide +kernel
theorem dX6_minuteEnds_1 : decode cX6_minuteEnds 1 = .ok (.iload_n 1, 1) := by decide +kernel
theorem dX6_minuteEnds_2 : decode cX6_minuteEnds 2 = .ok (.iconst 1, 1) := by decide +kernel
theorem dX6_minuteEnds_3 : decode cX6_minuteEnds 3 = .ok (.iadd, 1) := by decide +kernel
theorem dX6_minuteEnds_4 : decode cX6_minuteEnds 4 = .ok (.putfield 263, 3) := by decide +kernel
theorem dX6_minuteEnds_7 : decode cX6_minuteEnds 7 = .ok (.iconst 0, 1) := by decide +kernel
theorem dX6_minuteEnds_8 : decode cX6_minuteEnds 8 = .ok (.istore_n 2, 1) := by decide +kernel
theorem dX6_minuteEnds_9 : decode cX6_minuteEnds 9 = .ok (.iload_n 2, 1) := by decide +kernel
theorem dX6_minuteEnds_10 : decode cX6_minuteEnds 10 = .ok (.aload_n 0, 1) := by decide +kernel
theorem dX6_minuteEnds_11 : decode cX6_minuteEnds 11 = .ok (.invokevirtual 64, 3) := by decide +kernel
theorem dX6_minuteEnds_14 : decode cX6_minuteEnds 14 = .ok (.if_icmp .ge 96, 3) := by decide +kernel
theorem dX6_minuteEnds_17 : decode cX6_minuteEnds 17 = .ok (.bipush 24, 2) := by decide +kernel
theorem dX6_minuteEnds_19 : decode cX6_minuteEnds 19 = .ok (.iload_n 1, 1) := by decide +kernel
theorem dX6_minuteEnds_20 : decode cX6_minuteEnds 20 = .ok (.imul, 1) := by decide +kernel
theorem dX6_minuteEnds_21 : decode cX6_minuteEnds 21 = .ok (.iconst 3, 1) := by decide +kernel
theorem dX6_minuteEnds_22 : decode cX6_minuteEnds 22 = .ok (.iload_n 2, 1) := by decide +kernel
theorem dX6_minuteEnds_23 : decode cX6_minuteEnds 23 = .ok (.imul, 1) := by decide +kernel
theorem dX6_minuteEnds_24 : decode cX6_minuteEnds 24 = .ok (.iadd, 1) := by decide +kernel
theorem dX6_minuteEnds_25 : decode cX6_minuteEnds 25 = .ok (.istore_n 3, 1) := by decide +kernel
theorem dX6_minuteEnds_26 : decode cX6_minuteEnds 26 = .ok (.aload_n 0, 1) := by decide +kernel
theorem dX6_minuteEnds_27 : decode cX6_minuteEnds 27 = .ok (.getfield 54, 3) := by decide +kernel
theorem dX6_minuteEnds_30 : decode cX6_minuteEnds 30 = .ok (.iload_n 3, 1) := by decide +kernel
theorem dX6_minuteEnds_31 : decode cX6_minuteEnds 31 = .ok (.aload_n 0, 1) := by decide +kernel
theorem dX6_minuteEnds_32 : decode cX6_minuteEnds 32 = .ok (.getfield 48, 3) := by decide +kernel
theorem dX6_minuteEnds_35 : decode cX6_minuteEnds 35 = .ok (.iload_n 2, 1) := by decide +kernel
theorem dX6_minuteEnds_36 : decode cX6_minuteEnds 36 = .ok (.iaload, 1) := by decide +kernel
theorem dX6_minuteEnds_37 : decode cX6_minuteEnds 37 = .ok (.iastore, 1) := by decide +kernel
theorem dX6_minuteEnds_38 : decode cX6_minuteEnds 38 = .ok (.aload_n 0, 1) := by decide +kernel
theorem dX6_minuteEnds_39 : decode cX6_minuteEnds 39 = .ok (.getfield 54, 3) := by decide +kernel
theorem dX6_minuteEnds_42 : decode cX6_minuteEnds 42 = .ok (.iload_n 3, 1) := by decide +kernel
theorem dX6_minuteEnds_43 : decode cX6_minuteEnds 43 = .ok (.iconst 1, 1) := by decide +kernel
theorem dX6_minuteEnds_44 : decode cX6_minuteEnds 44 = .ok (.iadd, 1) := by decide +kernel
theorem dX6_minuteEnds_45 : decode cX6_minuteEnds 45 = .ok (.aload_n 0, 1) := by decide +kernel
theorem dX6_minuteEnds_46 : decode cX6_minuteEnds 46 = .ok (.getfield 45, 3) := by decide +kernel
theorem dX6_minuteEnds_49 : decode cX6_minuteEnds 49 = .ok (.iload_n 2, 1) := by decide +kernel
theorem dX6_minuteEnds_50 : decode cX6_minuteEnds 50 = .ok (.iaload, 1) := by decide +kernel
theorem dX6_minuteEnds_51 : decode cX6_minuteEnds 51 = .ok (.iastore, 1) := by decide +kernel
theorem dX6_minuteEnds_52 : decode cX6_minuteEnds 52 = .ok (.aload_n 0, 1) := by decide +kernel
theorem dX6_minuteEnds_53 : decode cX6_minuteEnds 53 = .ok (.getfield 54, 3) := by decide +kernel
theorem dX6_minuteEnds_56 : decode cX6_minuteEnds 56 = .ok (.iload_n 3, 1) := by decide +kernel
theorem dX6_minuteEnds_57 : decode cX6_minuteEnds 57 = .ok (.iconst 2, 1) := by decide +kernel
theorem dX6_minuteEnds_58 : decode cX6_minuteEnds 58 = .ok (.iadd, 1) := by decide +kernel
theorem dX6_minuteEnds_59 : decode cX6_minuteEnds 59 = .ok (.aload_n 0, 1) := by decide +kernel
theorem dX6_minuteEnds_60 : decode cX6_minuteEnds 60 = .ok (.getfield 51, 3) := by decide +kernel
theorem dX6_minuteEnds_63 : decode cX6_minuteEnds 63 = .ok (.iload_n 2, 1) := by decide +kernel
theorem dX6_minuteEnds_64 : decode cX6_minuteEnds 64 = .ok (.iaload, 1) := by decide +kernel
theorem dX6_minuteEnds_65 : decode cX6_minuteEnds 65 = .ok (.iastore, 1) := by decide +kernel
theorem dX6_minuteEnds_66 : decode cX6_minuteEnds 66 = .ok (.aload_n 0, 1) := by decide +kernel
theorem dX6_minuteEnds_67 : decode cX6_minuteEnds 67 = .ok (.getfield 48, 3) := by decide +kernel
theorem dX6_minuteEnds_70 : decode cX6_minuteEnds 70 = .ok (.iload_n 2, 1) := by decide +kernel
theorem dX6_minuteEnds_71 : decode cX6_minuteEnds 71 = .ok (.iaload, 1) := by decide +kernel
theorem dX6_minuteEnds_72 : decode cX6_minuteEnds 72 = .ok (.aload_n 0, 1) := by decide +kernel
theorem dX6_minuteEnds_73 : decode cX6_minuteEnds 73 = .ok (.iload_n 2, 1) := by decide +kernel
theorem dX6_minuteEnds_74 : decode cX6_minuteEnds 74 = .ok (.iconst 3, 1) := by decide +kernel
theorem dX6_minuteEnds_75 : decode cX6_minuteEnds 75 = .ok (.invokevirtual 108, 3) := by decide +kernel
theorem dX6_minuteEnds_78 : decode cX6_minuteEnds 78 = .ok (.if_icmp .le 26, 3) := by decide +kernel
theorem dX6_minuteEnds_81 : decode cX6_minuteEnds 81 = .ok (.aload_n 0, 1) := by decide +kernel
theorem dX6_minuteEnds_82 : decode cX6_minuteEnds 82 = .ok (.getfield 260, 3) := by decide +kernel
theorem dX6_minuteEnds_85 : decode cX6_minuteEnds 85 = .ok (.ifCond .ne 19, 3) := by decide +kernel
theorem dX6_minuteEnds_88 : decode cX6_minuteEnds 88 = .ok (.aload_n 0, 1) := by decide +kernel
theorem dX6_minuteEnds_89 : decode cX6_minuteEnds 89 = .ok (.iconst 3, 1) := by decide +kernel
theorem dX6_minuteEnds_90 : decode cX6_minuteEnds 90 = .ok (.bipush 8, 2) := by decide +kernel
theorem dX6_minuteEnds_92 : decode cX6_minuteEnds 92 = .ok (.iload_n 2, 1) := by decide +kernel
theorem dX6_minuteEnds_93 : decode cX6_minuteEnds 93 = .ok (.imul, 1) := by decide +kernel
theorem dX6_minuteEnds_94 : decode cX6_minuteEnds 94 = .ok (.iadd, 1) := by decide +kernel
theorem dX6_minuteEnds_95 : decode cX6_minuteEnds 95 = .ok (.sipush 1000, 3) := by decide +kernel
theorem dX6_minuteEnds_98 : decode cX6_minuteEnds 98 = .ok (.iload_n 1, 1) := by decide +kernel
theorem dX6_minuteEnds_99 : decode cX6_minuteEnds 99 = .ok (.imul, 1) := by decide +kernel
theorem dX6_minuteEnds_100 : decode cX6_minuteEnds 100 = .ok (.iadd, 1) := by decide +kernel
theorem dX6_minuteEnds_101 : decode cX6_minuteEnds 101 = .ok (.putfield 260, 3) := by decide +kernel
theorem dX6_minuteEnds_104 : decode cX6_minuteEnds 104 = .ok (.iinc 2 1, 3) := by decide +kernel
theorem dX6_minuteEnds_107 : decode cX6_minuteEnds 107 = .ok (.goto (-98), 3) := by decide +kernel
theorem dX6_minuteEnds_110 : decode cX6_minuteEnds 110 = .ok (.return_, 1) := by decide +kernel
theorem dX6_plans_0 : decode cX6_plans 0 = .ok (.aload_n 0, 1) := by decide +kernel
theorem dX6_plans_1 : decode cX6_plans 1 = .ok (.bipush 50, 2) := by decide +kernel
theorem dX6_plans_3 : decode cX6_plans 3 = .ok (.invokevirtual 274, 3) := by decide +kernel
theorem dX6_plans_6 : decode cX6_plans 6 = .ok (.aload_n 0, 1) := by decide +kernel
theorem dX6_plans_7 : decode cX6_plans 7 = .ok (.getfield 257, 3) := by decide +kernel
theorem dX6_plans_10 : decode cX6_plans 10 = .ok (.ifCond .ne 10, 3) := by decide +kernel
theorem dX6_plans_13 : decode cX6_plans 13 = .ok (.aload_n 0, 1) := by decide +kernel
theorem dX6_plans_14 : decode cX6_plans 14 = .ok (.getfield 260, 3) := by decide +kernel
theorem dX6_plans_17 : decode cX6_plans 17 = .ok (.ifCond .ne 8, 3) := by decide +kernel
theorem dX6_plans_20 : decode cX6_plans 20 = .ok (.aload_n 0, 1) := by decide +kernel
theorem dX6_plans_21 : decode cX6_plans 21 = .ok (.getfield 257, 3) := by decide +kernel
theorem dX6_plans_24 : decode cX6_plans 24 = .ok (.ireturn, 1) := by decide +kernel
theorem dX6_plans_25 : decode cX6_plans 25 = .ok (.aload_n 0, 1) := by decide +kernel
theorem dX6_plans_26 : decode cX6_plans 26 = .ok (.getfield 260, 3) := by decide +kernel
theorem dX6_plans_29 : decode cX6_plans 29 = .ok (.sipush 1000, 3) := by decide +kernel
theorem dX6_plans_32 : decode cX6_plans 32 = .ok (.irem, 1) := by decide +kernel
theorem dX6_plans_33 : decode cX6_plans 33 = .ok (.istore_n 1, 1) := by decide +kernel
theorem dX6_plans_34 : decode cX6_plans 34 = .ok (.aload_n 0, 1) := by decide +kernel
theorem dX6_plans_35 : decode cX6_plans 35 = .ok (.aload_n 0, 1) := by decide +kernel
theorem dX6_plans_36 : decode cX6_plans 36 = .ok (.getfield 260, 3) := by decide +kernel
theorem dX6_plans_39 : decode cX6_plans 39 = .ok (.sipush 1000, 3) := by decide +kernel
theorem dX6_plans_42 : decode cX6_plans 42 = .ok (.idiv, 1) := by decide +kernel
theorem dX6_plans_43 : decode cX6_plans 43 = .ok (.invokevirtual 274, 3) := by decide +kernel
theorem dX6_plans_46 : decode cX6_plans 46 = .ok (.iload_n 1, 1) := by decide +kernel
theorem dX6_plans_47 : decode cX6_plans 47 = .ok (.ireturn, 1) := by decide +kernel
theorem dX6_wrong_0 : decode cX6_wrong 0 = .ok (.aload_n 0, 1) := by decide +kernel
theorem dX6_wrong_1 : decode cX6_wrong 1 = .ok (.iconst 0, 1) := by decide +kernel
theorem dX6_wrong_2 : decode cX6_wrong 2 = .ok (.putfield 60, 3) := by decide +kernel
theorem dX6_wrong_5 : decode cX6_wrong 5 = .ok (.aload_n 0, 1) := by decide +kernel
theorem dX6_wrong_6 : decode cX6_wrong 6 = .ok (.invokevirtual 277, 3) := by decide +kernel
theorem dX6_wrong_9 : decode cX6_wrong 9 = .ok (.ireturn, 1) := by decide +kernel
theorem dX6_planned_0 : decode cX6_planned 0 = .ok (.iconst 0, 1) := by decide +kernel
theorem dX6_planned_1 : decode cX6_planned 1 = .ok (.istore_n 1, 1) := by decide +kernel
theorem dX6_planned_2 : decode cX6_planned 2 = .ok (.iconst 0, 1) := by decide +kernel
theorem dX6_planned_3 : decode cX6_planned 3 = .ok (.istore_n 2, 1) := by decide +kernel
theorem dX6_planned_4 : decode cX6_planned 4 = .ok (.iload_n 2, 1) := by decide +kernel
theorem dX6_planned_5 : decode cX6_planned 5 = .ok (.sipush 480, 3) := by decide +kernel
theorem dX6_planned_8 : decode cX6_planned 8 = .ok (.if_icmp .ge 18, 3) := by decide +kernel
theorem dX6_planned_11 : decode cX6_planned 11 = .ok (.iload_n 1, 1) := by decide +kernel
theorem dX6_planned_12 : decode cX6_planned 12 = .ok (.aload_n 0, 1) := by decide +kernel
theorem dX6_planned_13 : decode cX6_planned 13 = .ok (.getfield 42, 3) := by decide +kernel
theorem dX6_planned_16 : decode cX6_planned 16 = .ok (.iload_n 2, 1) := by decide +kernel
theorem dX6_planned_17 : decode cX6_planned 17 = .ok (.iaload, 1) := by decide +kernel
theorem dX6_planned_18 : decode cX6_planned 18 = .ok (.iadd, 1) := by decide +kernel
theorem dX6_planned_19 : decode cX6_planned 19 = .ok (.istore_n 1, 1) := by decide +kernel
theorem dX6_planned_20 : decode cX6_planned 20 = .ok (.iinc 2 1, 3) := by decide +kernel
theorem dX6_planned_23 : decode cX6_planned 23 = .ok (.goto (-19), 3) := by decide +kernel
theorem dX6_planned_26 : decode cX6_planned 26 = .ok (.iload_n 1, 1) := by decide +kernel
theorem dX6_planned_27 : decode cX6_planned 27 = .ok (.ireturn, 1) := by decide +kernel
theorem dX6_planned__0 : decode cX6_planned_ 0 = .ok (.aload_n 0, 1) := by decide +kernel
theorem dX6_planned__1 : decode cX6_planned_ 1 = .ok (.iconst 0, 1) := by decide +kernel
theorem dX6_planned__2 : decode cX6_planned_ 2 = .ok (.putfield 60, 3) := by decide +kernel
theorem dX6_planned__5 : decode cX6_planned_ 5 = .ok (.aload_n 0, 1) := by decide +kernel
theorem dX6_planned__6 : decode cX6_planned_ 6 = .ok (.invokevirtual 277, 3) := by decide +kernel
theorem dX6_planned__9 : decode cX6_planned_ 9 = .ok (.istore_n 2, 1) := by decide +kernel
theorem dX6_planned__10 : decode cX6_planned_ 10 = .ok (.iconst 0, 1) := by decide +kernel
theorem dX6_planned__11 : decode cX6_planned_ 11 = .ok (.istore_n 3, 1) := by decide +kernel
theorem dX6_planned__12 : decode cX6_planned_ 12 = .ok (.iconst 0, 1) := by decide +kernel
theorem dX6_planned__13 : decode cX6_planned_ 13 = .ok (.istore 4, 2) := by decide +kernel
theorem dX6_planned__15 : decode cX6_planned_ 15 = .ok (.iload 4, 2) := by decide +kernel
theorem dX6_planned__17 : decode cX6_planned_ 17 = .ok (.aload_n 0, 1) := by decide +kernel
theorem dX6_planned__18 : decode cX6_planned_ 18 = .ok (.invokevirtual 64, 3) := by decide +kernel
theorem dX6_planned__21 : decode cX6_planned_ 21 = .ok (.if_icmp .ge 48, 3) := by decide +kernel
theorem dX6_planned__24 : decode cX6_planned_ 24 = .ok (.iload_n 3, 1) := by decide +kernel
theorem dX6_planned__25 : decode cX6_planned_ 25 = .ok (.iload_n 1, 1) := by decide +kernel
theorem dX6_planned__26 : decode cX6_planned_ 26 = .ok (.ifCond .ne 13, 3) := by decide +kernel
theorem dX6_planned__29 : decode cX6_planned_ 29 = .ok (.aload_n 0, 1) := by decide +kernel
theorem dX6_planned__30 : decode cX6_planned_ 30 = .ok (.getfield 51, 3) := by decide +kernel
theorem dX6_planned__33 : decode cX6_planned_ 33 = .ok (.iload 4, 2) := by decide +kernel
theorem dX6_planned__35 : decode cX6_planned_ 35 = .ok (.iaload, 1) := by decide +kernel
theorem dX6_planned__36 : decode cX6_planned_ 36 = .ok (.goto 25, 3) := by decide +kernel
theorem dX6_planned__39 : decode cX6_planned_ 39 = .ok (.iload_n 1, 1) := by decide +kernel
theorem dX6_planned__40 : decode cX6_planned_ 40 = .ok (.iconst 3, 1) := by decide +kernel
theorem dX6_planned__41 : decode cX6_planned_ 41 = .ok (.if_icmp .ne 13, 3) := by decide +kernel
theorem dX6_planned__44 : decode cX6_planned_ 44 = .ok (.aload_n 0, 1) := by decide +kernel
theorem dX6_planned__45 : decode cX6_planned_ 45 = .ok (.getfield 45, 3) := by decide +kernel
theorem dX6_planned__48 : decode cX6_planned_ 48 = .ok (.iload 4, 2) := by decide +kernel
theorem dX6_planned__50 : decode cX6_planned_ 50 = .ok (.iaload, 1) := by decide +kernel
theorem dX6_planned__51 : decode cX6_planned_ 51 = .ok (.goto 10, 3) := by decide +kernel
theorem dX6_planned__54 : decode cX6_planned_ 54 = .ok (.aload_n 0, 1) := by decide +kernel
theorem dX6_planned__55 : decode cX6_planned_ 55 = .ok (.getfield 48, 3) := by decide +kernel
theorem dX6_planned__58 : decode cX6_planned_ 58 = .ok (.iload 4, 2) := by decide +kernel
theorem dX6_planned__60 : decode cX6_planned_ 60 = .ok (.iaload, 1) := by decide +kernel
theorem dX6_planned__61 : decode cX6_planned_ 61 = .ok (.iadd, 1) := by decide +kernel
theorem dX6_planned__62 : decode cX6_planned_ 62 = .ok (.istore_n 3, 1) := by decide +kernel
theorem dX6_planned__63 : decode cX6_planned_ 63 = .ok (.iinc 4 1, 3) := by decide +kernel
theorem dX6_planned__66 : decode cX6_planned_ 66 = .ok (.goto (-51), 3) := by decide +kernel
theorem dX6_planned__69 : decode cX6_planned_ 69 = .ok (.iload_n 1, 1) := by decide +kernel
theorem dX6_planned__70 : decode cX6_planned_ 70 = .ok (.tableswitch 46 0 4 #[34, 36, 41, 34, 34], 34) := by decide +kernel
theorem dX6_planned__104 : decode cX6_planned_ 104 = .ok (.iload_n 3, 1) := by decide +kernel
theorem dX6_planned__105 : decode cX6_planned_ 105 = .ok (.ireturn, 1) := by decide +kernel
theorem dX6_planned__106 : decode cX6_planned_ 106 = .ok (.aload_n 0, 1) := by decide +kernel
theorem dX6_planned__107 : decode cX6_planned_ 107 = .ok (.getfield 254, 3) := by decide +kernel
theorem dX6_planned__110 : decode cX6_planned_ 110 = .ok (.ireturn, 1) := by decide +kernel
theorem dX6_planned__111 : decode cX6_planned_ 111 = .ok (.aload_n 0, 1) := by decide +kernel
theorem dX6_planned__112 : decode cX6_planned_ 112 = .ok (.invokevirtual 280, 3) := by decide +kernel
theorem dX6_planned__115 : decode cX6_planned_ 115 = .ok (.ireturn, 1) := by decide +kernel
theorem dX6_planned__116 : decode cX6_planned_ 116 = .ok (.iconst (-1), 1) := by decide +kernel
theorem dX6_planned__117 : decode cX6_planned_ 117 = .ok (.ireturn, 1) := by decide +kernel
theorem dX6_there_0 : decode cX6_there 0 = .ok (.aload_n 0, 1) := by decide +kernel
theorem dX6_there_1 : decode cX6_there 1 = .ok (.iconst 0, 1) := by decide +kernel
theorem dX6_there_2 : decode cX6_there 2 = .ok (.putfield 60, 3) := by decide +kernel
theorem dX6_there_5 : decode cX6_there 5 = .ok (.aload_n 0, 1) := by decide +kernel
theorem dX6_there_6 : decode cX6_there 6 = .ok (.iload_n 1, 1) := by decide +kernel
theorem dX6_there_7 : decode cX6_there 7 = .ok (.invokevirtual 86, 3) := by decide +kernel
theorem dX6_there_10 : decode cX6_there 10 = .ok (.ifCond .eq 22, 3) := by decide +kernel
theorem dX6_there_13 : decode cX6_there 13 = .ok (.iload_n 2, 1) := by decide +kernel
theorem dX6_there_14 : decode cX6_there 14 = .ok (.iconst 0, 1) := by decide +kernel
theorem dX6_there_15 : decode cX6_there 15 = .ok (.bipush 50, 2) := by decide +kernel
theorem dX6_there_17 : decode cX6_there 17 = .ok (.invokestatic 68, 3) := by decide +kernel
theorem dX6_there_20 : decode cX6_there 20 = .ok (.ifCond .eq 12, 3) := by decide +kernel
theorem dX6_there_23 : decode cX6_there 23 = .ok (.iload_n 3, 1) := by decide +kernel
theorem dX6_there_24 : decode cX6_there 24 = .ok (.iconst 0, 1) := by decide +kernel
theorem dX6_there_25 : decode cX6_there 25 = .ok (.iconst 2, 1) := by decide +kernel
theorem dX6_there_26 : decode cX6_there 26 = .ok (.invokestatic 68, 3) := by decide +kernel
theorem dX6_there_29 : decode cX6_there 29 = .ok (.ifCond .ne 5, 3) := by decide +kernel
theorem dX6_there_32 : decode cX6_there 32 = .ok (.iconst (-1), 1) := by decide +kernel
theorem dX6_there_33 : decode cX6_there 33 = .ok (.ireturn, 1) := by decide +kernel
theorem dX6_there_34 : decode cX6_there 34 = .ok (.aload_n 0, 1) := by decide +kernel
theorem dX6_there_35 : decode cX6_there 35 = .ok (.invokevirtual 277, 3) := by decide +kernel
theorem dX6_there_38 : decode cX6_there 38 = .ok (.istore 4, 2) := by decide +kernel
theorem dX6_there_40 : decode cX6_there 40 = .ok (.iload_n 2, 1) := by decide +kernel
theorem dX6_there_41 : decode cX6_there 41 = .ok (.aload_n 0, 1) := by decide +kernel
theorem dX6_there_42 : decode cX6_there 42 = .ok (.getfield 263, 3) := by decide +kernel
theorem dX6_there_45 : decode cX6_there 45 = .ok (.if_icmp .ge 21, 3) := by decide +kernel
theorem dX6_there_48 : decode cX6_there 48 = .ok (.aload_n 0, 1) := by decide +kernel
theorem dX6_there_49 : decode cX6_there 49 = .ok (.getfield 54, 3) := by decide +kernel
theorem dX6_there_52 : decode cX6_there 52 = .ok (.bipush 24, 2) := by decide +kernel
theorem dX6_there_54 : decode cX6_there 54 = .ok (.iload_n 2, 1) := by decide +kernel
theorem dX6_there_55 : decode cX6_there 55 = .ok (.imul, 1) := by decide +kernel
theorem dX6_there_56 : decode cX6_there 56 = .ok (.iconst 3, 1) := by decide +kernel
theorem dX6_there_57 : decode cX6_there 57 = .ok (.iload_n 1, 1) := by decide +kernel
theorem dX6_there_58 : decode cX6_there 58 = .ok (.imul, 1) := by decide +kernel
theorem dX6_there_59 : decode cX6_there 59 = .ok (.iadd, 1) := by decide +kernel
theorem dX6_there_60 : decode cX6_there 60 = .ok (.iload_n 3, 1) := by decide +kernel
theorem dX6_there_61 : decode cX6_there 61 = .ok (.iadd, 1) := by decide +kernel
theorem dX6_there_62 : decode cX6_there 62 = .ok (.iaload, 1) := by decide +kernel
theorem dX6_there_63 : decode cX6_there 63 = .ok (.goto 4, 3) := by decide +kernel
theorem dX6_there_66 : decode cX6_there 66 = .ok (.iconst (-1), 1) := by decide +kernel
theorem dX6_there_67 : decode cX6_there 67 = .ok (.ireturn, 1) := by decide +kernel
theorem dJ6_bitCount_0f7a4_0 : decode cJ6_bitCount_0f7a4 0 = .ok (.iload_n 0, 1) := by decide +kernel
theorem dJ6_bitCount_0f7a4_1 : decode cJ6_bitCount_0f7a4 1 = .ok (.iload_n 0, 1) := by decide +kernel
theorem dJ6_bitCount_0f7a4_2 : decode cJ6_bitCount_0f7a4 2 = .ok (.iconst 1, 1) := by decide +kernel
theorem dJ6_bitCount_0f7a4_3 : decode cJ6_bitCount_0f7a4 3 = .ok (.iushr, 1) := by decide +kernel
theorem dJ6_bitCount_0f7a4_4 : decode cJ6_bitCount_0f7a4 4 = .ok (.ldc_w 265, 3) := by decide +kernel
theorem dJ6_bitCount_0f7a4_7 : decode cJ6_bitCount_0f7a4 7 = .ok (.iand, 1) := by decide +kernel
theorem dJ6_bitCount_0f7a4_8 : decode cJ6_bitCount_0f7a4 8 = .ok (.isub, 1) := by decide +kernel
theorem dJ6_bitCount_0f7a4_9 : decode cJ6_bitCount_0f7a4 9 = .ok (.istore_n 0, 1) := by decide +kernel
theorem dJ6_bitCount_0f7a4_10 : decode cJ6_bitCount_0f7a4 10 = .ok (.iload_n 0, 1) := by decide +kernel
theorem dJ6_bitCount_0f7a4_11 : decode cJ6_bitCount_0f7a4 11 = .ok (.ldc_w 266, 3) := by decide +kernel
theorem dJ6_bitCount_0f7a4_14 : decode cJ6_bitCount_0f7a4 14 = .ok (.iand, 1) := by decide +kernel
theorem dJ6_bitCount_0f7a4_15 : decode cJ6_bitCount_0f7a4 15 = .ok (.iload_n 0, 1) := by decide +kernel
theorem dJ6_bitCount_0f7a4_16 : decode cJ6_bitCount_0f7a4 16 = .ok (.iconst 2, 1) := by decide +kernel
theorem dJ6_bitCount_0f7a4_17 : decode cJ6_bitCount_0f7a4 17 = .ok (.iushr, 1) := by decide +kernel
theorem dJ6_bitCount_0f7a4_18 : decode cJ6_bitCount_0f7a4 18 = .ok (.ldc_w 266, 3) := by decide +kernel
theorem dJ6_bitCount_0f7a4_21 : decode cJ6_bitCount_0f7a4 21 = .ok (.iand, 1) := by decide +kernel
theorem dJ6_bitCount_0f7a4_22 : decode cJ6_bitCount_0f7a4 22 = .ok (.iadd, 1) := by decide +kernel
theorem dJ6_bitCount_0f7a4_23 : decode cJ6_bitCount_0f7a4 23 = .ok (.istore_n 0, 1) := by decide +kernel
theorem dJ6_bitCount_0f7a4_24 : decode cJ6_bitCount_0f7a4 24 = .ok (.iload_n 0, 1) := by decide +kernel
theorem dJ6_bitCount_0f7a4_25 : decode cJ6_bitCount_0f7a4 25 = .ok (.iload_n 0, 1) := by decide +kernel
theorem dJ6_bitCount_0f7a4_26 : decode cJ6_bitCount_0f7a4 26 = .ok (.iconst 4, 1) := by decide +kernel
theorem dJ6_bitCount_0f7a4_27 : decode cJ6_bitCount_0f7a4 27 = .ok (.iushr, 1) := by decide +kernel
theorem dJ6_bitCount_0f7a4_28 : decode cJ6_bitCount_0f7a4 28 = .ok (.iadd, 1) := by decide +kernel
theorem dJ6_bitCount_0f7a4_29 : decode cJ6_bitCount_0f7a4 29 = .ok (.ldc_w 267, 3) := by decide +kernel
theorem dJ6_bitCount_0f7a4_32 : decode cJ6_bitCount_0f7a4 32 = .ok (.iand, 1) := by decide +kernel
theorem dJ6_bitCount_0f7a4_33 : decode cJ6_bitCount_0f7a4 33 = .ok (.istore_n 0, 1) := by decide +kernel
theorem dJ6_bitCount_0f7a4_34 : decode cJ6_bitCount_0f7a4 34 = .ok (.iload_n 0, 1) := by decide +kernel
theorem dJ6_bitCount_0f7a4_35 : decode cJ6_bitCount_0f7a4 35 = .ok (.iload_n 0, 1) := by decide +kernel
theorem dJ6_bitCount_0f7a4_36 : decode cJ6_bitCount_0f7a4 36 = .ok (.bipush 8, 2) := by decide +kernel
theorem dJ6_bitCount_0f7a4_38 : decode cJ6_bitCount_0f7a4 38 = .ok (.iushr, 1) := by decide +kernel
theorem dJ6_bitCount_0f7a4_39 : decode cJ6_bitCount_0f7a4 39 = .ok (.iadd, 1) := by decide +kernel
theorem dJ6_bitCount_0f7a4_40 : decode cJ6_bitCount_0f7a4 40 = .ok (.istore_n 0, 1) := by decide +kernel
theorem dJ6_bitCount_0f7a4_41 : decode cJ6_bitCount_0f7a4 41 = .ok (.iload_n 0, 1) := by decide +kernel
theorem dJ6_bitCount_0f7a4_42 : decode cJ6_bitCount_0f7a4 42 = .ok (.iload_n 0, 1) := by decide +kernel
theorem dJ6_bitCount_0f7a4_43 : decode cJ6_bitCount_0f7a4 43 = .ok (.bipush 16, 2) := by decide +kernel
theorem dJ6_bitCount_0f7a4_45 : decode cJ6_bitCount_0f7a4 45 = .ok (.iushr, 1) := by decide +kernel
theorem dJ6_bitCount_0f7a4_46 : decode cJ6_bitCount_0f7a4 46 = .ok (.iadd, 1) := by decide +kernel
theorem dJ6_bitCount_0f7a4_47 : decode cJ6_bitCount_0f7a4 47 = .ok (.istore_n 0, 1) := by decide +kernel
theorem dJ6_bitCount_0f7a4_48 : decode cJ6_bitCount_0f7a4 48 = .ok (.iload_n 0, 1) := by decide +kernel
theorem dJ6_bitCount_0f7a4_49 : decode cJ6_bitCount_0f7a4 49 = .ok (.bipush 63, 2) := by decide +kernel
theorem dJ6_bitCount_0f7a4_51 : decode cJ6_bitCount_0f7a4 51 = .ok (.iand, 1) := by decide +kernel
theorem dJ6_bitCount_0f7a4_52 : decode cJ6_bitCount_0f7a4 52 = .ok (.ireturn, 1) := by decide +kernel
theorem dJ9_max_7cf53_0 : decode cJ9_max_7cf53 0 = .ok (.iload_n 0, 1) := by decide +kernel
theorem dJ9_max_7cf53_1 : decode cJ9_max_7cf53 1 = .ok (.iload_n 1, 1) := by decide +kernel
theorem dJ9_max_7cf53_2 : decode cJ9_max_7cf53 2 = .ok (.if_icmp .lt 7, 3) := by decide +kernel
theorem dJ9_max_7cf53_5 : decode cJ9_max_7cf53 5 = .ok (.iload_n 0, 1) := by decide +kernel
theorem dJ9_max_7cf53_6 : decode cJ9_max_7cf53 6 = .ok (.goto 4, 3) := by decide +kernel
theorem dJ9_max_7cf53_9 : decode cJ9_max_7cf53 9 = .ok (.iload_n 1, 1) := by decide +kernel
theorem dJ9_max_7cf53_10 : decode cJ9_max_7cf53 10 = .ok (.ireturn, 1) := by decide +kernel
theorem dJ9_min_7cf53_0 : decode cJ9_min_7cf53 0 = .ok (.iload_n 0, 1) := by decide +kernel
theorem dJ9_min_7cf53_1 : decode cJ9_min_7cf53 1 = .ok (.iload_n 1, 1) := by decide +kernel
theorem dJ9_min_7cf53_2 : decode cJ9_min_7cf53 2 = .ok (.if_icmp .gt 7, 3) := by decide +kernel
theorem dJ9_min_7cf53_5 : decode cJ9_min_7cf53 5 = .ok (.iload_n 0, 1) := by decide +kernel
theorem dJ9_min_7cf53_6 : decode cJ9_min_7cf53 6 = .ok (.goto 4, 3) := by decide +kernel
theorem dJ9_min_7cf53_9 : decode cJ9_min_7cf53 9 = .ok (.iload_n 1, 1) := by decide +kernel
theorem dJ9_min_7cf53_10 : decode cJ9_min_7cf53 10 = .ok (.ireturn, 1) := by decide +kernel
theorem dJ0_length_8abf5_0 : decode cJ0_length_8abf5 0 = .ok (.aload_n 0, 1) := by decide +kernel
theorem dJ0_length_8abf5_1 : decode cJ0_length_8abf5 1 = .ok (.getfield 9, 3) := by decide +kernel
theorem dJ0_length_8abf5_4 : decode cJ0_length_8abf5 4 = .ok (.arraylength, 1) := by decide +kernel
theorem dJ0_length_8abf5_5 : decode cJ0_length_8abf5 5 = .ok (.aload_n 0, 1) := by decide +kernel
theorem dJ0_length_8abf5_6 : decode cJ0_length_8abf5 6 = .ok (.invokevirtual 335, 3) := by decide +kernel
theorem dJ0_length_8abf5_9 : decode cJ0_length_8abf5 9 = .ok (.ishr, 1) := by decide +kernel
theorem dJ0_length_8abf5_10 : decode cJ0_length_8abf5 10 = .ok (.ireturn, 1) := by decide +kernel
theorem dJ0_charAt_5068e_0 : decode cJ0_charAt_5068e 0 = .ok (.aload_n 0, 1) := by decide +kernel
theorem dJ0_charAt_5068e_1 : decode cJ0_charAt_5068e 1 = .ok (.invokevirtual 492, 3) := by decide +kernel
theorem dJ0_charAt_5068e_4 : decode cJ0_charAt_5068e 4 = .ok (.ifCond .eq 12, 3) := by decide +kernel
theorem dJ0_charAt_5068e_7 : decode cJ0_charAt_5068e 7 = .ok (.aload_n 0, 1) := by decide +kernel
theorem dJ0_charAt_5068e_8 : decode cJ0_charAt_5068e 8 = .ok (.getfield 9, 3) := by decide +kernel
theorem dJ0_charAt_5068e_11 : decode cJ0_charAt_5068e 11 = .ok (.iload_n 1, 1) := by decide +kernel
theorem dJ0_charAt_5068e_12 : decode cJ0_charAt_5068e 12 = .ok (.invokestatic 495, 3) := by decide +kernel
theorem dJ0_charAt_5068e_15 : decode cJ0_charAt_5068e 15 = .ok (.ireturn, 1) := by decide +kernel
theorem dJ0_charAt_5068e_16 : decode cJ0_charAt_5068e 16 = .ok (.aload_n 0, 1) := by decide +kernel
theorem dJ0_charAt_5068e_17 : decode cJ0_charAt_5068e 17 = .ok (.getfield 9, 3) := by decide +kernel
theorem dJ0_charAt_5068e_20 : decode cJ0_charAt_5068e 20 = .ok (.iload_n 1, 1) := by decide +kernel
theorem dJ0_charAt_5068e_21 : decode cJ0_charAt_5068e 21 = .ok (.invokestatic 498, 3) := by decide +kernel
theorem dJ0_charAt_5068e_24 : decode cJ0_charAt_5068e 24 = .ok (.ireturn, 1) := by decide +kernel
theorem dJ0_coder_7d493_0 : decode cJ0_coder_7d493 0 = .ok (.getstatic 38, 3) := by decide +kernel
theorem dJ0_coder_7d493_3 : decode cJ0_coder_7d493 3 = .ok (.ifCond .eq 10, 3) := by decide +kernel
theorem dJ0_coder_7d493_6 : decode cJ0_coder_7d493 6 = .ok (.aload_n 0, 1) := by decide +kernel
theorem dJ0_coder_7d493_7 : decode cJ0_coder_7d493 7 = .ok (.getfield 15, 3) := by decide +kernel
theorem dJ0_coder_7d493_10 : decode cJ0_coder_7d493 10 = .ok (.goto 4, 3) := by decide +kernel
theorem dJ0_coder_7d493_13 : decode cJ0_coder_7d493 13 = .ok (.iconst 1, 1) := by decide +kernel
theorem dJ0_coder_7d493_14 : decode cJ0_coder_7d493 14 = .ok (.ireturn, 1) := by decide +kernel
theorem dJ0_isLatin1_aae02_0 : decode cJ0_isLatin1_aae02 0 = .ok (.getstatic 38, 3) := by decide +kernel
theorem dJ0_isLatin1_aae02_3 : decode cJ0_isLatin1_aae02 3 = .ok (.ifCond .eq 14, 3) := by decide +kernel
theorem dJ0_isLatin1_aae02_6 : decode cJ0_isLatin1_aae02 6 = .ok (.aload_n 0, 1) := by decide +kernel
theorem dJ0_isLatin1_aae02_7 : decode cJ0_isLatin1_aae02 7 = .ok (.getfield 15, 3) := by decide +kernel
theorem dJ0_isLatin1_aae02_10 : decode cJ0_isLatin1_aae02 10 = .ok (.ifCond .ne 7, 3) := by decide +kernel
theorem dJ0_isLatin1_aae02_13 : decode cJ0_isLatin1_aae02 13 = .ok (.iconst 1, 1) := by decide +kernel
theorem dJ0_isLatin1_aae02_14 : decode cJ0_isLatin1_aae02 14 = .ok (.goto 4, 3) := by decide +kernel
theorem dJ0_isLatin1_aae02_17 : decode cJ0_isLatin1_aae02 17 = .ok (.iconst 0, 1) := by decide +kernel
theorem dJ0_isLatin1_aae02_18 : decode cJ0_isLatin1_aae02 18 = .ok (.ireturn, 1) := by decide +kernel
theorem dJ0_checkIndex_df160_0 : decode cJ0_checkIndex_df160 0 = .ok (.iload_n 0, 1) := by decide +kernel
theorem dJ0_checkIndex_df160_1 : decode cJ0_checkIndex_df160 1 = .ok (.iload_n 1, 1) := by decide +kernel
theorem dJ0_checkIndex_df160_2 : decode cJ0_checkIndex_df160 2 = .ok (.getstatic 1053, 3) := by decide +kernel
theorem dJ0_checkIndex_df160_5 : decode cJ0_checkIndex_df160 5 = .ok (.invokestatic 1059, 3) := by decide +kernel
theorem dJ0_checkIndex_df160_8 : decode cJ0_checkIndex_df160 8 = .ok (.pop, 1) := by decide +kernel
theorem dJ0_checkIndex_df160_9 : decode cJ0_checkIndex_df160 9 = .ok (.return_, 1) := by decide +kernel
theorem dJ1_charAt_3b067_0 : decode cJ1_charAt_3b067 0 = .ok (.iload_n 1, 1) := by decide +kernel
theorem dJ1_charAt_3b067_1 : decode cJ1_charAt_3b067 1 = .ok (.aload_n 0, 1) := by decide +kernel
theorem dJ1_charAt_3b067_2 : decode cJ1_charAt_3b067 2 = .ok (.arraylength, 1) := by decide +kernel
theorem dJ1_charAt_3b067_3 : decode cJ1_charAt_3b067 3 = .ok (.invokestatic 9, 3) := by decide +kernel
theorem dJ1_charAt_3b067_6 : decode cJ1_charAt_3b067 6 = .ok (.aload_n 0, 1) := by decide +kernel
theorem dJ1_charAt_3b067_7 : decode cJ1_charAt_3b067 7 = .ok (.iload_n 1, 1) := by decide +kernel
theorem dJ1_charAt_3b067_8 : decode cJ1_charAt_3b067 8 = .ok (.baload, 1) := by decide +kernel
theorem dJ1_charAt_3b067_9 : decode cJ1_charAt_3b067 9 = .ok (.sipush 255, 3) := by decide +kernel
theorem dJ1_charAt_3b067_12 : decode cJ1_charAt_3b067 12 = .ok (.iand, 1) := by decide +kernel
theorem dJ1_charAt_3b067_13 : decode cJ1_charAt_3b067 13 = .ok (.i2c, 1) := by decide +kernel
theorem dJ1_charAt_3b067_14 : decode cJ1_charAt_3b067 14 = .ok (.ireturn, 1) := by decide +kernel
theorem dJ2_getChar_3b067_0 : decode cJ2_getChar_3b067 0 = .ok (.getstatic 44, 3) := by decide +kernel
theorem dJ2_getChar_3b067_3 : decode cJ2_getChar_3b067 3 = .ok (.ifCond .ne 25, 3) := by decide +kernel
theorem dJ2_getChar_3b067_6 : decode cJ2_getChar_3b067 6 = .ok (.iload_n 1, 1) := by decide +kernel
theorem dJ2_getChar_3b067_7 : decode cJ2_getChar_3b067 7 = .ok (.ifCond .lt 11, 3) := by decide +kernel
theorem dJ2_getChar_3b067_10 : decode cJ2_getChar_3b067 10 = .ok (.iload_n 1, 1) := by decide +kernel
theorem dJ2_getChar_3b067_11 : decode cJ2_getChar_3b067 11 = .ok (.aload_n 0, 1) := by decide +kernel
theorem dJ2_getChar_3b067_12 : decode cJ2_getChar_3b067 12 = .ok (.invokestatic 48, 3) := by decide +kernel
theorem dJ2_getChar_3b067_15 : decode cJ2_getChar_3b067 15 = .ok (.if_icmp .lt 13, 3) := by decide +kernel
theorem dJ2_getChar_3b067_18 : decode cJ2_getChar_3b067 18 = .ok (.new 52, 3) := by decide +kernel
theorem dJ2_getChar_3b067_21 : decode cJ2_getChar_3b067 21 = .ok (.dup, 1) := by decide +kernel
theorem dJ2_getChar_3b067_22 : decode cJ2_getChar_3b067 22 = .ok (.ldc 54, 2) := by decide +kernel
theorem dJ2_getChar_3b067_24 : decode cJ2_getChar_3b067 24 = .ok (.invokespecial 56, 3) := by decide +kernel
theorem dJ2_getChar_3b067_27 : decode cJ2_getChar_3b067 27 = .ok (.athrow, 1) := by decide +kernel
theorem dJ2_getChar_3b067_28 : decode cJ2_getChar_3b067 28 = .ok (.iload_n 1, 1) := by decide +kernel
theorem dJ2_getChar_3b067_29 : decode cJ2_getChar_3b067 29 = .ok (.iconst 1, 1) := by decide +kernel
theorem dJ2_getChar_3b067_30 : decode cJ2_getChar_3b067 30 = .ok (.ishl, 1) := by decide +kernel
theorem dJ2_getChar_3b067_31 : decode cJ2_getChar_3b067 31 = .ok (.istore_n 1, 1) := by decide +kernel
theorem dJ2_getChar_3b067_32 : decode cJ2_getChar_3b067 32 = .ok (.aload_n 0, 1) := by decide +kernel
theorem dJ2_getChar_3b067_33 : decode cJ2_getChar_3b067 33 = .ok (.iload_n 1, 1) := by decide +kernel
theorem dJ2_getChar_3b067_34 : decode cJ2_getChar_3b067 34 = .ok (.iinc 1 1, 3) := by decide +kernel
theorem dJ2_getChar_3b067_37 : decode cJ2_getChar_3b067 37 = .ok (.baload, 1) := by decide +kernel
theorem dJ2_getChar_3b067_38 : decode cJ2_getChar_3b067 38 = .ok (.sipush 255, 3) := by decide +kernel
theorem dJ2_getChar_3b067_41 : decode cJ2_getChar_3b067 41 = .ok (.iand, 1) := by decide +kernel
theorem dJ2_getChar_3b067_42 : decode cJ2_getChar_3b067 42 = .ok (.getstatic 59, 3) := by decide +kernel
theorem dJ2_getChar_3b067_45 : decode cJ2_getChar_3b067 45 = .ok (.ishl, 1) := by decide +kernel
theorem dJ2_getChar_3b067_46 : decode cJ2_getChar_3b067 46 = .ok (.aload_n 0, 1) := by decide +kernel
theorem dJ2_getChar_3b067_47 : decode cJ2_getChar_3b067 47 = .ok (.iload_n 1, 1) := by decide +kernel
theorem dJ2_getChar_3b067_48 : decode cJ2_getChar_3b067 48 = .ok (.baload, 1) := by decide +kernel
theorem dJ2_getChar_3b067_49 : decode cJ2_getChar_3b067 49 = .ok (.sipush 255, 3) := by decide +kernel
theorem dJ2_getChar_3b067_52 : decode cJ2_getChar_3b067 52 = .ok (.iand, 1) := by decide +kernel
theorem dJ2_getChar_3b067_53 : decode cJ2_getChar_3b067 53 = .ok (.getstatic 63, 3) := by decide +kernel
theorem dJ2_getChar_3b067_56 : decode cJ2_getChar_3b067 56 = .ok (.ishl, 1) := by decide +kernel
theorem dJ2_getChar_3b067_57 : decode cJ2_getChar_3b067 57 = .ok (.ior, 1) := by decide +kernel
theorem dJ2_getChar_3b067_58 : decode cJ2_getChar_3b067 58 = .ok (.i2c, 1) := by decide +kernel
theorem dJ2_getChar_3b067_59 : decode cJ2_getChar_3b067 59 = .ok (.ireturn, 1) := by decide +kernel
theorem dJ2_length_9d52b_0 : decode cJ2_length_9d52b 0 = .ok (.aload_n 0, 1) := by decide +kernel
theorem dJ2_length_9d52b_1 : decode cJ2_length_9d52b 1 = .ok (.arraylength, 1) := by decide +kernel
theorem dJ2_length_9d52b_2 : decode cJ2_length_9d52b 2 = .ok (.iconst 1, 1) := by decide +kernel
theorem dJ2_length_9d52b_3 : decode cJ2_length_9d52b 3 = .ok (.ishr, 1) := by decide +kernel
theorem dJ2_length_9d52b_4 : decode cJ2_length_9d52b 4 = .ok (.ireturn, 1) := by decide +kernel
theorem dJ2_charAt_3b067_0 : decode cJ2_charAt_3b067 0 = .ok (.iload_n 1, 1) := by decide +kernel
theorem dJ2_charAt_3b067_1 : decode cJ2_charAt_3b067 1 = .ok (.aload_n 0, 1) := by decide +kernel
theorem dJ2_charAt_3b067_2 : decode cJ2_charAt_3b067 2 = .ok (.invokestatic 67, 3) := by decide +kernel
theorem dJ2_charAt_3b067_5 : decode cJ2_charAt_3b067 5 = .ok (.aload_n 0, 1) := by decide +kernel
