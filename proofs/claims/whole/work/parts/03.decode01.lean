theorem dX1_takeShelter_35 : decode cX1_takeShelter 35 = .ok (.iload_n 2, 1) := by decide +kernel
theorem dX1_takeShelter_36 : decode cX1_takeShelter 36 = .ok (.invokevirtual 109, 3) := by decide +kernel
theorem dX1_takeShelter_39 : decode cX1_takeShelter 39 = .ok (.invokestatic 104, 3) := by decide +kernel
theorem dX1_takeShelter_42 : decode cX1_takeShelter 42 = .ok (.istore 5, 2) := by decide +kernel
theorem dX1_takeShelter_44 : decode cX1_takeShelter 44 = .ok (.aload_n 0, 1) := by decide +kernel
theorem dX1_takeShelter_45 : decode cX1_takeShelter 45 = .ok (.getfield 9, 3) := by decide +kernel
theorem dX1_takeShelter_48 : decode cX1_takeShelter 48 = .ok (.iload_n 1, 1) := by decide +kernel
theorem dX1_takeShelter_49 : decode cX1_takeShelter 49 = .ok (.dup2, 1) := by decide +kernel
theorem dX1_takeShelter_50 : decode cX1_takeShelter 50 = .ok (.iaload, 1) := by decide +kernel
theorem dX1_takeShelter_51 : decode cX1_takeShelter 51 = .ok (.iload 4, 2) := by decide +kernel
theorem dX1_takeShelter_53 : decode cX1_takeShelter 53 = .ok (.isub, 1) := by decide +kernel
theorem dX1_takeShelter_54 : decode cX1_takeShelter 54 = .ok (.iastore, 1) := by decide +kernel
theorem dX1_takeShelter_55 : decode cX1_takeShelter 55 = .ok (.aload_n 0, 1) := by decide +kernel
theorem dX1_takeShelter_56 : decode cX1_takeShelter 56 = .ok (.getfield 15, 3) := by decide +kernel
theorem dX1_takeShelter_59 : decode cX1_takeShelter 59 = .ok (.iload_n 1, 1) := by decide +kernel
theorem dX1_takeShelter_60 : decode cX1_takeShelter 60 = .ok (.dup2, 1) := by decide +kernel
theorem dX1_takeShelter_61 : decode cX1_takeShelter 61 = .ok (.iaload, 1) := by decide +kernel
theorem dX1_takeShelter_62 : decode cX1_takeShelter 62 = .ok (.iload 5, 2) := by decide +kernel
theorem dX1_takeShelter_64 : decode cX1_takeShelter 64 = .ok (.isub, 1) := by decide +kernel
theorem dX1_takeShelter_65 : decode cX1_takeShelter 65 = .ok (.iastore, 1) := by decide +kernel
theorem dX1_takeShelter_66 : decode cX1_takeShelter 66 = .ok (.aload_n 0, 1) := by decide +kernel
theorem dX1_takeShelter_67 : decode cX1_takeShelter 67 = .ok (.getfield 18, 3) := by decide +kernel
theorem dX1_takeShelter_70 : decode cX1_takeShelter 70 = .ok (.iload_n 1, 1) := by decide +kernel
theorem dX1_takeShelter_71 : decode cX1_takeShelter 71 = .ok (.dup2, 1) := by decide +kernel
theorem dX1_takeShelter_72 : decode cX1_takeShelter 72 = .ok (.iaload, 1) := by decide +kernel
theorem dX1_takeShelter_73 : decode cX1_takeShelter 73 = .ok (.iload 4, 2) := by decide +kernel
theorem dX1_takeShelter_75 : decode cX1_takeShelter 75 = .ok (.iload 5, 2) := by decide +kernel
theorem dX1_takeShelter_77 : decode cX1_takeShelter 77 = .ok (.iadd, 1) := by decide +kernel
theorem dX1_takeShelter_78 : decode cX1_takeShelter 78 = .ok (.iadd, 1) := by decide +kernel
theorem dX1_takeShelter_79 : decode cX1_takeShelter 79 = .ok (.iastore, 1) := by decide +kernel
theorem dX1_takeShelter_80 : decode cX1_takeShelter 80 = .ok (.iload 4, 2) := by decide +kernel
theorem dX1_takeShelter_82 : decode cX1_takeShelter 82 = .ok (.iload 5, 2) := by decide +kernel
theorem dX1_takeShelter_84 : decode cX1_takeShelter 84 = .ok (.iadd, 1) := by decide +kernel
theorem dX1_takeShelter_85 : decode cX1_takeShelter 85 = .ok (.ifCond .le 8, 3) := by decide +kernel
theorem dX1_takeShelter_88 : decode cX1_takeShelter 88 = .ok (.aload_n 0, 1) := by decide +kernel
theorem dX1_takeShelter_89 : decode cX1_takeShelter 89 = .ok (.iload_n 2, 1) := by decide +kernel
theorem dX1_takeShelter_90 : decode cX1_takeShelter 90 = .ok (.putfield 89, 3) := by decide +kernel
theorem dX1_takeShelter_93 : decode cX1_takeShelter 93 = .ok (.return_, 1) := by decide +kernel
theorem dX1_leavers_0 : decode cX1_leavers 0 = .ok (.iload_n 2, 1) := by decide +kernel
theorem dX1_leavers_1 : decode cX1_leavers 1 = .ok (.aload_n 0, 1) := by decide +kernel
theorem dX1_leavers_2 : decode cX1_leavers 2 = .ok (.getfield 30, 3) := by decide +kernel
theorem dX1_leavers_5 : decode cX1_leavers 5 = .ok (.iload_n 1, 1) := by decide +kernel
theorem dX1_leavers_6 : decode cX1_leavers 6 = .ok (.iconst 2, 1) := by decide +kernel
theorem dX1_leavers_7 : decode cX1_leavers 7 = .ok (.invokevirtual 101, 3) := by decide +kernel
theorem dX1_leavers_10 : decode cX1_leavers 10 = .ok (.if_icmp .lt 12, 3) := by decide +kernel
theorem dX1_leavers_13 : decode cX1_leavers 13 = .ok (.aload_n 0, 1) := by decide +kernel
theorem dX1_leavers_14 : decode cX1_leavers 14 = .ok (.getfield 15, 3) := by decide +kernel
theorem dX1_leavers_17 : decode cX1_leavers 17 = .ok (.iload_n 1, 1) := by decide +kernel
theorem dX1_leavers_18 : decode cX1_leavers 18 = .ok (.iaload, 1) := by decide +kernel
theorem dX1_leavers_19 : decode cX1_leavers 19 = .ok (.goto 4, 3) := by decide +kernel
theorem dX1_leavers_22 : decode cX1_leavers 22 = .ok (.iconst 0, 1) := by decide +kernel
theorem dX1_leavers_23 : decode cX1_leavers 23 = .ok (.ireturn, 1) := by decide +kernel
theorem dX1_makeMoves_0 : decode cX1_makeMoves 0 = .ok (.aload_n 0, 1) := by decide +kernel
theorem dX1_makeMoves_1 : decode cX1_makeMoves 1 = .ok (.getfield 27, 3) := by decide +kernel
theorem dX1_makeMoves_4 : decode cX1_makeMoves 4 = .ok (.iconst 0, 1) := by decide +kernel
theorem dX1_makeMoves_5 : decode cX1_makeMoves 5 = .ok (.invokestatic 95, 3) := by decide +kernel
theorem dX1_makeMoves_8 : decode cX1_makeMoves 8 = .ok (.iconst 0, 1) := by decide +kernel
theorem dX1_makeMoves_9 : decode cX1_makeMoves 9 = .ok (.istore_n 2, 1) := by decide +kernel
theorem dX1_makeMoves_10 : decode cX1_makeMoves 10 = .ok (.iload_n 2, 1) := by decide +kernel
theorem dX1_makeMoves_11 : decode cX1_makeMoves 11 = .ok (.aload_n 0, 1) := by decide +kernel
theorem dX1_makeMoves_12 : decode cX1_makeMoves 12 = .ok (.getfield 40, 3) := by decide +kernel
theorem dX1_makeMoves_15 : decode cX1_makeMoves 15 = .ok (.if_icmp .ge 36, 3) := by decide +kernel
theorem dX1_makeMoves_18 : decode cX1_makeMoves 18 = .ok (.aload_n 0, 1) := by decide +kernel
theorem dX1_makeMoves_19 : decode cX1_makeMoves 19 = .ok (.getfield 61, 3) := by decide +kernel
theorem dX1_makeMoves_22 : decode cX1_makeMoves 22 = .ok (.ifCond .ne 29, 3) := by decide +kernel
theorem dX1_makeMoves_25 : decode cX1_makeMoves 25 = .ok (.aload_n 0, 1) := by decide +kernel
theorem dX1_makeMoves_26 : decode cX1_makeMoves 26 = .ok (.iload_n 2, 1) := by decide +kernel
theorem dX1_makeMoves_27 : decode cX1_makeMoves 27 = .ok (.iconst 0, 1) := by decide +kernel
theorem dX1_makeMoves_28 : decode cX1_makeMoves 28 = .ok (.invokevirtual 44, 3) := by decide +kernel
theorem dX1_makeMoves_31 : decode cX1_makeMoves 31 = .ok (.iload_n 1, 1) := by decide +kernel
theorem dX1_makeMoves_32 : decode cX1_makeMoves 32 = .ok (.if_icmp .ne 13, 3) := by decide +kernel
theorem dX1_makeMoves_35 : decode cX1_makeMoves 35 = .ok (.aload_n 0, 1) := by decide +kernel
theorem dX1_makeMoves_36 : decode cX1_makeMoves 36 = .ok (.aload_n 0, 1) := by decide +kernel
theorem dX1_makeMoves_37 : decode cX1_makeMoves 37 = .ok (.iload_n 2, 1) := by decide +kernel
theorem dX1_makeMoves_38 : decode cX1_makeMoves 38 = .ok (.iload_n 1, 1) := by decide +kernel
theorem dX1_makeMoves_39 : decode cX1_makeMoves 39 = .ok (.invokevirtual 112, 3) := by decide +kernel
theorem dX1_makeMoves_42 : decode cX1_makeMoves 42 = .ok (.putfield 61, 3) := by decide +kernel
theorem dX1_makeMoves_45 : decode cX1_makeMoves 45 = .ok (.iinc 2 1, 3) := by decide +kernel
theorem dX1_makeMoves_48 : decode cX1_makeMoves 48 = .ok (.goto (-38), 3) := by decide +kernel
theorem dX1_makeMoves_51 : decode cX1_makeMoves 51 = .ok (.return_, 1) := by decide +kernel
theorem dX1_makeMove_0 : decode cX1_makeMove 0 = .ok (.aload_n 0, 1) := by decide +kernel
theorem dX1_makeMove_1 : decode cX1_makeMove 1 = .ok (.iload_n 1, 1) := by decide +kernel
theorem dX1_makeMove_2 : decode cX1_makeMove 2 = .ok (.iconst 1, 1) := by decide +kernel
theorem dX1_makeMove_3 : decode cX1_makeMove 3 = .ok (.invokevirtual 44, 3) := by decide +kernel
theorem dX1_makeMove_6 : decode cX1_makeMove 6 = .ok (.istore_n 3, 1) := by decide +kernel
theorem dX1_makeMove_7 : decode cX1_makeMove 7 = .ok (.iconst 2, 1) := by decide +kernel
theorem dX1_makeMove_8 : decode cX1_makeMove 8 = .ok (.iload_n 3, 1) := by decide +kernel
theorem dX1_makeMove_9 : decode cX1_makeMove 9 = .ok (.imul, 1) := by decide +kernel
theorem dX1_makeMove_10 : decode cX1_makeMove 10 = .ok (.aload_n 0, 1) := by decide +kernel
theorem dX1_makeMove_11 : decode cX1_makeMove 11 = .ok (.iload_n 1, 1) := by decide +kernel
theorem dX1_makeMove_12 : decode cX1_makeMove 12 = .ok (.iconst 2, 1) := by decide +kernel
theorem dX1_makeMove_13 : decode cX1_makeMove 13 = .ok (.invokevirtual 44, 3) := by decide +kernel
theorem dX1_makeMove_16 : decode cX1_makeMove 16 = .ok (.iadd, 1) := by decide +kernel
theorem dX1_makeMove_17 : decode cX1_makeMove 17 = .ok (.istore 4, 2) := by decide +kernel
theorem dX1_makeMove_19 : decode cX1_makeMove 19 = .ok (.aload_n 0, 1) := by decide +kernel
theorem dX1_makeMove_20 : decode cX1_makeMove 20 = .ok (.iload_n 1, 1) := by decide +kernel
theorem dX1_makeMove_21 : decode cX1_makeMove 21 = .ok (.iconst 3, 1) := by decide +kernel
theorem dX1_makeMove_22 : decode cX1_makeMove 22 = .ok (.invokevirtual 44, 3) := by decide +kernel
theorem dX1_makeMove_25 : decode cX1_makeMove 25 = .ok (.istore 5, 2) := by decide +kernel
theorem dX1_makeMove_27 : decode cX1_makeMove 27 = .ok (.aload_n 0, 1) := by decide +kernel
theorem dX1_makeMove_28 : decode cX1_makeMove 28 = .ok (.getfield 30, 3) := by decide +kernel
theorem dX1_makeMove_31 : decode cX1_makeMove 31 = .ok (.getfield 115, 3) := by decide +kernel
theorem dX1_makeMove_34 : decode cX1_makeMove 34 = .ok (.iload 4, 2) := by decide +kernel
theorem dX1_makeMove_36 : decode cX1_makeMove 36 = .ok (.iaload, 1) := by decide +kernel
theorem dX1_makeMove_37 : decode cX1_makeMove 37 = .ok (.istore 6, 2) := by decide +kernel
theorem dX1_makeMove_39 : decode cX1_makeMove 39 = .ok (.aload_n 0, 1) := by decide +kernel
theorem dX1_makeMove_40 : decode cX1_makeMove 40 = .ok (.getfield 27, 3) := by decide +kernel
theorem dX1_makeMove_43 : decode cX1_makeMove 43 = .ok (.iload 4, 2) := by decide +kernel
theorem dX1_makeMove_45 : decode cX1_makeMove 45 = .ok (.iaload, 1) := by decide +kernel
theorem dX1_makeMove_46 : decode cX1_makeMove 46 = .ok (.iload 5, 2) := by decide +kernel
theorem dX1_makeMove_48 : decode cX1_makeMove 48 = .ok (.iadd, 1) := by decide +kernel
theorem dX1_makeMove_49 : decode cX1_makeMove 49 = .ok (.aload_n 0, 1) := by decide +kernel
theorem dX1_makeMove_50 : decode cX1_makeMove 50 = .ok (.getfield 30, 3) := by decide +kernel
theorem dX1_makeMove_53 : decode cX1_makeMove 53 = .ok (.getfield 118, 3) := by decide +kernel
theorem dX1_makeMove_56 : decode cX1_makeMove 56 = .ok (.iload 4, 2) := by decide +kernel
theorem dX1_makeMove_58 : decode cX1_makeMove 58 = .ok (.iaload, 1) := by decide +kernel
theorem dX1_makeMove_59 : decode cX1_makeMove 59 = .ok (.if_icmp .le 10, 3) := by decide +kernel
theorem dX1_makeMove_62 : decode cX1_makeMove 62 = .ok (.iconst 1, 1) := by decide +kernel
theorem dX1_makeMove_63 : decode cX1_makeMove 63 = .ok (.bipush 8, 2) := by decide +kernel
theorem dX1_makeMove_65 : decode cX1_makeMove 65 = .ok (.iload_n 1, 1) := by decide +kernel
theorem dX1_makeMove_66 : decode cX1_makeMove 66 = .ok (.imul, 1) := by decide +kernel
theorem dX1_makeMove_67 : decode cX1_makeMove 67 = .ok (.iadd, 1) := by decide +kernel
theorem dX1_makeMove_68 : decode cX1_makeMove 68 = .ok (.ireturn, 1) := by decide +kernel
theorem dX1_makeMove_69 : decode cX1_makeMove 69 = .ok (.iload 5, 2) := by decide +kernel
theorem dX1_makeMove_71 : decode cX1_makeMove 71 = .ok (.aload_n 0, 1) := by decide +kernel
theorem dX1_makeMove_72 : decode cX1_makeMove 72 = .ok (.getfield 9, 3) := by decide +kernel
theorem dX1_makeMove_75 : decode cX1_makeMove 75 = .ok (.iload 6, 2) := by decide +kernel
theorem dX1_makeMove_77 : decode cX1_makeMove 77 = .ok (.iaload, 1) := by decide +kernel
theorem dX1_makeMove_78 : decode cX1_makeMove 78 = .ok (.aload_n 0, 1) := by decide +kernel
theorem dX1_makeMove_79 : decode cX1_makeMove 79 = .ok (.iload 6, 2) := by decide +kernel
theorem dX1_makeMove_81 : decode cX1_makeMove 81 = .ok (.iload_n 2, 1) := by decide +kernel
theorem dX1_makeMove_82 : decode cX1_makeMove 82 = .ok (.invokevirtual 109, 3) := by decide +kernel
theorem dX1_makeMove_85 : decode cX1_makeMove 85 = .ok (.iadd, 1) := by decide +kernel
theorem dX1_makeMove_86 : decode cX1_makeMove 86 = .ok (.if_icmp .le 10, 3) := by decide +kernel
theorem dX1_makeMove_89 : decode cX1_makeMove 89 = .ok (.iconst 2, 1) := by decide +kernel
theorem dX1_makeMove_90 : decode cX1_makeMove 90 = .ok (.bipush 8, 2) := by decide +kernel
theorem dX1_makeMove_92 : decode cX1_makeMove 92 = .ok (.iload_n 1, 1) := by decide +kernel
theorem dX1_makeMove_93 : decode cX1_makeMove 93 = .ok (.imul, 1) := by decide +kernel
theorem dX1_makeMove_94 : decode cX1_makeMove 94 = .ok (.iadd, 1) := by decide +kernel
theorem dX1_makeMove_95 : decode cX1_makeMove 95 = .ok (.ireturn, 1) := by decide +kernel
theorem dX1_makeMove_96 : decode cX1_makeMove 96 = .ok (.iload 5, 2) := by decide +kernel
theorem dX1_makeMove_98 : decode cX1_makeMove 98 = .ok (.aload_n 0, 1) := by decide +kernel
theorem dX1_makeMove_99 : decode cX1_makeMove 99 = .ok (.getfield 9, 3) := by decide +kernel
theorem dX1_makeMove_102 : decode cX1_makeMove 102 = .ok (.iload 6, 2) := by decide +kernel
theorem dX1_makeMove_104 : decode cX1_makeMove 104 = .ok (.iaload, 1) := by decide +kernel
theorem dX1_makeMove_105 : decode cX1_makeMove 105 = .ok (.invokestatic 104, 3) := by decide +kernel
theorem dX1_makeMove_108 : decode cX1_makeMove 108 = .ok (.istore 7, 2) := by decide +kernel
theorem dX1_makeMove_110 : decode cX1_makeMove 110 = .ok (.aload_n 0, 1) := by decide +kernel
theorem dX1_makeMove_111 : decode cX1_makeMove 111 = .ok (.getfield 9, 3) := by decide +kernel
theorem dX1_makeMove_114 : decode cX1_makeMove 114 = .ok (.iload 6, 2) := by decide +kernel
theorem dX1_makeMove_116 : decode cX1_makeMove 116 = .ok (.dup2, 1) := by decide +kernel
theorem dX1_makeMove_117 : decode cX1_makeMove 117 = .ok (.iaload, 1) := by decide +kernel
theorem dX1_makeMove_118 : decode cX1_makeMove 118 = .ok (.iload 7, 2) := by decide +kernel
theorem dX1_makeMove_120 : decode cX1_makeMove 120 = .ok (.isub, 1) := by decide +kernel
theorem dX1_makeMove_121 : decode cX1_makeMove 121 = .ok (.iastore, 1) := by decide +kernel
theorem dX1_makeMove_122 : decode cX1_makeMove 122 = .ok (.aload_n 0, 1) := by decide +kernel
theorem dX1_makeMove_123 : decode cX1_makeMove 123 = .ok (.getfield 15, 3) := by decide +kernel
theorem dX1_makeMove_126 : decode cX1_makeMove 126 = .ok (.iload 6, 2) := by decide +kernel
theorem dX1_makeMove_128 : decode cX1_makeMove 128 = .ok (.dup2, 1) := by decide +kernel
theorem dX1_makeMove_129 : decode cX1_makeMove 129 = .ok (.iaload, 1) := by decide +kernel
theorem dX1_makeMove_130 : decode cX1_makeMove 130 = .ok (.iload 5, 2) := by decide +kernel
theorem dX1_makeMove_132 : decode cX1_makeMove 132 = .ok (.iload 7, 2) := by decide +kernel
theorem dX1_makeMove_134 : decode cX1_makeMove 134 = .ok (.isub, 1) := by decide +kernel
theorem dX1_makeMove_135 : decode cX1_makeMove 135 = .ok (.isub, 1) := by decide +kernel
theorem dX1_makeMove_136 : decode cX1_makeMove 136 = .ok (.iastore, 1) := by decide +kernel
theorem dX1_makeMove_137 : decode cX1_makeMove 137 = .ok (.aload_n 0, 1) := by decide +kernel
theorem dX1_makeMove_138 : decode cX1_makeMove 138 = .ok (.getfield 27, 3) := by decide +kernel
theorem dX1_makeMove_141 : decode cX1_makeMove 141 = .ok (.iload 4, 2) := by decide +kernel
theorem dX1_makeMove_143 : decode cX1_makeMove 143 = .ok (.dup2, 1) := by decide +kernel
theorem dX1_makeMove_144 : decode cX1_makeMove 144 = .ok (.iaload, 1) := by decide +kernel
theorem dX1_makeMove_145 : decode cX1_makeMove 145 = .ok (.iload 5, 2) := by decide +kernel
theorem dX1_makeMove_147 : decode cX1_makeMove 147 = .ok (.iadd, 1) := by decide +kernel
theorem dX1_makeMove_148 : decode cX1_makeMove 148 = .ok (.iastore, 1) := by decide +kernel
theorem dX1_makeMove_149 : decode cX1_makeMove 149 = .ok (.aload_n 0, 1) := by decide +kernel
theorem dX1_makeMove_150 : decode cX1_makeMove 150 = .ok (.dup, 1) := by decide +kernel
theorem dX1_makeMove_151 : decode cX1_makeMove 151 = .ok (.getfield 92, 3) := by decide +kernel
theorem dX1_makeMove_154 : decode cX1_makeMove 154 = .ok (.iload 5, 2) := by decide +kernel
theorem dX1_makeMove_156 : decode cX1_makeMove 156 = .ok (.iadd, 1) := by decide +kernel
theorem dX1_makeMove_157 : decode cX1_makeMove 157 = .ok (.putfield 92, 3) := by decide +kernel
theorem dX1_makeMove_160 : decode cX1_makeMove 160 = .ok (.aload_n 0, 1) := by decide +kernel
theorem dX1_makeMove_161 : decode cX1_makeMove 161 = .ok (.getfield 24, 3) := by decide +kernel
theorem dX1_makeMove_164 : decode cX1_makeMove 164 = .ok (.iload_n 2, 1) := by decide +kernel
theorem dX1_makeMove_165 : decode cX1_makeMove 165 = .ok (.aload_n 0, 1) := by decide +kernel
theorem dX1_makeMove_166 : decode cX1_makeMove 166 = .ok (.getfield 30, 3) := by decide +kernel
theorem dX1_makeMove_169 : decode cX1_makeMove 169 = .ok (.getfield 121, 3) := by decide +kernel
theorem dX1_makeMove_172 : decode cX1_makeMove 172 = .ok (.iload_n 3, 1) := by decide +kernel
theorem dX1_makeMove_173 : decode cX1_makeMove 173 = .ok (.iaload, 1) := by decide +kernel
theorem dX1_makeMove_174 : decode cX1_makeMove 174 = .ok (.iadd, 1) := by decide +kernel
theorem dX1_makeMove_175 : decode cX1_makeMove 175 = .ok (.bipush 8, 2) := by decide +kernel
theorem dX1_makeMove_177 : decode cX1_makeMove 177 = .ok (.imul, 1) := by decide +kernel
theorem dX1_makeMove_178 : decode cX1_makeMove 178 = .ok (.aload_n 0, 1) := by decide +kernel
theorem dX1_makeMove_179 : decode cX1_makeMove 179 = .ok (.getfield 30, 3) := by decide +kernel
theorem dX1_makeMove_182 : decode cX1_makeMove 182 = .ok (.getfield 115, 3) := by decide +kernel
theorem dX1_makeMove_185 : decode cX1_makeMove 185 = .ok (.iload 4, 2) := by decide +kernel
theorem dX1_makeMove_187 : decode cX1_makeMove 187 = .ok (.iconst 1, 1) := by decide +kernel
theorem dX1_makeMove_188 : decode cX1_makeMove 188 = .ok (.ixor, 1) := by decide +kernel
theorem dX1_makeMove_189 : decode cX1_makeMove 189 = .ok (.iaload, 1) := by decide +kernel
theorem dX1_makeMove_190 : decode cX1_makeMove 190 = .ok (.iadd, 1) := by decide +kernel
theorem dX1_makeMove_191 : decode cX1_makeMove 191 = .ok (.dup2, 1) := by decide +kernel
theorem dX1_makeMove_192 : decode cX1_makeMove 192 = .ok (.iaload, 1) := by decide +kernel
theorem dX1_makeMove_193 : decode cX1_makeMove 193 = .ok (.iload 5, 2) := by decide +kernel
theorem dX1_makeMove_195 : decode cX1_makeMove 195 = .ok (.iadd, 1) := by decide +kernel
theorem dX1_makeMove_196 : decode cX1_makeMove 196 = .ok (.iastore, 1) := by decide +kernel
theorem dX1_makeMove_197 : decode cX1_makeMove 197 = .ok (.iconst 0, 1) := by decide +kernel
theorem dX1_makeMove_198 : decode cX1_makeMove 198 = .ok (.ireturn, 1) := by decide +kernel
theorem dX1_noteCrowds_0 : decode cX1_noteCrowds 0 = .ok (.iconst 0, 1) := by decide +kernel
theorem dX1_noteCrowds_1 : decode cX1_noteCrowds 1 = .ok (.istore_n 2, 1) := by decide +kernel
theorem dX1_noteCrowds_2 : decode cX1_noteCrowds 2 = .ok (.iload_n 2, 1) := by decide +kernel
theorem dX1_noteCrowds_3 : decode cX1_noteCrowds 3 = .ok (.aload_n 0, 1) := by decide +kernel
theorem dX1_noteCrowds_4 : decode cX1_noteCrowds 4 = .ok (.getfield 30, 3) := by decide +kernel
theorem dX1_noteCrowds_7 : decode cX1_noteCrowds 7 = .ok (.getfield 54, 3) := by decide +kernel
theorem dX1_noteCrowds_10 : decode cX1_noteCrowds 10 = .ok (.if_icmp .ge 45, 3) := by decide +kernel
theorem dX1_noteCrowds_13 : decode cX1_noteCrowds 13 = .ok (.aload_n 0, 1) := by decide +kernel
theorem dX1_noteCrowds_14 : decode cX1_noteCrowds 14 = .ok (.getfield 64, 3) := by decide +kernel
theorem dX1_noteCrowds_17 : decode cX1_noteCrowds 17 = .ok (.iconst (-1), 1) := by decide +kernel
theorem dX1_noteCrowds_18 : decode cX1_noteCrowds 18 = .ok (.if_icmp .ne 37, 3) := by decide +kernel
theorem dX1_noteCrowds_21 : decode cX1_noteCrowds 21 = .ok (.aload_n 0, 1) := by decide +kernel
theorem dX1_noteCrowds_22 : decode cX1_noteCrowds 22 = .ok (.getfield 9, 3) := by decide +kernel
theorem dX1_noteCrowds_25 : decode cX1_noteCrowds 25 = .ok (.iload_n 2, 1) := by decide +kernel
theorem dX1_noteCrowds_26 : decode cX1_noteCrowds 26 = .ok (.iaload, 1) := by decide +kernel
theorem dX1_noteCrowds_27 : decode cX1_noteCrowds 27 = .ok (.aload_n 0, 1) := by decide +kernel
theorem dX1_noteCrowds_28 : decode cX1_noteCrowds 28 = .ok (.getfield 30, 3) := by decide +kernel
theorem dX1_noteCrowds_31 : decode cX1_noteCrowds 31 = .ok (.iload_n 2, 1) := by decide +kernel
theorem dX1_noteCrowds_32 : decode cX1_noteCrowds 32 = .ok (.iconst 3, 1) := by decide +kernel
theorem dX1_noteCrowds_33 : decode cX1_noteCrowds 33 = .ok (.invokevirtual 101, 3) := by decide +kernel
theorem dX1_noteCrowds_36 : decode cX1_noteCrowds 36 = .ok (.if_icmp .le 13, 3) := by decide +kernel
theorem dX1_noteCrowds_39 : decode cX1_noteCrowds 39 = .ok (.aload_n 0, 1) := by decide +kernel
theorem dX1_noteCrowds_40 : decode cX1_noteCrowds 40 = .ok (.iload_n 2, 1) := by decide +kernel
theorem dX1_noteCrowds_41 : decode cX1_noteCrowds 41 = .ok (.putfield 64, 3) := by decide +kernel
theorem dX1_noteCrowds_44 : decode cX1_noteCrowds 44 = .ok (.aload_n 0, 1) := by decide +kernel
theorem dX1_noteCrowds_45 : decode cX1_noteCrowds 45 = .ok (.iload_n 1, 1) := by decide +kernel
theorem dX1_noteCrowds_46 : decode cX1_noteCrowds 46 = .ok (.putfield 67, 3) := by decide +kernel
theorem dX1_noteCrowds_49 : decode cX1_noteCrowds 49 = .ok (.iinc 2 1, 3) := by decide +kernel
theorem dX1_noteCrowds_52 : decode cX1_noteCrowds 52 = .ok (.goto (-50), 3) := by decide +kernel
theorem dX1_noteCrowds_55 : decode cX1_noteCrowds 55 = .ok (.return_, 1) := by decide +kernel
theorem dX2_init_0 : decode cX2_init 0 = .ok (.aload_n 0, 1) := by decide +kernel
theorem dX2_init_1 : decode cX2_init 1 = .ok (.invokespecial 3, 3) := by decide +kernel
theorem dX2_init_4 : decode cX2_init 4 = .ok (.aload_n 0, 1) := by decide +kernel
theorem dX2_init_5 : decode cX2_init 5 = .ok (.sipush 400, 3) := by decide +kernel
theorem dX2_init_8 : decode cX2_init 8 = .ok (.newarray .byte, 2) := by decide +kernel
theorem dX2_init_10 : decode cX2_init 10 = .ok (.putfield 9, 3) := by decide +kernel
theorem dX2_init_13 : decode cX2_init 13 = .ok (.aload_n 0, 1) := by decide +kernel
theorem dX2_init_14 : decode cX2_init 14 = .ok (.iconst 5, 1) := by decide +kernel
theorem dX2_init_15 : decode cX2_init 15 = .ok (.newarray .int, 2) := by decide +kernel
theorem dX2_init_17 : decode cX2_init 17 = .ok (.putfield 15, 3) := by decide +kernel
theorem dX2_init_20 : decode cX2_init 20 = .ok (.aload_n 0, 1) := by decide +kernel
theorem dX2_init_21 : decode cX2_init 21 = .ok (.bipush 24, 2) := by decide +kernel
theorem dX2_init_23 : decode cX2_init 23 = .ok (.newarray .int, 2) := by decide +kernel
theorem dX2_init_25 : decode cX2_init 25 = .ok (.putfield 19, 3) := by decide +kernel
theorem dX2_init_28 : decode cX2_init 28 = .ok (.aload_n 0, 1) := by decide +kernel
theorem dX2_init_29 : decode cX2_init 29 = .ok (.aload_n 1, 1) := by decide +kernel
theorem dX2_init_30 : decode cX2_init 30 = .ok (.putfield 22, 3) := by decide +kernel
theorem dX2_init_33 : decode cX2_init 33 = .ok (.aload_n 0, 1) := by decide +kernel
theorem dX2_init_34 : decode cX2_init 34 = .ok (.aload_n 2, 1) := by decide +kernel
theorem dX2_init_35 : decode cX2_init 35 = .ok (.putfield 26, 3) := by decide +kernel
theorem dX2_init_38 : decode cX2_init 38 = .ok (.return_, 1) := by decide +kernel
theorem dX2_hasSpace_0 : decode cX2_hasSpace 0 = .ok (.aload_n 0, 1) := by decide +kernel
theorem dX2_hasSpace_1 : decode cX2_hasSpace 1 = .ok (.getfield 30, 3) := by decide +kernel
theorem dX2_hasSpace_4 : decode cX2_hasSpace 4 = .ok (.iload_n 1, 1) := by decide +kernel
theorem dX2_hasSpace_5 : decode cX2_hasSpace 5 = .ok (.iadd, 1) := by decide +kernel
theorem dX2_hasSpace_6 : decode cX2_hasSpace 6 = .ok (.sipush 400, 3) := by decide +kernel
theorem dX2_hasSpace_9 : decode cX2_hasSpace 9 = .ok (.if_icmp .gt 7, 3) := by decide +kernel
theorem dX2_hasSpace_12 : decode cX2_hasSpace 12 = .ok (.iconst 1, 1) := by decide +kernel
theorem dX2_hasSpace_13 : decode cX2_hasSpace 13 = .ok (.goto 4, 3) := by decide +kernel
theorem dX2_hasSpace_16 : decode cX2_hasSpace 16 = .ok (.iconst 0, 1) := by decide +kernel
theorem dX2_hasSpace_17 : decode cX2_hasSpace 17 = .ok (.ireturn, 1) := by decide +kernel
theorem dX2_append_0 : decode cX2_append 0 = .ok (.bipush 24, 2) := by decide +kernel
theorem dX2_append_2 : decode cX2_append 2 = .ok (.istore_n 2, 1) := by decide +kernel
theorem dX2_append_3 : decode cX2_append 3 = .ok (.iload_n 2, 1) := by decide +kernel
theorem dX2_append_4 : decode cX2_append 4 = .ok (.ifCond .lt 32, 3) := by decide +kernel
theorem dX2_append_7 : decode cX2_append 7 = .ok (.aload_n 0, 1) := by decide +kernel
theorem dX2_append_8 : decode cX2_append 8 = .ok (.getfield 9, 3) := by decide +kernel
theorem dX2_append_11 : decode cX2_append 11 = .ok (.aload_n 0, 1) := by decide +kernel
theorem dX2_append_12 : decode cX2_append 12 = .ok (.getfield 30, 3) := by decide +kernel
theorem dX2_append_15 : decode cX2_append 15 = .ok (.iload_n 1, 1) := by decide +kernel
theorem dX2_append_16 : decode cX2_append 16 = .ok (.iload_n 2, 1) := by decide +kernel
theorem dX2_append_17 : decode cX2_append 17 = .ok (.ishr, 1) := by decide +kernel
theorem dX2_append_18 : decode cX2_append 18 = .ok (.i2b, 1) := by decide +kernel
theorem dX2_append_19 : decode cX2_append 19 = .ok (.bastore, 1) := by decide +kernel
theorem dX2_append_20 : decode cX2_append 20 = .ok (.aload_n 0, 1) := by decide +kernel
theorem dX2_append_21 : decode cX2_append 21 = .ok (.dup, 1) := by decide +kernel
theorem dX2_append_22 : decode cX2_append 22 = .ok (.getfield 30, 3) := by decide +kernel
theorem dX2_append_25 : decode cX2_append 25 = .ok (.iconst 1, 1) := by decide +kernel
theorem dX2_append_26 : decode cX2_append 26 = .ok (.iadd, 1) := by decide +kernel
theorem dX2_append_27 : decode cX2_append 27 = .ok (.putfield 30, 3) := by decide +kernel
theorem dX2_append_30 : decode cX2_append 30 = .ok (.iinc 2 (-8), 3) := by decide +kernel
theorem dX2_append_33 : decode cX2_append 33 = .ok (.goto (-30), 3) := by decide +kernel
theorem dX2_append_36 : decode cX2_append 36 = .ok (.return_, 1) := by decide +kernel
theorem dX2_readAll_0 : decode cX2_readAll 0 = .ok (.aload_n 0, 1) := by decide +kernel
theorem dX2_readAll_1 : decode cX2_readAll 1 = .ok (.getfield 22, 3) := by decide +kernel
theorem dX2_readAll_4 : decode cX2_readAll 4 = .ok (.getfield 34, 3) := by decide +kernel
theorem dX2_readAll_7 : decode cX2_readAll 7 = .ok (.istore_n 1, 1) := by decide +kernel
theorem dX2_readAll_8 : decode cX2_readAll 8 = .ok (.aload_n 0, 1) := by decide +kernel
theorem dX2_readAll_9 : decode cX2_readAll 9 = .ok (.getfield 22, 3) := by decide +kernel
theorem dX2_readAll_12 : decode cX2_readAll 12 = .ok (.getfield 39, 3) := by decide +kernel
theorem dX2_readAll_15 : decode cX2_readAll 15 = .ok (.istore_n 2, 1) := by decide +kernel
theorem dX2_readAll_16 : decode cX2_readAll 16 = .ok (.aload_n 0, 1) := by decide +kernel
theorem dX2_readAll_17 : decode cX2_readAll 17 = .ok (.getfield 26, 3) := by decide +kernel
theorem dX2_readAll_20 : decode cX2_readAll 20 = .ok (.getfield 42, 3) := by decide +kernel
theorem dX2_readAll_23 : decode cX2_readAll 23 = .ok (.istore_n 3, 1) := by decide +kernel
theorem dX2_readAll_24 : decode cX2_readAll 24 = .ok (.aload_n 0, 1) := by decide +kernel
theorem dX2_readAll_25 : decode cX2_readAll 25 = .ok (.getfield 22, 3) := by decide +kernel
theorem dX2_readAll_28 : decode cX2_readAll 28 = .ok (.getfield 47, 3) := by decide +kernel
theorem dX2_readAll_31 : decode cX2_readAll 31 = .ok (.iconst 0, 1) := by decide +kernel
theorem dX2_readAll_32 : decode cX2_readAll 32 = .ok (.aload_n 0, 1) := by decide +kernel
theorem dX2_readAll_33 : decode cX2_readAll 33 = .ok (.getfield 19, 3) := by decide +kernel
theorem dX2_readAll_36 : decode cX2_readAll 36 = .ok (.iconst 0, 1) := by decide +kernel
theorem dX2_readAll_37 : decode cX2_readAll 37 = .ok (.bipush 24, 2) := by decide +kernel
theorem dX2_readAll_39 : decode cX2_readAll 39 = .ok (.invokestatic 50, 3) := by decide +kernel
theorem dX2_readAll_42 : decode cX2_readAll 42 = .ok (.aload_n 0, 1) := by decide +kernel
theorem dX2_readAll_43 : decode cX2_readAll 43 = .ok (.iconst 0, 1) := by decide +kernel
theorem dX2_readAll_44 : decode cX2_readAll 44 = .ok (.putfield 56, 3) := by decide +kernel
theorem dX2_readAll_47 : decode cX2_readAll 47 = .ok (.aload_n 0, 1) := by decide +kernel
theorem dX2_readAll_48 : decode cX2_readAll 48 = .ok (.iconst 0, 1) := by decide +kernel
theorem dX2_readAll_49 : decode cX2_readAll 49 = .ok (.putfield 59, 3) := by decide +kernel
theorem dX2_readAll_52 : decode cX2_readAll 52 = .ok (.iconst 0, 1) := by decide +kernel
theorem dX2_readAll_53 : decode cX2_readAll 53 = .ok (.istore 4, 2) := by decide +kernel
theorem dX2_readAll_55 : decode cX2_readAll 55 = .ok (.aload_n 0, 1) := by decide +kernel
theorem dX2_readAll_56 : decode cX2_readAll 56 = .ok (.invokevirtual 62, 3) := by decide +kernel
theorem dX2_readAll_59 : decode cX2_readAll 59 = .ok (.iload 4, 2) := by decide +kernel
theorem dX2_readAll_61 : decode cX2_readAll 61 = .ok (.sipush 400, 3) := by decide +kernel
theorem dX2_readAll_64 : decode cX2_readAll 64 = .ok (.if_icmp .gt 27, 3) := by decide +kernel
theorem dX2_readAll_67 : decode cX2_readAll 67 = .ok (.aload_n 0, 1) := by decide +kernel
theorem dX2_readAll_68 : decode cX2_readAll 68 = .ok (.getfield 65, 3) := by decide +kernel
theorem dX2_readAll_71 : decode cX2_readAll 71 = .ok (.ifCond .eq 20, 3) := by decide +kernel
theorem dX2_readAll_74 : decode cX2_readAll 74 = .ok (.aload_n 0, 1) := by decide +kernel
theorem dX2_readAll_75 : decode cX2_readAll 75 = .ok (.invokevirtual 68, 3) := by decide +kernel
theorem dX2_readAll_78 : decode cX2_readAll 78 = .ok (.ifCond .eq 13, 3) := by decide +kernel
theorem dX2_readAll_81 : decode cX2_readAll 81 = .ok (.iinc 4 1, 3) := by decide +kernel
theorem dX2_readAll_84 : decode cX2_readAll 84 = .ok (.aload_n 0, 1) := by decide +kernel
theorem dX2_readAll_85 : decode cX2_readAll 85 = .ok (.invokevirtual 62, 3) := by decide +kernel
theorem dX2_readAll_88 : decode cX2_readAll 88 = .ok (.goto (-29), 3) := by decide +kernel
theorem dX2_readAll_91 : decode cX2_readAll 91 = .ok (.aload_n 0, 1) := by decide +kernel
theorem dX2_readAll_92 : decode cX2_readAll 92 = .ok (.iconst 0, 1) := by decide +kernel
theorem dX2_readAll_93 : decode cX2_readAll 93 = .ok (.putfield 30, 3) := by decide +kernel
theorem dX2_readAll_96 : decode cX2_readAll 96 = .ok (.aload_n 0, 1) := by decide +kernel
theorem dX2_readAll_97 : decode cX2_readAll 97 = .ok (.getfield 56, 3) := by decide +kernel
theorem dX2_readAll_100 : decode cX2_readAll 100 = .ok (.ifCond .ne 6, 3) := by decide +kernel
theorem dX2_readAll_103 : decode cX2_readAll 103 = .ok (.iload 4, 2) := by decide +kernel
theorem dX2_readAll_105 : decode cX2_readAll 105 = .ok (.ireturn, 1) := by decide +kernel
theorem dX2_readAll_106 : decode cX2_readAll 106 = .ok (.aload_n 0, 1) := by decide +kernel
theorem dX2_readAll_107 : decode cX2_readAll 107 = .ok (.getfield 22, 3) := by decide +kernel
theorem dX2_readAll_110 : decode cX2_readAll 110 = .ok (.iload_n 1, 1) := by decide +kernel
theorem dX2_readAll_111 : decode cX2_readAll 111 = .ok (.putfield 34, 3) := by decide +kernel
theorem dX2_readAll_114 : decode cX2_readAll 114 = .ok (.aload_n 0, 1) := by decide +kernel
theorem dX2_readAll_115 : decode cX2_readAll 115 = .ok (.getfield 22, 3) := by decide +kernel
theorem dX2_readAll_118 : decode cX2_readAll 118 = .ok (.iload_n 2, 1) := by decide +kernel
theorem dX2_readAll_119 : decode cX2_readAll 119 = .ok (.putfield 39, 3) := by decide +kernel
theorem dX2_readAll_122 : decode cX2_readAll 122 = .ok (.aload_n 0, 1) := by decide +kernel
theorem dX2_readAll_123 : decode cX2_readAll 123 = .ok (.getfield 26, 3) := by decide +kernel
theorem dX2_readAll_126 : decode cX2_readAll 126 = .ok (.iload_n 3, 1) := by decide +kernel
theorem dX2_readAll_127 : decode cX2_readAll 127 = .ok (.putfield 42, 3) := by decide +kernel
theorem dX2_readAll_130 : decode cX2_readAll 130 = .ok (.aload_n 0, 1) := by decide +kernel
theorem dX2_readAll_131 : decode cX2_readAll 131 = .ok (.getfield 19, 3) := by decide +kernel
theorem dX2_readAll_134 : decode cX2_readAll 134 = .ok (.iconst 0, 1) := by decide +kernel
theorem dX2_readAll_135 : decode cX2_readAll 135 = .ok (.aload_n 0, 1) := by decide +kernel
theorem dX2_readAll_136 : decode cX2_readAll 136 = .ok (.getfield 22, 3) := by decide +kernel
theorem dX2_readAll_139 : decode cX2_readAll 139 = .ok (.getfield 47, 3) := by decide +kernel
theorem dX2_readAll_142 : decode cX2_readAll 142 = .ok (.iconst 0, 1) := by decide +kernel
theorem dX2_readAll_143 : decode cX2_readAll 143 = .ok (.bipush 24, 2) := by decide +kernel
theorem dX2_readAll_145 : decode cX2_readAll 145 = .ok (.invokestatic 50, 3) := by decide +kernel
theorem dX2_readAll_148 : decode cX2_readAll 148 = .ok (.iconst (-1), 1) := by decide +kernel
theorem dX2_readAll_149 : decode cX2_readAll 149 = .ok (.ireturn, 1) := by decide +kernel
theorem dX2_readStatement_0 : decode cX2_readStatement 0 = .ok (.aload_n 0, 1) := by decide +kernel
theorem dX2_readStatement_1 : decode cX2_readStatement 1 = .ok (.invokevirtual 72, 3) := by decide +kernel
theorem dX2_readStatement_4 : decode cX2_readStatement 4 = .ok (.istore_n 1, 1) := by decide +kernel
theorem dX2_readStatement_5 : decode cX2_readStatement 5 = .ok (.iload_n 1, 1) := by decide +kernel
theorem dX2_readStatement_6 : decode cX2_readStatement 6 = .ok (.iconst (-1), 1) := by decide +kernel
theorem dX2_readStatement_7 : decode cX2_readStatement 7 = .ok (.if_icmp .ne 9, 3) := by decide +kernel
theorem dX2_readStatement_10 : decode cX2_readStatement 10 = .ok (.aload_n 0, 1) := by decide +kernel
theorem dX2_readStatement_11 : decode cX2_readStatement 11 = .ok (.iconst 1, 1) := by decide +kernel
theorem dX2_readStatement_12 : decode cX2_readStatement 12 = .ok (.invokevirtual 76, 3) := by decide +kernel
theorem dX2_readStatement_15 : decode cX2_readStatement 15 = .ok (.ireturn, 1) := by decide +kernel
theorem dX2_readStatement_16 : decode cX2_readStatement 16 = .ok (.aload_n 0, 1) := by decide +kernel
theorem dX2_readStatement_17 : decode cX2_readStatement 17 = .ok (.iload_n 1, 1) := by decide +kernel
theorem dX2_readStatement_18 : decode cX2_readStatement 18 = .ok (.invokevirtual 80, 3) := by decide +kernel
theorem dX2_readStatement_21 : decode cX2_readStatement 21 = .ok (.ifCond .eq 9, 3) := by decide +kernel
theorem dX2_readStatement_24 : decode cX2_readStatement 24 = .ok (.aload_n 0, 1) := by decide +kernel
theorem dX2_readStatement_25 : decode cX2_readStatement 25 = .ok (.iconst 3, 1) := by decide +kernel
theorem dX2_readStatement_26 : decode cX2_readStatement 26 = .ok (.invokevirtual 76, 3) := by decide +kernel
theorem dX2_readStatement_29 : decode cX2_readStatement 29 = .ok (.ireturn, 1) := by decide +kernel
theorem dX2_readStatement_30 : decode cX2_readStatement 30 = .ok (.aload_n 0, 1) := by decide +kernel
theorem dX2_readStatement_31 : decode cX2_readStatement 31 = .ok (.iload_n 1, 1) := by decide +kernel
theorem dX2_readStatement_32 : decode cX2_readStatement 32 = .ok (.invokevirtual 83, 3) := by decide +kernel
theorem dX2_readStatement_35 : decode cX2_readStatement 35 = .ok (.ifCond .ne 5, 3) := by decide +kernel
theorem dX2_readStatement_38 : decode cX2_readStatement 38 = .ok (.iconst 0, 1) := by decide +kernel
theorem dX2_readStatement_39 : decode cX2_readStatement 39 = .ok (.ireturn, 1) := by decide +kernel
theorem dX2_readStatement_40 : decode cX2_readStatement 40 = .ok (.aload_n 0, 1) := by decide +kernel
theorem dX2_readStatement_41 : decode cX2_readStatement 41 = .ok (.invokevirtual 62, 3) := by decide +kernel
theorem dX2_readStatement_44 : decode cX2_readStatement 44 = .ok (.aload_n 0, 1) := by decide +kernel
theorem dX2_readStatement_45 : decode cX2_readStatement 45 = .ok (.getfield 65, 3) := by decide +kernel
theorem dX2_readStatement_48 : decode cX2_readStatement 48 = .ok (.iconst 3, 1) := by decide +kernel
theorem dX2_readStatement_49 : decode cX2_readStatement 49 = .ok (.if_icmp .ne 12, 3) := by decide +kernel
theorem dX2_readStatement_52 : decode cX2_readStatement 52 = .ok (.aload_n 0, 1) := by decide +kernel
theorem dX2_readStatement_53 : decode cX2_readStatement 53 = .ok (.getfield 86, 3) := by decide +kernel
theorem dX2_readStatement_56 : decode cX2_readStatement 56 = .ok (.bipush 59, 2) := by decide +kernel
theorem dX2_readStatement_58 : decode cX2_readStatement 58 = .ok (.if_icmp .eq 9, 3) := by decide +kernel
theorem dX2_readStatement_61 : decode cX2_readStatement 61 = .ok (.aload_n 0, 1) := by decide +kernel
theorem dX2_readStatement_62 : decode cX2_readStatement 62 = .ok (.iconst 1, 1) := by decide +kernel
theorem dX2_readStatement_63 : decode cX2_readStatement 63 = .ok (.invokevirtual 76, 3) := by decide +kernel
theorem dX2_readStatement_66 : decode cX2_readStatement 66 = .ok (.ireturn, 1) := by decide +kernel
theorem dX2_readStatement_67 : decode cX2_readStatement 67 = .ok (.aload_n 0, 1) := by decide +kernel
theorem dX2_readStatement_68 : decode cX2_readStatement 68 = .ok (.iload_n 1, 1) := by decide +kernel
theorem dX2_readStatement_69 : decode cX2_readStatement 69 = .ok (.invokevirtual 89, 3) := by decide +kernel
theorem dX2_readStatement_72 : decode cX2_readStatement 72 = .ok (.iconst 1, 1) := by decide +kernel
theorem dX2_readStatement_73 : decode cX2_readStatement 73 = .ok (.ireturn, 1) := by decide +kernel
theorem dX2_refuse_0 : decode cX2_refuse 0 = .ok (.aload_n 0, 1) := by decide +kernel
theorem dX2_refuse_1 : decode cX2_refuse 1 = .ok (.iload_n 1, 1) := by decide +kernel
theorem dX2_refuse_2 : decode cX2_refuse 2 = .ok (.bipush 8, 2) := by decide +kernel
theorem dX2_refuse_4 : decode cX2_refuse 4 = .ok (.aload_n 0, 1) := by decide +kernel
theorem dX2_refuse_5 : decode cX2_refuse 5 = .ok (.getfield 93, 3) := by decide +kernel
theorem dX2_refuse_8 : decode cX2_refuse 8 = .ok (.imul, 1) := by decide +kernel
theorem dX2_refuse_9 : decode cX2_refuse 9 = .ok (.iadd, 1) := by decide +kernel
theorem dX2_refuse_10 : decode cX2_refuse 10 = .ok (.putfield 56, 3) := by decide +kernel
theorem dX2_refuse_13 : decode cX2_refuse 13 = .ok (.iconst 0, 1) := by decide +kernel
theorem dX2_refuse_14 : decode cX2_refuse 14 = .ok (.ireturn, 1) := by decide +kernel
theorem dX2_statementOf_0 : decode cX2_statementOf 0 = .ok (.aload_n 0, 1) := by decide +kernel
theorem dX2_statementOf_1 : decode cX2_statementOf 1 = .ok (.ldc 96, 2) := by decide +kernel
theorem dX2_statementOf_3 : decode cX2_statementOf 3 = .ok (.invokevirtual 98, 3) := by decide +kernel
theorem dX2_statementOf_6 : decode cX2_statementOf 6 = .ok (.ifCond .eq 5, 3) := by decide +kernel
theorem dX2_statementOf_9 : decode cX2_statementOf 9 = .ok (.iconst 0, 1) := by decide +kernel
theorem dX2_statementOf_10 : decode cX2_statementOf 10 = .ok (.ireturn, 1) := by decide +kernel
theorem dX2_statementOf_11 : decode cX2_statementOf 11 = .ok (.aload_n 0, 1) := by decide +kernel
theorem dX2_statementOf_12 : decode cX2_statementOf 12 = .ok (.ldc 102, 2) := by decide +kernel
theorem dX2_statementOf_14 : decode cX2_statementOf 14 = .ok (.invokevirtual 98, 3) := by decide +kernel
theorem dX2_statementOf_17 : decode cX2_statementOf 17 = .ok (.ifCond .eq 5, 3) := by decide +kernel
theorem dX2_statementOf_20 : decode cX2_statementOf 20 = .ok (.iconst 1, 1) := by decide +kernel
theorem dX2_statementOf_21 : decode cX2_statementOf 21 = .ok (.ireturn, 1) := by decide +kernel
theorem dX2_statementOf_22 : decode cX2_statementOf 22 = .ok (.aload_n 0, 1) := by decide +kernel
theorem dX2_statementOf_23 : decode cX2_statementOf 23 = .ok (.ldc 104, 2) := by decide +kernel
theorem dX2_statementOf_25 : decode cX2_statementOf 25 = .ok (.invokevirtual 98, 3) := by decide +kernel
theorem dX2_statementOf_28 : decode cX2_statementOf 28 = .ok (.ifCond .eq 5, 3) := by decide +kernel
theorem dX2_statementOf_31 : decode cX2_statementOf 31 = .ok (.iconst 2, 1) := by decide +kernel
theorem dX2_statementOf_32 : decode cX2_statementOf 32 = .ok (.ireturn, 1) := by decide +kernel
theorem dX2_statementOf_33 : decode cX2_statementOf 33 = .ok (.aload_n 0, 1) := by decide +kernel
theorem dX2_statementOf_34 : decode cX2_statementOf 34 = .ok (.ldc 106, 2) := by decide +kernel
theorem dX2_statementOf_36 : decode cX2_statementOf 36 = .ok (.invokevirtual 98, 3) := by decide +kernel
theorem dX2_statementOf_39 : decode cX2_statementOf 39 = .ok (.ifCond .eq 7, 3) := by decide +kernel
theorem dX2_statementOf_42 : decode cX2_statementOf 42 = .ok (.iconst 3, 1) := by decide +kernel
theorem dX2_statementOf_43 : decode cX2_statementOf 43 = .ok (.goto 4, 3) := by decide +kernel
theorem dX2_statementOf_46 : decode cX2_statementOf 46 = .ok (.iconst (-1), 1) := by decide +kernel
theorem dX2_statementOf_47 : decode cX2_statementOf 47 = .ok (.ireturn, 1) := by decide +kernel
theorem dX2_isFull_0 : decode cX2_isFull 0 = .ok (.iload_n 1, 1) := by decide +kernel
theorem dX2_isFull_1 : decode cX2_isFull 1 = .ok (.tableswitch 85 0 3 #[31, 49, 85, 67], 31) := by decide +kernel
theorem dX2_isFull_32 : decode cX2_isFull 32 = .ok (.aload_n 0, 1) := by decide +kernel
theorem dX2_isFull_33 : decode cX2_isFull 33 = .ok (.getfield 22, 3) := by decide +kernel
theorem dX2_isFull_36 : decode cX2_isFull 36 = .ok (.getfield 34, 3) := by decide +kernel
theorem dX2_isFull_39 : decode cX2_isFull 39 = .ok (.bipush 8, 2) := by decide +kernel
theorem dX2_isFull_41 : decode cX2_isFull 41 = .ok (.if_icmp .lt 7, 3) := by decide +kernel
theorem dX2_isFull_44 : decode cX2_isFull 44 = .ok (.iconst 1, 1) := by decide +kernel
theorem dX2_isFull_45 : decode cX2_isFull 45 = .ok (.goto 4, 3) := by decide +kernel
theorem dX2_isFull_48 : decode cX2_isFull 48 = .ok (.iconst 0, 1) := by decide +kernel
theorem dX2_isFull_49 : decode cX2_isFull 49 = .ok (.ireturn, 1) := by decide +kernel
theorem dX2_isFull_50 : decode cX2_isFull 50 = .ok (.aload_n 0, 1) := by decide +kernel
theorem dX2_isFull_51 : decode cX2_isFull 51 = .ok (.getfield 22, 3) := by decide +kernel
theorem dX2_isFull_54 : decode cX2_isFull 54 = .ok (.getfield 39, 3) := by decide +kernel
theorem dX2_isFull_57 : decode cX2_isFull 57 = .ok (.bipush 12, 2) := by decide +kernel
theorem dX2_isFull_59 : decode cX2_isFull 59 = .ok (.if_icmp .lt 7, 3) := by decide +kernel
theorem dX2_isFull_62 : decode cX2_isFull 62 = .ok (.iconst 1, 1) := by decide +kernel
theorem dX2_isFull_63 : decode cX2_isFull 63 = .ok (.goto 4, 3) := by decide +kernel
theorem dX2_isFull_66 : decode cX2_isFull 66 = .ok (.iconst 0, 1) := by decide +kernel
theorem dX2_isFull_67 : decode cX2_isFull 67 = .ok (.ireturn, 1) := by decide +kernel
theorem dX2_isFull_68 : decode cX2_isFull 68 = .ok (.aload_n 0, 1) := by decide +kernel
theorem dX2_isFull_69 : decode cX2_isFull 69 = .ok (.getfield 26, 3) := by decide +kernel
theorem dX2_isFull_72 : decode cX2_isFull 72 = .ok (.getfield 42, 3) := by decide +kernel
theorem dX2_isFull_75 : decode cX2_isFull 75 = .ok (.bipush 40, 2) := by decide +kernel
theorem dX2_isFull_77 : decode cX2_isFull 77 = .ok (.if_icmp .lt 7, 3) := by decide +kernel
theorem dX2_isFull_80 : decode cX2_isFull 80 = .ok (.iconst 1, 1) := by decide +kernel
theorem dX2_isFull_81 : decode cX2_isFull 81 = .ok (.goto 4, 3) := by decide +kernel
theorem dX2_isFull_84 : decode cX2_isFull 84 = .ok (.iconst 0, 1) := by decide +kernel
theorem dX2_isFull_85 : decode cX2_isFull 85 = .ok (.ireturn, 1) := by decide +kernel
theorem dX2_isFull_86 : decode cX2_isFull 86 = .ok (.iconst 0, 1) := by decide +kernel
theorem dX2_isFull_87 : decode cX2_isFull 87 = .ok (.ireturn, 1) := by decide +kernel
theorem dX2_readInts_0 : decode cX2_readInts 0 = .ok (.iload_n 1, 1) := by decide +kernel
theorem dX2_readInts_1 : decode cX2_readInts 1 = .ok (.invokestatic 108, 3) := by decide +kernel
theorem dX2_readInts_4 : decode cX2_readInts 4 = .ok (.istore_n 2, 1) := by decide +kernel
theorem dX2_readInts_5 : decode cX2_readInts 5 = .ok (.iconst 0, 1) := by decide +kernel
theorem dX2_readInts_6 : decode cX2_readInts 6 = .ok (.istore_n 3, 1) := by decide +kernel
theorem dX2_readInts_7 : decode cX2_readInts 7 = .ok (.iload_n 3, 1) := by decide +kernel
theorem dX2_readInts_8 : decode cX2_readInts 8 = .ok (.iload_n 2, 1) := by decide +kernel
theorem dX2_readInts_9 : decode cX2_readInts 9 = .ok (.if_icmp .ge 71, 3) := by decide +kernel
theorem dX2_readInts_12 : decode cX2_readInts 12 = .ok (.iload_n 1, 1) := by decide +kernel
theorem dX2_readInts_13 : decode cX2_readInts 13 = .ok (.iconst 3, 1) := by decide +kernel
theorem dX2_readInts_14 : decode cX2_readInts 14 = .ok (.if_icmp .ne 17, 3) := by decide +kernel
theorem dX2_readInts_17 : decode cX2_readInts 17 = .ok (.iload_n 3, 1) := by decide +kernel
theorem dX2_readInts_18 : decode cX2_readInts 18 = .ok (.iconst 2, 1) := by decide +kernel
theorem dX2_readInts_19 : decode cX2_readInts 19 = .ok (.if_icmp .ne 12, 3) := by decide +kernel
theorem dX2_readInts_22 : decode cX2_readInts 22 = .ok (.aload_n 0, 1) := by decide +kernel
theorem dX2_readInts_23 : decode cX2_readInts 23 = .ok (.invokevirtual 112, 3) := by decide +kernel
theorem dX2_readInts_26 : decode cX2_readInts 26 = .ok (.ifCond .ne 5, 3) := by decide +kernel
theorem dX2_readInts_29 : decode cX2_readInts 29 = .ok (.iconst 0, 1) := by decide +kernel
theorem dX2_readInts_30 : decode cX2_readInts 30 = .ok (.ireturn, 1) := by decide +kernel
theorem dX2_readInts_31 : decode cX2_readInts 31 = .ok (.aload_n 0, 1) := by decide +kernel
theorem dX2_readInts_32 : decode cX2_readInts 32 = .ok (.invokevirtual 62, 3) := by decide +kernel
theorem dX2_readInts_35 : decode cX2_readInts 35 = .ok (.aload_n 0, 1) := by decide +kernel
theorem dX2_readInts_36 : decode cX2_readInts 36 = .ok (.getfield 65, 3) := by decide +kernel
theorem dX2_readInts_39 : decode cX2_readInts 39 = .ok (.iconst 2, 1) := by decide +kernel
theorem dX2_readInts_40 : decode cX2_readInts 40 = .ok (.if_icmp .eq 9, 3) := by decide +kernel
theorem dX2_readInts_43 : decode cX2_readInts 43 = .ok (.aload_n 0, 1) := by decide +kernel
theorem dX2_readInts_44 : decode cX2_readInts 44 = .ok (.iconst 1, 1) := by decide +kernel
theorem dX2_readInts_45 : decode cX2_readInts 45 = .ok (.invokevirtual 76, 3) := by decide +kernel
theorem dX2_readInts_48 : decode cX2_readInts 48 = .ok (.ireturn, 1) := by decide +kernel
theorem dX2_readInts_49 : decode cX2_readInts 49 = .ok (.aload_n 0, 1) := by decide +kernel
theorem dX2_readInts_50 : decode cX2_readInts 50 = .ok (.iload_n 1, 1) := by decide +kernel
theorem dX2_readInts_51 : decode cX2_readInts 51 = .ok (.iload_n 3, 1) := by decide +kernel
theorem dX2_readInts_52 : decode cX2_readInts 52 = .ok (.invokevirtual 115, 3) := by decide +kernel
theorem dX2_readInts_55 : decode cX2_readInts 55 = .ok (.ifCond .ne 9, 3) := by decide +kernel
theorem dX2_readInts_58 : decode cX2_readInts 58 = .ok (.aload_n 0, 1) := by decide +kernel
theorem dX2_readInts_59 : decode cX2_readInts 59 = .ok (.iconst 2, 1) := by decide +kernel
theorem dX2_readInts_60 : decode cX2_readInts 60 = .ok (.invokevirtual 76, 3) := by decide +kernel
theorem dX2_readInts_63 : decode cX2_readInts 63 = .ok (.ireturn, 1) := by decide +kernel
theorem dX2_readInts_64 : decode cX2_readInts 64 = .ok (.aload_n 0, 1) := by decide +kernel
theorem dX2_readInts_65 : decode cX2_readInts 65 = .ok (.getfield 15, 3) := by decide +kernel
theorem dX2_readInts_68 : decode cX2_readInts 68 = .ok (.iload_n 3, 1) := by decide +kernel
theorem dX2_readInts_69 : decode cX2_readInts 69 = .ok (.aload_n 0, 1) := by decide +kernel
theorem dX2_readInts_70 : decode cX2_readInts 70 = .ok (.getfield 86, 3) := by decide +kernel
theorem dX2_readInts_73 : decode cX2_readInts 73 = .ok (.iastore, 1) := by decide +kernel
theorem dX2_readInts_74 : decode cX2_readInts 74 = .ok (.iinc 3 1, 3) := by decide +kernel
theorem dX2_readInts_77 : decode cX2_readInts 77 = .ok (.goto (-70), 3) := by decide +kernel
theorem dX2_readInts_80 : decode cX2_readInts 80 = .ok (.iconst 1, 1) := by decide +kernel
theorem dX2_readInts_81 : decode cX2_readInts 81 = .ok (.ireturn, 1) := by decide +kernel
theorem dX2_intsOf_0 : decode cX2_intsOf 0 = .ok (.iload_n 0, 1) := by decide +kernel
theorem dX2_intsOf_1 : decode cX2_intsOf 1 = .ok (.tableswitch 33 0 2 #[27, 29, 31], 27) := by decide +kernel
theorem dX2_intsOf_28 : decode cX2_intsOf 28 = .ok (.iconst 4, 1) := by decide +kernel
theorem dX2_intsOf_29 : decode cX2_intsOf 29 = .ok (.ireturn, 1) := by decide +kernel
theorem dX2_intsOf_30 : decode cX2_intsOf 30 = .ok (.iconst 5, 1) := by decide +kernel
theorem dX2_intsOf_31 : decode cX2_intsOf 31 = .ok (.ireturn, 1) := by decide +kernel
theorem dX2_intsOf_32 : decode cX2_intsOf 32 = .ok (.iconst 2, 1) := by decide +kernel
theorem dX2_intsOf_33 : decode cX2_intsOf 33 = .ok (.ireturn, 1) := by decide +kernel
theorem dX2_intsOf_34 : decode cX2_intsOf 34 = .ok (.iconst 3, 1) := by decide +kernel
theorem dX2_intsOf_35 : decode cX2_intsOf 35 = .ok (.ireturn, 1) := by decide +kernel
theorem dX2_readWay_0 : decode cX2_readWay 0 = .ok (.aload_n 0, 1) := by decide +kernel
theorem dX2_readWay_1 : decode cX2_readWay 1 = .ok (.invokevirtual 62, 3) := by decide +kernel
theorem dX2_readWay_4 : decode cX2_readWay 4 = .ok (.aload_n 0, 1) := by decide +kernel
theorem dX2_readWay_5 : decode cX2_readWay 5 = .ok (.aload_n 0, 1) := by decide +kernel
theorem dX2_readWay_6 : decode cX2_readWay 6 = .ok (.ldc 119, 2) := by decide +kernel
theorem dX2_readWay_8 : decode cX2_readWay 8 = .ok (.invokevirtual 98, 3) := by decide +kernel
theorem dX2_readWay_11 : decode cX2_readWay 11 = .ok (.putfield 121, 3) := by decide +kernel
theorem dX2_readWay_14 : decode cX2_readWay 14 = .ok (.aload_n 0, 1) := by decide +kernel
theorem dX2_readWay_15 : decode cX2_readWay 15 = .ok (.getfield 121, 3) := by decide +kernel
theorem dX2_readWay_18 : decode cX2_readWay 18 = .ok (.ifCond .ne 20, 3) := by decide +kernel
theorem dX2_readWay_21 : decode cX2_readWay 21 = .ok (.aload_n 0, 1) := by decide +kernel
theorem dX2_readWay_22 : decode cX2_readWay 22 = .ok (.ldc 125, 2) := by decide +kernel
theorem dX2_readWay_24 : decode cX2_readWay 24 = .ok (.invokevirtual 98, 3) := by decide +kernel
theorem dX2_readWay_27 : decode cX2_readWay 27 = .ok (.ifCond .ne 11, 3) := by decide +kernel
theorem dX2_readWay_30 : decode cX2_readWay 30 = .ok (.aload_n 0, 1) := by decide +kernel
theorem dX2_readWay_31 : decode cX2_readWay 31 = .ok (.iconst 1, 1) := by decide +kernel
theorem dX2_readWay_32 : decode cX2_readWay 32 = .ok (.invokevirtual 76, 3) := by decide +kernel
theorem dX2_readWay_35 : decode cX2_readWay 35 = .ok (.ifCond .eq 7, 3) := by decide +kernel
theorem dX2_readWay_38 : decode cX2_readWay 38 = .ok (.iconst 1, 1) := by decide +kernel
theorem dX2_readWay_39 : decode cX2_readWay 39 = .ok (.goto 4, 3) := by decide +kernel
theorem dX2_readWay_42 : decode cX2_readWay 42 = .ok (.iconst 0, 1) := by decide +kernel
theorem dX2_readWay_43 : decode cX2_readWay 43 = .ok (.ireturn, 1) := by decide +kernel
theorem dX2_intFits_0 : decode cX2_intFits 0 = .ok (.iload_n 2, 1) := by decide +kernel
theorem dX2_intFits_1 : decode cX2_intFits 1 = .ok (.ifCond .le 14, 3) := by decide +kernel
theorem dX2_intFits_4 : decode cX2_intFits 4 = .ok (.aload_n 0, 1) := by decide +kernel
theorem dX2_intFits_5 : decode cX2_intFits 5 = .ok (.getfield 15, 3) := by decide +kernel
theorem dX2_intFits_8 : decode cX2_intFits 8 = .ok (.iload_n 2, 1) := by decide +kernel
theorem dX2_intFits_9 : decode cX2_intFits 9 = .ok (.iconst 1, 1) := by decide +kernel
theorem dX2_intFits_10 : decode cX2_intFits 10 = .ok (.isub, 1) := by decide +kernel
theorem dX2_intFits_11 : decode cX2_intFits 11 = .ok (.iaload, 1) := by decide +kernel
theorem dX2_intFits_12 : decode cX2_intFits 12 = .ok (.goto 4, 3) := by decide +kernel
theorem dX2_intFits_15 : decode cX2_intFits 15 = .ok (.iconst 0, 1) := by decide +kernel
theorem dX2_intFits_16 : decode cX2_intFits 16 = .ok (.istore_n 3, 1) := by decide +kernel
theorem dX2_intFits_17 : decode cX2_intFits 17 = .ok (.iload_n 1, 1) := by decide +kernel
theorem dX2_intFits_18 : decode cX2_intFits 18 = .ok (.tableswitch 84 0 2 #[26, 39, 53], 26) := by decide +kernel
theorem dX2_intFits_44 : decode cX2_intFits 44 = .ok (.aload_n 0, 1) := by decide +kernel
theorem dX2_intFits_45 : decode cX2_intFits 45 = .ok (.getfield 22, 3) := by decide +kernel
theorem dX2_intFits_48 : decode cX2_intFits 48 = .ok (.iload_n 2, 1) := by decide +kernel
theorem dX2_intFits_49 : decode cX2_intFits 49 = .ok (.aload_n 0, 1) := by decide +kernel
theorem dX2_intFits_50 : decode cX2_intFits 50 = .ok (.getfield 86, 3) := by decide +kernel
theorem dX2_intFits_53 : decode cX2_intFits 53 = .ok (.invokevirtual 127, 3) := by decide +kernel
theorem dX2_intFits_56 : decode cX2_intFits 56 = .ok (.ireturn, 1) := by decide +kernel
theorem dX2_intFits_57 : decode cX2_intFits 57 = .ok (.aload_n 0, 1) := by decide +kernel
theorem dX2_intFits_58 : decode cX2_intFits 58 = .ok (.getfield 22, 3) := by decide +kernel
theorem dX2_intFits_61 : decode cX2_intFits 61 = .ok (.iload_n 2, 1) := by decide +kernel
theorem dX2_intFits_62 : decode cX2_intFits 62 = .ok (.aload_n 0, 1) := by decide +kernel
theorem dX2_intFits_63 : decode cX2_intFits 63 = .ok (.getfield 86, 3) := by decide +kernel
theorem dX2_intFits_66 : decode cX2_intFits 66 = .ok (.iload_n 3, 1) := by decide +kernel
theorem dX2_intFits_67 : decode cX2_intFits 67 = .ok (.invokevirtual 130, 3) := by decide +kernel
theorem dX2_intFits_70 : decode cX2_intFits 70 = .ok (.ireturn, 1) := by decide +kernel
theorem dX2_intFits_71 : decode cX2_intFits 71 = .ok (.iload_n 2, 1) := by decide +kernel
theorem dX2_intFits_72 : decode cX2_intFits 72 = .ok (.ifCond .ne 17, 3) := by decide +kernel
theorem dX2_intFits_75 : decode cX2_intFits 75 = .ok (.aload_n 0, 1) := by decide +kernel
theorem dX2_intFits_76 : decode cX2_intFits 76 = .ok (.getfield 22, 3) := by decide +kernel
theorem dX2_intFits_79 : decode cX2_intFits 79 = .ok (.aload_n 0, 1) := by decide +kernel
theorem dX2_intFits_80 : decode cX2_intFits 80 = .ok (.getfield 86, 3) := by decide +kernel
theorem dX2_intFits_83 : decode cX2_intFits 83 = .ok (.invokevirtual 134, 3) := by decide +kernel
theorem dX2_intFits_86 : decode cX2_intFits 86 = .ok (.goto 15, 3) := by decide +kernel
theorem dX2_intFits_89 : decode cX2_intFits 89 = .ok (.aload_n 0, 1) := by decide +kernel
theorem dX2_intFits_90 : decode cX2_intFits 90 = .ok (.getfield 22, 3) := by decide +kernel
theorem dX2_intFits_93 : decode cX2_intFits 93 = .ok (.iload_n 3, 1) := by decide +kernel
theorem dX2_intFits_94 : decode cX2_intFits 94 = .ok (.aload_n 0, 1) := by decide +kernel
theorem dX2_intFits_95 : decode cX2_intFits 95 = .ok (.getfield 86, 3) := by decide +kernel
theorem dX2_intFits_98 : decode cX2_intFits 98 = .ok (.invokevirtual 137, 3) := by decide +kernel
theorem dX2_intFits_101 : decode cX2_intFits 101 = .ok (.ireturn, 1) := by decide +kernel
theorem dX2_intFits_102 : decode cX2_intFits 102 = .ok (.aload_n 0, 1) := by decide +kernel
theorem dX2_intFits_103 : decode cX2_intFits 103 = .ok (.getfield 26, 3) := by decide +kernel
theorem dX2_intFits_106 : decode cX2_intFits 106 = .ok (.iload_n 2, 1) := by decide +kernel
theorem dX2_intFits_107 : decode cX2_intFits 107 = .ok (.aload_n 0, 1) := by decide +kernel
theorem dX2_intFits_108 : decode cX2_intFits 108 = .ok (.getfield 86, 3) := by decide +kernel
theorem dX2_intFits_111 : decode cX2_intFits 111 = .ok (.invokevirtual 140, 3) := by decide +kernel
theorem dX2_intFits_114 : decode cX2_intFits 114 = .ok (.ireturn, 1) := by decide +kernel
theorem dX2_carryOut_0 : decode cX2_carryOut 0 = .ok (.iload_n 1, 1) := by decide +kernel
theorem dX2_carryOut_1 : decode cX2_carryOut 1 = .ok (.tableswitch 125 0 2 #[27, 62, 103], 27) := by decide +kernel
theorem dX2_carryOut_28 : decode cX2_carryOut 28 = .ok (.aload_n 0, 1) := by decide +kernel
theorem dX2_carryOut_29 : decode cX2_carryOut 29 = .ok (.getfield 22, 3) := by decide +kernel
theorem dX2_carryOut_32 : decode cX2_carryOut 32 = .ok (.aload_n 0, 1) := by decide +kernel
theorem dX2_carryOut_33 : decode cX2_carryOut 33 = .ok (.getfield 15, 3) := by decide +kernel
theorem dX2_carryOut_36 : decode cX2_carryOut 36 = .ok (.iconst 0, 1) := by decide +kernel
theorem dX2_carryOut_37 : decode cX2_carryOut 37 = .ok (.iaload, 1) := by decide +kernel
theorem dX2_carryOut_38 : decode cX2_carryOut 38 = .ok (.aload_n 0, 1) := by decide +kernel
theorem dX2_carryOut_39 : decode cX2_carryOut 39 = .ok (.getfield 15, 3) := by decide +kernel
theorem dX2_carryOut_42 : decode cX2_carryOut 42 = .ok (.iconst 1, 1) := by decide +kernel
theorem dX2_carryOut_43 : decode cX2_carryOut 43 = .ok (.iaload, 1) := by decide +kernel
theorem dX2_carryOut_44 : decode cX2_carryOut 44 = .ok (.aload_n 0, 1) := by decide +kernel
theorem dX2_carryOut_45 : decode cX2_carryOut 45 = .ok (.getfield 15, 3) := by decide +kernel
theorem dX2_carryOut_48 : decode cX2_carryOut 48 = .ok (.iconst 2, 1) := by decide +kernel
theorem dX2_carryOut_49 : decode cX2_carryOut 49 = .ok (.iaload, 1) := by decide +kernel
theorem dX2_carryOut_50 : decode cX2_carryOut 50 = .ok (.aload_n 0, 1) := by decide +kernel
theorem dX2_carryOut_51 : decode cX2_carryOut 51 = .ok (.getfield 15, 3) := by decide +kernel
theorem dX2_carryOut_54 : decode cX2_carryOut 54 = .ok (.iconst 3, 1) := by decide +kernel
theorem dX2_carryOut_55 : decode cX2_carryOut 55 = .ok (.iaload, 1) := by decide +kernel
theorem dX2_carryOut_56 : decode cX2_carryOut 56 = .ok (.invokevirtual 143, 3) := by decide +kernel
theorem dX2_carryOut_59 : decode cX2_carryOut 59 = .ok (.pop, 1) := by decide +kernel
theorem dX2_carryOut_60 : decode cX2_carryOut 60 = .ok (.goto 96, 3) := by decide +kernel
theorem dX2_carryOut_63 : decode cX2_carryOut 63 = .ok (.aload_n 0, 1) := by decide +kernel
theorem dX2_carryOut_64 : decode cX2_carryOut 64 = .ok (.getfield 22, 3) := by decide +kernel
theorem dX2_carryOut_67 : decode cX2_carryOut 67 = .ok (.aload_n 0, 1) := by decide +kernel
theorem dX2_carryOut_68 : decode cX2_carryOut 68 = .ok (.getfield 15, 3) := by decide +kernel
theorem dX2_carryOut_71 : decode cX2_carryOut 71 = .ok (.iconst 0, 1) := by decide +kernel
theorem dX2_carryOut_72 : decode cX2_carryOut 72 = .ok (.iaload, 1) := by decide +kernel
theorem dX2_carryOut_73 : decode cX2_carryOut 73 = .ok (.aload_n 0, 1) := by decide +kernel
theorem dX2_carryOut_74 : decode cX2_carryOut 74 = .ok (.getfield 15, 3) := by decide +kernel
theorem dX2_carryOut_77 : decode cX2_carryOut 77 = .ok (.iconst 1, 1) := by decide +kernel
theorem dX2_carryOut_78 : decode cX2_carryOut 78 = .ok (.iaload, 1) := by decide +kernel
theorem dX2_carryOut_79 : decode cX2_carryOut 79 = .ok (.aload_n 0, 1) := by decide +kernel
theorem dX2_carryOut_80 : decode cX2_carryOut 80 = .ok (.getfield 15, 3) := by decide +kernel
theorem dX2_carryOut_83 : decode cX2_carryOut 83 = .ok (.iconst 2, 1) := by decide +kernel
theorem dX2_carryOut_84 : decode cX2_carryOut 84 = .ok (.iaload, 1) := by decide +kernel
theorem dX2_carryOut_85 : decode cX2_carryOut 85 = .ok (.aload_n 0, 1) := by decide +kernel
theorem dX2_carryOut_86 : decode cX2_carryOut 86 = .ok (.getfield 15, 3) := by decide +kernel
theorem dX2_carryOut_89 : decode cX2_carryOut 89 = .ok (.iconst 3, 1) := by decide +kernel
theorem dX2_carryOut_90 : decode cX2_carryOut 90 = .ok (.iaload, 1) := by decide +kernel
theorem dX2_carryOut_91 : decode cX2_carryOut 91 = .ok (.aload_n 0, 1) := by decide +kernel
theorem dX2_carryOut_92 : decode cX2_carryOut 92 = .ok (.getfield 15, 3) := by decide +kernel
theorem dX2_carryOut_95 : decode cX2_carryOut 95 = .ok (.iconst 4, 1) := by decide +kernel
theorem dX2_carryOut_96 : decode cX2_carryOut 96 = .ok (.iaload, 1) := by decide +kernel
theorem dX2_carryOut_97 : decode cX2_carryOut 97 = .ok (.invokevirtual 147, 3) := by decide +kernel
theorem dX2_carryOut_100 : decode cX2_carryOut 100 = .ok (.pop, 1) := by decide +kernel
theorem dX2_carryOut_101 : decode cX2_carryOut 101 = .ok (.goto 55, 3) := by decide +kernel
theorem dX2_carryOut_104 : decode cX2_carryOut 104 = .ok (.aload_n 0, 1) := by decide +kernel
theorem dX2_carryOut_105 : decode cX2_carryOut 105 = .ok (.getfield 22, 3) := by decide +kernel
theorem dX2_carryOut_108 : decode cX2_carryOut 108 = .ok (.aload_n 0, 1) := by decide +kernel
theorem dX2_carryOut_109 : decode cX2_carryOut 109 = .ok (.getfield 15, 3) := by decide +kernel
theorem dX2_carryOut_112 : decode cX2_carryOut 112 = .ok (.iconst 0, 1) := by decide +kernel
theorem dX2_carryOut_113 : decode cX2_carryOut 113 = .ok (.iaload, 1) := by decide +kernel
theorem dX2_carryOut_114 : decode cX2_carryOut 114 = .ok (.aload_n 0, 1) := by decide +kernel
theorem dX2_carryOut_115 : decode cX2_carryOut 115 = .ok (.getfield 15, 3) := by decide +kernel
theorem dX2_carryOut_118 : decode cX2_carryOut 118 = .ok (.iconst 1, 1) := by decide +kernel
theorem dX2_carryOut_119 : decode cX2_carryOut 119 = .ok (.iaload, 1) := by decide +kernel
theorem dX2_carryOut_120 : decode cX2_carryOut 120 = .ok (.invokevirtual 151, 3) := by decide +kernel
theorem dX2_carryOut_123 : decode cX2_carryOut 123 = .ok (.goto 33, 3) := by decide +kernel
theorem dX2_carryOut_126 : decode cX2_carryOut 126 = .ok (.aload_n 0, 1) := by decide +kernel
theorem dX2_carryOut_127 : decode cX2_carryOut 127 = .ok (.getfield 26, 3) := by decide +kernel
theorem dX2_carryOut_130 : decode cX2_carryOut 130 = .ok (.aload_n 0, 1) := by decide +kernel
theorem dX2_carryOut_131 : decode cX2_carryOut 131 = .ok (.getfield 15, 3) := by decide +kernel
theorem dX2_carryOut_134 : decode cX2_carryOut 134 = .ok (.iconst 0, 1) := by decide +kernel
theorem dX2_carryOut_135 : decode cX2_carryOut 135 = .ok (.iaload, 1) := by decide +kernel
theorem dX2_carryOut_136 : decode cX2_carryOut 136 = .ok (.aload_n 0, 1) := by decide +kernel
theorem dX2_carryOut_137 : decode cX2_carryOut 137 = .ok (.getfield 15, 3) := by decide +kernel
theorem dX2_carryOut_140 : decode cX2_carryOut 140 = .ok (.iconst 1, 1) := by decide +kernel
theorem dX2_carryOut_141 : decode cX2_carryOut 141 = .ok (.iaload, 1) := by decide +kernel
theorem dX2_carryOut_142 : decode cX2_carryOut 142 = .ok (.aload_n 0, 1) := by decide +kernel
theorem dX2_carryOut_143 : decode cX2_carryOut 143 = .ok (.getfield 121, 3) := by decide +kernel
theorem dX2_carryOut_146 : decode cX2_carryOut 146 = .ok (.aload_n 0, 1) := by decide +kernel
theorem dX2_carryOut_147 : decode cX2_carryOut 147 = .ok (.getfield 15, 3) := by decide +kernel
theorem dX2_carryOut_150 : decode cX2_carryOut 150 = .ok (.iconst 2, 1) := by decide +kernel
theorem dX2_carryOut_151 : decode cX2_carryOut 151 = .ok (.iaload, 1) := by decide +kernel
theorem dX2_carryOut_152 : decode cX2_carryOut 152 = .ok (.invokevirtual 155, 3) := by decide +kernel
theorem dX2_carryOut_155 : decode cX2_carryOut 155 = .ok (.pop, 1) := by decide +kernel
theorem dX2_carryOut_156 : decode cX2_carryOut 156 = .ok (.return_, 1) := by decide +kernel
theorem dX2_readToken_0 : decode cX2_readToken 0 = .ok (.aload_n 0, 1) := by decide +kernel
theorem dX2_readToken_1 : decode cX2_readToken 1 = .ok (.getfield 59, 3) := by decide +kernel
theorem dX2_readToken_4 : decode cX2_readToken 4 = .ok (.aload_n 0, 1) := by decide +kernel
theorem dX2_readToken_5 : decode cX2_readToken 5 = .ok (.getfield 30, 3) := by decide +kernel
theorem dX2_readToken_8 : decode cX2_readToken 8 = .ok (.if_icmp .ge 44, 3) := by decide +kernel
theorem dX2_readToken_11 : decode cX2_readToken 11 = .ok (.aload_n 0, 1) := by decide +kernel
theorem dX2_readToken_12 : decode cX2_readToken 12 = .ok (.getfield 9, 3) := by decide +kernel
theorem dX2_readToken_15 : decode cX2_readToken 15 = .ok (.aload_n 0, 1) := by decide +kernel
theorem dX2_readToken_16 : decode cX2_readToken 16 = .ok (.getfield 59, 3) := by decide +kernel
theorem dX2_readToken_19 : decode cX2_readToken 19 = .ok (.baload, 1) := by decide +kernel
theorem dX2_readToken_20 : decode cX2_readToken 20 = .ok (.bipush 32, 2) := by decide +kernel
theorem dX2_readToken_22 : decode cX2_readToken 22 = .ok (.if_icmp .eq 17, 3) := by decide +kernel
theorem dX2_readToken_25 : decode cX2_readToken 25 = .ok (.aload_n 0, 1) := by decide +kernel
theorem dX2_readToken_26 : decode cX2_readToken 26 = .ok (.getfield 9, 3) := by decide +kernel
theorem dX2_readToken_29 : decode cX2_readToken 29 = .ok (.aload_n 0, 1) := by decide +kernel
theorem dX2_readToken_30 : decode cX2_readToken 30 = .ok (.getfield 59, 3) := by decide +kernel
theorem dX2_readToken_33 : decode cX2_readToken 33 = .ok (.baload, 1) := by decide +kernel
theorem dX2_readToken_34 : decode cX2_readToken 34 = .ok (.bipush 10, 2) := by decide +kernel
theorem dX2_readToken_36 : decode cX2_readToken 36 = .ok (.if_icmp .ne 16, 3) := by decide +kernel
theorem dX2_readToken_39 : decode cX2_readToken 39 = .ok (.aload_n 0, 1) := by decide +kernel
theorem dX2_readToken_40 : decode cX2_readToken 40 = .ok (.dup, 1) := by decide +kernel
theorem dX2_readToken_41 : decode cX2_readToken 41 = .ok (.getfield 59, 3) := by decide +kernel
theorem dX2_readToken_44 : decode cX2_readToken 44 = .ok (.iconst 1, 1) := by decide +kernel
theorem dX2_readToken_45 : decode cX2_readToken 45 = .ok (.iadd, 1) := by decide +kernel
theorem dX2_readToken_46 : decode cX2_readToken 46 = .ok (.putfield 59, 3) := by decide +kernel
theorem dX2_readToken_49 : decode cX2_readToken 49 = .ok (.goto (-49), 3) := by decide +kernel
theorem dX2_readToken_52 : decode cX2_readToken 52 = .ok (.aload_n 0, 1) := by decide +kernel
theorem dX2_readToken_53 : decode cX2_readToken 53 = .ok (.aload_n 0, 1) := by decide +kernel
theorem dX2_readToken_54 : decode cX2_readToken 54 = .ok (.getfield 59, 3) := by decide +kernel
theorem dX2_readToken_57 : decode cX2_readToken 57 = .ok (.putfield 93, 3) := by decide +kernel
theorem dX2_readToken_60 : decode cX2_readToken 60 = .ok (.aload_n 0, 1) := by decide +kernel
theorem dX2_readToken_61 : decode cX2_readToken 61 = .ok (.getfield 59, 3) := by decide +kernel
theorem dX2_readToken_64 : decode cX2_readToken 64 = .ok (.aload_n 0, 1) := by decide +kernel
theorem dX2_readToken_65 : decode cX2_readToken 65 = .ok (.getfield 30, 3) := by decide +kernel
theorem dX2_readToken_68 : decode cX2_readToken 68 = .ok (.if_icmp .lt 11, 3) := by decide +kernel
theorem dX2_readToken_71 : decode cX2_readToken 71 = .ok (.aload_n 0, 1) := by decide +kernel
theorem dX2_readToken_72 : decode cX2_readToken 72 = .ok (.iconst 0, 1) := by decide +kernel
theorem dX2_readToken_73 : decode cX2_readToken 73 = .ok (.putfield 65, 3) := by decide +kernel
theorem dX2_readToken_76 : decode cX2_readToken 76 = .ok (.goto 94, 3) := by decide +kernel
theorem dX2_readToken_79 : decode cX2_readToken 79 = .ok (.aload_n 0, 1) := by decide +kernel
theorem dX2_readToken_80 : decode cX2_readToken 80 = .ok (.aload_n 0, 1) := by decide +kernel
theorem dX2_readToken_81 : decode cX2_readToken 81 = .ok (.getfield 59, 3) := by decide +kernel
theorem dX2_readToken_84 : decode cX2_readToken 84 = .ok (.invokevirtual 159, 3) := by decide +kernel
theorem dX2_readToken_87 : decode cX2_readToken 87 = .ok (.ifCond .eq 10, 3) := by decide +kernel
theorem dX2_readToken_90 : decode cX2_readToken 90 = .ok (.aload_n 0, 1) := by decide +kernel
theorem dX2_readToken_91 : decode cX2_readToken 91 = .ok (.invokevirtual 162, 3) := by decide +kernel
theorem dX2_readToken_94 : decode cX2_readToken 94 = .ok (.goto 76, 3) := by decide +kernel
theorem dX2_readToken_97 : decode cX2_readToken 97 = .ok (.aload_n 0, 1) := by decide +kernel
theorem dX2_readToken_98 : decode cX2_readToken 98 = .ok (.aload_n 0, 1) := by decide +kernel
theorem dX2_readToken_99 : decode cX2_readToken 99 = .ok (.getfield 59, 3) := by decide +kernel
theorem dX2_readToken_102 : decode cX2_readToken 102 = .ok (.invokevirtual 165, 3) := by decide +kernel
theorem dX2_readToken_105 : decode cX2_readToken 105 = .ok (.ifCond .ne 30, 3) := by decide +kernel
theorem dX2_readToken_108 : decode cX2_readToken 108 = .ok (.aload_n 0, 1) := by decide +kernel
theorem dX2_readToken_109 : decode cX2_readToken 109 = .ok (.getfield 9, 3) := by decide +kernel
theorem dX2_readToken_112 : decode cX2_readToken 112 = .ok (.aload_n 0, 1) := by decide +kernel
theorem dX2_readToken_113 : decode cX2_readToken 113 = .ok (.getfield 59, 3) := by decide +kernel
theorem dX2_readToken_116 : decode cX2_readToken 116 = .ok (.baload, 1) := by decide +kernel
theorem dX2_readToken_117 : decode cX2_readToken 117 = .ok (.bipush 45, 2) := by decide +kernel
theorem dX2_readToken_119 : decode cX2_readToken 119 = .ok (.if_icmp .ne 23, 3) := by decide +kernel
theorem dX2_readToken_122 : decode cX2_readToken 122 = .ok (.aload_n 0, 1) := by decide +kernel
theorem dX2_readToken_123 : decode cX2_readToken 123 = .ok (.aload_n 0, 1) := by decide +kernel
theorem dX2_readToken_124 : decode cX2_readToken 124 = .ok (.getfield 59, 3) := by decide +kernel
theorem dX2_readToken_127 : decode cX2_readToken 127 = .ok (.iconst 1, 1) := by decide +kernel
theorem dX2_readToken_128 : decode cX2_readToken 128 = .ok (.iadd, 1) := by decide +kernel
theorem dX2_readToken_129 : decode cX2_readToken 129 = .ok (.invokevirtual 165, 3) := by decide +kernel
theorem dX2_readToken_132 : decode cX2_readToken 132 = .ok (.ifCond .eq 10, 3) := by decide +kernel
theorem dX2_readToken_135 : decode cX2_readToken 135 = .ok (.aload_n 0, 1) := by decide +kernel
theorem dX2_readToken_136 : decode cX2_readToken 136 = .ok (.invokevirtual 168, 3) := by decide +kernel
theorem dX2_readToken_139 : decode cX2_readToken 139 = .ok (.goto 31, 3) := by decide +kernel
theorem dX2_readToken_142 : decode cX2_readToken 142 = .ok (.aload_n 0, 1) := by decide +kernel
theorem dX2_readToken_143 : decode cX2_readToken 143 = .ok (.iconst 3, 1) := by decide +kernel
theorem dX2_readToken_144 : decode cX2_readToken 144 = .ok (.putfield 65, 3) := by decide +kernel
theorem dX2_readToken_147 : decode cX2_readToken 147 = .ok (.aload_n 0, 1) := by decide +kernel
theorem dX2_readToken_148 : decode cX2_readToken 148 = .ok (.aload_n 0, 1) := by decide +kernel
theorem dX2_readToken_149 : decode cX2_readToken 149 = .ok (.getfield 9, 3) := by decide +kernel
theorem dX2_readToken_152 : decode cX2_readToken 152 = .ok (.aload_n 0, 1) := by decide +kernel
theorem dX2_readToken_153 : decode cX2_readToken 153 = .ok (.getfield 59, 3) := by decide +kernel
theorem dX2_readToken_156 : decode cX2_readToken 156 = .ok (.baload, 1) := by decide +kernel
theorem dX2_readToken_157 : decode cX2_readToken 157 = .ok (.putfield 86, 3) := by decide +kernel
theorem dX2_readToken_160 : decode cX2_readToken 160 = .ok (.aload_n 0, 1) := by decide +kernel
theorem dX2_readToken_161 : decode cX2_readToken 161 = .ok (.dup, 1) := by decide +kernel
theorem dX2_readToken_162 : decode cX2_readToken 162 = .ok (.getfield 59, 3) := by decide +kernel
theorem dX2_readToken_165 : decode cX2_readToken 165 = .ok (.iconst 1, 1) := by decide +kernel
theorem dX2_readToken_166 : decode cX2_readToken 166 = .ok (.iadd, 1) := by decide +kernel
theorem dX2_readToken_167 : decode cX2_readToken 167 = .ok (.putfield 59, 3) := by decide +kernel
theorem dX2_readToken_170 : decode cX2_readToken 170 = .ok (.return_, 1) := by decide +kernel
theorem dX2_readLetters_0 : decode cX2_readLetters 0 = .ok (.aload_n 0, 1) := by decide +kernel
theorem dX2_readLetters_1 : decode cX2_readLetters 1 = .ok (.iconst 1, 1) := by decide +kernel
theorem dX2_readLetters_2 : decode cX2_readLetters 2 = .ok (.putfield 65, 3) := by decide +kernel
theorem dX2_readLetters_5 : decode cX2_readLetters 5 = .ok (.aload_n 0, 1) := by decide +kernel
theorem dX2_readLetters_6 : decode cX2_readLetters 6 = .ok (.aload_n 0, 1) := by decide +kernel
theorem dX2_readLetters_7 : decode cX2_readLetters 7 = .ok (.getfield 59, 3) := by decide +kernel
theorem dX2_readLetters_10 : decode cX2_readLetters 10 = .ok (.invokevirtual 159, 3) := by decide +kernel
theorem dX2_readLetters_13 : decode cX2_readLetters 13 = .ok (.ifCond .eq 27, 3) := by decide +kernel
theorem dX2_readLetters_16 : decode cX2_readLetters 16 = .ok (.aload_n 0, 1) := by decide +kernel
theorem dX2_readLetters_17 : decode cX2_readLetters 17 = .ok (.getfield 59, 3) := by decide +kernel
theorem dX2_readLetters_20 : decode cX2_readLetters 20 = .ok (.aload_n 0, 1) := by decide +kernel
theorem dX2_readLetters_21 : decode cX2_readLetters 21 = .ok (.getfield 30, 3) := by decide +kernel
theorem dX2_readLetters_24 : decode cX2_readLetters 24 = .ok (.if_icmp .ge 16, 3) := by decide +kernel
theorem dX2_readLetters_27 : decode cX2_readLetters 27 = .ok (.aload_n 0, 1) := by decide +kernel
theorem dX2_readLetters_28 : decode cX2_readLetters 28 = .ok (.dup, 1) := by decide +kernel
theorem dX2_readLetters_29 : decode cX2_readLetters 29 = .ok (.getfield 59, 3) := by decide +kernel
theorem dX2_readLetters_32 : decode cX2_readLetters 32 = .ok (.iconst 1, 1) := by decide +kernel
theorem dX2_readLetters_33 : decode cX2_readLetters 33 = .ok (.iadd, 1) := by decide +kernel
theorem dX2_readLetters_34 : decode cX2_readLetters 34 = .ok (.putfield 59, 3) := by decide +kernel
theorem dX2_readLetters_37 : decode cX2_readLetters 37 = .ok (.goto (-32), 3) := by decide +kernel
theorem dX2_readLetters_40 : decode cX2_readLetters 40 = .ok (.return_, 1) := by decide +kernel
theorem dX2_readNumber_0 : decode cX2_readNumber 0 = .ok (.aload_n 0, 1) := by decide +kernel
theorem dX2_readNumber_1 : decode cX2_readNumber 1 = .ok (.getfield 9, 3) := by decide +kernel
theorem dX2_readNumber_4 : decode cX2_readNumber 4 = .ok (.aload_n 0, 1) := by decide +kernel
theorem dX2_readNumber_5 : decode cX2_readNumber 5 = .ok (.getfield 59, 3) := by decide +kernel
theorem dX2_readNumber_8 : decode cX2_readNumber 8 = .ok (.baload, 1) := by decide +kernel
theorem dX2_readNumber_9 : decode cX2_readNumber 9 = .ok (.bipush 45, 2) := by decide +kernel
theorem dX2_readNumber_11 : decode cX2_readNumber 11 = .ok (.if_icmp .ne 7, 3) := by decide +kernel
theorem dX2_readNumber_14 : decode cX2_readNumber 14 = .ok (.iconst 1, 1) := by decide +kernel
theorem dX2_readNumber_15 : decode cX2_readNumber 15 = .ok (.goto 4, 3) := by decide +kernel
theorem dX2_readNumber_18 : decode cX2_readNumber 18 = .ok (.iconst 0, 1) := by decide +kernel
theorem dX2_readNumber_19 : decode cX2_readNumber 19 = .ok (.istore_n 1, 1) := by decide +kernel
theorem dX2_readNumber_20 : decode cX2_readNumber 20 = .ok (.iload_n 1, 1) := by decide +kernel
theorem dX2_readNumber_21 : decode cX2_readNumber 21 = .ok (.ifCond .eq 13, 3) := by decide +kernel
theorem dX2_readNumber_24 : decode cX2_readNumber 24 = .ok (.aload_n 0, 1) := by decide +kernel
theorem dX2_readNumber_25 : decode cX2_readNumber 25 = .ok (.dup, 1) := by decide +kernel
theorem dX2_readNumber_26 : decode cX2_readNumber 26 = .ok (.getfield 59, 3) := by decide +kernel
theorem dX2_readNumber_29 : decode cX2_readNumber 29 = .ok (.iconst 1, 1) := by decide +kernel
theorem dX2_readNumber_30 : decode cX2_readNumber 30 = .ok (.iadd, 1) := by decide +kernel
theorem dX2_readNumber_31 : decode cX2_readNumber 31 = .ok (.putfield 59, 3) := by decide +kernel
theorem dX2_readNumber_34 : decode cX2_readNumber 34 = .ok (.aload_n 0, 1) := by decide +kernel
theorem dX2_readNumber_35 : decode cX2_readNumber 35 = .ok (.getfield 59, 3) := by decide +kernel
theorem dX2_readNumber_38 : decode cX2_readNumber 38 = .ok (.istore_n 2, 1) := by decide +kernel
theorem dX2_readNumber_39 : decode cX2_readNumber 39 = .ok (.aload_n 0, 1) := by decide +kernel
theorem dX2_readNumber_40 : decode cX2_readNumber 40 = .ok (.iconst 0, 1) := by decide +kernel
theorem dX2_readNumber_41 : decode cX2_readNumber 41 = .ok (.putfield 86, 3) := by decide +kernel
theorem dX2_readNumber_44 : decode cX2_readNumber 44 = .ok (.aload_n 0, 1) := by decide +kernel
theorem dX2_readNumber_45 : decode cX2_readNumber 45 = .ok (.aload_n 0, 1) := by decide +kernel
theorem dX2_readNumber_46 : decode cX2_readNumber 46 = .ok (.getfield 59, 3) := by decide +kernel
theorem dX2_readNumber_49 : decode cX2_readNumber 49 = .ok (.invokevirtual 165, 3) := by decide +kernel
theorem dX2_readNumber_52 : decode cX2_readNumber 52 = .ok (.ifCond .eq 51, 3) := by decide +kernel
theorem dX2_readNumber_55 : decode cX2_readNumber 55 = .ok (.aload_n 0, 1) := by decide +kernel
theorem dX2_readNumber_56 : decode cX2_readNumber 56 = .ok (.getfield 59, 3) := by decide +kernel
theorem dX2_readNumber_59 : decode cX2_readNumber 59 = .ok (.aload_n 0, 1) := by decide +kernel
theorem dX2_readNumber_60 : decode cX2_readNumber 60 = .ok (.getfield 30, 3) := by decide +kernel
theorem dX2_readNumber_63 : decode cX2_readNumber 63 = .ok (.if_icmp .ge 40, 3) := by decide +kernel
theorem dX2_readNumber_66 : decode cX2_readNumber 66 = .ok (.aload_n 0, 1) := by decide +kernel
theorem dX2_readNumber_67 : decode cX2_readNumber 67 = .ok (.aload_n 0, 1) := by decide +kernel
theorem dX2_readNumber_68 : decode cX2_readNumber 68 = .ok (.getfield 86, 3) := by decide +kernel
theorem dX2_readNumber_71 : decode cX2_readNumber 71 = .ok (.bipush 10, 2) := by decide +kernel
theorem dX2_readNumber_73 : decode cX2_readNumber 73 = .ok (.imul, 1) := by decide +kernel
theorem dX2_readNumber_74 : decode cX2_readNumber 74 = .ok (.aload_n 0, 1) := by decide +kernel
theorem dX2_readNumber_75 : decode cX2_readNumber 75 = .ok (.getfield 9, 3) := by decide +kernel
theorem dX2_readNumber_78 : decode cX2_readNumber 78 = .ok (.aload_n 0, 1) := by decide +kernel
theorem dX2_readNumber_79 : decode cX2_readNumber 79 = .ok (.getfield 59, 3) := by decide +kernel
theorem dX2_readNumber_82 : decode cX2_readNumber 82 = .ok (.baload, 1) := by decide +kernel
theorem dX2_readNumber_83 : decode cX2_readNumber 83 = .ok (.iadd, 1) := by decide +kernel
theorem dX2_readNumber_84 : decode cX2_readNumber 84 = .ok (.bipush 48, 2) := by decide +kernel
theorem dX2_readNumber_86 : decode cX2_readNumber 86 = .ok (.isub, 1) := by decide +kernel
theorem dX2_readNumber_87 : decode cX2_readNumber 87 = .ok (.putfield 86, 3) := by decide +kernel
theorem dX2_readNumber_90 : decode cX2_readNumber 90 = .ok (.aload_n 0, 1) := by decide +kernel
theorem dX2_readNumber_91 : decode cX2_readNumber 91 = .ok (.dup, 1) := by decide +kernel
theorem dX2_readNumber_92 : decode cX2_readNumber 92 = .ok (.getfield 59, 3) := by decide +kernel
theorem dX2_readNumber_95 : decode cX2_readNumber 95 = .ok (.iconst 1, 1) := by decide +kernel
theorem dX2_readNumber_96 : decode cX2_readNumber 96 = .ok (.iadd, 1) := by decide +kernel
theorem dX2_readNumber_97 : decode cX2_readNumber 97 = .ok (.putfield 59, 3) := by decide +kernel
theorem dX2_readNumber_100 : decode cX2_readNumber 100 = .ok (.goto (-56), 3) := by decide +kernel
theorem dX2_readNumber_103 : decode cX2_readNumber 103 = .ok (.aload_n 0, 1) := by decide +kernel
theorem dX2_readNumber_104 : decode cX2_readNumber 104 = .ok (.aload_n 0, 1) := by decide +kernel
theorem dX2_readNumber_105 : decode cX2_readNumber 105 = .ok (.getfield 59, 3) := by decide +kernel
theorem dX2_readNumber_108 : decode cX2_readNumber 108 = .ok (.iload_n 2, 1) := by decide +kernel
theorem dX2_readNumber_109 : decode cX2_readNumber 109 = .ok (.isub, 1) := by decide +kernel
theorem dX2_readNumber_110 : decode cX2_readNumber 110 = .ok (.iconst 3, 1) := by decide +kernel
theorem dX2_readNumber_111 : decode cX2_readNumber 111 = .ok (.if_icmp .le 7, 3) := by decide +kernel
theorem dX2_readNumber_114 : decode cX2_readNumber 114 = .ok (.iconst 4, 1) := by decide +kernel
theorem dX2_readNumber_115 : decode cX2_readNumber 115 = .ok (.goto 4, 3) := by decide +kernel
theorem dX2_readNumber_118 : decode cX2_readNumber 118 = .ok (.iconst 2, 1) := by decide +kernel
theorem dX2_readNumber_119 : decode cX2_readNumber 119 = .ok (.putfield 65, 3) := by decide +kernel
theorem dX2_readNumber_122 : decode cX2_readNumber 122 = .ok (.iload_n 1, 1) := by decide +kernel
theorem dX2_readNumber_123 : decode cX2_readNumber 123 = .ok (.ifCond .eq 12, 3) := by decide +kernel
theorem dX2_readNumber_126 : decode cX2_readNumber 126 = .ok (.aload_n 0, 1) := by decide +kernel
theorem dX2_readNumber_127 : decode cX2_readNumber 127 = .ok (.aload_n 0, 1) := by decide +kernel
theorem dX2_readNumber_128 : decode cX2_readNumber 128 = .ok (.getfield 86, 3) := by decide +kernel
theorem dX2_readNumber_131 : decode cX2_readNumber 131 = .ok (.ineg, 1) := by decide +kernel
theorem dX2_readNumber_132 : decode cX2_readNumber 132 = .ok (.putfield 86, 3) := by decide +kernel
theorem dX2_readNumber_135 : decode cX2_readNumber 135 = .ok (.return_, 1) := by decide +kernel
theorem dX2_isLetter_0 : decode cX2_isLetter 0 = .ok (.iload_n 1, 1) := by decide +kernel
theorem dX2_isLetter_1 : decode cX2_isLetter 1 = .ok (.aload_n 0, 1) := by decide +kernel
theorem dX2_isLetter_2 : decode cX2_isLetter 2 = .ok (.getfield 30, 3) := by decide +kernel
theorem dX2_isLetter_5 : decode cX2_isLetter 5 = .ok (.if_icmp .ge 29, 3) := by decide +kernel
theorem dX2_isLetter_8 : decode cX2_isLetter 8 = .ok (.aload_n 0, 1) := by decide +kernel
theorem dX2_isLetter_9 : decode cX2_isLetter 9 = .ok (.getfield 9, 3) := by decide +kernel
theorem dX2_isLetter_12 : decode cX2_isLetter 12 = .ok (.iload_n 1, 1) := by decide +kernel
theorem dX2_isLetter_13 : decode cX2_isLetter 13 = .ok (.baload, 1) := by decide +kernel
theorem dX2_isLetter_14 : decode cX2_isLetter 14 = .ok (.bipush 97, 2) := by decide +kernel
theorem dX2_isLetter_16 : decode cX2_isLetter 16 = .ok (.if_icmp .lt 18, 3) := by decide +kernel
theorem dX2_isLetter_19 : decode cX2_isLetter 19 = .ok (.aload_n 0, 1) := by decide +kernel
theorem dX2_isLetter_20 : decode cX2_isLetter 20 = .ok (.getfield 9, 3) := by decide +kernel
theorem dX2_isLetter_23 : decode cX2_isLetter 23 = .ok (.iload_n 1, 1) := by decide +kernel
theorem dX2_isLetter_24 : decode cX2_isLetter 24 = .ok (.baload, 1) := by decide +kernel
theorem dX2_isLetter_25 : decode cX2_isLetter 25 = .ok (.bipush 122, 2) := by decide +kernel
theorem dX2_isLetter_27 : decode cX2_isLetter 27 = .ok (.if_icmp .gt 7, 3) := by decide +kernel
theorem dX2_isLetter_30 : decode cX2_isLetter 30 = .ok (.iconst 1, 1) := by decide +kernel
theorem dX2_isLetter_31 : decode cX2_isLetter 31 = .ok (.goto 4, 3) := by decide +kernel
theorem dX2_isLetter_34 : decode cX2_isLetter 34 = .ok (.iconst 0, 1) := by decide +kernel
theorem dX2_isLetter_35 : decode cX2_isLetter 35 = .ok (.ireturn, 1) := by decide +kernel
theorem dX2_isDigit_0 : decode cX2_isDigit 0 = .ok (.iload_n 1, 1) := by decide +kernel
theorem dX2_isDigit_1 : decode cX2_isDigit 1 = .ok (.aload_n 0, 1) := by decide +kernel
theorem dX2_isDigit_2 : decode cX2_isDigit 2 = .ok (.getfield 30, 3) := by decide +kernel
theorem dX2_isDigit_5 : decode cX2_isDigit 5 = .ok (.if_icmp .ge 29, 3) := by decide +kernel
theorem dX2_isDigit_8 : decode cX2_isDigit 8 = .ok (.aload_n 0, 1) := by decide +kernel
theorem dX2_isDigit_9 : decode cX2_isDigit 9 = .ok (.getfield 9, 3) := by decide +kernel
theorem dX2_isDigit_12 : decode cX2_isDigit 12 = .ok (.iload_n 1, 1) := by decide +kernel
theorem dX2_isDigit_13 : decode cX2_isDigit 13 = .ok (.baload, 1) := by decide +kernel
theorem dX2_isDigit_14 : decode cX2_isDigit 14 = .ok (.bipush 48, 2) := by decide +kernel
theorem dX2_isDigit_16 : decode cX2_isDigit 16 = .ok (.if_icmp .lt 18, 3) := by decide +kernel
theorem dX2_isDigit_19 : decode cX2_isDigit 19 = .ok (.aload_n 0, 1) := by decide +kernel
theorem dX2_isDigit_20 : decode cX2_isDigit 20 = .ok (.getfield 9, 3) := by decide +kernel
theorem dX2_isDigit_23 : decode cX2_isDigit 23 = .ok (.iload_n 1, 1) := by decide +kernel
theorem dX2_isDigit_24 : decode cX2_isDigit 24 = .ok (.baload, 1) := by decide +kernel
theorem dX2_isDigit_25 : decode cX2_isDigit 25 = .ok (.bipush 57, 2) := by decide +kernel
theorem dX2_isDigit_27 : decode cX2_isDigit 27 = .ok (.if_icmp .gt 7, 3) := by decide +kernel
theorem dX2_isDigit_30 : decode cX2_isDigit 30 = .ok (.iconst 1, 1) := by decide +kernel
theorem dX2_isDigit_31 : decode cX2_isDigit 31 = .ok (.goto 4, 3) := by decide +kernel
theorem dX2_isDigit_34 : decode cX2_isDigit 34 = .ok (.iconst 0, 1) := by decide +kernel
theorem dX2_isDigit_35 : decode cX2_isDigit 35 = .ok (.ireturn, 1) := by decide +kernel
theorem dX2_isWord_0 : decode cX2_isWord 0 = .ok (.aload_n 0, 1) := by decide +kernel
theorem dX2_isWord_1 : decode cX2_isWord 1 = .ok (.getfield 65, 3) := by decide +kernel
theorem dX2_isWord_4 : decode cX2_isWord 4 = .ok (.iconst 1, 1) := by decide +kernel
theorem dX2_isWord_5 : decode cX2_isWord 5 = .ok (.if_icmp .ne 19, 3) := by decide +kernel
theorem dX2_isWord_8 : decode cX2_isWord 8 = .ok (.aload_n 0, 1) := by decide +kernel
theorem dX2_isWord_9 : decode cX2_isWord 9 = .ok (.getfield 59, 3) := by decide +kernel
theorem dX2_isWord_12 : decode cX2_isWord 12 = .ok (.aload_n 0, 1) := by decide +kernel
theorem dX2_isWord_13 : decode cX2_isWord 13 = .ok (.getfield 93, 3) := by decide +kernel
theorem dX2_isWord_16 : decode cX2_isWord 16 = .ok (.isub, 1) := by decide +kernel
theorem dX2_isWord_17 : decode cX2_isWord 17 = .ok (.aload_n 1, 1) := by decide +kernel
theorem dX2_isWord_18 : decode cX2_isWord 18 = .ok (.invokevirtual 171, 3) := by decide +kernel
theorem dX2_isWord_21 : decode cX2_isWord 21 = .ok (.if_icmp .eq 5, 3) := by decide +kernel
theorem dX2_isWord_24 : decode cX2_isWord 24 = .ok (.iconst 0, 1) := by decide +kernel
theorem dX2_isWord_25 : decode cX2_isWord 25 = .ok (.ireturn, 1) := by decide +kernel
theorem dX2_isWord_26 : decode cX2_isWord 26 = .ok (.iconst 0, 1) := by decide +kernel
theorem dX2_isWord_27 : decode cX2_isWord 27 = .ok (.istore_n 2, 1) := by decide +kernel
theorem dX2_isWord_28 : decode cX2_isWord 28 = .ok (.iload_n 2, 1) := by decide +kernel
theorem dX2_isWord_29 : decode cX2_isWord 29 = .ok (.aload_n 1, 1) := by decide +kernel
theorem dX2_isWord_30 : decode cX2_isWord 30 = .ok (.invokevirtual 171, 3) := by decide +kernel
theorem dX2_isWord_33 : decode cX2_isWord 33 = .ok (.if_icmp .ge 30, 3) := by decide +kernel
theorem dX2_isWord_36 : decode cX2_isWord 36 = .ok (.aload_n 0, 1) := by decide +kernel
theorem dX2_isWord_37 : decode cX2_isWord 37 = .ok (.getfield 9, 3) := by decide +kernel
theorem dX2_isWord_40 : decode cX2_isWord 40 = .ok (.aload_n 0, 1) := by decide +kernel
theorem dX2_isWord_41 : decode cX2_isWord 41 = .ok (.getfield 93, 3) := by decide +kernel
theorem dX2_isWord_44 : decode cX2_isWord 44 = .ok (.iload_n 2, 1) := by decide +kernel
theorem dX2_isWord_45 : decode cX2_isWord 45 = .ok (.iadd, 1) := by decide +kernel
theorem dX2_isWord_46 : decode cX2_isWord 46 = .ok (.baload, 1) := by decide +kernel
theorem dX2_isWord_47 : decode cX2_isWord 47 = .ok (.aload_n 1, 1) := by decide +kernel
theorem dX2_isWord_48 : decode cX2_isWord 48 = .ok (.iload_n 2, 1) := by decide +kernel
theorem dX2_isWord_49 : decode cX2_isWord 49 = .ok (.invokevirtual 175, 3) := by decide +kernel
theorem dX2_isWord_52 : decode cX2_isWord 52 = .ok (.if_icmp .eq 5, 3) := by decide +kernel
theorem dX2_isWord_55 : decode cX2_isWord 55 = .ok (.iconst 0, 1) := by decide +kernel
theorem dX2_isWord_56 : decode cX2_isWord 56 = .ok (.ireturn, 1) := by decide +kernel
theorem dX2_isWord_57 : decode cX2_isWord 57 = .ok (.iinc 2 1, 3) := by decide +kernel
theorem dX2_isWord_60 : decode cX2_isWord 60 = .ok (.goto (-32), 3) := by decide +kernel
theorem dX2_isWord_63 : decode cX2_isWord 63 = .ok (.iconst 1, 1) := by decide +kernel
theorem dX2_isWord_64 : decode cX2_isWord 64 = .ok (.ireturn, 1) := by decide +kernel
theorem dX3_init_0 : decode cX3_init 0 = .ok (.aload_n 0, 1) := by decide +kernel
theorem dX3_init_1 : decode cX3_init 1 = .ok (.invokespecial 3, 3) := by decide +kernel
theorem dX3_init_4 : decode cX3_init 4 = .ok (.aload_n 0, 1) := by decide +kernel
theorem dX3_init_5 : decode cX3_init 5 = .ok (.bipush 12, 2) := by decide +kernel
theorem dX3_init_7 : decode cX3_init 7 = .ok (.newarray .int, 2) := by decide +kernel
theorem dX3_init_9 : decode cX3_init 9 = .ok (.putfield 9, 3) := by decide +kernel
theorem dX3_init_12 : decode cX3_init 12 = .ok (.aload_n 0, 1) := by decide +kernel
theorem dX3_init_13 : decode cX3_init 13 = .ok (.bipush 24, 2) := by decide +kernel
theorem dX3_init_15 : decode cX3_init 15 = .ok (.newarray .int, 2) := by decide +kernel
theorem dX3_init_17 : decode cX3_init 17 = .ok (.putfield 15, 3) := by decide +kernel
theorem dX3_init_20 : decode cX3_init 20 = .ok (.aload_n 0, 1) := by decide +kernel
theorem dX3_init_21 : decode cX3_init 21 = .ok (.bipush 24, 2) := by decide +kernel
theorem dX3_init_23 : decode cX3_init 23 = .ok (.newarray .int, 2) := by decide +kernel
theorem dX3_init_25 : decode cX3_init 25 = .ok (.putfield 18, 3) := by decide +kernel
theorem dX3_init_28 : decode cX3_init 28 = .ok (.aload_n 0, 1) := by decide +kernel
theorem dX3_init_29 : decode cX3_init 29 = .ok (.bipush 32, 2) := by decide +kernel
theorem dX3_init_31 : decode cX3_init 31 = .ok (.newarray .int, 2) := by decide +kernel
theorem dX3_init_33 : decode cX3_init 33 = .ok (.putfield 21, 3) := by decide +kernel
theorem dX3_init_36 : decode cX3_init 36 = .ok (.return_, 1) := by decide +kernel
theorem dX3_hasPlace_0 : decode cX3_hasPlace 0 = .ok (.iload_n 1, 1) := by decide +kernel
theorem dX3_hasPlace_1 : decode cX3_hasPlace 1 = .ok (.ifCond .lt 15, 3) := by decide +kernel
theorem dX3_hasPlace_4 : decode cX3_hasPlace 4 = .ok (.iload_n 1, 1) := by decide +kernel
theorem dX3_hasPlace_5 : decode cX3_hasPlace 5 = .ok (.aload_n 0, 1) := by decide +kernel
theorem dX3_hasPlace_6 : decode cX3_hasPlace 6 = .ok (.getfield 24, 3) := by decide +kernel
theorem dX3_hasPlace_9 : decode cX3_hasPlace 9 = .ok (.if_icmp .ge 7, 3) := by decide +kernel
theorem dX3_hasPlace_12 : decode cX3_hasPlace 12 = .ok (.iconst 1, 1) := by decide +kernel
theorem dX3_hasPlace_13 : decode cX3_hasPlace 13 = .ok (.goto 4, 3) := by decide +kernel
theorem dX3_hasPlace_16 : decode cX3_hasPlace 16 = .ok (.iconst 0, 1) := by decide +kernel
theorem dX3_hasPlace_17 : decode cX3_hasPlace 17 = .ok (.ireturn, 1) := by decide +kernel
theorem dX3_hasRoad_0 : decode cX3_hasRoad 0 = .ok (.iload_n 1, 1) := by decide +kernel
theorem dX3_hasRoad_1 : decode cX3_hasRoad 1 = .ok (.ifCond .lt 15, 3) := by decide +kernel
theorem dX3_hasRoad_4 : decode cX3_hasRoad 4 = .ok (.iload_n 1, 1) := by decide +kernel
theorem dX3_hasRoad_5 : decode cX3_hasRoad 5 = .ok (.aload_n 0, 1) := by decide +kernel
theorem dX3_hasRoad_6 : decode cX3_hasRoad 6 = .ok (.getfield 28, 3) := by decide +kernel
theorem dX3_hasRoad_9 : decode cX3_hasRoad 9 = .ok (.if_icmp .ge 7, 3) := by decide +kernel
theorem dX3_hasRoad_12 : decode cX3_hasRoad 12 = .ok (.iconst 1, 1) := by decide +kernel
theorem dX3_hasRoad_13 : decode cX3_hasRoad 13 = .ok (.goto 4, 3) := by decide +kernel
theorem dX3_hasRoad_16 : decode cX3_hasRoad 16 = .ok (.iconst 0, 1) := by decide +kernel
theorem dX3_hasRoad_17 : decode cX3_hasRoad 17 = .ok (.ireturn, 1) := by decide +kernel
theorem dX3_hasFact_0 : decode cX3_hasFact 0 = .ok (.iload_n 1, 1) := by decide +kernel
theorem dX3_hasFact_1 : decode cX3_hasFact 1 = .ok (.ifCond .lt 12, 3) := by decide +kernel
theorem dX3_hasFact_4 : decode cX3_hasFact 4 = .ok (.iload_n 1, 1) := by decide +kernel
theorem dX3_hasFact_5 : decode cX3_hasFact 5 = .ok (.iconst 4, 1) := by decide +kernel
theorem dX3_hasFact_6 : decode cX3_hasFact 6 = .ok (.if_icmp .ge 7, 3) := by decide +kernel
theorem dX3_hasFact_9 : decode cX3_hasFact 9 = .ok (.iconst 1, 1) := by decide +kernel
theorem dX3_hasFact_10 : decode cX3_hasFact 10 = .ok (.goto 4, 3) := by decide +kernel
theorem dX3_hasFact_13 : decode cX3_hasFact 13 = .ok (.iconst 0, 1) := by decide +kernel
theorem dX3_hasFact_14 : decode cX3_hasFact 14 = .ok (.ireturn, 1) := by decide +kernel
theorem dX3_fact_0 : decode cX3_fact 0 = .ok (.aload_n 0, 1) := by decide +kernel
theorem dX3_fact_1 : decode cX3_fact 1 = .ok (.getfield 21, 3) := by decide +kernel
theorem dX3_fact_4 : decode cX3_fact 4 = .ok (.iload_n 1, 1) := by decide +kernel
theorem dX3_fact_5 : decode cX3_fact 5 = .ok (.iconst 4, 1) := by decide +kernel
theorem dX3_fact_6 : decode cX3_fact 6 = .ok (.imul, 1) := by decide +kernel
theorem dX3_fact_7 : decode cX3_fact 7 = .ok (.iload_n 2, 1) := by decide +kernel
theorem dX3_fact_8 : decode cX3_fact 8 = .ok (.iadd, 1) := by decide +kernel
theorem dX3_fact_9 : decode cX3_fact 9 = .ok (.iaload, 1) := by decide +kernel
theorem dX3_fact_10 : decode cX3_fact 10 = .ok (.ireturn, 1) := by decide +kernel
theorem dX3_change_0 : decode cX3_change 0 = .ok (.aload_n 0, 1) := by decide +kernel
theorem dX3_change_1 : decode cX3_change 1 = .ok (.getfield 21, 3) := by decide +kernel
theorem dX3_change_4 : decode cX3_change 4 = .ok (.iload_n 1, 1) := by decide +kernel
theorem dX3_change_5 : decode cX3_change 5 = .ok (.iconst 4, 1) := by decide +kernel
theorem dX3_change_6 : decode cX3_change 6 = .ok (.imul, 1) := by decide +kernel
theorem dX3_change_7 : decode cX3_change 7 = .ok (.iload_n 2, 1) := by decide +kernel
theorem dX3_change_8 : decode cX3_change 8 = .ok (.iadd, 1) := by decide +kernel
theorem dX3_change_9 : decode cX3_change 9 = .ok (.iload_n 3, 1) := by decide +kernel
theorem dX3_change_10 : decode cX3_change 10 = .ok (.iastore, 1) := by decide +kernel
theorem dX3_change_11 : decode cX3_change 11 = .ok (.return_, 1) := by decide +kernel
theorem dX3_total_0 : decode cX3_total 0 = .ok (.iconst 0, 1) := by decide +kernel
theorem dX3_total_1 : decode cX3_total 1 = .ok (.istore_n 2, 1) := by decide +kernel
theorem dX3_total_2 : decode cX3_total 2 = .ok (.iconst 0, 1) := by decide +kernel
theorem dX3_total_3 : decode cX3_total 3 = .ok (.istore_n 3, 1) := by decide +kernel
theorem dX3_total_4 : decode cX3_total 4 = .ok (.iload_n 3, 1) := by decide +kernel
theorem dX3_total_5 : decode cX3_total 5 = .ok (.aload_n 0, 1) := by decide +kernel
theorem dX3_total_6 : decode cX3_total 6 = .ok (.getfield 24, 3) := by decide +kernel
theorem dX3_total_9 : decode cX3_total 9 = .ok (.if_icmp .ge 18, 3) := by decide +kernel
theorem dX3_total_12 : decode cX3_total 12 = .ok (.iload_n 2, 1) := by decide +kernel
theorem dX3_total_13 : decode cX3_total 13 = .ok (.aload_n 0, 1) := by decide +kernel
theorem dX3_total_14 : decode cX3_total 14 = .ok (.iload_n 3, 1) := by decide +kernel
theorem dX3_total_15 : decode cX3_total 15 = .ok (.iload_n 1, 1) := by decide +kernel
theorem dX3_total_16 : decode cX3_total 16 = .ok (.invokevirtual 31, 3) := by decide +kernel
theorem dX3_total_19 : decode cX3_total 19 = .ok (.iadd, 1) := by decide +kernel
theorem dX3_total_20 : decode cX3_total 20 = .ok (.istore_n 2, 1) := by decide +kernel
theorem dX3_total_21 : decode cX3_total 21 = .ok (.iinc 3 1, 3) := by decide +kernel
theorem dX3_total_24 : decode cX3_total 24 = .ok (.goto (-20), 3) := by decide +kernel
theorem dX3_total_27 : decode cX3_total 27 = .ok (.iload_n 2, 1) := by decide +kernel
theorem dX3_total_28 : decode cX3_total 28 = .ok (.ireturn, 1) := by decide +kernel
theorem dX3_factFits_0 : decode cX3_factFits 0 = .ok (.iload_n 1, 1) := by decide +kernel
theorem dX3_factFits_1 : decode cX3_factFits 1 = .ok (.tableswitch 97 0 3 #[31, 47, 64, 80], 31) := by decide +kernel
theorem dX3_factFits_32 : decode cX3_factFits 32 = .ok (.iload_n 2, 1) := by decide +kernel
theorem dX3_factFits_33 : decode cX3_factFits 33 = .ok (.ifCond .lt 13, 3) := by decide +kernel
theorem dX3_factFits_36 : decode cX3_factFits 36 = .ok (.iload_n 2, 1) := by decide +kernel
theorem dX3_factFits_37 : decode cX3_factFits 37 = .ok (.bipush 60, 2) := by decide +kernel
theorem dX3_factFits_39 : decode cX3_factFits 39 = .ok (.if_icmp .gt 7, 3) := by decide +kernel
theorem dX3_factFits_42 : decode cX3_factFits 42 = .ok (.iconst 1, 1) := by decide +kernel
theorem dX3_factFits_43 : decode cX3_factFits 43 = .ok (.goto 4, 3) := by decide +kernel
theorem dX3_factFits_46 : decode cX3_factFits 46 = .ok (.iconst 0, 1) := by decide +kernel
theorem dX3_factFits_47 : decode cX3_factFits 47 = .ok (.ireturn, 1) := by decide +kernel
theorem dX3_factFits_48 : decode cX3_factFits 48 = .ok (.iload_n 2, 1) := by decide +kernel
theorem dX3_factFits_49 : decode cX3_factFits 49 = .ok (.ifCond .lt 14, 3) := by decide +kernel
theorem dX3_factFits_52 : decode cX3_factFits 52 = .ok (.iload_n 2, 1) := by decide +kernel
theorem dX3_factFits_53 : decode cX3_factFits 53 = .ok (.sipush 300, 3) := by decide +kernel
theorem dX3_factFits_56 : decode cX3_factFits 56 = .ok (.if_icmp .gt 7, 3) := by decide +kernel
theorem dX3_factFits_59 : decode cX3_factFits 59 = .ok (.iconst 1, 1) := by decide +kernel
theorem dX3_factFits_60 : decode cX3_factFits 60 = .ok (.goto 4, 3) := by decide +kernel
theorem dX3_factFits_63 : decode cX3_factFits 63 = .ok (.iconst 0, 1) := by decide +kernel
theorem dX3_factFits_64 : decode cX3_factFits 64 = .ok (.ireturn, 1) := by decide +kernel
theorem dX3_factFits_65 : decode cX3_factFits 65 = .ok (.iload_n 2, 1) := by decide +kernel
theorem dX3_factFits_66 : decode cX3_factFits 66 = .ok (.ifCond .lt 13, 3) := by decide +kernel
theorem dX3_factFits_69 : decode cX3_factFits 69 = .ok (.iload_n 2, 1) := by decide +kernel
theorem dX3_factFits_70 : decode cX3_factFits 70 = .ok (.bipush 20, 2) := by decide +kernel
theorem dX3_factFits_72 : decode cX3_factFits 72 = .ok (.if_icmp .gt 7, 3) := by decide +kernel
theorem dX3_factFits_75 : decode cX3_factFits 75 = .ok (.iconst 1, 1) := by decide +kernel
theorem dX3_factFits_76 : decode cX3_factFits 76 = .ok (.goto 4, 3) := by decide +kernel
theorem dX3_factFits_79 : decode cX3_factFits 79 = .ok (.iconst 0, 1) := by decide +kernel
theorem dX3_factFits_80 : decode cX3_factFits 80 = .ok (.ireturn, 1) := by decide +kernel
theorem dX3_factFits_81 : decode cX3_factFits 81 = .ok (.iload_n 2, 1) := by decide +kernel
theorem dX3_factFits_82 : decode cX3_factFits 82 = .ok (.ifCond .lt 14, 3) := by decide +kernel
theorem dX3_factFits_85 : decode cX3_factFits 85 = .ok (.iload_n 2, 1) := by decide +kernel
theorem dX3_factFits_86 : decode cX3_factFits 86 = .ok (.sipush 300, 3) := by decide +kernel
theorem dX3_factFits_89 : decode cX3_factFits 89 = .ok (.if_icmp .gt 7, 3) := by decide +kernel
theorem dX3_factFits_92 : decode cX3_factFits 92 = .ok (.iconst 1, 1) := by decide +kernel
theorem dX3_factFits_93 : decode cX3_factFits 93 = .ok (.goto 4, 3) := by decide +kernel
theorem dX3_factFits_96 : decode cX3_factFits 96 = .ok (.iconst 0, 1) := by decide +kernel
theorem dX3_factFits_97 : decode cX3_factFits 97 = .ok (.ireturn, 1) := by decide +kernel
theorem dX3_factFits_98 : decode cX3_factFits 98 = .ok (.iconst 0, 1) := by decide +kernel
theorem dX3_factFits_99 : decode cX3_factFits 99 = .ok (.ireturn, 1) := by decide +kernel
theorem dX3_roadFits_0 : decode cX3_roadFits 0 = .ok (.iload_n 1, 1) := by decide +kernel
theorem dX3_roadFits_1 : decode cX3_roadFits 1 = .ok (.tableswitch 89 0 3 #[31, 37, 56, 73], 31) := by decide +kernel
theorem dX3_roadFits_32 : decode cX3_roadFits 32 = .ok (.aload_n 0, 1) := by decide +kernel
theorem dX3_roadFits_33 : decode cX3_roadFits 33 = .ok (.iload_n 2, 1) := by decide +kernel
theorem dX3_roadFits_34 : decode cX3_roadFits 34 = .ok (.invokevirtual 35, 3) := by decide +kernel
theorem dX3_roadFits_37 : decode cX3_roadFits 37 = .ok (.ireturn, 1) := by decide +kernel
theorem dX3_roadFits_38 : decode cX3_roadFits 38 = .ok (.aload_n 0, 1) := by decide +kernel
theorem dX3_roadFits_39 : decode cX3_roadFits 39 = .ok (.iload_n 2, 1) := by decide +kernel
theorem dX3_roadFits_40 : decode cX3_roadFits 40 = .ok (.invokevirtual 35, 3) := by decide +kernel
theorem dX3_roadFits_43 : decode cX3_roadFits 43 = .ok (.ifCond .eq 12, 3) := by decide +kernel
theorem dX3_roadFits_46 : decode cX3_roadFits 46 = .ok (.iload_n 2, 1) := by decide +kernel
theorem dX3_roadFits_47 : decode cX3_roadFits 47 = .ok (.iload_n 3, 1) := by decide +kernel
theorem dX3_roadFits_48 : decode cX3_roadFits 48 = .ok (.if_icmp .eq 7, 3) := by decide +kernel
theorem dX3_roadFits_51 : decode cX3_roadFits 51 = .ok (.iconst 1, 1) := by decide +kernel
theorem dX3_roadFits_52 : decode cX3_roadFits 52 = .ok (.goto 4, 3) := by decide +kernel
theorem dX3_roadFits_55 : decode cX3_roadFits 55 = .ok (.iconst 0, 1) := by decide +kernel
theorem dX3_roadFits_56 : decode cX3_roadFits 56 = .ok (.ireturn, 1) := by decide +kernel
theorem dX3_roadFits_57 : decode cX3_roadFits 57 = .ok (.iload_n 2, 1) := by decide +kernel
theorem dX3_roadFits_58 : decode cX3_roadFits 58 = .ok (.iconst 1, 1) := by decide +kernel
theorem dX3_roadFits_59 : decode cX3_roadFits 59 = .ok (.if_icmp .lt 13, 3) := by decide +kernel
theorem dX3_roadFits_62 : decode cX3_roadFits 62 = .ok (.iload_n 2, 1) := by decide +kernel
theorem dX3_roadFits_63 : decode cX3_roadFits 63 = .ok (.bipush 9, 2) := by decide +kernel
theorem dX3_roadFits_65 : decode cX3_roadFits 65 = .ok (.if_icmp .gt 7, 3) := by decide +kernel
theorem dX3_roadFits_68 : decode cX3_roadFits 68 = .ok (.iconst 1, 1) := by decide +kernel
theorem dX3_roadFits_69 : decode cX3_roadFits 69 = .ok (.goto 4, 3) := by decide +kernel
theorem dX3_roadFits_72 : decode cX3_roadFits 72 = .ok (.iconst 0, 1) := by decide +kernel
theorem dX3_roadFits_73 : decode cX3_roadFits 73 = .ok (.ireturn, 1) := by decide +kernel
theorem dX3_roadFits_74 : decode cX3_roadFits 74 = .ok (.iload_n 2, 1) := by decide +kernel
theorem dX3_roadFits_75 : decode cX3_roadFits 75 = .ok (.ifCond .lt 13, 3) := by decide +kernel
theorem dX3_roadFits_78 : decode cX3_roadFits 78 = .ok (.iload_n 2, 1) := by decide +kernel
theorem dX3_roadFits_79 : decode cX3_roadFits 79 = .ok (.bipush 9, 2) := by decide +kernel
theorem dX3_roadFits_81 : decode cX3_roadFits 81 = .ok (.if_icmp .gt 7, 3) := by decide +kernel
theorem dX3_roadFits_84 : decode cX3_roadFits 84 = .ok (.iconst 1, 1) := by decide +kernel
theorem dX3_roadFits_85 : decode cX3_roadFits 85 = .ok (.goto 4, 3) := by decide +kernel
theorem dX3_roadFits_88 : decode cX3_roadFits 88 = .ok (.iconst 0, 1) := by decide +kernel
theorem dX3_roadFits_89 : decode cX3_roadFits 89 = .ok (.ireturn, 1) := by decide +kernel
theorem dX3_roadFits_90 : decode cX3_roadFits 90 = .ok (.iload_n 2, 1) := by decide +kernel
theorem dX3_roadFits_91 : decode cX3_roadFits 91 = .ok (.ifCond .lt 21, 3) := by decide +kernel
theorem dX3_roadFits_94 : decode cX3_roadFits 94 = .ok (.iload_n 2, 1) := by decide +kernel
theorem dX3_roadFits_95 : decode cX3_roadFits 95 = .ok (.bipush 9, 2) := by decide +kernel
theorem dX3_roadFits_97 : decode cX3_roadFits 97 = .ok (.if_icmp .gt 15, 3) := by decide +kernel
theorem dX3_roadFits_100 : decode cX3_roadFits 100 = .ok (.iload_n 2, 1) := by decide +kernel
theorem dX3_roadFits_101 : decode cX3_roadFits 101 = .ok (.ifCond .gt 7, 3) := by decide +kernel
theorem dX3_roadFits_104 : decode cX3_roadFits 104 = .ok (.iload_n 3, 1) := by decide +kernel
theorem dX3_roadFits_105 : decode cX3_roadFits 105 = .ok (.ifCond .le 7, 3) := by decide +kernel
theorem dX3_roadFits_108 : decode cX3_roadFits 108 = .ok (.iconst 1, 1) := by decide +kernel
theorem dX3_roadFits_109 : decode cX3_roadFits 109 = .ok (.goto 4, 3) := by decide +kernel
theorem dX3_roadFits_112 : decode cX3_roadFits 112 = .ok (.iconst 0, 1) := by decide +kernel
theorem dX3_roadFits_113 : decode cX3_roadFits 113 = .ok (.ireturn, 1) := by decide +kernel
theorem dX3_turnFits_0 : decode cX3_turnFits 0 = .ok (.aload_n 0, 1) := by decide +kernel
theorem dX3_turnFits_1 : decode cX3_turnFits 1 = .ok (.iload_n 1, 1) := by decide +kernel
theorem dX3_turnFits_2 : decode cX3_turnFits 2 = .ok (.invokevirtual 39, 3) := by decide +kernel
theorem dX3_turnFits_5 : decode cX3_turnFits 5 = .ok (.ifCond .eq 38, 3) := by decide +kernel
theorem dX3_turnFits_8 : decode cX3_turnFits 8 = .ok (.iload_n 2, 1) := by decide +kernel
theorem dX3_turnFits_9 : decode cX3_turnFits 9 = .ok (.ifCond .eq 34, 3) := by decide +kernel
theorem dX3_turnFits_12 : decode cX3_turnFits 12 = .ok (.iload_n 2, 1) := by decide +kernel
theorem dX3_turnFits_13 : decode cX3_turnFits 13 = .ok (.aload_n 0, 1) := by decide +kernel
theorem dX3_turnFits_14 : decode cX3_turnFits 14 = .ok (.getfield 18, 3) := by decide +kernel
theorem dX3_turnFits_17 : decode cX3_turnFits 17 = .ok (.iconst 2, 1) := by decide +kernel
theorem dX3_turnFits_18 : decode cX3_turnFits 18 = .ok (.iload_n 1, 1) := by decide +kernel
theorem dX3_turnFits_19 : decode cX3_turnFits 19 = .ok (.imul, 1) := by decide +kernel
theorem dX3_turnFits_20 : decode cX3_turnFits 20 = .ok (.iaload, 1) := by decide +kernel
theorem dX3_turnFits_21 : decode cX3_turnFits 21 = .ok (.ineg, 1) := by decide +kernel
theorem dX3_turnFits_22 : decode cX3_turnFits 22 = .ok (.if_icmp .lt 21, 3) := by decide +kernel
theorem dX3_turnFits_25 : decode cX3_turnFits 25 = .ok (.iload_n 2, 1) := by decide +kernel
theorem dX3_turnFits_26 : decode cX3_turnFits 26 = .ok (.aload_n 0, 1) := by decide +kernel
theorem dX3_turnFits_27 : decode cX3_turnFits 27 = .ok (.getfield 18, 3) := by decide +kernel
theorem dX3_turnFits_30 : decode cX3_turnFits 30 = .ok (.iconst 2, 1) := by decide +kernel
theorem dX3_turnFits_31 : decode cX3_turnFits 31 = .ok (.iload_n 1, 1) := by decide +kernel
theorem dX3_turnFits_32 : decode cX3_turnFits 32 = .ok (.imul, 1) := by decide +kernel
theorem dX3_turnFits_33 : decode cX3_turnFits 33 = .ok (.iconst 1, 1) := by decide +kernel
theorem dX3_turnFits_34 : decode cX3_turnFits 34 = .ok (.iadd, 1) := by decide +kernel
theorem dX3_turnFits_35 : decode cX3_turnFits 35 = .ok (.iaload, 1) := by decide +kernel
theorem dX3_turnFits_36 : decode cX3_turnFits 36 = .ok (.if_icmp .gt 7, 3) := by decide +kernel
theorem dX3_turnFits_39 : decode cX3_turnFits 39 = .ok (.iconst 1, 1) := by decide +kernel
theorem dX3_turnFits_40 : decode cX3_turnFits 40 = .ok (.goto 4, 3) := by decide +kernel
theorem dX3_turnFits_43 : decode cX3_turnFits 43 = .ok (.iconst 0, 1) := by decide +kernel
theorem dX3_turnFits_44 : decode cX3_turnFits 44 = .ok (.ireturn, 1) := by decide +kernel
theorem dX3_shiftLanes_0 : decode cX3_shiftLanes 0 = .ok (.aload_n 0, 1) := by decide +kernel
theorem dX3_shiftLanes_1 : decode cX3_shiftLanes 1 = .ok (.getfield 18, 3) := by decide +kernel
theorem dX3_shiftLanes_4 : decode cX3_shiftLanes 4 = .ok (.iconst 2, 1) := by decide +kernel
theorem dX3_shiftLanes_5 : decode cX3_shiftLanes 5 = .ok (.iload_n 1, 1) := by decide +kernel
theorem dX3_shiftLanes_6 : decode cX3_shiftLanes 6 = .ok (.imul, 1) := by decide +kernel
theorem dX3_shiftLanes_7 : decode cX3_shiftLanes 7 = .ok (.dup2, 1) := by decide +kernel
theorem dX3_shiftLanes_8 : decode cX3_shiftLanes 8 = .ok (.iaload, 1) := by decide +kernel
theorem dX3_shiftLanes_9 : decode cX3_shiftLanes 9 = .ok (.iload_n 2, 1) := by decide +kernel
theorem dX3_shiftLanes_10 : decode cX3_shiftLanes 10 = .ok (.iadd, 1) := by decide +kernel
theorem dX3_shiftLanes_11 : decode cX3_shiftLanes 11 = .ok (.iastore, 1) := by decide +kernel
theorem dX3_shiftLanes_12 : decode cX3_shiftLanes 12 = .ok (.aload_n 0, 1) := by decide +kernel
theorem dX3_shiftLanes_13 : decode cX3_shiftLanes 13 = .ok (.getfield 18, 3) := by decide +kernel
theorem dX3_shiftLanes_16 : decode cX3_shiftLanes 16 = .ok (.iconst 2, 1) := by decide +kernel
theorem dX3_shiftLanes_17 : decode cX3_shiftLanes 17 = .ok (.iload_n 1, 1) := by decide +kernel
theorem dX3_shiftLanes_18 : decode cX3_shiftLanes 18 = .ok (.imul, 1) := by decide +kernel
theorem dX3_shiftLanes_19 : decode cX3_shiftLanes 19 = .ok (.iconst 1, 1) := by decide +kernel
theorem dX3_shiftLanes_20 : decode cX3_shiftLanes 20 = .ok (.iadd, 1) := by decide +kernel
theorem dX3_shiftLanes_21 : decode cX3_shiftLanes 21 = .ok (.dup2, 1) := by decide +kernel
theorem dX3_shiftLanes_22 : decode cX3_shiftLanes 22 = .ok (.iaload, 1) := by decide +kernel
theorem dX3_shiftLanes_23 : decode cX3_shiftLanes 23 = .ok (.iload_n 2, 1) := by decide +kernel
theorem dX3_shiftLanes_24 : decode cX3_shiftLanes 24 = .ok (.isub, 1) := by decide +kernel
theorem dX3_shiftLanes_25 : decode cX3_shiftLanes 25 = .ok (.iastore, 1) := by decide +kernel
theorem dX3_shiftLanes_26 : decode cX3_shiftLanes 26 = .ok (.return_, 1) := by decide +kernel
theorem dX3_addPlace_0 : decode cX3_addPlace 0 = .ok (.aload_n 0, 1) := by decide +kernel
theorem dX3_addPlace_1 : decode cX3_addPlace 1 = .ok (.aload_n 0, 1) := by decide +kernel
theorem dX3_addPlace_2 : decode cX3_addPlace 2 = .ok (.getfield 24, 3) := by decide +kernel
theorem dX3_addPlace_5 : decode cX3_addPlace 5 = .ok (.iconst 0, 1) := by decide +kernel
theorem dX3_addPlace_6 : decode cX3_addPlace 6 = .ok (.iload_n 1, 1) := by decide +kernel
theorem dX3_addPlace_7 : decode cX3_addPlace 7 = .ok (.invokevirtual 42, 3) := by decide +kernel
theorem dX3_addPlace_10 : decode cX3_addPlace 10 = .ok (.aload_n 0, 1) := by decide +kernel
theorem dX3_addPlace_11 : decode cX3_addPlace 11 = .ok (.aload_n 0, 1) := by decide +kernel
theorem dX3_addPlace_12 : decode cX3_addPlace 12 = .ok (.getfield 24, 3) := by decide +kernel
theorem dX3_addPlace_15 : decode cX3_addPlace 15 = .ok (.iconst 1, 1) := by decide +kernel
theorem dX3_addPlace_16 : decode cX3_addPlace 16 = .ok (.iload_n 2, 1) := by decide +kernel
theorem dX3_addPlace_17 : decode cX3_addPlace 17 = .ok (.invokevirtual 42, 3) := by decide +kernel
theorem dX3_addPlace_20 : decode cX3_addPlace 20 = .ok (.aload_n 0, 1) := by decide +kernel
theorem dX3_addPlace_21 : decode cX3_addPlace 21 = .ok (.aload_n 0, 1) := by decide +kernel
theorem dX3_addPlace_22 : decode cX3_addPlace 22 = .ok (.getfield 24, 3) := by decide +kernel
theorem dX3_addPlace_25 : decode cX3_addPlace 25 = .ok (.iconst 2, 1) := by decide +kernel
theorem dX3_addPlace_26 : decode cX3_addPlace 26 = .ok (.iload_n 3, 1) := by decide +kernel
theorem dX3_addPlace_27 : decode cX3_addPlace 27 = .ok (.invokevirtual 42, 3) := by decide +kernel
theorem dX3_addPlace_30 : decode cX3_addPlace 30 = .ok (.aload_n 0, 1) := by decide +kernel
theorem dX3_addPlace_31 : decode cX3_addPlace 31 = .ok (.aload_n 0, 1) := by decide +kernel
theorem dX3_addPlace_32 : decode cX3_addPlace 32 = .ok (.getfield 24, 3) := by decide +kernel
theorem dX3_addPlace_35 : decode cX3_addPlace 35 = .ok (.iconst 3, 1) := by decide +kernel
theorem dX3_addPlace_36 : decode cX3_addPlace 36 = .ok (.iload 4, 2) := by decide +kernel
theorem dX3_addPlace_38 : decode cX3_addPlace 38 = .ok (.invokevirtual 42, 3) := by decide +kernel
theorem dX3_addPlace_41 : decode cX3_addPlace 41 = .ok (.aload_n 0, 1) := by decide +kernel
theorem dX3_addPlace_42 : decode cX3_addPlace 42 = .ok (.dup, 1) := by decide +kernel
theorem dX3_addPlace_43 : decode cX3_addPlace 43 = .ok (.getfield 24, 3) := by decide +kernel
theorem dX3_addPlace_46 : decode cX3_addPlace 46 = .ok (.iconst 1, 1) := by decide +kernel
theorem dX3_addPlace_47 : decode cX3_addPlace 47 = .ok (.iadd, 1) := by decide +kernel
theorem dX3_addPlace_48 : decode cX3_addPlace 48 = .ok (.putfield 24, 3) := by decide +kernel
theorem dX3_addPlace_51 : decode cX3_addPlace 51 = .ok (.aload_n 0, 1) := by decide +kernel
theorem dX3_addPlace_52 : decode cX3_addPlace 52 = .ok (.getfield 24, 3) := by decide +kernel
theorem dX3_addPlace_55 : decode cX3_addPlace 55 = .ok (.iconst 1, 1) := by decide +kernel
theorem dX3_addPlace_56 : decode cX3_addPlace 56 = .ok (.isub, 1) := by decide +kernel
theorem dX3_addPlace_57 : decode cX3_addPlace 57 = .ok (.ireturn, 1) := by decide +kernel
theorem dX3_addRoad_0 : decode cX3_addRoad 0 = .ok (.aload_n 0, 1) := by decide +kernel
theorem dX3_addRoad_1 : decode cX3_addRoad 1 = .ok (.getfield 15, 3) := by decide +kernel
theorem dX3_addRoad_4 : decode cX3_addRoad 4 = .ok (.iconst 2, 1) := by decide +kernel
theorem dX3_addRoad_5 : decode cX3_addRoad 5 = .ok (.aload_n 0, 1) := by decide +kernel
theorem dX3_addRoad_6 : decode cX3_addRoad 6 = .ok (.getfield 28, 3) := by decide +kernel
theorem dX3_addRoad_9 : decode cX3_addRoad 9 = .ok (.imul, 1) := by decide +kernel
theorem dX3_addRoad_10 : decode cX3_addRoad 10 = .ok (.iload_n 1, 1) := by decide +kernel
theorem dX3_addRoad_11 : decode cX3_addRoad 11 = .ok (.iastore, 1) := by decide +kernel
theorem dX3_addRoad_12 : decode cX3_addRoad 12 = .ok (.aload_n 0, 1) := by decide +kernel
theorem dX3_addRoad_13 : decode cX3_addRoad 13 = .ok (.getfield 15, 3) := by decide +kernel
theorem dX3_addRoad_16 : decode cX3_addRoad 16 = .ok (.iconst 2, 1) := by decide +kernel
theorem dX3_addRoad_17 : decode cX3_addRoad 17 = .ok (.aload_n 0, 1) := by decide +kernel
theorem dX3_addRoad_18 : decode cX3_addRoad 18 = .ok (.getfield 28, 3) := by decide +kernel
theorem dX3_addRoad_21 : decode cX3_addRoad 21 = .ok (.imul, 1) := by decide +kernel
theorem dX3_addRoad_22 : decode cX3_addRoad 22 = .ok (.iconst 1, 1) := by decide +kernel
theorem dX3_addRoad_23 : decode cX3_addRoad 23 = .ok (.iadd, 1) := by decide +kernel
theorem dX3_addRoad_24 : decode cX3_addRoad 24 = .ok (.iload_n 2, 1) := by decide +kernel
theorem dX3_addRoad_25 : decode cX3_addRoad 25 = .ok (.iastore, 1) := by decide +kernel
theorem dX3_addRoad_26 : decode cX3_addRoad 26 = .ok (.aload_n 0, 1) := by decide +kernel
theorem dX3_addRoad_27 : decode cX3_addRoad 27 = .ok (.getfield 9, 3) := by decide +kernel
theorem dX3_addRoad_30 : decode cX3_addRoad 30 = .ok (.aload_n 0, 1) := by decide +kernel
theorem dX3_addRoad_31 : decode cX3_addRoad 31 = .ok (.getfield 28, 3) := by decide +kernel
theorem dX3_addRoad_34 : decode cX3_addRoad 34 = .ok (.iload_n 3, 1) := by decide +kernel
theorem dX3_addRoad_35 : decode cX3_addRoad 35 = .ok (.iastore, 1) := by decide +kernel
theorem dX3_addRoad_36 : decode cX3_addRoad 36 = .ok (.aload_n 0, 1) := by decide +kernel
theorem dX3_addRoad_37 : decode cX3_addRoad 37 = .ok (.getfield 18, 3) := by decide +kernel
theorem dX3_addRoad_40 : decode cX3_addRoad 40 = .ok (.iconst 2, 1) := by decide +kernel
theorem dX3_addRoad_41 : decode cX3_addRoad 41 = .ok (.aload_n 0, 1) := by decide +kernel
theorem dX3_addRoad_42 : decode cX3_addRoad 42 = .ok (.getfield 28, 3) := by decide +kernel
theorem dX3_addRoad_45 : decode cX3_addRoad 45 = .ok (.imul, 1) := by decide +kernel
theorem dX3_addRoad_46 : decode cX3_addRoad 46 = .ok (.iload 4, 2) := by decide +kernel
theorem dX3_addRoad_48 : decode cX3_addRoad 48 = .ok (.iastore, 1) := by decide +kernel
theorem dX3_addRoad_49 : decode cX3_addRoad 49 = .ok (.aload_n 0, 1) := by decide +kernel
theorem dX3_addRoad_50 : decode cX3_addRoad 50 = .ok (.getfield 18, 3) := by decide +kernel
theorem dX3_addRoad_53 : decode cX3_addRoad 53 = .ok (.iconst 2, 1) := by decide +kernel
theorem dX3_addRoad_54 : decode cX3_addRoad 54 = .ok (.aload_n 0, 1) := by decide +kernel
theorem dX3_addRoad_55 : decode cX3_addRoad 55 = .ok (.getfield 28, 3) := by decide +kernel
theorem dX3_addRoad_58 : decode cX3_addRoad 58 = .ok (.imul, 1) := by decide +kernel
theorem dX3_addRoad_59 : decode cX3_addRoad 59 = .ok (.iconst 1, 1) := by decide +kernel
theorem dX3_addRoad_60 : decode cX3_addRoad 60 = .ok (.iadd, 1) := by decide +kernel
theorem dX3_addRoad_61 : decode cX3_addRoad 61 = .ok (.iload 5, 2) := by decide +kernel
theorem dX3_addRoad_63 : decode cX3_addRoad 63 = .ok (.iastore, 1) := by decide +kernel
theorem dX3_addRoad_64 : decode cX3_addRoad 64 = .ok (.aload_n 0, 1) := by decide +kernel
theorem dX3_addRoad_65 : decode cX3_addRoad 65 = .ok (.dup, 1) := by decide +kernel
theorem dX3_addRoad_66 : decode cX3_addRoad 66 = .ok (.getfield 28, 3) := by decide +kernel
theorem dX3_addRoad_69 : decode cX3_addRoad 69 = .ok (.iconst 1, 1) := by decide +kernel
theorem dX3_addRoad_70 : decode cX3_addRoad 70 = .ok (.iadd, 1) := by decide +kernel
