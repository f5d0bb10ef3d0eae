theorem dX6_number_110 : decode cX6_number 110 = .ok (.if_icmp .ge 23, 3) := by decide +kernel
theorem dX6_number_113 : decode cX6_number 113 = .ok (.bipush 10, 2) := by decide +kernel
theorem dX6_number_115 : decode cX6_number 115 = .ok (.iload_n 3, 1) := by decide +kernel
theorem dX6_number_116 : decode cX6_number 116 = .ok (.imul, 1) := by decide +kernel
theorem dX6_number_117 : decode cX6_number 117 = .ok (.aload_n 0, 1) := by decide +kernel
theorem dX6_number_118 : decode cX6_number 118 = .ok (.getfield 16, 3) := by decide +kernel
theorem dX6_number_121 : decode cX6_number 121 = .ok (.aload_n 0, 1) := by decide +kernel
theorem dX6_number_122 : decode cX6_number 122 = .ok (.getfield 137, 3) := by decide +kernel
theorem dX6_number_125 : decode cX6_number 125 = .ok (.baload, 1) := by decide +kernel
theorem dX6_number_126 : decode cX6_number 126 = .ok (.iadd, 1) := by decide +kernel
theorem dX6_number_127 : decode cX6_number 127 = .ok (.bipush 48, 2) := by decide +kernel
theorem dX6_number_129 : decode cX6_number 129 = .ok (.isub, 1) := by decide +kernel
theorem dX6_number_130 : decode cX6_number 130 = .ok (.goto 4, 3) := by decide +kernel
theorem dX6_number_133 : decode cX6_number 133 = .ok (.iload_n 3, 1) := by decide +kernel
theorem dX6_number_134 : decode cX6_number 134 = .ok (.istore_n 3, 1) := by decide +kernel
theorem dX6_number_135 : decode cX6_number 135 = .ok (.aload_n 0, 1) := by decide +kernel
theorem dX6_number_136 : decode cX6_number 136 = .ok (.dup, 1) := by decide +kernel
theorem dX6_number_137 : decode cX6_number 137 = .ok (.getfield 137, 3) := by decide +kernel
theorem dX6_number_140 : decode cX6_number 140 = .ok (.iconst 1, 1) := by decide +kernel
theorem dX6_number_141 : decode cX6_number 141 = .ok (.iadd, 1) := by decide +kernel
theorem dX6_number_142 : decode cX6_number 142 = .ok (.putfield 137, 3) := by decide +kernel
theorem dX6_number_145 : decode cX6_number 145 = .ok (.goto (-53), 3) := by decide +kernel
theorem dX6_number_148 : decode cX6_number 148 = .ok (.aload_n 0, 1) := by decide +kernel
theorem dX6_number_149 : decode cX6_number 149 = .ok (.getfield 137, 3) := by decide +kernel
theorem dX6_number_152 : decode cX6_number 152 = .ok (.iload_n 2, 1) := by decide +kernel
theorem dX6_number_153 : decode cX6_number 153 = .ok (.isub, 1) := by decide +kernel
theorem dX6_number_154 : decode cX6_number 154 = .ok (.iconst 3, 1) := by decide +kernel
theorem dX6_number_155 : decode cX6_number 155 = .ok (.if_icmp .le 12, 3) := by decide +kernel
theorem dX6_number_158 : decode cX6_number 158 = .ok (.aload_n 0, 1) := by decide +kernel
theorem dX6_number_159 : decode cX6_number 159 = .ok (.iconst 1, 1) := by decide +kernel
theorem dX6_number_160 : decode cX6_number 160 = .ok (.aload_n 0, 1) := by decide +kernel
theorem dX6_number_161 : decode cX6_number 161 = .ok (.getfield 149, 3) := by decide +kernel
theorem dX6_number_164 : decode cX6_number 164 = .ok (.invokevirtual 155, 3) := by decide +kernel
theorem dX6_number_167 : decode cX6_number 167 = .ok (.iload_n 1, 1) := by decide +kernel
theorem dX6_number_168 : decode cX6_number 168 = .ok (.ifCond .eq 8, 3) := by decide +kernel
theorem dX6_number_171 : decode cX6_number 171 = .ok (.iload_n 3, 1) := by decide +kernel
theorem dX6_number_172 : decode cX6_number 172 = .ok (.ineg, 1) := by decide +kernel
theorem dX6_number_173 : decode cX6_number 173 = .ok (.goto 4, 3) := by decide +kernel
theorem dX6_number_176 : decode cX6_number 176 = .ok (.iload_n 3, 1) := by decide +kernel
theorem dX6_number_177 : decode cX6_number 177 = .ok (.ireturn, 1) := by decide +kernel
theorem dX6_number__0 : decode cX6_number_ 0 = .ok (.aload_n 0, 1) := by decide +kernel
theorem dX6_number__1 : decode cX6_number_ 1 = .ok (.invokevirtual 158, 3) := by decide +kernel
theorem dX6_number__4 : decode cX6_number_ 4 = .ok (.istore_n 3, 1) := by decide +kernel
theorem dX6_number__5 : decode cX6_number_ 5 = .ok (.aload_n 0, 1) := by decide +kernel
theorem dX6_number__6 : decode cX6_number_ 6 = .ok (.getfield 143, 3) := by decide +kernel
theorem dX6_number__9 : decode cX6_number_ 9 = .ok (.ifCond .ne 21, 3) := by decide +kernel
theorem dX6_number__12 : decode cX6_number_ 12 = .ok (.iload_n 3, 1) := by decide +kernel
theorem dX6_number__13 : decode cX6_number_ 13 = .ok (.iload_n 1, 1) := by decide +kernel
theorem dX6_number__14 : decode cX6_number_ 14 = .ok (.iload_n 2, 1) := by decide +kernel
theorem dX6_number__15 : decode cX6_number_ 15 = .ok (.invokestatic 68, 3) := by decide +kernel
theorem dX6_number__18 : decode cX6_number_ 18 = .ok (.ifCond .ne 12, 3) := by decide +kernel
theorem dX6_number__21 : decode cX6_number_ 21 = .ok (.aload_n 0, 1) := by decide +kernel
theorem dX6_number__22 : decode cX6_number_ 22 = .ok (.iconst 2, 1) := by decide +kernel
theorem dX6_number__23 : decode cX6_number_ 23 = .ok (.aload_n 0, 1) := by decide +kernel
theorem dX6_number__24 : decode cX6_number_ 24 = .ok (.getfield 149, 3) := by decide +kernel
theorem dX6_number__27 : decode cX6_number_ 27 = .ok (.invokevirtual 155, 3) := by decide +kernel
theorem dX6_number__30 : decode cX6_number_ 30 = .ok (.iload_n 3, 1) := by decide +kernel
theorem dX6_number__31 : decode cX6_number_ 31 = .ok (.ireturn, 1) := by decide +kernel
theorem dX6_word_0 : decode cX6_word 0 = .ok (.aload_n 0, 1) := by decide +kernel
theorem dX6_word_1 : decode cX6_word 1 = .ok (.invokevirtual 146, 3) := by decide +kernel
theorem dX6_word_4 : decode cX6_word 4 = .ok (.pop, 1) := by decide +kernel
theorem dX6_word_5 : decode cX6_word 5 = .ok (.aload_n 0, 1) := by decide +kernel
theorem dX6_word_6 : decode cX6_word 6 = .ok (.aload_n 0, 1) := by decide +kernel
theorem dX6_word_7 : decode cX6_word 7 = .ok (.getfield 137, 3) := by decide +kernel
theorem dX6_word_10 : decode cX6_word 10 = .ok (.putfield 149, 3) := by decide +kernel
theorem dX6_word_13 : decode cX6_word 13 = .ok (.iconst 0, 1) := by decide +kernel
theorem dX6_word_14 : decode cX6_word 14 = .ok (.istore_n 1, 1) := by decide +kernel
theorem dX6_word_15 : decode cX6_word 15 = .ok (.aload_n 0, 1) := by decide +kernel
theorem dX6_word_16 : decode cX6_word 16 = .ok (.getfield 137, 3) := by decide +kernel
theorem dX6_word_19 : decode cX6_word 19 = .ok (.aload_n 0, 1) := by decide +kernel
theorem dX6_word_20 : decode cX6_word 20 = .ok (.getfield 140, 3) := by decide +kernel
theorem dX6_word_23 : decode cX6_word 23 = .ok (.if_icmp .ge 70, 3) := by decide +kernel
theorem dX6_word_26 : decode cX6_word 26 = .ok (.aload_n 0, 1) := by decide +kernel
theorem dX6_word_27 : decode cX6_word 27 = .ok (.getfield 16, 3) := by decide +kernel
theorem dX6_word_30 : decode cX6_word 30 = .ok (.aload_n 0, 1) := by decide +kernel
theorem dX6_word_31 : decode cX6_word 31 = .ok (.getfield 137, 3) := by decide +kernel
theorem dX6_word_34 : decode cX6_word 34 = .ok (.baload, 1) := by decide +kernel
theorem dX6_word_35 : decode cX6_word 35 = .ok (.bipush 97, 2) := by decide +kernel
theorem dX6_word_37 : decode cX6_word 37 = .ok (.bipush 122, 2) := by decide +kernel
theorem dX6_word_39 : decode cX6_word 39 = .ok (.invokestatic 68, 3) := by decide +kernel
theorem dX6_word_42 : decode cX6_word 42 = .ok (.ifCond .eq 51, 3) := by decide +kernel
theorem dX6_word_45 : decode cX6_word 45 = .ok (.aload_n 0, 1) := by decide +kernel
theorem dX6_word_46 : decode cX6_word 46 = .ok (.getfield 137, 3) := by decide +kernel
theorem dX6_word_49 : decode cX6_word 49 = .ok (.aload_n 0, 1) := by decide +kernel
theorem dX6_word_50 : decode cX6_word 50 = .ok (.getfield 149, 3) := by decide +kernel
theorem dX6_word_53 : decode cX6_word 53 = .ok (.isub, 1) := by decide +kernel
theorem dX6_word_54 : decode cX6_word 54 = .ok (.iconst 5, 1) := by decide +kernel
theorem dX6_word_55 : decode cX6_word 55 = .ok (.if_icmp .ge 23, 3) := by decide +kernel
theorem dX6_word_58 : decode cX6_word 58 = .ok (.bipush 32, 2) := by decide +kernel
theorem dX6_word_60 : decode cX6_word 60 = .ok (.iload_n 1, 1) := by decide +kernel
theorem dX6_word_61 : decode cX6_word 61 = .ok (.imul, 1) := by decide +kernel
theorem dX6_word_62 : decode cX6_word 62 = .ok (.aload_n 0, 1) := by decide +kernel
theorem dX6_word_63 : decode cX6_word 63 = .ok (.getfield 16, 3) := by decide +kernel
theorem dX6_word_66 : decode cX6_word 66 = .ok (.aload_n 0, 1) := by decide +kernel
theorem dX6_word_67 : decode cX6_word 67 = .ok (.getfield 137, 3) := by decide +kernel
theorem dX6_word_70 : decode cX6_word 70 = .ok (.baload, 1) := by decide +kernel
theorem dX6_word_71 : decode cX6_word 71 = .ok (.iadd, 1) := by decide +kernel
theorem dX6_word_72 : decode cX6_word 72 = .ok (.bipush 96, 2) := by decide +kernel
theorem dX6_word_74 : decode cX6_word 74 = .ok (.isub, 1) := by decide +kernel
theorem dX6_word_75 : decode cX6_word 75 = .ok (.goto 4, 3) := by decide +kernel
theorem dX6_word_78 : decode cX6_word 78 = .ok (.iconst 0, 1) := by decide +kernel
theorem dX6_word_79 : decode cX6_word 79 = .ok (.istore_n 1, 1) := by decide +kernel
theorem dX6_word_80 : decode cX6_word 80 = .ok (.aload_n 0, 1) := by decide +kernel
theorem dX6_word_81 : decode cX6_word 81 = .ok (.dup, 1) := by decide +kernel
theorem dX6_word_82 : decode cX6_word 82 = .ok (.getfield 137, 3) := by decide +kernel
theorem dX6_word_85 : decode cX6_word 85 = .ok (.iconst 1, 1) := by decide +kernel
theorem dX6_word_86 : decode cX6_word 86 = .ok (.iadd, 1) := by decide +kernel
theorem dX6_word_87 : decode cX6_word 87 = .ok (.putfield 137, 3) := by decide +kernel
theorem dX6_word_90 : decode cX6_word 90 = .ok (.goto (-75), 3) := by decide +kernel
theorem dX6_word_93 : decode cX6_word 93 = .ok (.iload_n 1, 1) := by decide +kernel
theorem dX6_word_94 : decode cX6_word 94 = .ok (.ireturn, 1) := by decide +kernel
theorem dX6_letters_0 : decode cX6_letters 0 = .ok (.iload_n 0, 1) := by decide +kernel
theorem dX6_letters_1 : decode cX6_letters 1 = .ok (.bipush 32, 2) := by decide +kernel
theorem dX6_letters_3 : decode cX6_letters 3 = .ok (.imul, 1) := by decide +kernel
theorem dX6_letters_4 : decode cX6_letters 4 = .ok (.iload_n 1, 1) := by decide +kernel
theorem dX6_letters_5 : decode cX6_letters 5 = .ok (.iadd, 1) := by decide +kernel
theorem dX6_letters_6 : decode cX6_letters 6 = .ok (.bipush 32, 2) := by decide +kernel
theorem dX6_letters_8 : decode cX6_letters 8 = .ok (.imul, 1) := by decide +kernel
theorem dX6_letters_9 : decode cX6_letters 9 = .ok (.iload_n 2, 1) := by decide +kernel
theorem dX6_letters_10 : decode cX6_letters 10 = .ok (.iadd, 1) := by decide +kernel
theorem dX6_letters_11 : decode cX6_letters 11 = .ok (.bipush 32, 2) := by decide +kernel
theorem dX6_letters_13 : decode cX6_letters 13 = .ok (.imul, 1) := by decide +kernel
theorem dX6_letters_14 : decode cX6_letters 14 = .ok (.iload_n 3, 1) := by decide +kernel
theorem dX6_letters_15 : decode cX6_letters 15 = .ok (.iadd, 1) := by decide +kernel
theorem dX6_letters_16 : decode cX6_letters 16 = .ok (.bipush 32, 2) := by decide +kernel
theorem dX6_letters_18 : decode cX6_letters 18 = .ok (.imul, 1) := by decide +kernel
theorem dX6_letters_19 : decode cX6_letters 19 = .ok (.iload 4, 2) := by decide +kernel
theorem dX6_letters_21 : decode cX6_letters 21 = .ok (.iadd, 1) := by decide +kernel
theorem dX6_letters_22 : decode cX6_letters 22 = .ok (.ireturn, 1) := by decide +kernel
theorem dX6_placeTold_0 : decode cX6_placeTold 0 = .ok (.aload_n 0, 1) := by decide +kernel
theorem dX6_placeTold_1 : decode cX6_placeTold 1 = .ok (.invokevirtual 64, 3) := by decide +kernel
theorem dX6_placeTold_4 : decode cX6_placeTold 4 = .ok (.bipush 8, 2) := by decide +kernel
theorem dX6_placeTold_6 : decode cX6_placeTold 6 = .ok (.if_icmp .ne 12, 3) := by decide +kernel
theorem dX6_placeTold_9 : decode cX6_placeTold 9 = .ok (.aload_n 0, 1) := by decide +kernel
theorem dX6_placeTold_10 : decode cX6_placeTold 10 = .ok (.iconst 3, 1) := by decide +kernel
theorem dX6_placeTold_11 : decode cX6_placeTold 11 = .ok (.aload_n 0, 1) := by decide +kernel
theorem dX6_placeTold_12 : decode cX6_placeTold 12 = .ok (.getfield 149, 3) := by decide +kernel
theorem dX6_placeTold_15 : decode cX6_placeTold 15 = .ok (.invokevirtual 155, 3) := by decide +kernel
theorem dX6_placeTold_18 : decode cX6_placeTold 18 = .ok (.aload_n 0, 1) := by decide +kernel
theorem dX6_placeTold_19 : decode cX6_placeTold 19 = .ok (.iconst 0, 1) := by decide +kernel
theorem dX6_placeTold_20 : decode cX6_placeTold 20 = .ok (.bipush 60, 2) := by decide +kernel
theorem dX6_placeTold_22 : decode cX6_placeTold 22 = .ok (.invokevirtual 161, 3) := by decide +kernel
theorem dX6_placeTold_25 : decode cX6_placeTold 25 = .ok (.istore_n 1, 1) := by decide +kernel
theorem dX6_placeTold_26 : decode cX6_placeTold 26 = .ok (.aload_n 0, 1) := by decide +kernel
theorem dX6_placeTold_27 : decode cX6_placeTold 27 = .ok (.iconst 0, 1) := by decide +kernel
theorem dX6_placeTold_28 : decode cX6_placeTold 28 = .ok (.sipush 300, 3) := by decide +kernel
theorem dX6_placeTold_31 : decode cX6_placeTold 31 = .ok (.invokevirtual 161, 3) := by decide +kernel
theorem dX6_placeTold_34 : decode cX6_placeTold 34 = .ok (.istore_n 2, 1) := by decide +kernel
theorem dX6_placeTold_35 : decode cX6_placeTold 35 = .ok (.aload_n 0, 1) := by decide +kernel
theorem dX6_placeTold_36 : decode cX6_placeTold 36 = .ok (.iconst 0, 1) := by decide +kernel
theorem dX6_placeTold_37 : decode cX6_placeTold 37 = .ok (.bipush 20, 2) := by decide +kernel
theorem dX6_placeTold_39 : decode cX6_placeTold 39 = .ok (.invokevirtual 161, 3) := by decide +kernel
theorem dX6_placeTold_42 : decode cX6_placeTold 42 = .ok (.istore_n 3, 1) := by decide +kernel
theorem dX6_placeTold_43 : decode cX6_placeTold 43 = .ok (.aload_n 0, 1) := by decide +kernel
theorem dX6_placeTold_44 : decode cX6_placeTold 44 = .ok (.iconst 0, 1) := by decide +kernel
theorem dX6_placeTold_45 : decode cX6_placeTold 45 = .ok (.sipush 300, 3) := by decide +kernel
theorem dX6_placeTold_48 : decode cX6_placeTold 48 = .ok (.invokevirtual 161, 3) := by decide +kernel
theorem dX6_placeTold_51 : decode cX6_placeTold 51 = .ok (.istore 4, 2) := by decide +kernel
theorem dX6_placeTold_53 : decode cX6_placeTold 53 = .ok (.aload_n 0, 1) := by decide +kernel
theorem dX6_placeTold_54 : decode cX6_placeTold 54 = .ok (.getfield 143, 3) := by decide +kernel
theorem dX6_placeTold_57 : decode cX6_placeTold 57 = .ok (.ifCond .ne 12, 3) := by decide +kernel
theorem dX6_placeTold_60 : decode cX6_placeTold 60 = .ok (.aload_n 0, 1) := by decide +kernel
theorem dX6_placeTold_61 : decode cX6_placeTold 61 = .ok (.iload_n 1, 1) := by decide +kernel
theorem dX6_placeTold_62 : decode cX6_placeTold 62 = .ok (.iload_n 2, 1) := by decide +kernel
theorem dX6_placeTold_63 : decode cX6_placeTold 63 = .ok (.iload_n 3, 1) := by decide +kernel
theorem dX6_placeTold_64 : decode cX6_placeTold 64 = .ok (.iload 4, 2) := by decide +kernel
theorem dX6_placeTold_66 : decode cX6_placeTold 66 = .ok (.invokevirtual 82, 3) := by decide +kernel
theorem dX6_placeTold_69 : decode cX6_placeTold 69 = .ok (.return_, 1) := by decide +kernel
theorem dX6_roadTold_0 : decode cX6_roadTold 0 = .ok (.aload_n 0, 1) := by decide +kernel
theorem dX6_roadTold_1 : decode cX6_roadTold 1 = .ok (.invokevirtual 72, 3) := by decide +kernel
theorem dX6_roadTold_4 : decode cX6_roadTold 4 = .ok (.bipush 12, 2) := by decide +kernel
theorem dX6_roadTold_6 : decode cX6_roadTold 6 = .ok (.if_icmp .ne 12, 3) := by decide +kernel
theorem dX6_roadTold_9 : decode cX6_roadTold 9 = .ok (.aload_n 0, 1) := by decide +kernel
theorem dX6_roadTold_10 : decode cX6_roadTold 10 = .ok (.iconst 3, 1) := by decide +kernel
theorem dX6_roadTold_11 : decode cX6_roadTold 11 = .ok (.aload_n 0, 1) := by decide +kernel
theorem dX6_roadTold_12 : decode cX6_roadTold 12 = .ok (.getfield 149, 3) := by decide +kernel
theorem dX6_roadTold_15 : decode cX6_roadTold 15 = .ok (.invokevirtual 155, 3) := by decide +kernel
theorem dX6_roadTold_18 : decode cX6_roadTold 18 = .ok (.aload_n 0, 1) := by decide +kernel
theorem dX6_roadTold_19 : decode cX6_roadTold 19 = .ok (.iconst 0, 1) := by decide +kernel
theorem dX6_roadTold_20 : decode cX6_roadTold 20 = .ok (.aload_n 0, 1) := by decide +kernel
theorem dX6_roadTold_21 : decode cX6_roadTold 21 = .ok (.invokevirtual 64, 3) := by decide +kernel
theorem dX6_roadTold_24 : decode cX6_roadTold 24 = .ok (.iconst 1, 1) := by decide +kernel
theorem dX6_roadTold_25 : decode cX6_roadTold 25 = .ok (.isub, 1) := by decide +kernel
theorem dX6_roadTold_26 : decode cX6_roadTold 26 = .ok (.invokevirtual 161, 3) := by decide +kernel
theorem dX6_roadTold_29 : decode cX6_roadTold 29 = .ok (.istore_n 1, 1) := by decide +kernel
theorem dX6_roadTold_30 : decode cX6_roadTold 30 = .ok (.aload_n 0, 1) := by decide +kernel
theorem dX6_roadTold_31 : decode cX6_roadTold 31 = .ok (.iconst 0, 1) := by decide +kernel
theorem dX6_roadTold_32 : decode cX6_roadTold 32 = .ok (.aload_n 0, 1) := by decide +kernel
theorem dX6_roadTold_33 : decode cX6_roadTold 33 = .ok (.invokevirtual 64, 3) := by decide +kernel
theorem dX6_roadTold_36 : decode cX6_roadTold 36 = .ok (.iconst 1, 1) := by decide +kernel
theorem dX6_roadTold_37 : decode cX6_roadTold 37 = .ok (.isub, 1) := by decide +kernel
theorem dX6_roadTold_38 : decode cX6_roadTold 38 = .ok (.invokevirtual 161, 3) := by decide +kernel
theorem dX6_roadTold_41 : decode cX6_roadTold 41 = .ok (.istore_n 2, 1) := by decide +kernel
theorem dX6_roadTold_42 : decode cX6_roadTold 42 = .ok (.iload_n 1, 1) := by decide +kernel
theorem dX6_roadTold_43 : decode cX6_roadTold 43 = .ok (.iload_n 2, 1) := by decide +kernel
theorem dX6_roadTold_44 : decode cX6_roadTold 44 = .ok (.if_icmp .ne 12, 3) := by decide +kernel
theorem dX6_roadTold_47 : decode cX6_roadTold 47 = .ok (.aload_n 0, 1) := by decide +kernel
theorem dX6_roadTold_48 : decode cX6_roadTold 48 = .ok (.iconst 2, 1) := by decide +kernel
theorem dX6_roadTold_49 : decode cX6_roadTold 49 = .ok (.aload_n 0, 1) := by decide +kernel
theorem dX6_roadTold_50 : decode cX6_roadTold 50 = .ok (.getfield 149, 3) := by decide +kernel
theorem dX6_roadTold_53 : decode cX6_roadTold 53 = .ok (.invokevirtual 155, 3) := by decide +kernel
theorem dX6_roadTold_56 : decode cX6_roadTold 56 = .ok (.aload_n 0, 1) := by decide +kernel
theorem dX6_roadTold_57 : decode cX6_roadTold 57 = .ok (.iconst 1, 1) := by decide +kernel
theorem dX6_roadTold_58 : decode cX6_roadTold 58 = .ok (.bipush 9, 2) := by decide +kernel
theorem dX6_roadTold_60 : decode cX6_roadTold 60 = .ok (.invokevirtual 161, 3) := by decide +kernel
theorem dX6_roadTold_63 : decode cX6_roadTold 63 = .ok (.istore_n 3, 1) := by decide +kernel
theorem dX6_roadTold_64 : decode cX6_roadTold 64 = .ok (.aload_n 0, 1) := by decide +kernel
theorem dX6_roadTold_65 : decode cX6_roadTold 65 = .ok (.iconst 0, 1) := by decide +kernel
theorem dX6_roadTold_66 : decode cX6_roadTold 66 = .ok (.bipush 9, 2) := by decide +kernel
theorem dX6_roadTold_68 : decode cX6_roadTold 68 = .ok (.invokevirtual 161, 3) := by decide +kernel
theorem dX6_roadTold_71 : decode cX6_roadTold 71 = .ok (.istore 4, 2) := by decide +kernel
theorem dX6_roadTold_73 : decode cX6_roadTold 73 = .ok (.aload_n 0, 1) := by decide +kernel
theorem dX6_roadTold_74 : decode cX6_roadTold 74 = .ok (.iload 4, 2) := by decide +kernel
theorem dX6_roadTold_76 : decode cX6_roadTold 76 = .ok (.ifCond .ne 7, 3) := by decide +kernel
theorem dX6_roadTold_79 : decode cX6_roadTold 79 = .ok (.iconst 1, 1) := by decide +kernel
theorem dX6_roadTold_80 : decode cX6_roadTold 80 = .ok (.goto 4, 3) := by decide +kernel
theorem dX6_roadTold_83 : decode cX6_roadTold 83 = .ok (.iconst 0, 1) := by decide +kernel
theorem dX6_roadTold_84 : decode cX6_roadTold 84 = .ok (.bipush 9, 2) := by decide +kernel
theorem dX6_roadTold_86 : decode cX6_roadTold 86 = .ok (.invokevirtual 161, 3) := by decide +kernel
theorem dX6_roadTold_89 : decode cX6_roadTold 89 = .ok (.istore 5, 2) := by decide +kernel
theorem dX6_roadTold_91 : decode cX6_roadTold 91 = .ok (.aload_n 0, 1) := by decide +kernel
theorem dX6_roadTold_92 : decode cX6_roadTold 92 = .ok (.getfield 143, 3) := by decide +kernel
theorem dX6_roadTold_95 : decode cX6_roadTold 95 = .ok (.ifCond .ne 14, 3) := by decide +kernel
theorem dX6_roadTold_98 : decode cX6_roadTold 98 = .ok (.aload_n 0, 1) := by decide +kernel
theorem dX6_roadTold_99 : decode cX6_roadTold 99 = .ok (.iload_n 1, 1) := by decide +kernel
theorem dX6_roadTold_100 : decode cX6_roadTold 100 = .ok (.iload_n 2, 1) := by decide +kernel
theorem dX6_roadTold_101 : decode cX6_roadTold 101 = .ok (.iload_n 3, 1) := by decide +kernel
theorem dX6_roadTold_102 : decode cX6_roadTold 102 = .ok (.iload 4, 2) := by decide +kernel
theorem dX6_roadTold_104 : decode cX6_roadTold 104 = .ok (.iload 5, 2) := by decide +kernel
theorem dX6_roadTold_106 : decode cX6_roadTold 106 = .ok (.invokevirtual 90, 3) := by decide +kernel
theorem dX6_roadTold_109 : decode cX6_roadTold 109 = .ok (.return_, 1) := by decide +kernel
theorem dX6_turnTold_0 : decode cX6_turnTold 0 = .ok (.aload_n 0, 1) := by decide +kernel
theorem dX6_turnTold_1 : decode cX6_turnTold 1 = .ok (.iconst 0, 1) := by decide +kernel
theorem dX6_turnTold_2 : decode cX6_turnTold 2 = .ok (.aload_n 0, 1) := by decide +kernel
theorem dX6_turnTold_3 : decode cX6_turnTold 3 = .ok (.invokevirtual 72, 3) := by decide +kernel
theorem dX6_turnTold_6 : decode cX6_turnTold 6 = .ok (.iconst 1, 1) := by decide +kernel
theorem dX6_turnTold_7 : decode cX6_turnTold 7 = .ok (.isub, 1) := by decide +kernel
theorem dX6_turnTold_8 : decode cX6_turnTold 8 = .ok (.invokevirtual 161, 3) := by decide +kernel
theorem dX6_turnTold_11 : decode cX6_turnTold 11 = .ok (.istore_n 1, 1) := by decide +kernel
theorem dX6_turnTold_12 : decode cX6_turnTold 12 = .ok (.aload_n 0, 1) := by decide +kernel
theorem dX6_turnTold_13 : decode cX6_turnTold 13 = .ok (.invokevirtual 158, 3) := by decide +kernel
theorem dX6_turnTold_16 : decode cX6_turnTold 16 = .ok (.istore_n 2, 1) := by decide +kernel
theorem dX6_turnTold_17 : decode cX6_turnTold 17 = .ok (.aload_n 0, 1) := by decide +kernel
theorem dX6_turnTold_18 : decode cX6_turnTold 18 = .ok (.getfield 143, 3) := by decide +kernel
theorem dX6_turnTold_21 : decode cX6_turnTold 21 = .ok (.ifCond .ne 21, 3) := by decide +kernel
theorem dX6_turnTold_24 : decode cX6_turnTold 24 = .ok (.aload_n 0, 1) := by decide +kernel
theorem dX6_turnTold_25 : decode cX6_turnTold 25 = .ok (.iload_n 1, 1) := by decide +kernel
theorem dX6_turnTold_26 : decode cX6_turnTold 26 = .ok (.iload_n 2, 1) := by decide +kernel
theorem dX6_turnTold_27 : decode cX6_turnTold 27 = .ok (.invokevirtual 101, 3) := by decide +kernel
theorem dX6_turnTold_30 : decode cX6_turnTold 30 = .ok (.ifCond .ne 12, 3) := by decide +kernel
theorem dX6_turnTold_33 : decode cX6_turnTold 33 = .ok (.aload_n 0, 1) := by decide +kernel
theorem dX6_turnTold_34 : decode cX6_turnTold 34 = .ok (.iconst 2, 1) := by decide +kernel
theorem dX6_turnTold_35 : decode cX6_turnTold 35 = .ok (.aload_n 0, 1) := by decide +kernel
theorem dX6_turnTold_36 : decode cX6_turnTold 36 = .ok (.getfield 149, 3) := by decide +kernel
theorem dX6_turnTold_39 : decode cX6_turnTold 39 = .ok (.invokevirtual 155, 3) := by decide +kernel
theorem dX6_turnTold_42 : decode cX6_turnTold 42 = .ok (.aload_n 0, 1) := by decide +kernel
theorem dX6_turnTold_43 : decode cX6_turnTold 43 = .ok (.getfield 143, 3) := by decide +kernel
theorem dX6_turnTold_46 : decode cX6_turnTold 46 = .ok (.ifCond .ne 9, 3) := by decide +kernel
theorem dX6_turnTold_49 : decode cX6_turnTold 49 = .ok (.aload_n 0, 1) := by decide +kernel
theorem dX6_turnTold_50 : decode cX6_turnTold 50 = .ok (.iload_n 1, 1) := by decide +kernel
theorem dX6_turnTold_51 : decode cX6_turnTold 51 = .ok (.iload_n 2, 1) := by decide +kernel
theorem dX6_turnTold_52 : decode cX6_turnTold 52 = .ok (.invokevirtual 104, 3) := by decide +kernel
theorem dX6_turnTold_55 : decode cX6_turnTold 55 = .ok (.return_, 1) := by decide +kernel
theorem dX6_moveTold_0 : decode cX6_moveTold 0 = .ok (.aload_n 0, 1) := by decide +kernel
theorem dX6_moveTold_1 : decode cX6_moveTold 1 = .ok (.invokevirtual 75, 3) := by decide +kernel
theorem dX6_moveTold_4 : decode cX6_moveTold 4 = .ok (.bipush 40, 2) := by decide +kernel
theorem dX6_moveTold_6 : decode cX6_moveTold 6 = .ok (.if_icmp .ne 12, 3) := by decide +kernel
theorem dX6_moveTold_9 : decode cX6_moveTold 9 = .ok (.aload_n 0, 1) := by decide +kernel
theorem dX6_moveTold_10 : decode cX6_moveTold 10 = .ok (.iconst 3, 1) := by decide +kernel
theorem dX6_moveTold_11 : decode cX6_moveTold 11 = .ok (.aload_n 0, 1) := by decide +kernel
theorem dX6_moveTold_12 : decode cX6_moveTold 12 = .ok (.getfield 149, 3) := by decide +kernel
theorem dX6_moveTold_15 : decode cX6_moveTold 15 = .ok (.invokevirtual 155, 3) := by decide +kernel
theorem dX6_moveTold_18 : decode cX6_moveTold 18 = .ok (.aload_n 0, 1) := by decide +kernel
theorem dX6_moveTold_19 : decode cX6_moveTold 19 = .ok (.iconst 0, 1) := by decide +kernel
theorem dX6_moveTold_20 : decode cX6_moveTold 20 = .ok (.bipush 40, 2) := by decide +kernel
theorem dX6_moveTold_22 : decode cX6_moveTold 22 = .ok (.invokevirtual 161, 3) := by decide +kernel
theorem dX6_moveTold_25 : decode cX6_moveTold 25 = .ok (.istore_n 1, 1) := by decide +kernel
theorem dX6_moveTold_26 : decode cX6_moveTold 26 = .ok (.aload_n 0, 1) := by decide +kernel
theorem dX6_moveTold_27 : decode cX6_moveTold 27 = .ok (.iconst 0, 1) := by decide +kernel
theorem dX6_moveTold_28 : decode cX6_moveTold 28 = .ok (.aload_n 0, 1) := by decide +kernel
theorem dX6_moveTold_29 : decode cX6_moveTold 29 = .ok (.invokevirtual 72, 3) := by decide +kernel
theorem dX6_moveTold_32 : decode cX6_moveTold 32 = .ok (.iconst 1, 1) := by decide +kernel
theorem dX6_moveTold_33 : decode cX6_moveTold 33 = .ok (.isub, 1) := by decide +kernel
theorem dX6_moveTold_34 : decode cX6_moveTold 34 = .ok (.invokevirtual 161, 3) := by decide +kernel
theorem dX6_moveTold_37 : decode cX6_moveTold 37 = .ok (.istore_n 2, 1) := by decide +kernel
theorem dX6_moveTold_38 : decode cX6_moveTold 38 = .ok (.aload_n 0, 1) := by decide +kernel
theorem dX6_moveTold_39 : decode cX6_moveTold 39 = .ok (.getfield 143, 3) := by decide +kernel
theorem dX6_moveTold_42 : decode cX6_moveTold 42 = .ok (.ifCond .eq 4, 3) := by decide +kernel
theorem dX6_moveTold_45 : decode cX6_moveTold 45 = .ok (.return_, 1) := by decide +kernel
theorem dX6_moveTold_46 : decode cX6_moveTold 46 = .ok (.aload_n 0, 1) := by decide +kernel
theorem dX6_moveTold_47 : decode cX6_moveTold 47 = .ok (.invokevirtual 163, 3) := by decide +kernel
theorem dX6_moveTold_50 : decode cX6_moveTold 50 = .ok (.istore_n 3, 1) := by decide +kernel
theorem dX6_moveTold_51 : decode cX6_moveTold 51 = .ok (.iload_n 3, 1) := by decide +kernel
theorem dX6_moveTold_52 : decode cX6_moveTold 52 = .ok (.bipush 20, 2) := by decide +kernel
theorem dX6_moveTold_54 : decode cX6_moveTold 54 = .ok (.bipush 8, 2) := by decide +kernel
theorem dX6_moveTold_56 : decode cX6_moveTold 56 = .ok (.iconst 5, 1) := by decide +kernel
theorem dX6_moveTold_57 : decode cX6_moveTold 57 = .ok (.bipush 18, 2) := by decide +kernel
theorem dX6_moveTold_59 : decode cX6_moveTold 59 = .ok (.iconst 5, 1) := by decide +kernel
theorem dX6_moveTold_60 : decode cX6_moveTold 60 = .ok (.invokestatic 166, 3) := by decide +kernel
theorem dX6_moveTold_63 : decode cX6_moveTold 63 = .ok (.if_icmp .ne 7, 3) := by decide +kernel
theorem dX6_moveTold_66 : decode cX6_moveTold 66 = .ok (.iconst 0, 1) := by decide +kernel
theorem dX6_moveTold_67 : decode cX6_moveTold 67 = .ok (.goto 21, 3) := by decide +kernel
theorem dX6_moveTold_70 : decode cX6_moveTold 70 = .ok (.iload_n 3, 1) := by decide +kernel
theorem dX6_moveTold_71 : decode cX6_moveTold 71 = .ok (.iconst 0, 1) := by decide +kernel
theorem dX6_moveTold_72 : decode cX6_moveTold 72 = .ok (.iconst 2, 1) := by decide +kernel
theorem dX6_moveTold_73 : decode cX6_moveTold 73 = .ok (.iconst 1, 1) := by decide +kernel
theorem dX6_moveTold_74 : decode cX6_moveTold 74 = .ok (.iconst 3, 1) := by decide +kernel
theorem dX6_moveTold_75 : decode cX6_moveTold 75 = .ok (.bipush 11, 2) := by decide +kernel
theorem dX6_moveTold_77 : decode cX6_moveTold 77 = .ok (.invokestatic 166, 3) := by decide +kernel
theorem dX6_moveTold_80 : decode cX6_moveTold 80 = .ok (.if_icmp .ne 7, 3) := by decide +kernel
theorem dX6_moveTold_83 : decode cX6_moveTold 83 = .ok (.iconst 1, 1) := by decide +kernel
theorem dX6_moveTold_84 : decode cX6_moveTold 84 = .ok (.goto 4, 3) := by decide +kernel
theorem dX6_moveTold_87 : decode cX6_moveTold 87 = .ok (.iconst (-1), 1) := by decide +kernel
theorem dX6_moveTold_88 : decode cX6_moveTold 88 = .ok (.istore 4, 2) := by decide +kernel
theorem dX6_moveTold_90 : decode cX6_moveTold 90 = .ok (.iload 4, 2) := by decide +kernel
theorem dX6_moveTold_92 : decode cX6_moveTold 92 = .ok (.iconst (-1), 1) := by decide +kernel
theorem dX6_moveTold_93 : decode cX6_moveTold 93 = .ok (.if_icmp .ne 12, 3) := by decide +kernel
theorem dX6_moveTold_96 : decode cX6_moveTold 96 = .ok (.aload_n 0, 1) := by decide +kernel
theorem dX6_moveTold_97 : decode cX6_moveTold 97 = .ok (.iconst 1, 1) := by decide +kernel
theorem dX6_moveTold_98 : decode cX6_moveTold 98 = .ok (.aload_n 0, 1) := by decide +kernel
theorem dX6_moveTold_99 : decode cX6_moveTold 99 = .ok (.getfield 149, 3) := by decide +kernel
theorem dX6_moveTold_102 : decode cX6_moveTold 102 = .ok (.invokevirtual 155, 3) := by decide +kernel
theorem dX6_moveTold_105 : decode cX6_moveTold 105 = .ok (.aload_n 0, 1) := by decide +kernel
theorem dX6_moveTold_106 : decode cX6_moveTold 106 = .ok (.iconst 1, 1) := by decide +kernel
theorem dX6_moveTold_107 : decode cX6_moveTold 107 = .ok (.bipush 60, 2) := by decide +kernel
theorem dX6_moveTold_109 : decode cX6_moveTold 109 = .ok (.invokevirtual 161, 3) := by decide +kernel
theorem dX6_moveTold_112 : decode cX6_moveTold 112 = .ok (.istore 5, 2) := by decide +kernel
theorem dX6_moveTold_114 : decode cX6_moveTold 114 = .ok (.aload_n 0, 1) := by decide +kernel
theorem dX6_moveTold_115 : decode cX6_moveTold 115 = .ok (.getfield 143, 3) := by decide +kernel
theorem dX6_moveTold_118 : decode cX6_moveTold 118 = .ok (.ifCond .ne 13, 3) := by decide +kernel
theorem dX6_moveTold_121 : decode cX6_moveTold 121 = .ok (.aload_n 0, 1) := by decide +kernel
theorem dX6_moveTold_122 : decode cX6_moveTold 122 = .ok (.iload_n 1, 1) := by decide +kernel
theorem dX6_moveTold_123 : decode cX6_moveTold 123 = .ok (.iload_n 2, 1) := by decide +kernel
theorem dX6_moveTold_124 : decode cX6_moveTold 124 = .ok (.iload 4, 2) := by decide +kernel
theorem dX6_moveTold_126 : decode cX6_moveTold 126 = .ok (.iload 5, 2) := by decide +kernel
theorem dX6_moveTold_128 : decode cX6_moveTold 128 = .ok (.invokevirtual 121, 3) := by decide +kernel
theorem dX6_moveTold_131 : decode cX6_moveTold 131 = .ok (.return_, 1) := by decide +kernel
theorem dX6_statement_0 : decode cX6_statement 0 = .ok (.aload_n 0, 1) := by decide +kernel
theorem dX6_statement_1 : decode cX6_statement 1 = .ok (.invokevirtual 163, 3) := by decide +kernel
theorem dX6_statement_4 : decode cX6_statement 4 = .ok (.istore_n 1, 1) := by decide +kernel
theorem dX6_statement_5 : decode cX6_statement 5 = .ok (.iload_n 1, 1) := by decide +kernel
theorem dX6_statement_6 : decode cX6_statement 6 = .ok (.bipush 16, 2) := by decide +kernel
theorem dX6_statement_8 : decode cX6_statement 8 = .ok (.bipush 12, 2) := by decide +kernel
theorem dX6_statement_10 : decode cX6_statement 10 = .ok (.iconst 1, 1) := by decide +kernel
theorem dX6_statement_11 : decode cX6_statement 11 = .ok (.iconst 3, 1) := by decide +kernel
theorem dX6_statement_12 : decode cX6_statement 12 = .ok (.iconst 5, 1) := by decide +kernel
theorem dX6_statement_13 : decode cX6_statement 13 = .ok (.invokestatic 166, 3) := by decide +kernel
theorem dX6_statement_16 : decode cX6_statement 16 = .ok (.if_icmp .ne 10, 3) := by decide +kernel
theorem dX6_statement_19 : decode cX6_statement 19 = .ok (.aload_n 0, 1) := by decide +kernel
theorem dX6_statement_20 : decode cX6_statement 20 = .ok (.invokevirtual 170, 3) := by decide +kernel
theorem dX6_statement_23 : decode cX6_statement 23 = .ok (.goto 78, 3) := by decide +kernel
theorem dX6_statement_26 : decode cX6_statement 26 = .ok (.iload_n 1, 1) := by decide +kernel
theorem dX6_statement_27 : decode cX6_statement 27 = .ok (.iconst 0, 1) := by decide +kernel
theorem dX6_statement_28 : decode cX6_statement 28 = .ok (.bipush 18, 2) := by decide +kernel
theorem dX6_statement_30 : decode cX6_statement 30 = .ok (.bipush 15, 2) := by decide +kernel
theorem dX6_statement_32 : decode cX6_statement 32 = .ok (.iconst 1, 1) := by decide +kernel
theorem dX6_statement_33 : decode cX6_statement 33 = .ok (.iconst 4, 1) := by decide +kernel
theorem dX6_statement_34 : decode cX6_statement 34 = .ok (.invokestatic 166, 3) := by decide +kernel
theorem dX6_statement_37 : decode cX6_statement 37 = .ok (.if_icmp .ne 10, 3) := by decide +kernel
theorem dX6_statement_40 : decode cX6_statement 40 = .ok (.aload_n 0, 1) := by decide +kernel
theorem dX6_statement_41 : decode cX6_statement 41 = .ok (.invokevirtual 173, 3) := by decide +kernel
theorem dX6_statement_44 : decode cX6_statement 44 = .ok (.goto 57, 3) := by decide +kernel
theorem dX6_statement_47 : decode cX6_statement 47 = .ok (.iload_n 1, 1) := by decide +kernel
theorem dX6_statement_48 : decode cX6_statement 48 = .ok (.iconst 0, 1) := by decide +kernel
theorem dX6_statement_49 : decode cX6_statement 49 = .ok (.bipush 20, 2) := by decide +kernel
theorem dX6_statement_51 : decode cX6_statement 51 = .ok (.bipush 21, 2) := by decide +kernel
theorem dX6_statement_53 : decode cX6_statement 53 = .ok (.bipush 18, 2) := by decide +kernel
theorem dX6_statement_55 : decode cX6_statement 55 = .ok (.bipush 14, 2) := by decide +kernel
theorem dX6_statement_57 : decode cX6_statement 57 = .ok (.invokestatic 166, 3) := by decide +kernel
theorem dX6_statement_60 : decode cX6_statement 60 = .ok (.if_icmp .ne 10, 3) := by decide +kernel
theorem dX6_statement_63 : decode cX6_statement 63 = .ok (.aload_n 0, 1) := by decide +kernel
theorem dX6_statement_64 : decode cX6_statement 64 = .ok (.invokevirtual 176, 3) := by decide +kernel
theorem dX6_statement_67 : decode cX6_statement 67 = .ok (.goto 34, 3) := by decide +kernel
theorem dX6_statement_70 : decode cX6_statement 70 = .ok (.iload_n 1, 1) := by decide +kernel
theorem dX6_statement_71 : decode cX6_statement 71 = .ok (.iconst 0, 1) := by decide +kernel
theorem dX6_statement_72 : decode cX6_statement 72 = .ok (.bipush 13, 2) := by decide +kernel
theorem dX6_statement_74 : decode cX6_statement 74 = .ok (.bipush 15, 2) := by decide +kernel
theorem dX6_statement_76 : decode cX6_statement 76 = .ok (.bipush 22, 2) := by decide +kernel
theorem dX6_statement_78 : decode cX6_statement 78 = .ok (.iconst 5, 1) := by decide +kernel
theorem dX6_statement_79 : decode cX6_statement 79 = .ok (.invokestatic 166, 3) := by decide +kernel
theorem dX6_statement_82 : decode cX6_statement 82 = .ok (.if_icmp .ne 10, 3) := by decide +kernel
theorem dX6_statement_85 : decode cX6_statement 85 = .ok (.aload_n 0, 1) := by decide +kernel
theorem dX6_statement_86 : decode cX6_statement 86 = .ok (.invokevirtual 179, 3) := by decide +kernel
theorem dX6_statement_89 : decode cX6_statement 89 = .ok (.goto 12, 3) := by decide +kernel
theorem dX6_statement_92 : decode cX6_statement 92 = .ok (.aload_n 0, 1) := by decide +kernel
theorem dX6_statement_93 : decode cX6_statement 93 = .ok (.iconst 1, 1) := by decide +kernel
theorem dX6_statement_94 : decode cX6_statement 94 = .ok (.aload_n 0, 1) := by decide +kernel
theorem dX6_statement_95 : decode cX6_statement 95 = .ok (.getfield 149, 3) := by decide +kernel
theorem dX6_statement_98 : decode cX6_statement 98 = .ok (.invokevirtual 155, 3) := by decide +kernel
theorem dX6_statement_101 : decode cX6_statement 101 = .ok (.return_, 1) := by decide +kernel
theorem dX6_tell_0 : decode cX6_tell 0 = .ok (.aload_n 0, 1) := by decide +kernel
theorem dX6_tell_1 : decode cX6_tell 1 = .ok (.iconst 0, 1) := by decide +kernel
theorem dX6_tell_2 : decode cX6_tell 2 = .ok (.putfield 60, 3) := by decide +kernel
theorem dX6_tell_5 : decode cX6_tell 5 = .ok (.aload_n 0, 1) := by decide +kernel
theorem dX6_tell_6 : decode cX6_tell 6 = .ok (.aload_n 0, 1) := by decide +kernel
theorem dX6_tell_7 : decode cX6_tell 7 = .ok (.getfield 127, 3) := by decide +kernel
theorem dX6_tell_10 : decode cX6_tell 10 = .ok (.putfield 140, 3) := by decide +kernel
theorem dX6_tell_13 : decode cX6_tell 13 = .ok (.aload_n 0, 1) := by decide +kernel
theorem dX6_tell_14 : decode cX6_tell 14 = .ok (.iconst 0, 1) := by decide +kernel
theorem dX6_tell_15 : decode cX6_tell 15 = .ok (.putfield 127, 3) := by decide +kernel
theorem dX6_tell_18 : decode cX6_tell 18 = .ok (.aload_n 0, 1) := by decide +kernel
theorem dX6_tell_19 : decode cX6_tell 19 = .ok (.iconst 0, 1) := by decide +kernel
theorem dX6_tell_20 : decode cX6_tell 20 = .ok (.putfield 143, 3) := by decide +kernel
theorem dX6_tell_23 : decode cX6_tell 23 = .ok (.aload_n 0, 1) := by decide +kernel
theorem dX6_tell_24 : decode cX6_tell 24 = .ok (.iconst 0, 1) := by decide +kernel
theorem dX6_tell_25 : decode cX6_tell 25 = .ok (.putfield 137, 3) := by decide +kernel
theorem dX6_tell_28 : decode cX6_tell 28 = .ok (.aload_n 0, 1) := by decide +kernel
theorem dX6_tell_29 : decode cX6_tell 29 = .ok (.invokevirtual 182, 3) := by decide +kernel
theorem dX6_tell_32 : decode cX6_tell 32 = .ok (.iconst 0, 1) := by decide +kernel
theorem dX6_tell_33 : decode cX6_tell 33 = .ok (.istore_n 1, 1) := by decide +kernel
theorem dX6_tell_34 : decode cX6_tell 34 = .ok (.aload_n 0, 1) := by decide +kernel
theorem dX6_tell_35 : decode cX6_tell 35 = .ok (.getfield 143, 3) := by decide +kernel
theorem dX6_tell_38 : decode cX6_tell 38 = .ok (.ifCond .ne 56, 3) := by decide +kernel
theorem dX6_tell_41 : decode cX6_tell 41 = .ok (.aload_n 0, 1) := by decide +kernel
theorem dX6_tell_42 : decode cX6_tell 42 = .ok (.invokevirtual 146, 3) := by decide +kernel
theorem dX6_tell_45 : decode cX6_tell 45 = .ok (.iconst (-1), 1) := by decide +kernel
theorem dX6_tell_46 : decode cX6_tell 46 = .ok (.if_icmp .eq 48, 3) := by decide +kernel
theorem dX6_tell_49 : decode cX6_tell 49 = .ok (.aload_n 0, 1) := by decide +kernel
theorem dX6_tell_50 : decode cX6_tell 50 = .ok (.invokevirtual 185, 3) := by decide +kernel
theorem dX6_tell_53 : decode cX6_tell 53 = .ok (.aload_n 0, 1) := by decide +kernel
theorem dX6_tell_54 : decode cX6_tell 54 = .ok (.getfield 143, 3) := by decide +kernel
theorem dX6_tell_57 : decode cX6_tell 57 = .ok (.ifCond .ne 21, 3) := by decide +kernel
theorem dX6_tell_60 : decode cX6_tell 60 = .ok (.aload_n 0, 1) := by decide +kernel
theorem dX6_tell_61 : decode cX6_tell 61 = .ok (.invokevirtual 146, 3) := by decide +kernel
theorem dX6_tell_64 : decode cX6_tell 64 = .ok (.bipush 59, 2) := by decide +kernel
theorem dX6_tell_66 : decode cX6_tell 66 = .ok (.if_icmp .eq 12, 3) := by decide +kernel
theorem dX6_tell_69 : decode cX6_tell 69 = .ok (.aload_n 0, 1) := by decide +kernel
theorem dX6_tell_70 : decode cX6_tell 70 = .ok (.iconst 1, 1) := by decide +kernel
theorem dX6_tell_71 : decode cX6_tell 71 = .ok (.aload_n 0, 1) := by decide +kernel
theorem dX6_tell_72 : decode cX6_tell 72 = .ok (.getfield 137, 3) := by decide +kernel
theorem dX6_tell_75 : decode cX6_tell 75 = .ok (.invokevirtual 155, 3) := by decide +kernel
theorem dX6_tell_78 : decode cX6_tell 78 = .ok (.aload_n 0, 1) := by decide +kernel
theorem dX6_tell_79 : decode cX6_tell 79 = .ok (.dup, 1) := by decide +kernel
theorem dX6_tell_80 : decode cX6_tell 80 = .ok (.getfield 137, 3) := by decide +kernel
theorem dX6_tell_83 : decode cX6_tell 83 = .ok (.iconst 1, 1) := by decide +kernel
theorem dX6_tell_84 : decode cX6_tell 84 = .ok (.iadd, 1) := by decide +kernel
theorem dX6_tell_85 : decode cX6_tell 85 = .ok (.putfield 137, 3) := by decide +kernel
theorem dX6_tell_88 : decode cX6_tell 88 = .ok (.iinc 1 1, 3) := by decide +kernel
theorem dX6_tell_91 : decode cX6_tell 91 = .ok (.goto (-57), 3) := by decide +kernel
theorem dX6_tell_94 : decode cX6_tell 94 = .ok (.aload_n 0, 1) := by decide +kernel
theorem dX6_tell_95 : decode cX6_tell 95 = .ok (.getfield 143, 3) := by decide +kernel
theorem dX6_tell_98 : decode cX6_tell 98 = .ok (.ifCond .ne 5, 3) := by decide +kernel
theorem dX6_tell_101 : decode cX6_tell 101 = .ok (.iload_n 1, 1) := by decide +kernel
theorem dX6_tell_102 : decode cX6_tell 102 = .ok (.ireturn, 1) := by decide +kernel
theorem dX6_tell_103 : decode cX6_tell 103 = .ok (.aload_n 0, 1) := by decide +kernel
theorem dX6_tell_104 : decode cX6_tell 104 = .ok (.invokevirtual 188, 3) := by decide +kernel
theorem dX6_tell_107 : decode cX6_tell 107 = .ok (.iconst (-1), 1) := by decide +kernel
theorem dX6_tell_108 : decode cX6_tell 108 = .ok (.ireturn, 1) := by decide +kernel
theorem dX6_fault_0 : decode cX6_fault 0 = .ok (.aload_n 0, 1) := by decide +kernel
theorem dX6_fault_1 : decode cX6_fault 1 = .ok (.iconst 0, 1) := by decide +kernel
theorem dX6_fault_2 : decode cX6_fault 2 = .ok (.putfield 60, 3) := by decide +kernel
theorem dX6_fault_5 : decode cX6_fault 5 = .ok (.aload_n 0, 1) := by decide +kernel
theorem dX6_fault_6 : decode cX6_fault 6 = .ok (.getfield 143, 3) := by decide +kernel
theorem dX6_fault_9 : decode cX6_fault 9 = .ok (.ireturn, 1) := by decide +kernel
theorem dX6_keeps_0 : decode cX6_keeps 0 = .ok (.iconst 0, 1) := by decide +kernel
theorem dX6_keeps_1 : decode cX6_keeps 1 = .ok (.istore_n 1, 1) := by decide +kernel
theorem dX6_keeps_2 : decode cX6_keeps 2 = .ok (.iload_n 1, 1) := by decide +kernel
theorem dX6_keeps_3 : decode cX6_keeps 3 = .ok (.sipush 256, 3) := by decide +kernel
theorem dX6_keeps_6 : decode cX6_keeps 6 = .ok (.if_icmp .ge 21, 3) := by decide +kernel
theorem dX6_keeps_9 : decode cX6_keeps 9 = .ok (.aload_n 0, 1) := by decide +kernel
theorem dX6_keeps_10 : decode cX6_keeps 10 = .ok (.getfield 13, 3) := by decide +kernel
theorem dX6_keeps_13 : decode cX6_keeps 13 = .ok (.iload_n 1, 1) := by decide +kernel
theorem dX6_keeps_14 : decode cX6_keeps 14 = .ok (.aload_n 0, 1) := by decide +kernel
theorem dX6_keeps_15 : decode cX6_keeps 15 = .ok (.getfield 7, 3) := by decide +kernel
theorem dX6_keeps_18 : decode cX6_keeps 18 = .ok (.iload_n 1, 1) := by decide +kernel
theorem dX6_keeps_19 : decode cX6_keeps 19 = .ok (.iaload, 1) := by decide +kernel
theorem dX6_keeps_20 : decode cX6_keeps 20 = .ok (.iastore, 1) := by decide +kernel
theorem dX6_keeps_21 : decode cX6_keeps 21 = .ok (.iinc 1 1, 3) := by decide +kernel
theorem dX6_keeps_24 : decode cX6_keeps 24 = .ok (.goto (-22), 3) := by decide +kernel
theorem dX6_keeps_27 : decode cX6_keeps 27 = .ok (.return_, 1) := by decide +kernel
theorem dX6_comesBack_0 : decode cX6_comesBack 0 = .ok (.iconst 0, 1) := by decide +kernel
theorem dX6_comesBack_1 : decode cX6_comesBack 1 = .ok (.istore_n 1, 1) := by decide +kernel
theorem dX6_comesBack_2 : decode cX6_comesBack 2 = .ok (.iload_n 1, 1) := by decide +kernel
theorem dX6_comesBack_3 : decode cX6_comesBack 3 = .ok (.sipush 256, 3) := by decide +kernel
theorem dX6_comesBack_6 : decode cX6_comesBack 6 = .ok (.if_icmp .ge 21, 3) := by decide +kernel
theorem dX6_comesBack_9 : decode cX6_comesBack 9 = .ok (.aload_n 0, 1) := by decide +kernel
theorem dX6_comesBack_10 : decode cX6_comesBack 10 = .ok (.getfield 7, 3) := by decide +kernel
theorem dX6_comesBack_13 : decode cX6_comesBack 13 = .ok (.iload_n 1, 1) := by decide +kernel
theorem dX6_comesBack_14 : decode cX6_comesBack 14 = .ok (.aload_n 0, 1) := by decide +kernel
theorem dX6_comesBack_15 : decode cX6_comesBack 15 = .ok (.getfield 13, 3) := by decide +kernel
theorem dX6_comesBack_18 : decode cX6_comesBack 18 = .ok (.iload_n 1, 1) := by decide +kernel
theorem dX6_comesBack_19 : decode cX6_comesBack 19 = .ok (.iaload, 1) := by decide +kernel
theorem dX6_comesBack_20 : decode cX6_comesBack 20 = .ok (.iastore, 1) := by decide +kernel
theorem dX6_comesBack_21 : decode cX6_comesBack 21 = .ok (.iinc 1 1, 3) := by decide +kernel
theorem dX6_comesBack_24 : decode cX6_comesBack 24 = .ok (.goto (-22), 3) := by decide +kernel
theorem dX6_comesBack_27 : decode cX6_comesBack 27 = .ok (.return_, 1) := by decide +kernel
theorem dX6_joins_0 : decode cX6_joins 0 = .ok (.iload_n 3, 1) := by decide +kernel
theorem dX6_joins_1 : decode cX6_joins 1 = .ok (.ifCond .ne 4, 3) := by decide +kernel
theorem dX6_joins_4 : decode cX6_joins 4 = .ok (.return_, 1) := by decide +kernel
theorem dX6_joins_5 : decode cX6_joins 5 = .ok (.aload_n 0, 1) := by decide +kernel
theorem dX6_joins_6 : decode cX6_joins 6 = .ok (.getfield 26, 3) := by decide +kernel
theorem dX6_joins_9 : decode cX6_joins 9 = .ok (.aload_n 0, 1) := by decide +kernel
theorem dX6_joins_10 : decode cX6_joins 10 = .ok (.getfield 191, 3) := by decide +kernel
theorem dX6_joins_13 : decode cX6_joins 13 = .ok (.iload_n 2, 1) := by decide +kernel
theorem dX6_joins_14 : decode cX6_joins 14 = .ok (.iastore, 1) := by decide +kernel
theorem dX6_joins_15 : decode cX6_joins 15 = .ok (.aload_n 0, 1) := by decide +kernel
theorem dX6_joins_16 : decode cX6_joins 16 = .ok (.getfield 29, 3) := by decide +kernel
theorem dX6_joins_19 : decode cX6_joins 19 = .ok (.aload_n 0, 1) := by decide +kernel
theorem dX6_joins_20 : decode cX6_joins 20 = .ok (.getfield 191, 3) := by decide +kernel
theorem dX6_joins_23 : decode cX6_joins 23 = .ok (.iload_n 3, 1) := by decide +kernel
theorem dX6_joins_24 : decode cX6_joins 24 = .ok (.iastore, 1) := by decide +kernel
theorem dX6_joins_25 : decode cX6_joins 25 = .ok (.aload_n 0, 1) := by decide +kernel
theorem dX6_joins_26 : decode cX6_joins 26 = .ok (.getfield 23, 3) := by decide +kernel
theorem dX6_joins_29 : decode cX6_joins 29 = .ok (.aload_n 0, 1) := by decide +kernel
theorem dX6_joins_30 : decode cX6_joins 30 = .ok (.getfield 191, 3) := by decide +kernel
theorem dX6_joins_33 : decode cX6_joins 33 = .ok (.aload_n 0, 1) := by decide +kernel
theorem dX6_joins_34 : decode cX6_joins 34 = .ok (.getfield 20, 3) := by decide +kernel
theorem dX6_joins_37 : decode cX6_joins 37 = .ok (.iload_n 1, 1) := by decide +kernel
theorem dX6_joins_38 : decode cX6_joins 38 = .ok (.iaload, 1) := by decide +kernel
theorem dX6_joins_39 : decode cX6_joins 39 = .ok (.iastore, 1) := by decide +kernel
theorem dX6_joins_40 : decode cX6_joins 40 = .ok (.aload_n 0, 1) := by decide +kernel
theorem dX6_joins_41 : decode cX6_joins 41 = .ok (.getfield 20, 3) := by decide +kernel
theorem dX6_joins_44 : decode cX6_joins 44 = .ok (.iload_n 1, 1) := by decide +kernel
theorem dX6_joins_45 : decode cX6_joins 45 = .ok (.aload_n 0, 1) := by decide +kernel
theorem dX6_joins_46 : decode cX6_joins 46 = .ok (.getfield 191, 3) := by decide +kernel
theorem dX6_joins_49 : decode cX6_joins 49 = .ok (.iastore, 1) := by decide +kernel
theorem dX6_joins_50 : decode cX6_joins 50 = .ok (.aload_n 0, 1) := by decide +kernel
theorem dX6_joins_51 : decode cX6_joins 51 = .ok (.dup, 1) := by decide +kernel
theorem dX6_joins_52 : decode cX6_joins 52 = .ok (.getfield 191, 3) := by decide +kernel
theorem dX6_joins_55 : decode cX6_joins 55 = .ok (.iconst 1, 1) := by decide +kernel
theorem dX6_joins_56 : decode cX6_joins 56 = .ok (.iadd, 1) := by decide +kernel
theorem dX6_joins_57 : decode cX6_joins 57 = .ok (.putfield 191, 3) := by decide +kernel
theorem dX6_joins_60 : decode cX6_joins 60 = .ok (.aload_n 0, 1) := by decide +kernel
theorem dX6_joins_61 : decode cX6_joins 61 = .ok (.getfield 26, 3) := by decide +kernel
theorem dX6_joins_64 : decode cX6_joins 64 = .ok (.aload_n 0, 1) := by decide +kernel
theorem dX6_joins_65 : decode cX6_joins 65 = .ok (.getfield 191, 3) := by decide +kernel
theorem dX6_joins_68 : decode cX6_joins 68 = .ok (.iload_n 1, 1) := by decide +kernel
theorem dX6_joins_69 : decode cX6_joins 69 = .ok (.iastore, 1) := by decide +kernel
theorem dX6_joins_70 : decode cX6_joins 70 = .ok (.aload_n 0, 1) := by decide +kernel
theorem dX6_joins_71 : decode cX6_joins 71 = .ok (.getfield 29, 3) := by decide +kernel
theorem dX6_joins_74 : decode cX6_joins 74 = .ok (.aload_n 0, 1) := by decide +kernel
theorem dX6_joins_75 : decode cX6_joins 75 = .ok (.getfield 191, 3) := by decide +kernel
theorem dX6_joins_78 : decode cX6_joins 78 = .ok (.iconst 0, 1) := by decide +kernel
theorem dX6_joins_79 : decode cX6_joins 79 = .ok (.iastore, 1) := by decide +kernel
theorem dX6_joins_80 : decode cX6_joins 80 = .ok (.aload_n 0, 1) := by decide +kernel
theorem dX6_joins_81 : decode cX6_joins 81 = .ok (.getfield 23, 3) := by decide +kernel
theorem dX6_joins_84 : decode cX6_joins 84 = .ok (.aload_n 0, 1) := by decide +kernel
theorem dX6_joins_85 : decode cX6_joins 85 = .ok (.getfield 191, 3) := by decide +kernel
theorem dX6_joins_88 : decode cX6_joins 88 = .ok (.aload_n 0, 1) := by decide +kernel
theorem dX6_joins_89 : decode cX6_joins 89 = .ok (.getfield 20, 3) := by decide +kernel
theorem dX6_joins_92 : decode cX6_joins 92 = .ok (.iload_n 2, 1) := by decide +kernel
theorem dX6_joins_93 : decode cX6_joins 93 = .ok (.iaload, 1) := by decide +kernel
theorem dX6_joins_94 : decode cX6_joins 94 = .ok (.iastore, 1) := by decide +kernel
theorem dX6_joins_95 : decode cX6_joins 95 = .ok (.aload_n 0, 1) := by decide +kernel
theorem dX6_joins_96 : decode cX6_joins 96 = .ok (.getfield 20, 3) := by decide +kernel
theorem dX6_joins_99 : decode cX6_joins 99 = .ok (.iload_n 2, 1) := by decide +kernel
theorem dX6_joins_100 : decode cX6_joins 100 = .ok (.aload_n 0, 1) := by decide +kernel
theorem dX6_joins_101 : decode cX6_joins 101 = .ok (.getfield 191, 3) := by decide +kernel
theorem dX6_joins_104 : decode cX6_joins 104 = .ok (.iastore, 1) := by decide +kernel
theorem dX6_joins_105 : decode cX6_joins 105 = .ok (.aload_n 0, 1) := by decide +kernel
theorem dX6_joins_106 : decode cX6_joins 106 = .ok (.dup, 1) := by decide +kernel
theorem dX6_joins_107 : decode cX6_joins 107 = .ok (.getfield 191, 3) := by decide +kernel
theorem dX6_joins_110 : decode cX6_joins 110 = .ok (.iconst 1, 1) := by decide +kernel
theorem dX6_joins_111 : decode cX6_joins 111 = .ok (.iadd, 1) := by decide +kernel
theorem dX6_joins_112 : decode cX6_joins 112 = .ok (.putfield 191, 3) := by decide +kernel
theorem dX6_joins_115 : decode cX6_joins 115 = .ok (.return_, 1) := by decide +kernel
theorem dX6_node_0 : decode cX6_node 0 = .ok (.bipush 18, 2) := by decide +kernel
theorem dX6_node_2 : decode cX6_node 2 = .ok (.bipush 8, 2) := by decide +kernel
theorem dX6_node_4 : decode cX6_node 4 = .ok (.iload_n 1, 1) := by decide +kernel
theorem dX6_node_5 : decode cX6_node 5 = .ok (.imul, 1) := by decide +kernel
theorem dX6_node_6 : decode cX6_node 6 = .ok (.iadd, 1) := by decide +kernel
theorem dX6_node_7 : decode cX6_node 7 = .ok (.iload_n 0, 1) := by decide +kernel
theorem dX6_node_8 : decode cX6_node 8 = .ok (.iadd, 1) := by decide +kernel
theorem dX6_node_9 : decode cX6_node 9 = .ok (.ireturn, 1) := by decide +kernel
theorem dX6_lays_0 : decode cX6_lays 0 = .ok (.aload_n 0, 1) := by decide +kernel
theorem dX6_lays_1 : decode cX6_lays 1 = .ok (.iconst 0, 1) := by decide +kernel
theorem dX6_lays_2 : decode cX6_lays 2 = .ok (.putfield 191, 3) := by decide +kernel
theorem dX6_lays_5 : decode cX6_lays 5 = .ok (.iconst 0, 1) := by decide +kernel
theorem dX6_lays_6 : decode cX6_lays 6 = .ok (.istore_n 2, 1) := by decide +kernel
theorem dX6_lays_7 : decode cX6_lays 7 = .ok (.iload_n 2, 1) := by decide +kernel
theorem dX6_lays_8 : decode cX6_lays 8 = .ok (.sipush 346, 3) := by decide +kernel
theorem dX6_lays_11 : decode cX6_lays 11 = .ok (.if_icmp .ge 16, 3) := by decide +kernel
theorem dX6_lays_14 : decode cX6_lays 14 = .ok (.aload_n 0, 1) := by decide +kernel
theorem dX6_lays_15 : decode cX6_lays 15 = .ok (.getfield 20, 3) := by decide +kernel
theorem dX6_lays_18 : decode cX6_lays 18 = .ok (.iload_n 2, 1) := by decide +kernel
theorem dX6_lays_19 : decode cX6_lays 19 = .ok (.iconst (-1), 1) := by decide +kernel
theorem dX6_lays_20 : decode cX6_lays 20 = .ok (.iastore, 1) := by decide +kernel
theorem dX6_lays_21 : decode cX6_lays 21 = .ok (.iinc 2 1, 3) := by decide +kernel
theorem dX6_lays_24 : decode cX6_lays 24 = .ok (.goto (-17), 3) := by decide +kernel
theorem dX6_lays_27 : decode cX6_lays 27 = .ok (.iconst 0, 1) := by decide +kernel
theorem dX6_lays_28 : decode cX6_lays 28 = .ok (.istore_n 2, 1) := by decide +kernel
theorem dX6_lays_29 : decode cX6_lays 29 = .ok (.iload_n 2, 1) := by decide +kernel
theorem dX6_lays_30 : decode cX6_lays 30 = .ok (.aload_n 0, 1) := by decide +kernel
theorem dX6_lays_31 : decode cX6_lays 31 = .ok (.invokevirtual 64, 3) := by decide +kernel
theorem dX6_lays_34 : decode cX6_lays 34 = .ok (.if_icmp .ge 117, 3) := by decide +kernel
theorem dX6_lays_37 : decode cX6_lays 37 = .ok (.aload_n 0, 1) := by decide +kernel
theorem dX6_lays_38 : decode cX6_lays 38 = .ok (.iconst 0, 1) := by decide +kernel
theorem dX6_lays_39 : decode cX6_lays 39 = .ok (.iconst 2, 1) := by decide +kernel
theorem dX6_lays_40 : decode cX6_lays 40 = .ok (.iload_n 2, 1) := by decide +kernel
theorem dX6_lays_41 : decode cX6_lays 41 = .ok (.iadd, 1) := by decide +kernel
theorem dX6_lays_42 : decode cX6_lays 42 = .ok (.aload_n 0, 1) := by decide +kernel
theorem dX6_lays_43 : decode cX6_lays 43 = .ok (.iload_n 2, 1) := by decide +kernel
theorem dX6_lays_44 : decode cX6_lays 44 = .ok (.iconst 0, 1) := by decide +kernel
theorem dX6_lays_45 : decode cX6_lays 45 = .ok (.invokevirtual 108, 3) := by decide +kernel
theorem dX6_lays_48 : decode cX6_lays 48 = .ok (.invokevirtual 194, 3) := by decide +kernel
theorem dX6_lays_51 : decode cX6_lays 51 = .ok (.aload_n 0, 1) := by decide +kernel
theorem dX6_lays_52 : decode cX6_lays 52 = .ok (.bipush 10, 2) := by decide +kernel
theorem dX6_lays_54 : decode cX6_lays 54 = .ok (.iload_n 2, 1) := by decide +kernel
theorem dX6_lays_55 : decode cX6_lays 55 = .ok (.iadd, 1) := by decide +kernel
theorem dX6_lays_56 : decode cX6_lays 56 = .ok (.iconst 1, 1) := by decide +kernel
theorem dX6_lays_57 : decode cX6_lays 57 = .ok (.aload_n 0, 1) := by decide +kernel
theorem dX6_lays_58 : decode cX6_lays 58 = .ok (.iload_n 2, 1) := by decide +kernel
theorem dX6_lays_59 : decode cX6_lays 59 = .ok (.iconst 1, 1) := by decide +kernel
theorem dX6_lays_60 : decode cX6_lays 60 = .ok (.invokevirtual 108, 3) := by decide +kernel
theorem dX6_lays_63 : decode cX6_lays 63 = .ok (.invokevirtual 194, 3) := by decide +kernel
theorem dX6_lays_66 : decode cX6_lays 66 = .ok (.iconst 0, 1) := by decide +kernel
theorem dX6_lays_67 : decode cX6_lays 67 = .ok (.istore_n 3, 1) := by decide +kernel
theorem dX6_lays_68 : decode cX6_lays 68 = .ok (.iload_n 3, 1) := by decide +kernel
theorem dX6_lays_69 : decode cX6_lays 69 = .ok (.iload_n 1, 1) := by decide +kernel
theorem dX6_lays_70 : decode cX6_lays 70 = .ok (.if_icmp .gt 75, 3) := by decide +kernel
theorem dX6_lays_73 : decode cX6_lays 73 = .ok (.iload_n 3, 1) := by decide +kernel
theorem dX6_lays_74 : decode cX6_lays 74 = .ok (.aload_n 0, 1) := by decide +kernel
theorem dX6_lays_75 : decode cX6_lays 75 = .ok (.iload_n 2, 1) := by decide +kernel
theorem dX6_lays_76 : decode cX6_lays 76 = .ok (.iconst 2, 1) := by decide +kernel
theorem dX6_lays_77 : decode cX6_lays 77 = .ok (.invokevirtual 108, 3) := by decide +kernel
theorem dX6_lays_80 : decode cX6_lays 80 = .ok (.if_icmp .lt 17, 3) := by decide +kernel
theorem dX6_lays_83 : decode cX6_lays 83 = .ok (.aload_n 0, 1) := by decide +kernel
theorem dX6_lays_84 : decode cX6_lays 84 = .ok (.iconst 2, 1) := by decide +kernel
theorem dX6_lays_85 : decode cX6_lays 85 = .ok (.iload_n 2, 1) := by decide +kernel
theorem dX6_lays_86 : decode cX6_lays 86 = .ok (.iadd, 1) := by decide +kernel
theorem dX6_lays_87 : decode cX6_lays 87 = .ok (.iload_n 2, 1) := by decide +kernel
theorem dX6_lays_88 : decode cX6_lays 88 = .ok (.iload_n 3, 1) := by decide +kernel
theorem dX6_lays_89 : decode cX6_lays 89 = .ok (.invokestatic 198, 3) := by decide +kernel
theorem dX6_lays_92 : decode cX6_lays 92 = .ok (.ldc 201, 2) := by decide +kernel
theorem dX6_lays_94 : decode cX6_lays 94 = .ok (.invokevirtual 194, 3) := by decide +kernel
theorem dX6_lays_97 : decode cX6_lays 97 = .ok (.aload_n 0, 1) := by decide +kernel
theorem dX6_lays_98 : decode cX6_lays 98 = .ok (.iload_n 2, 1) := by decide +kernel
theorem dX6_lays_99 : decode cX6_lays 99 = .ok (.iload_n 3, 1) := by decide +kernel
theorem dX6_lays_100 : decode cX6_lays 100 = .ok (.invokestatic 198, 3) := by decide +kernel
theorem dX6_lays_103 : decode cX6_lays 103 = .ok (.bipush 10, 2) := by decide +kernel
theorem dX6_lays_105 : decode cX6_lays 105 = .ok (.iload_n 2, 1) := by decide +kernel
theorem dX6_lays_106 : decode cX6_lays 106 = .ok (.iadd, 1) := by decide +kernel
theorem dX6_lays_107 : decode cX6_lays 107 = .ok (.ldc 201, 2) := by decide +kernel
theorem dX6_lays_109 : decode cX6_lays 109 = .ok (.invokevirtual 194, 3) := by decide +kernel
theorem dX6_lays_112 : decode cX6_lays 112 = .ok (.iload_n 3, 1) := by decide +kernel
theorem dX6_lays_113 : decode cX6_lays 113 = .ok (.iload_n 1, 1) := by decide +kernel
theorem dX6_lays_114 : decode cX6_lays 114 = .ok (.if_icmp .ge 25, 3) := by decide +kernel
theorem dX6_lays_117 : decode cX6_lays 117 = .ok (.aload_n 0, 1) := by decide +kernel
theorem dX6_lays_118 : decode cX6_lays 118 = .ok (.iload_n 2, 1) := by decide +kernel
theorem dX6_lays_119 : decode cX6_lays 119 = .ok (.iload_n 3, 1) := by decide +kernel
theorem dX6_lays_120 : decode cX6_lays 120 = .ok (.invokestatic 198, 3) := by decide +kernel
theorem dX6_lays_123 : decode cX6_lays 123 = .ok (.iload_n 2, 1) := by decide +kernel
theorem dX6_lays_124 : decode cX6_lays 124 = .ok (.iload_n 3, 1) := by decide +kernel
theorem dX6_lays_125 : decode cX6_lays 125 = .ok (.iconst 1, 1) := by decide +kernel
theorem dX6_lays_126 : decode cX6_lays 126 = .ok (.iadd, 1) := by decide +kernel
theorem dX6_lays_127 : decode cX6_lays 127 = .ok (.invokestatic 198, 3) := by decide +kernel
theorem dX6_lays_130 : decode cX6_lays 130 = .ok (.aload_n 0, 1) := by decide +kernel
theorem dX6_lays_131 : decode cX6_lays 131 = .ok (.iload_n 2, 1) := by decide +kernel
theorem dX6_lays_132 : decode cX6_lays 132 = .ok (.iconst 3, 1) := by decide +kernel
theorem dX6_lays_133 : decode cX6_lays 133 = .ok (.invokevirtual 108, 3) := by decide +kernel
theorem dX6_lays_136 : decode cX6_lays 136 = .ok (.invokevirtual 194, 3) := by decide +kernel
theorem dX6_lays_139 : decode cX6_lays 139 = .ok (.iinc 3 1, 3) := by decide +kernel
theorem dX6_lays_142 : decode cX6_lays 142 = .ok (.goto (-74), 3) := by decide +kernel
theorem dX6_lays_145 : decode cX6_lays 145 = .ok (.iinc 2 1, 3) := by decide +kernel
theorem dX6_lays_148 : decode cX6_lays 148 = .ok (.goto (-119), 3) := by decide +kernel
theorem dX6_lays_151 : decode cX6_lays 151 = .ok (.iconst 0, 1) := by decide +kernel
theorem dX6_lays_152 : decode cX6_lays 152 = .ok (.istore_n 2, 1) := by decide +kernel
theorem dX6_lays_153 : decode cX6_lays 153 = .ok (.iload_n 2, 1) := by decide +kernel
theorem dX6_lays_154 : decode cX6_lays 154 = .ok (.aload_n 0, 1) := by decide +kernel
theorem dX6_lays_155 : decode cX6_lays 155 = .ok (.invokevirtual 72, 3) := by decide +kernel
theorem dX6_lays_158 : decode cX6_lays 158 = .ok (.if_icmp .ge 103, 3) := by decide +kernel
theorem dX6_lays_161 : decode cX6_lays 161 = .ok (.iconst 0, 1) := by decide +kernel
theorem dX6_lays_162 : decode cX6_lays 162 = .ok (.istore_n 3, 1) := by decide +kernel
theorem dX6_lays_163 : decode cX6_lays 163 = .ok (.iload_n 3, 1) := by decide +kernel
theorem dX6_lays_164 : decode cX6_lays 164 = .ok (.aload_n 0, 1) := by decide +kernel
theorem dX6_lays_165 : decode cX6_lays 165 = .ok (.iload_n 2, 1) := by decide +kernel
theorem dX6_lays_166 : decode cX6_lays 166 = .ok (.iconst 2, 1) := by decide +kernel
theorem dX6_lays_167 : decode cX6_lays 167 = .ok (.invokevirtual 97, 3) := by decide +kernel
theorem dX6_lays_170 : decode cX6_lays 170 = .ok (.iadd, 1) := by decide +kernel
theorem dX6_lays_171 : decode cX6_lays 171 = .ok (.iload_n 1, 1) := by decide +kernel
theorem dX6_lays_172 : decode cX6_lays 172 = .ok (.if_icmp .gt 83, 3) := by decide +kernel
theorem dX6_lays_175 : decode cX6_lays 175 = .ok (.aload_n 0, 1) := by decide +kernel
theorem dX6_lays_176 : decode cX6_lays 176 = .ok (.aload_n 0, 1) := by decide +kernel
theorem dX6_lays_177 : decode cX6_lays 177 = .ok (.iload_n 2, 1) := by decide +kernel
theorem dX6_lays_178 : decode cX6_lays 178 = .ok (.iconst 0, 1) := by decide +kernel
theorem dX6_lays_179 : decode cX6_lays 179 = .ok (.invokevirtual 97, 3) := by decide +kernel
theorem dX6_lays_182 : decode cX6_lays 182 = .ok (.iload_n 3, 1) := by decide +kernel
theorem dX6_lays_183 : decode cX6_lays 183 = .ok (.invokestatic 198, 3) := by decide +kernel
theorem dX6_lays_186 : decode cX6_lays 186 = .ok (.aload_n 0, 1) := by decide +kernel
theorem dX6_lays_187 : decode cX6_lays 187 = .ok (.iload_n 2, 1) := by decide +kernel
theorem dX6_lays_188 : decode cX6_lays 188 = .ok (.iconst 1, 1) := by decide +kernel
theorem dX6_lays_189 : decode cX6_lays 189 = .ok (.invokevirtual 97, 3) := by decide +kernel
theorem dX6_lays_192 : decode cX6_lays 192 = .ok (.iload_n 3, 1) := by decide +kernel
theorem dX6_lays_193 : decode cX6_lays 193 = .ok (.aload_n 0, 1) := by decide +kernel
theorem dX6_lays_194 : decode cX6_lays 194 = .ok (.iload_n 2, 1) := by decide +kernel
theorem dX6_lays_195 : decode cX6_lays 195 = .ok (.iconst 2, 1) := by decide +kernel
theorem dX6_lays_196 : decode cX6_lays 196 = .ok (.invokevirtual 97, 3) := by decide +kernel
theorem dX6_lays_199 : decode cX6_lays 199 = .ok (.iadd, 1) := by decide +kernel
theorem dX6_lays_200 : decode cX6_lays 200 = .ok (.invokestatic 198, 3) := by decide +kernel
theorem dX6_lays_203 : decode cX6_lays 203 = .ok (.aload_n 0, 1) := by decide +kernel
theorem dX6_lays_204 : decode cX6_lays 204 = .ok (.iload_n 2, 1) := by decide +kernel
theorem dX6_lays_205 : decode cX6_lays 205 = .ok (.iconst 3, 1) := by decide +kernel
theorem dX6_lays_206 : decode cX6_lays 206 = .ok (.invokevirtual 97, 3) := by decide +kernel
theorem dX6_lays_209 : decode cX6_lays 209 = .ok (.invokevirtual 194, 3) := by decide +kernel
theorem dX6_lays_212 : decode cX6_lays 212 = .ok (.aload_n 0, 1) := by decide +kernel
theorem dX6_lays_213 : decode cX6_lays 213 = .ok (.aload_n 0, 1) := by decide +kernel
theorem dX6_lays_214 : decode cX6_lays 214 = .ok (.iload_n 2, 1) := by decide +kernel
theorem dX6_lays_215 : decode cX6_lays 215 = .ok (.iconst 1, 1) := by decide +kernel
theorem dX6_lays_216 : decode cX6_lays 216 = .ok (.invokevirtual 97, 3) := by decide +kernel
theorem dX6_lays_219 : decode cX6_lays 219 = .ok (.iload_n 3, 1) := by decide +kernel
theorem dX6_lays_220 : decode cX6_lays 220 = .ok (.invokestatic 198, 3) := by decide +kernel
theorem dX6_lays_223 : decode cX6_lays 223 = .ok (.aload_n 0, 1) := by decide +kernel
theorem dX6_lays_224 : decode cX6_lays 224 = .ok (.iload_n 2, 1) := by decide +kernel
theorem dX6_lays_225 : decode cX6_lays 225 = .ok (.iconst 0, 1) := by decide +kernel
theorem dX6_lays_226 : decode cX6_lays 226 = .ok (.invokevirtual 97, 3) := by decide +kernel
theorem dX6_lays_229 : decode cX6_lays 229 = .ok (.iload_n 3, 1) := by decide +kernel
theorem dX6_lays_230 : decode cX6_lays 230 = .ok (.aload_n 0, 1) := by decide +kernel
theorem dX6_lays_231 : decode cX6_lays 231 = .ok (.iload_n 2, 1) := by decide +kernel
theorem dX6_lays_232 : decode cX6_lays 232 = .ok (.iconst 2, 1) := by decide +kernel
theorem dX6_lays_233 : decode cX6_lays 233 = .ok (.invokevirtual 97, 3) := by decide +kernel
theorem dX6_lays_236 : decode cX6_lays 236 = .ok (.iadd, 1) := by decide +kernel
theorem dX6_lays_237 : decode cX6_lays 237 = .ok (.invokestatic 198, 3) := by decide +kernel
theorem dX6_lays_240 : decode cX6_lays 240 = .ok (.aload_n 0, 1) := by decide +kernel
theorem dX6_lays_241 : decode cX6_lays 241 = .ok (.iload_n 2, 1) := by decide +kernel
theorem dX6_lays_242 : decode cX6_lays 242 = .ok (.iconst 4, 1) := by decide +kernel
theorem dX6_lays_243 : decode cX6_lays 243 = .ok (.invokevirtual 97, 3) := by decide +kernel
theorem dX6_lays_246 : decode cX6_lays 246 = .ok (.invokevirtual 194, 3) := by decide +kernel
theorem dX6_lays_249 : decode cX6_lays 249 = .ok (.iinc 3 1, 3) := by decide +kernel
theorem dX6_lays_252 : decode cX6_lays 252 = .ok (.goto (-89), 3) := by decide +kernel
theorem dX6_lays_255 : decode cX6_lays 255 = .ok (.iinc 2 1, 3) := by decide +kernel
theorem dX6_lays_258 : decode cX6_lays 258 = .ok (.goto (-105), 3) := by decide +kernel
theorem dX6_lays_261 : decode cX6_lays 261 = .ok (.return_, 1) := by decide +kernel
theorem dX6_finds_0 : decode cX6_finds 0 = .ok (.iconst 0, 1) := by decide +kernel
theorem dX6_finds_1 : decode cX6_finds 1 = .ok (.istore_n 1, 1) := by decide +kernel
theorem dX6_finds_2 : decode cX6_finds 2 = .ok (.iload_n 1, 1) := by decide +kernel
theorem dX6_finds_3 : decode cX6_finds 3 = .ok (.sipush 346, 3) := by decide +kernel
theorem dX6_finds_6 : decode cX6_finds 6 = .ok (.if_icmp .ge 16, 3) := by decide +kernel
theorem dX6_finds_9 : decode cX6_finds 9 = .ok (.aload_n 0, 1) := by decide +kernel
theorem dX6_finds_10 : decode cX6_finds 10 = .ok (.getfield 38, 3) := by decide +kernel
theorem dX6_finds_13 : decode cX6_finds 13 = .ok (.iload_n 1, 1) := by decide +kernel
theorem dX6_finds_14 : decode cX6_finds 14 = .ok (.iconst 0, 1) := by decide +kernel
theorem dX6_finds_15 : decode cX6_finds 15 = .ok (.bastore, 1) := by decide +kernel
theorem dX6_finds_16 : decode cX6_finds 16 = .ok (.iinc 1 1, 3) := by decide +kernel
theorem dX6_finds_19 : decode cX6_finds 19 = .ok (.goto (-17), 3) := by decide +kernel
theorem dX6_finds_22 : decode cX6_finds 22 = .ok (.aload_n 0, 1) := by decide +kernel
theorem dX6_finds_23 : decode cX6_finds 23 = .ok (.getfield 38, 3) := by decide +kernel
theorem dX6_finds_26 : decode cX6_finds 26 = .ok (.iconst 0, 1) := by decide +kernel
theorem dX6_finds_27 : decode cX6_finds 27 = .ok (.iconst 1, 1) := by decide +kernel
theorem dX6_finds_28 : decode cX6_finds 28 = .ok (.bastore, 1) := by decide +kernel
theorem dX6_finds_29 : decode cX6_finds 29 = .ok (.aload_n 0, 1) := by decide +kernel
theorem dX6_finds_30 : decode cX6_finds 30 = .ok (.getfield 35, 3) := by decide +kernel
theorem dX6_finds_33 : decode cX6_finds 33 = .ok (.iconst 0, 1) := by decide +kernel
theorem dX6_finds_34 : decode cX6_finds 34 = .ok (.iconst 0, 1) := by decide +kernel
theorem dX6_finds_35 : decode cX6_finds 35 = .ok (.iastore, 1) := by decide +kernel
theorem dX6_finds_36 : decode cX6_finds 36 = .ok (.iconst 1, 1) := by decide +kernel
theorem dX6_finds_37 : decode cX6_finds 37 = .ok (.istore_n 1, 1) := by decide +kernel
theorem dX6_finds_38 : decode cX6_finds 38 = .ok (.iconst 0, 1) := by decide +kernel
theorem dX6_finds_39 : decode cX6_finds 39 = .ok (.istore_n 2, 1) := by decide +kernel
theorem dX6_finds_40 : decode cX6_finds 40 = .ok (.iload_n 2, 1) := by decide +kernel
theorem dX6_finds_41 : decode cX6_finds 41 = .ok (.iload_n 1, 1) := by decide +kernel
theorem dX6_finds_42 : decode cX6_finds 42 = .ok (.if_icmp .ge 110, 3) := by decide +kernel
theorem dX6_finds_45 : decode cX6_finds 45 = .ok (.aload_n 0, 1) := by decide +kernel
theorem dX6_finds_46 : decode cX6_finds 46 = .ok (.getfield 38, 3) := by decide +kernel
theorem dX6_finds_49 : decode cX6_finds 49 = .ok (.iconst 1, 1) := by decide +kernel
theorem dX6_finds_50 : decode cX6_finds 50 = .ok (.baload, 1) := by decide +kernel
theorem dX6_finds_51 : decode cX6_finds 51 = .ok (.ifCond .ne 101, 3) := by decide +kernel
theorem dX6_finds_54 : decode cX6_finds 54 = .ok (.aload_n 0, 1) := by decide +kernel
theorem dX6_finds_55 : decode cX6_finds 55 = .ok (.getfield 20, 3) := by decide +kernel
theorem dX6_finds_58 : decode cX6_finds 58 = .ok (.aload_n 0, 1) := by decide +kernel
theorem dX6_finds_59 : decode cX6_finds 59 = .ok (.getfield 35, 3) := by decide +kernel
theorem dX6_finds_62 : decode cX6_finds 62 = .ok (.iload_n 2, 1) := by decide +kernel
theorem dX6_finds_63 : decode cX6_finds 63 = .ok (.iaload, 1) := by decide +kernel
theorem dX6_finds_64 : decode cX6_finds 64 = .ok (.iaload, 1) := by decide +kernel
theorem dX6_finds_65 : decode cX6_finds 65 = .ok (.istore_n 3, 1) := by decide +kernel
theorem dX6_finds_66 : decode cX6_finds 66 = .ok (.iload_n 3, 1) := by decide +kernel
theorem dX6_finds_67 : decode cX6_finds 67 = .ok (.iconst (-1), 1) := by decide +kernel
theorem dX6_finds_68 : decode cX6_finds 68 = .ok (.if_icmp .eq 78, 3) := by decide +kernel
theorem dX6_finds_71 : decode cX6_finds 71 = .ok (.aload_n 0, 1) := by decide +kernel
theorem dX6_finds_72 : decode cX6_finds 72 = .ok (.getfield 29, 3) := by decide +kernel
theorem dX6_finds_75 : decode cX6_finds 75 = .ok (.iload_n 3, 1) := by decide +kernel
theorem dX6_finds_76 : decode cX6_finds 76 = .ok (.iaload, 1) := by decide +kernel
theorem dX6_finds_77 : decode cX6_finds 77 = .ok (.ifCond .eq 59, 3) := by decide +kernel
theorem dX6_finds_80 : decode cX6_finds 80 = .ok (.aload_n 0, 1) := by decide +kernel
theorem dX6_finds_81 : decode cX6_finds 81 = .ok (.getfield 38, 3) := by decide +kernel
theorem dX6_finds_84 : decode cX6_finds 84 = .ok (.aload_n 0, 1) := by decide +kernel
theorem dX6_finds_85 : decode cX6_finds 85 = .ok (.getfield 26, 3) := by decide +kernel
theorem dX6_finds_88 : decode cX6_finds 88 = .ok (.iload_n 3, 1) := by decide +kernel
theorem dX6_finds_89 : decode cX6_finds 89 = .ok (.iaload, 1) := by decide +kernel
theorem dX6_finds_90 : decode cX6_finds 90 = .ok (.baload, 1) := by decide +kernel
theorem dX6_finds_91 : decode cX6_finds 91 = .ok (.ifCond .eq 6, 3) := by decide +kernel
theorem dX6_finds_94 : decode cX6_finds 94 = .ok (.goto 42, 3) := by decide +kernel
theorem dX6_finds_97 : decode cX6_finds 97 = .ok (.aload_n 0, 1) := by decide +kernel
theorem dX6_finds_98 : decode cX6_finds 98 = .ok (.getfield 38, 3) := by decide +kernel
theorem dX6_finds_101 : decode cX6_finds 101 = .ok (.aload_n 0, 1) := by decide +kernel
theorem dX6_finds_102 : decode cX6_finds 102 = .ok (.getfield 26, 3) := by decide +kernel
theorem dX6_finds_105 : decode cX6_finds 105 = .ok (.iload_n 3, 1) := by decide +kernel
theorem dX6_finds_106 : decode cX6_finds 106 = .ok (.iaload, 1) := by decide +kernel
theorem dX6_finds_107 : decode cX6_finds 107 = .ok (.iconst 1, 1) := by decide +kernel
theorem dX6_finds_108 : decode cX6_finds 108 = .ok (.bastore, 1) := by decide +kernel
theorem dX6_finds_109 : decode cX6_finds 109 = .ok (.aload_n 0, 1) := by decide +kernel
theorem dX6_finds_110 : decode cX6_finds 110 = .ok (.getfield 32, 3) := by decide +kernel
theorem dX6_finds_113 : decode cX6_finds 113 = .ok (.aload_n 0, 1) := by decide +kernel
theorem dX6_finds_114 : decode cX6_finds 114 = .ok (.getfield 26, 3) := by decide +kernel
theorem dX6_finds_117 : decode cX6_finds 117 = .ok (.iload_n 3, 1) := by decide +kernel
theorem dX6_finds_118 : decode cX6_finds 118 = .ok (.iaload, 1) := by decide +kernel
theorem dX6_finds_119 : decode cX6_finds 119 = .ok (.iload_n 3, 1) := by decide +kernel
theorem dX6_finds_120 : decode cX6_finds 120 = .ok (.iastore, 1) := by decide +kernel
theorem dX6_finds_121 : decode cX6_finds 121 = .ok (.aload_n 0, 1) := by decide +kernel
theorem dX6_finds_122 : decode cX6_finds 122 = .ok (.getfield 35, 3) := by decide +kernel
theorem dX6_finds_125 : decode cX6_finds 125 = .ok (.iload_n 1, 1) := by decide +kernel
theorem dX6_finds_126 : decode cX6_finds 126 = .ok (.aload_n 0, 1) := by decide +kernel
theorem dX6_finds_127 : decode cX6_finds 127 = .ok (.getfield 26, 3) := by decide +kernel
theorem dX6_finds_130 : decode cX6_finds 130 = .ok (.iload_n 3, 1) := by decide +kernel
theorem dX6_finds_131 : decode cX6_finds 131 = .ok (.iaload, 1) := by decide +kernel
theorem dX6_finds_132 : decode cX6_finds 132 = .ok (.iastore, 1) := by decide +kernel
theorem dX6_finds_133 : decode cX6_finds 133 = .ok (.iinc 1 1, 3) := by decide +kernel
theorem dX6_finds_136 : decode cX6_finds 136 = .ok (.aload_n 0, 1) := by decide +kernel
theorem dX6_finds_137 : decode cX6_finds 137 = .ok (.getfield 23, 3) := by decide +kernel
theorem dX6_finds_140 : decode cX6_finds 140 = .ok (.iload_n 3, 1) := by decide +kernel
theorem dX6_finds_141 : decode cX6_finds 141 = .ok (.iaload, 1) := by decide +kernel
theorem dX6_finds_142 : decode cX6_finds 142 = .ok (.istore_n 3, 1) := by decide +kernel
theorem dX6_finds_143 : decode cX6_finds 143 = .ok (.goto (-77), 3) := by decide +kernel
theorem dX6_finds_146 : decode cX6_finds 146 = .ok (.iinc 2 1, 3) := by decide +kernel
theorem dX6_finds_149 : decode cX6_finds 149 = .ok (.goto (-109), 3) := by decide +kernel
theorem dX6_finds_152 : decode cX6_finds 152 = .ok (.aload_n 0, 1) := by decide +kernel
theorem dX6_finds_153 : decode cX6_finds 153 = .ok (.getfield 38, 3) := by decide +kernel
theorem dX6_finds_156 : decode cX6_finds 156 = .ok (.iconst 1, 1) := by decide +kernel
theorem dX6_finds_157 : decode cX6_finds 157 = .ok (.baload, 1) := by decide +kernel
theorem dX6_finds_158 : decode cX6_finds 158 = .ok (.ireturn, 1) := by decide +kernel
theorem dX6_pushes_0 : decode cX6_pushes 0 = .ok (.ldc 201, 2) := by decide +kernel
theorem dX6_pushes_2 : decode cX6_pushes 2 = .ok (.istore_n 1, 1) := by decide +kernel
theorem dX6_pushes_3 : decode cX6_pushes 3 = .ok (.iconst 1, 1) := by decide +kernel
theorem dX6_pushes_4 : decode cX6_pushes 4 = .ok (.istore_n 2, 1) := by decide +kernel
theorem dX6_pushes_5 : decode cX6_pushes 5 = .ok (.iload_n 2, 1) := by decide +kernel
theorem dX6_pushes_6 : decode cX6_pushes 6 = .ok (.ifCond .eq 36, 3) := by decide +kernel
theorem dX6_pushes_9 : decode cX6_pushes 9 = .ok (.iload_n 1, 1) := by decide +kernel
theorem dX6_pushes_10 : decode cX6_pushes 10 = .ok (.aload_n 0, 1) := by decide +kernel
theorem dX6_pushes_11 : decode cX6_pushes 11 = .ok (.getfield 29, 3) := by decide +kernel
theorem dX6_pushes_14 : decode cX6_pushes 14 = .ok (.aload_n 0, 1) := by decide +kernel
theorem dX6_pushes_15 : decode cX6_pushes 15 = .ok (.getfield 32, 3) := by decide +kernel
theorem dX6_pushes_18 : decode cX6_pushes 18 = .ok (.iload_n 2, 1) := by decide +kernel
theorem dX6_pushes_19 : decode cX6_pushes 19 = .ok (.iaload, 1) := by decide +kernel
theorem dX6_pushes_20 : decode cX6_pushes 20 = .ok (.iaload, 1) := by decide +kernel
theorem dX6_pushes_21 : decode cX6_pushes 21 = .ok (.invokestatic 124, 3) := by decide +kernel
theorem dX6_pushes_24 : decode cX6_pushes 24 = .ok (.istore_n 1, 1) := by decide +kernel
theorem dX6_pushes_25 : decode cX6_pushes 25 = .ok (.aload_n 0, 1) := by decide +kernel
theorem dX6_pushes_26 : decode cX6_pushes 26 = .ok (.getfield 26, 3) := by decide +kernel
theorem dX6_pushes_29 : decode cX6_pushes 29 = .ok (.aload_n 0, 1) := by decide +kernel
theorem dX6_pushes_30 : decode cX6_pushes 30 = .ok (.getfield 32, 3) := by decide +kernel
theorem dX6_pushes_33 : decode cX6_pushes 33 = .ok (.iload_n 2, 1) := by decide +kernel
theorem dX6_pushes_34 : decode cX6_pushes 34 = .ok (.iaload, 1) := by decide +kernel
theorem dX6_pushes_35 : decode cX6_pushes 35 = .ok (.iconst 1, 1) := by decide +kernel
theorem dX6_pushes_36 : decode cX6_pushes 36 = .ok (.ixor, 1) := by decide +kernel
theorem dX6_pushes_37 : decode cX6_pushes 37 = .ok (.iaload, 1) := by decide +kernel
theorem dX6_pushes_38 : decode cX6_pushes 38 = .ok (.istore_n 2, 1) := by decide +kernel
theorem dX6_pushes_39 : decode cX6_pushes 39 = .ok (.goto (-34), 3) := by decide +kernel
theorem dX6_pushes_42 : decode cX6_pushes 42 = .ok (.iconst 1, 1) := by decide +kernel
theorem dX6_pushes_43 : decode cX6_pushes 43 = .ok (.istore_n 2, 1) := by decide +kernel
theorem dX6_pushes_44 : decode cX6_pushes 44 = .ok (.iload_n 2, 1) := by decide +kernel
theorem dX6_pushes_45 : decode cX6_pushes 45 = .ok (.ifCond .eq 52, 3) := by decide +kernel
theorem dX6_pushes_48 : decode cX6_pushes 48 = .ok (.aload_n 0, 1) := by decide +kernel
theorem dX6_pushes_49 : decode cX6_pushes 49 = .ok (.getfield 29, 3) := by decide +kernel
theorem dX6_pushes_52 : decode cX6_pushes 52 = .ok (.aload_n 0, 1) := by decide +kernel
theorem dX6_pushes_53 : decode cX6_pushes 53 = .ok (.getfield 32, 3) := by decide +kernel
theorem dX6_pushes_56 : decode cX6_pushes 56 = .ok (.iload_n 2, 1) := by decide +kernel
theorem dX6_pushes_57 : decode cX6_pushes 57 = .ok (.iaload, 1) := by decide +kernel
theorem dX6_pushes_58 : decode cX6_pushes 58 = .ok (.dup2, 1) := by decide +kernel
theorem dX6_pushes_59 : decode cX6_pushes 59 = .ok (.iaload, 1) := by decide +kernel
theorem dX6_pushes_60 : decode cX6_pushes 60 = .ok (.iload_n 1, 1) := by decide +kernel
theorem dX6_pushes_61 : decode cX6_pushes 61 = .ok (.isub, 1) := by decide +kernel
theorem dX6_pushes_62 : decode cX6_pushes 62 = .ok (.iastore, 1) := by decide +kernel
theorem dX6_pushes_63 : decode cX6_pushes 63 = .ok (.aload_n 0, 1) := by decide +kernel
theorem dX6_pushes_64 : decode cX6_pushes 64 = .ok (.getfield 29, 3) := by decide +kernel
theorem dX6_pushes_67 : decode cX6_pushes 67 = .ok (.aload_n 0, 1) := by decide +kernel
theorem dX6_pushes_68 : decode cX6_pushes 68 = .ok (.getfield 32, 3) := by decide +kernel
theorem dX6_pushes_71 : decode cX6_pushes 71 = .ok (.iload_n 2, 1) := by decide +kernel
theorem dX6_pushes_72 : decode cX6_pushes 72 = .ok (.iaload, 1) := by decide +kernel
theorem dX6_pushes_73 : decode cX6_pushes 73 = .ok (.iconst 1, 1) := by decide +kernel
theorem dX6_pushes_74 : decode cX6_pushes 74 = .ok (.ixor, 1) := by decide +kernel
theorem dX6_pushes_75 : decode cX6_pushes 75 = .ok (.dup2, 1) := by decide +kernel
theorem dX6_pushes_76 : decode cX6_pushes 76 = .ok (.iaload, 1) := by decide +kernel
theorem dX6_pushes_77 : decode cX6_pushes 77 = .ok (.iload_n 1, 1) := by decide +kernel
theorem dX6_pushes_78 : decode cX6_pushes 78 = .ok (.iadd, 1) := by decide +kernel
theorem dX6_pushes_79 : decode cX6_pushes 79 = .ok (.iastore, 1) := by decide +kernel
theorem dX6_pushes_80 : decode cX6_pushes 80 = .ok (.aload_n 0, 1) := by decide +kernel
theorem dX6_pushes_81 : decode cX6_pushes 81 = .ok (.getfield 26, 3) := by decide +kernel
theorem dX6_pushes_84 : decode cX6_pushes 84 = .ok (.aload_n 0, 1) := by decide +kernel
theorem dX6_pushes_85 : decode cX6_pushes 85 = .ok (.getfield 32, 3) := by decide +kernel
theorem dX6_pushes_88 : decode cX6_pushes 88 = .ok (.iload_n 2, 1) := by decide +kernel
theorem dX6_pushes_89 : decode cX6_pushes 89 = .ok (.iaload, 1) := by decide +kernel
theorem dX6_pushes_90 : decode cX6_pushes 90 = .ok (.iconst 1, 1) := by decide +kernel
theorem dX6_pushes_91 : decode cX6_pushes 91 = .ok (.ixor, 1) := by decide +kernel
theorem dX6_pushes_92 : decode cX6_pushes 92 = .ok (.iaload, 1) := by decide +kernel
theorem dX6_pushes_93 : decode cX6_pushes 93 = .ok (.istore_n 2, 1) := by decide +kernel
theorem dX6_pushes_94 : decode cX6_pushes 94 = .ok (.goto (-50), 3) := by decide +kernel
theorem dX6_pushes_97 : decode cX6_pushes 97 = .ok (.iload_n 1, 1) := by decide +kernel
theorem dX6_pushes_98 : decode cX6_pushes 98 = .ok (.ireturn, 1) := by decide +kernel
theorem dX6_flows_0 : decode cX6_flows 0 = .ok (.aload_n 0, 1) := by decide +kernel
theorem dX6_flows_1 : decode cX6_flows 1 = .ok (.iload_n 1, 1) := by decide +kernel
theorem dX6_flows_2 : decode cX6_flows 2 = .ok (.invokevirtual 202, 3) := by decide +kernel
theorem dX6_flows_5 : decode cX6_flows 5 = .ok (.iconst 0, 1) := by decide +kernel
theorem dX6_flows_6 : decode cX6_flows 6 = .ok (.istore_n 2, 1) := by decide +kernel
theorem dX6_flows_7 : decode cX6_flows 7 = .ok (.aload_n 0, 1) := by decide +kernel
theorem dX6_flows_8 : decode cX6_flows 8 = .ok (.invokevirtual 205, 3) := by decide +kernel
theorem dX6_flows_11 : decode cX6_flows 11 = .ok (.ifCond .eq 13, 3) := by decide +kernel
theorem dX6_flows_14 : decode cX6_flows 14 = .ok (.iload_n 2, 1) := by decide +kernel
theorem dX6_flows_15 : decode cX6_flows 15 = .ok (.aload_n 0, 1) := by decide +kernel
theorem dX6_flows_16 : decode cX6_flows 16 = .ok (.invokevirtual 209, 3) := by decide +kernel
theorem dX6_flows_19 : decode cX6_flows 19 = .ok (.iadd, 1) := by decide +kernel
theorem dX6_flows_20 : decode cX6_flows 20 = .ok (.istore_n 2, 1) := by decide +kernel
theorem dX6_flows_21 : decode cX6_flows 21 = .ok (.goto (-14), 3) := by decide +kernel
theorem dX6_flows_24 : decode cX6_flows 24 = .ok (.iload_n 2, 1) := by decide +kernel
theorem dX6_flows_25 : decode cX6_flows 25 = .ok (.ireturn, 1) := by decide +kernel
theorem dX6_isMinute_0 : decode cX6_isMinute 0 = .ok (.iload_n 0, 1) := by decide +kernel
theorem dX6_isMinute_1 : decode cX6_isMinute 1 = .ok (.iconst 0, 1) := by decide +kernel
theorem dX6_isMinute_2 : decode cX6_isMinute 2 = .ok (.bipush 40, 2) := by decide +kernel
theorem dX6_isMinute_4 : decode cX6_isMinute 4 = .ok (.invokestatic 68, 3) := by decide +kernel
theorem dX6_isMinute_7 : decode cX6_isMinute 7 = .ok (.ireturn, 1) := by decide +kernel
theorem dX6_can_0 : decode cX6_can 0 = .ok (.iload_n 1, 1) := by decide +kernel
theorem dX6_can_1 : decode cX6_can 1 = .ok (.invokestatic 212, 3) := by decide +kernel
theorem dX6_can_4 : decode cX6_can 4 = .ok (.ifCond .eq 20, 3) := by decide +kernel
theorem dX6_can_7 : decode cX6_can 7 = .ok (.aload_n 0, 1) := by decide +kernel
theorem dX6_can_8 : decode cX6_can 8 = .ok (.iload_n 1, 1) := by decide +kernel
theorem dX6_can_9 : decode cX6_can 9 = .ok (.invokevirtual 215, 3) := by decide +kernel
theorem dX6_can_12 : decode cX6_can 12 = .ok (.aload_n 0, 1) := by decide +kernel
theorem dX6_can_13 : decode cX6_can 13 = .ok (.iconst 0, 1) := by decide +kernel
theorem dX6_can_14 : decode cX6_can 14 = .ok (.invokevirtual 130, 3) := by decide +kernel
theorem dX6_can_17 : decode cX6_can 17 = .ok (.if_icmp .ne 7, 3) := by decide +kernel
theorem dX6_can_20 : decode cX6_can 20 = .ok (.iconst 1, 1) := by decide +kernel
theorem dX6_can_21 : decode cX6_can 21 = .ok (.goto 4, 3) := by decide +kernel
theorem dX6_can_24 : decode cX6_can 24 = .ok (.iconst 0, 1) := by decide +kernel
theorem dX6_can_25 : decode cX6_can 25 = .ok (.ireturn, 1) := by decide +kernel
theorem dX6_quickestBelow_0 : decode cX6_quickestBelow 0 = .ok (.aload_n 0, 1) := by decide +kernel
theorem dX6_quickestBelow_1 : decode cX6_quickestBelow 1 = .ok (.iconst 0, 1) := by decide +kernel
theorem dX6_quickestBelow_2 : decode cX6_quickestBelow 2 = .ok (.invokevirtual 130, 3) := by decide +kernel
theorem dX6_quickestBelow_5 : decode cX6_quickestBelow 5 = .ok (.aload_n 0, 1) := by decide +kernel
theorem dX6_quickestBelow_6 : decode cX6_quickestBelow 6 = .ok (.iconst 1, 1) := by decide +kernel
theorem dX6_quickestBelow_7 : decode cX6_quickestBelow 7 = .ok (.invokevirtual 130, 3) := by decide +kernel
theorem dX6_quickestBelow_10 : decode cX6_quickestBelow 10 = .ok (.if_icmp .gt 13, 3) := by decide +kernel
theorem dX6_quickestBelow_13 : decode cX6_quickestBelow 13 = .ok (.aload_n 0, 1) := by decide +kernel
theorem dX6_quickestBelow_14 : decode cX6_quickestBelow 14 = .ok (.iload_n 1, 1) := by decide +kernel
theorem dX6_quickestBelow_15 : decode cX6_quickestBelow 15 = .ok (.iconst 1, 1) := by decide +kernel
theorem dX6_quickestBelow_16 : decode cX6_quickestBelow 16 = .ok (.isub, 1) := by decide +kernel
theorem dX6_quickestBelow_17 : decode cX6_quickestBelow 17 = .ok (.invokevirtual 218, 3) := by decide +kernel
theorem dX6_quickestBelow_20 : decode cX6_quickestBelow 20 = .ok (.ifCond .ne 5, 3) := by decide +kernel
theorem dX6_quickestBelow_23 : decode cX6_quickestBelow 23 = .ok (.iconst (-1), 1) := by decide +kernel
theorem dX6_quickestBelow_24 : decode cX6_quickestBelow 24 = .ok (.ireturn, 1) := by decide +kernel
theorem dX6_quickestBelow_25 : decode cX6_quickestBelow 25 = .ok (.iconst 0, 1) := by decide +kernel
theorem dX6_quickestBelow_26 : decode cX6_quickestBelow 26 = .ok (.istore_n 2, 1) := by decide +kernel
theorem dX6_quickestBelow_27 : decode cX6_quickestBelow 27 = .ok (.iload_n 1, 1) := by decide +kernel
theorem dX6_quickestBelow_28 : decode cX6_quickestBelow 28 = .ok (.iconst 1, 1) := by decide +kernel
theorem dX6_quickestBelow_29 : decode cX6_quickestBelow 29 = .ok (.isub, 1) := by decide +kernel
theorem dX6_quickestBelow_30 : decode cX6_quickestBelow 30 = .ok (.istore_n 3, 1) := by decide +kernel
theorem dX6_quickestBelow_31 : decode cX6_quickestBelow 31 = .ok (.iload_n 2, 1) := by decide +kernel
theorem dX6_quickestBelow_32 : decode cX6_quickestBelow 32 = .ok (.iload_n 3, 1) := by decide +kernel
theorem dX6_quickestBelow_33 : decode cX6_quickestBelow 33 = .ok (.if_icmp .ge 33, 3) := by decide +kernel
theorem dX6_quickestBelow_36 : decode cX6_quickestBelow 36 = .ok (.iload_n 2, 1) := by decide +kernel
theorem dX6_quickestBelow_37 : decode cX6_quickestBelow 37 = .ok (.iload_n 3, 1) := by decide +kernel
theorem dX6_quickestBelow_38 : decode cX6_quickestBelow 38 = .ok (.iadd, 1) := by decide +kernel
theorem dX6_quickestBelow_39 : decode cX6_quickestBelow 39 = .ok (.iconst 2, 1) := by decide +kernel
theorem dX6_quickestBelow_40 : decode cX6_quickestBelow 40 = .ok (.idiv, 1) := by decide +kernel
theorem dX6_quickestBelow_41 : decode cX6_quickestBelow 41 = .ok (.istore 4, 2) := by decide +kernel
theorem dX6_quickestBelow_43 : decode cX6_quickestBelow 43 = .ok (.aload_n 0, 1) := by decide +kernel
theorem dX6_quickestBelow_44 : decode cX6_quickestBelow 44 = .ok (.iload 4, 2) := by decide +kernel
theorem dX6_quickestBelow_46 : decode cX6_quickestBelow 46 = .ok (.invokevirtual 218, 3) := by decide +kernel
theorem dX6_quickestBelow_49 : decode cX6_quickestBelow 49 = .ok (.ifCond .eq 9, 3) := by decide +kernel
theorem dX6_quickestBelow_52 : decode cX6_quickestBelow 52 = .ok (.iload 4, 2) := by decide +kernel
theorem dX6_quickestBelow_54 : decode cX6_quickestBelow 54 = .ok (.istore_n 3, 1) := by decide +kernel
theorem dX6_quickestBelow_55 : decode cX6_quickestBelow 55 = .ok (.goto 8, 3) := by decide +kernel
theorem dX6_quickestBelow_58 : decode cX6_quickestBelow 58 = .ok (.iload 4, 2) := by decide +kernel
theorem dX6_quickestBelow_60 : decode cX6_quickestBelow 60 = .ok (.iconst 1, 1) := by decide +kernel
theorem dX6_quickestBelow_61 : decode cX6_quickestBelow 61 = .ok (.iadd, 1) := by decide +kernel
theorem dX6_quickestBelow_62 : decode cX6_quickestBelow 62 = .ok (.istore_n 2, 1) := by decide +kernel
theorem dX6_quickestBelow_63 : decode cX6_quickestBelow 63 = .ok (.goto (-32), 3) := by decide +kernel
theorem dX6_quickestBelow_66 : decode cX6_quickestBelow 66 = .ok (.iload_n 2, 1) := by decide +kernel
theorem dX6_quickestBelow_67 : decode cX6_quickestBelow 67 = .ok (.ireturn, 1) := by decide +kernel
theorem dX6_quickestNow_0 : decode cX6_quickestNow 0 = .ok (.aload_n 0, 1) := by decide +kernel
theorem dX6_quickestNow_1 : decode cX6_quickestNow 1 = .ok (.bipush 41, 2) := by decide +kernel
theorem dX6_quickestNow_3 : decode cX6_quickestNow 3 = .ok (.invokevirtual 221, 3) := by decide +kernel
theorem dX6_quickestNow_6 : decode cX6_quickestNow 6 = .ok (.ireturn, 1) := by decide +kernel
theorem dX6_safe_0 : decode cX6_safe 0 = .ok (.aload_n 0, 1) := by decide +kernel
theorem dX6_safe_1 : decode cX6_safe 1 = .ok (.iconst 0, 1) := by decide +kernel
theorem dX6_safe_2 : decode cX6_safe 2 = .ok (.putfield 60, 3) := by decide +kernel
theorem dX6_safe_5 : decode cX6_safe 5 = .ok (.iload_n 1, 1) := by decide +kernel
theorem dX6_safe_6 : decode cX6_safe 6 = .ok (.invokestatic 212, 3) := by decide +kernel
theorem dX6_safe_9 : decode cX6_safe 9 = .ok (.ifCond .eq 11, 3) := by decide +kernel
theorem dX6_safe_12 : decode cX6_safe 12 = .ok (.aload_n 0, 1) := by decide +kernel
theorem dX6_safe_13 : decode cX6_safe 13 = .ok (.iload_n 1, 1) := by decide +kernel
theorem dX6_safe_14 : decode cX6_safe 14 = .ok (.invokevirtual 215, 3) := by decide +kernel
theorem dX6_safe_17 : decode cX6_safe 17 = .ok (.goto 4, 3) := by decide +kernel
theorem dX6_safe_20 : decode cX6_safe 20 = .ok (.iconst (-1), 1) := by decide +kernel
theorem dX6_safe_21 : decode cX6_safe 21 = .ok (.ireturn, 1) := by decide +kernel
theorem dX6_quickest_0 : decode cX6_quickest 0 = .ok (.aload_n 0, 1) := by decide +kernel
theorem dX6_quickest_1 : decode cX6_quickest 1 = .ok (.iconst 0, 1) := by decide +kernel
theorem dX6_quickest_2 : decode cX6_quickest 2 = .ok (.putfield 60, 3) := by decide +kernel
theorem dX6_quickest_5 : decode cX6_quickest 5 = .ok (.aload_n 0, 1) := by decide +kernel
theorem dX6_quickest_6 : decode cX6_quickest 6 = .ok (.invokevirtual 224, 3) := by decide +kernel
theorem dX6_quickest_9 : decode cX6_quickest 9 = .ok (.ireturn, 1) := by decide +kernel
theorem dX6_looksBack_0 : decode cX6_looksBack 0 = .ok (.iconst 0, 1) := by decide +kernel
theorem dX6_looksBack_1 : decode cX6_looksBack 1 = .ok (.istore_n 1, 1) := by decide +kernel
theorem dX6_looksBack_2 : decode cX6_looksBack 2 = .ok (.iload_n 1, 1) := by decide +kernel
theorem dX6_looksBack_3 : decode cX6_looksBack 3 = .ok (.sipush 346, 3) := by decide +kernel
theorem dX6_looksBack_6 : decode cX6_looksBack 6 = .ok (.if_icmp .ge 16, 3) := by decide +kernel
theorem dX6_looksBack_9 : decode cX6_looksBack 9 = .ok (.aload_n 0, 1) := by decide +kernel
theorem dX6_looksBack_10 : decode cX6_looksBack 10 = .ok (.getfield 38, 3) := by decide +kernel
theorem dX6_looksBack_13 : decode cX6_looksBack 13 = .ok (.iload_n 1, 1) := by decide +kernel
theorem dX6_looksBack_14 : decode cX6_looksBack 14 = .ok (.iconst 0, 1) := by decide +kernel
theorem dX6_looksBack_15 : decode cX6_looksBack 15 = .ok (.bastore, 1) := by decide +kernel
theorem dX6_looksBack_16 : decode cX6_looksBack 16 = .ok (.iinc 1 1, 3) := by decide +kernel
theorem dX6_looksBack_19 : decode cX6_looksBack 19 = .ok (.goto (-17), 3) := by decide +kernel
theorem dX6_looksBack_22 : decode cX6_looksBack 22 = .ok (.aload_n 0, 1) := by decide +kernel
theorem dX6_looksBack_23 : decode cX6_looksBack 23 = .ok (.getfield 38, 3) := by decide +kernel
theorem dX6_looksBack_26 : decode cX6_looksBack 26 = .ok (.iconst 1, 1) := by decide +kernel
theorem dX6_looksBack_27 : decode cX6_looksBack 27 = .ok (.iconst 1, 1) := by decide +kernel
theorem dX6_looksBack_28 : decode cX6_looksBack 28 = .ok (.bastore, 1) := by decide +kernel
theorem dX6_looksBack_29 : decode cX6_looksBack 29 = .ok (.aload_n 0, 1) := by decide +kernel
theorem dX6_looksBack_30 : decode cX6_looksBack 30 = .ok (.getfield 35, 3) := by decide +kernel
theorem dX6_looksBack_33 : decode cX6_looksBack 33 = .ok (.iconst 0, 1) := by decide +kernel
theorem dX6_looksBack_34 : decode cX6_looksBack 34 = .ok (.iconst 1, 1) := by decide +kernel
theorem dX6_looksBack_35 : decode cX6_looksBack 35 = .ok (.iastore, 1) := by decide +kernel
theorem dX6_looksBack_36 : decode cX6_looksBack 36 = .ok (.iconst 1, 1) := by decide +kernel
theorem dX6_looksBack_37 : decode cX6_looksBack 37 = .ok (.istore_n 1, 1) := by decide +kernel
theorem dX6_looksBack_38 : decode cX6_looksBack 38 = .ok (.iconst 0, 1) := by decide +kernel
theorem dX6_looksBack_39 : decode cX6_looksBack 39 = .ok (.istore_n 2, 1) := by decide +kernel
theorem dX6_looksBack_40 : decode cX6_looksBack 40 = .ok (.iload_n 2, 1) := by decide +kernel
theorem dX6_looksBack_41 : decode cX6_looksBack 41 = .ok (.iload_n 1, 1) := by decide +kernel
theorem dX6_looksBack_42 : decode cX6_looksBack 42 = .ok (.if_icmp .ge 91, 3) := by decide +kernel
theorem dX6_looksBack_45 : decode cX6_looksBack 45 = .ok (.aload_n 0, 1) := by decide +kernel
theorem dX6_looksBack_46 : decode cX6_looksBack 46 = .ok (.getfield 20, 3) := by decide +kernel
theorem dX6_looksBack_49 : decode cX6_looksBack 49 = .ok (.aload_n 0, 1) := by decide +kernel
theorem dX6_looksBack_50 : decode cX6_looksBack 50 = .ok (.getfield 35, 3) := by decide +kernel
theorem dX6_looksBack_53 : decode cX6_looksBack 53 = .ok (.iload_n 2, 1) := by decide +kernel
theorem dX6_looksBack_54 : decode cX6_looksBack 54 = .ok (.iaload, 1) := by decide +kernel
theorem dX6_looksBack_55 : decode cX6_looksBack 55 = .ok (.iaload, 1) := by decide +kernel
theorem dX6_looksBack_56 : decode cX6_looksBack 56 = .ok (.istore_n 3, 1) := by decide +kernel
theorem dX6_looksBack_57 : decode cX6_looksBack 57 = .ok (.iload_n 3, 1) := by decide +kernel
theorem dX6_looksBack_58 : decode cX6_looksBack 58 = .ok (.iconst (-1), 1) := by decide +kernel
theorem dX6_looksBack_59 : decode cX6_looksBack 59 = .ok (.if_icmp .eq 68, 3) := by decide +kernel
theorem dX6_looksBack_62 : decode cX6_looksBack 62 = .ok (.aload_n 0, 1) := by decide +kernel
theorem dX6_looksBack_63 : decode cX6_looksBack 63 = .ok (.getfield 29, 3) := by decide +kernel
theorem dX6_looksBack_66 : decode cX6_looksBack 66 = .ok (.iload_n 3, 1) := by decide +kernel
theorem dX6_looksBack_67 : decode cX6_looksBack 67 = .ok (.iconst 1, 1) := by decide +kernel
theorem dX6_looksBack_68 : decode cX6_looksBack 68 = .ok (.ixor, 1) := by decide +kernel
theorem dX6_looksBack_69 : decode cX6_looksBack 69 = .ok (.iaload, 1) := by decide +kernel
theorem dX6_looksBack_70 : decode cX6_looksBack 70 = .ok (.ifCond .eq 47, 3) := by decide +kernel
theorem dX6_looksBack_73 : decode cX6_looksBack 73 = .ok (.aload_n 0, 1) := by decide +kernel
theorem dX6_looksBack_74 : decode cX6_looksBack 74 = .ok (.getfield 38, 3) := by decide +kernel
theorem dX6_looksBack_77 : decode cX6_looksBack 77 = .ok (.aload_n 0, 1) := by decide +kernel
theorem dX6_looksBack_78 : decode cX6_looksBack 78 = .ok (.getfield 26, 3) := by decide +kernel
theorem dX6_looksBack_81 : decode cX6_looksBack 81 = .ok (.iload_n 3, 1) := by decide +kernel
theorem dX6_looksBack_82 : decode cX6_looksBack 82 = .ok (.iaload, 1) := by decide +kernel
theorem dX6_looksBack_83 : decode cX6_looksBack 83 = .ok (.baload, 1) := by decide +kernel
theorem dX6_looksBack_84 : decode cX6_looksBack 84 = .ok (.ifCond .eq 6, 3) := by decide +kernel
theorem dX6_looksBack_87 : decode cX6_looksBack 87 = .ok (.goto 30, 3) := by decide +kernel
theorem dX6_looksBack_90 : decode cX6_looksBack 90 = .ok (.aload_n 0, 1) := by decide +kernel
theorem dX6_looksBack_91 : decode cX6_looksBack 91 = .ok (.getfield 38, 3) := by decide +kernel
theorem dX6_looksBack_94 : decode cX6_looksBack 94 = .ok (.aload_n 0, 1) := by decide +kernel
theorem dX6_looksBack_95 : decode cX6_looksBack 95 = .ok (.getfield 26, 3) := by decide +kernel
theorem dX6_looksBack_98 : decode cX6_looksBack 98 = .ok (.iload_n 3, 1) := by decide +kernel
theorem dX6_looksBack_99 : decode cX6_looksBack 99 = .ok (.iaload, 1) := by decide +kernel
theorem dX6_looksBack_100 : decode cX6_looksBack 100 = .ok (.iconst 1, 1) := by decide +kernel
theorem dX6_looksBack_101 : decode cX6_looksBack 101 = .ok (.bastore, 1) := by decide +kernel
theorem dX6_looksBack_102 : decode cX6_looksBack 102 = .ok (.aload_n 0, 1) := by decide +kernel
theorem dX6_looksBack_103 : decode cX6_looksBack 103 = .ok (.getfield 35, 3) := by decide +kernel
theorem dX6_looksBack_106 : decode cX6_looksBack 106 = .ok (.iload_n 1, 1) := by decide +kernel
theorem dX6_looksBack_107 : decode cX6_looksBack 107 = .ok (.aload_n 0, 1) := by decide +kernel
theorem dX6_looksBack_108 : decode cX6_looksBack 108 = .ok (.getfield 26, 3) := by decide +kernel
theorem dX6_looksBack_111 : decode cX6_looksBack 111 = .ok (.iload_n 3, 1) := by decide +kernel
theorem dX6_looksBack_112 : decode cX6_looksBack 112 = .ok (.iaload, 1) := by decide +kernel
theorem dX6_looksBack_113 : decode cX6_looksBack 113 = .ok (.iastore, 1) := by decide +kernel
theorem dX6_looksBack_114 : decode cX6_looksBack 114 = .ok (.iinc 1 1, 3) := by decide +kernel
theorem dX6_looksBack_117 : decode cX6_looksBack 117 = .ok (.aload_n 0, 1) := by decide +kernel
theorem dX6_looksBack_118 : decode cX6_looksBack 118 = .ok (.getfield 23, 3) := by decide +kernel
theorem dX6_looksBack_121 : decode cX6_looksBack 121 = .ok (.iload_n 3, 1) := by decide +kernel
theorem dX6_looksBack_122 : decode cX6_looksBack 122 = .ok (.iaload, 1) := by decide +kernel
theorem dX6_looksBack_123 : decode cX6_looksBack 123 = .ok (.istore_n 3, 1) := by decide +kernel
theorem dX6_looksBack_124 : decode cX6_looksBack 124 = .ok (.goto (-67), 3) := by decide +kernel
theorem dX6_looksBack_127 : decode cX6_looksBack 127 = .ok (.iinc 2 1, 3) := by decide +kernel
theorem dX6_looksBack_130 : decode cX6_looksBack 130 = .ok (.goto (-90), 3) := by decide +kernel
theorem dX6_looksBack_133 : decode cX6_looksBack 133 = .ok (.return_, 1) := by decide +kernel
theorem dX6_open_0 : decode cX6_open 0 = .ok (.aload_n 0, 1) := by decide +kernel
theorem dX6_open_1 : decode cX6_open 1 = .ok (.iconst 0, 1) := by decide +kernel
theorem dX6_open_2 : decode cX6_open 2 = .ok (.putfield 60, 3) := by decide +kernel
theorem dX6_open_5 : decode cX6_open 5 = .ok (.iload_n 1, 1) := by decide +kernel
theorem dX6_open_6 : decode cX6_open 6 = .ok (.invokestatic 212, 3) := by decide +kernel
theorem dX6_open_9 : decode cX6_open 9 = .ok (.ifCond .eq 20, 3) := by decide +kernel
theorem dX6_open_12 : decode cX6_open 12 = .ok (.aload_n 0, 1) := by decide +kernel
theorem dX6_open_13 : decode cX6_open 13 = .ok (.iload_n 2, 1) := by decide +kernel
theorem dX6_open_14 : decode cX6_open 14 = .ok (.invokevirtual 86, 3) := by decide +kernel
theorem dX6_open_17 : decode cX6_open 17 = .ok (.ifCond .eq 12, 3) := by decide +kernel
theorem dX6_open_20 : decode cX6_open 20 = .ok (.iload_n 3, 1) := by decide +kernel
theorem dX6_open_21 : decode cX6_open 21 = .ok (.iconst 0, 1) := by decide +kernel
theorem dX6_open_22 : decode cX6_open 22 = .ok (.iload_n 1, 1) := by decide +kernel
theorem dX6_open_23 : decode cX6_open 23 = .ok (.invokestatic 68, 3) := by decide +kernel
theorem dX6_open_26 : decode cX6_open 26 = .ok (.ifCond .ne 5, 3) := by decide +kernel
theorem dX6_open_29 : decode cX6_open 29 = .ok (.iconst 0, 1) := by decide +kernel
theorem dX6_open_30 : decode cX6_open 30 = .ok (.ireturn, 1) := by decide +kernel
theorem dX6_open_31 : decode cX6_open 31 = .ok (.aload_n 0, 1) := by decide +kernel
theorem dX6_open_32 : decode cX6_open 32 = .ok (.iload_n 1, 1) := by decide +kernel
theorem dX6_open_33 : decode cX6_open 33 = .ok (.invokevirtual 215, 3) := by decide +kernel
theorem dX6_open_36 : decode cX6_open 36 = .ok (.istore 4, 2) := by decide +kernel
theorem dX6_open_38 : decode cX6_open 38 = .ok (.aload_n 0, 1) := by decide +kernel
theorem dX6_open_39 : decode cX6_open 39 = .ok (.invokevirtual 227, 3) := by decide +kernel
theorem dX6_open_42 : decode cX6_open 42 = .ok (.aload_n 0, 1) := by decide +kernel
theorem dX6_open_43 : decode cX6_open 43 = .ok (.getfield 38, 3) := by decide +kernel
theorem dX6_open_46 : decode cX6_open 46 = .ok (.iload_n 2, 1) := by decide +kernel
theorem dX6_open_47 : decode cX6_open 47 = .ok (.iload_n 3, 1) := by decide +kernel
theorem dX6_open_48 : decode cX6_open 48 = .ok (.invokestatic 198, 3) := by decide +kernel
theorem dX6_open_51 : decode cX6_open 51 = .ok (.baload, 1) := by decide +kernel
theorem dX6_open_52 : decode cX6_open 52 = .ok (.ireturn, 1) := by decide +kernel
theorem dX6_openings_0 : decode cX6_openings 0 = .ok (.aload_n 0, 1) := by decide +kernel
theorem dX6_openings_1 : decode cX6_openings 1 = .ok (.iconst 0, 1) := by decide +kernel
theorem dX6_openings_2 : decode cX6_openings 2 = .ok (.putfield 60, 3) := by decide +kernel
theorem dX6_openings_5 : decode cX6_openings 5 = .ok (.iload_n 1, 1) := by decide +kernel
theorem dX6_openings_6 : decode cX6_openings 6 = .ok (.invokestatic 212, 3) := by decide +kernel
theorem dX6_openings_9 : decode cX6_openings 9 = .ok (.ifCond .eq 11, 3) := by decide +kernel
theorem dX6_openings_12 : decode cX6_openings 12 = .ok (.aload_n 0, 1) := by decide +kernel
theorem dX6_openings_13 : decode cX6_openings 13 = .ok (.iload_n 2, 1) := by decide +kernel
theorem dX6_openings_14 : decode cX6_openings 14 = .ok (.invokevirtual 86, 3) := by decide +kernel
theorem dX6_openings_17 : decode cX6_openings 17 = .ok (.ifCond .ne 5, 3) := by decide +kernel
theorem dX6_openings_20 : decode cX6_openings 20 = .ok (.iconst (-1), 1) := by decide +kernel
theorem dX6_openings_21 : decode cX6_openings 21 = .ok (.ireturn, 1) := by decide +kernel
theorem dX6_openings_22 : decode cX6_openings 22 = .ok (.aload_n 0, 1) := by decide +kernel
theorem dX6_openings_23 : decode cX6_openings 23 = .ok (.iload_n 1, 1) := by decide +kernel
theorem dX6_openings_24 : decode cX6_openings 24 = .ok (.invokevirtual 215, 3) := by decide +kernel
theorem dX6_openings_27 : decode cX6_openings 27 = .ok (.istore_n 3, 1) := by decide +kernel
theorem dX6_openings_28 : decode cX6_openings 28 = .ok (.aload_n 0, 1) := by decide +kernel
theorem dX6_openings_29 : decode cX6_openings 29 = .ok (.invokevirtual 227, 3) := by decide +kernel
theorem dX6_openings_32 : decode cX6_openings 32 = .ok (.iconst 0, 1) := by decide +kernel
theorem dX6_openings_33 : decode cX6_openings 33 = .ok (.istore 4, 2) := by decide +kernel
theorem dX6_openings_35 : decode cX6_openings 35 = .ok (.iconst 0, 1) := by decide +kernel
theorem dX6_openings_36 : decode cX6_openings 36 = .ok (.istore 5, 2) := by decide +kernel
theorem dX6_openings_38 : decode cX6_openings 38 = .ok (.iload 5, 2) := by decide +kernel
theorem dX6_openings_40 : decode cX6_openings 40 = .ok (.iload_n 1, 1) := by decide +kernel
theorem dX6_openings_41 : decode cX6_openings 41 = .ok (.if_icmp .gt 33, 3) := by decide +kernel
theorem dX6_openings_44 : decode cX6_openings 44 = .ok (.iload 4, 2) := by decide +kernel
theorem dX6_openings_46 : decode cX6_openings 46 = .ok (.aload_n 0, 1) := by decide +kernel
theorem dX6_openings_47 : decode cX6_openings 47 = .ok (.getfield 38, 3) := by decide +kernel
theorem dX6_openings_50 : decode cX6_openings 50 = .ok (.iload_n 2, 1) := by decide +kernel
theorem dX6_openings_51 : decode cX6_openings 51 = .ok (.iload 5, 2) := by decide +kernel
theorem dX6_openings_53 : decode cX6_openings 53 = .ok (.invokestatic 198, 3) := by decide +kernel
theorem dX6_openings_56 : decode cX6_openings 56 = .ok (.baload, 1) := by decide +kernel
theorem dX6_openings_57 : decode cX6_openings 57 = .ok (.ifCond .eq 7, 3) := by decide +kernel
theorem dX6_openings_60 : decode cX6_openings 60 = .ok (.iconst 1, 1) := by decide +kernel
theorem dX6_openings_61 : decode cX6_openings 61 = .ok (.goto 4, 3) := by decide +kernel
theorem dX6_openings_64 : decode cX6_openings 64 = .ok (.iconst 0, 1) := by decide +kernel
theorem dX6_openings_65 : decode cX6_openings 65 = .ok (.iadd, 1) := by decide +kernel
theorem dX6_openings_66 : decode cX6_openings 66 = .ok (.istore 4, 2) := by decide +kernel
theorem dX6_openings_68 : decode cX6_openings 68 = .ok (.iinc 5 1, 3) := by decide +kernel
theorem dX6_openings_71 : decode cX6_openings 71 = .ok (.goto (-33), 3) := by decide +kernel
theorem dX6_openings_74 : decode cX6_openings 74 = .ok (.iload 4, 2) := by decide +kernel
theorem dX6_openings_76 : decode cX6_openings 76 = .ok (.ireturn, 1) := by decide +kernel
theorem dX6_lanes_0 : decode cX6_lanes 0 = .ok (.aload_n 0, 1) := by decide +kernel
theorem dX6_lanes_1 : decode cX6_lanes 1 = .ok (.getfield 7, 3) := by decide +kernel
theorem dX6_lanes_4 : decode cX6_lanes 4 = .ok (.bipush 35, 2) := by decide +kernel
theorem dX6_lanes_6 : decode cX6_lanes 6 = .ok (.iconst 5, 1) := by decide +kernel
theorem dX6_lanes_7 : decode cX6_lanes 7 = .ok (.iload_n 1, 1) := by decide +kernel
theorem dX6_lanes_8 : decode cX6_lanes 8 = .ok (.imul, 1) := by decide +kernel
theorem dX6_lanes_9 : decode cX6_lanes 9 = .ok (.iadd, 1) := by decide +kernel
theorem dX6_lanes_10 : decode cX6_lanes 10 = .ok (.iconst 3, 1) := by decide +kernel
theorem dX6_lanes_11 : decode cX6_lanes 11 = .ok (.iadd, 1) := by decide +kernel
theorem dX6_lanes_12 : decode cX6_lanes 12 = .ok (.iload_n 2, 1) := by decide +kernel
theorem dX6_lanes_13 : decode cX6_lanes 13 = .ok (.iastore, 1) := by decide +kernel
theorem dX6_lanes_14 : decode cX6_lanes 14 = .ok (.aload_n 0, 1) := by decide +kernel
theorem dX6_lanes_15 : decode cX6_lanes 15 = .ok (.getfield 7, 3) := by decide +kernel
theorem dX6_lanes_18 : decode cX6_lanes 18 = .ok (.bipush 35, 2) := by decide +kernel
theorem dX6_lanes_20 : decode cX6_lanes 20 = .ok (.iconst 5, 1) := by decide +kernel
theorem dX6_lanes_21 : decode cX6_lanes 21 = .ok (.iload_n 1, 1) := by decide +kernel
theorem dX6_lanes_22 : decode cX6_lanes 22 = .ok (.imul, 1) := by decide +kernel
theorem dX6_lanes_23 : decode cX6_lanes 23 = .ok (.iadd, 1) := by decide +kernel
theorem dX6_lanes_24 : decode cX6_lanes 24 = .ok (.iconst 4, 1) := by decide +kernel
theorem dX6_lanes_25 : decode cX6_lanes 25 = .ok (.iadd, 1) := by decide +kernel
theorem dX6_lanes_26 : decode cX6_lanes 26 = .ok (.iload_n 3, 1) := by decide +kernel
theorem dX6_lanes_27 : decode cX6_lanes 27 = .ok (.iastore, 1) := by decide +kernel
theorem dX6_lanes_28 : decode cX6_lanes 28 = .ok (.return_, 1) := by decide +kernel
theorem dX6_shut_0 : decode cX6_shut 0 = .ok (.aload_n 0, 1) := by decide +kernel
theorem dX6_shut_1 : decode cX6_shut 1 = .ok (.iconst 0, 1) := by decide +kernel
theorem dX6_shut_2 : decode cX6_shut 2 = .ok (.putfield 60, 3) := by decide +kernel
theorem dX6_shut_5 : decode cX6_shut 5 = .ok (.aload_n 0, 1) := by decide +kernel
theorem dX6_shut_6 : decode cX6_shut 6 = .ok (.iload_n 1, 1) := by decide +kernel
theorem dX6_shut_7 : decode cX6_shut 7 = .ok (.invokevirtual 94, 3) := by decide +kernel
theorem dX6_shut_10 : decode cX6_shut 10 = .ok (.ifCond .ne 6, 3) := by decide +kernel
theorem dX6_shut_13 : decode cX6_shut 13 = .ok (.bipush (-2), 2) := by decide +kernel
theorem dX6_shut_15 : decode cX6_shut 15 = .ok (.ireturn, 1) := by decide +kernel
theorem dX6_shut_16 : decode cX6_shut 16 = .ok (.aload_n 0, 1) := by decide +kernel
theorem dX6_shut_17 : decode cX6_shut 17 = .ok (.invokevirtual 182, 3) := by decide +kernel
theorem dX6_shut_20 : decode cX6_shut 20 = .ok (.aload_n 0, 1) := by decide +kernel
theorem dX6_shut_21 : decode cX6_shut 21 = .ok (.iload_n 1, 1) := by decide +kernel
theorem dX6_shut_22 : decode cX6_shut 22 = .ok (.iconst 0, 1) := by decide +kernel
theorem dX6_shut_23 : decode cX6_shut 23 = .ok (.iconst 0, 1) := by decide +kernel
theorem dX6_shut_24 : decode cX6_shut 24 = .ok (.invokevirtual 230, 3) := by decide +kernel
theorem dX6_shut_27 : decode cX6_shut 27 = .ok (.aload_n 0, 1) := by decide +kernel
theorem dX6_shut_28 : decode cX6_shut 28 = .ok (.invokevirtual 224, 3) := by decide +kernel
theorem dX6_shut_31 : decode cX6_shut 31 = .ok (.istore_n 2, 1) := by decide +kernel
theorem dX6_shut_32 : decode cX6_shut 32 = .ok (.aload_n 0, 1) := by decide +kernel
theorem dX6_shut_33 : decode cX6_shut 33 = .ok (.invokevirtual 188, 3) := by decide +kernel
theorem dX6_shut_36 : decode cX6_shut 36 = .ok (.iload_n 2, 1) := by decide +kernel
theorem dX6_shut_37 : decode cX6_shut 37 = .ok (.ireturn, 1) := by decide +kernel
theorem dX6_mayWiden_0 : decode cX6_mayWiden 0 = .ok (.aload_n 0, 1) := by decide +kernel
theorem dX6_mayWiden_1 : decode cX6_mayWiden 1 = .ok (.iload_n 1, 1) := by decide +kernel
theorem dX6_mayWiden_2 : decode cX6_mayWiden 2 = .ok (.invokevirtual 94, 3) := by decide +kernel
theorem dX6_mayWiden_5 : decode cX6_mayWiden 5 = .ok (.ifCond .eq 37, 3) := by decide +kernel
theorem dX6_mayWiden_8 : decode cX6_mayWiden 8 = .ok (.iload_n 3, 1) := by decide +kernel
theorem dX6_mayWiden_9 : decode cX6_mayWiden 9 = .ok (.bipush (-9), 2) := by decide +kernel
theorem dX6_mayWiden_11 : decode cX6_mayWiden 11 = .ok (.bipush 30, 2) := by decide +kernel
theorem dX6_mayWiden_13 : decode cX6_mayWiden 13 = .ok (.invokestatic 68, 3) := by decide +kernel
theorem dX6_mayWiden_16 : decode cX6_mayWiden 16 = .ok (.ifCond .eq 26, 3) := by decide +kernel
theorem dX6_mayWiden_19 : decode cX6_mayWiden 19 = .ok (.aload_n 0, 1) := by decide +kernel
theorem dX6_mayWiden_20 : decode cX6_mayWiden 20 = .ok (.iload_n 1, 1) := by decide +kernel
theorem dX6_mayWiden_21 : decode cX6_mayWiden 21 = .ok (.iload_n 2, 1) := by decide +kernel
theorem dX6_mayWiden_22 : decode cX6_mayWiden 22 = .ok (.ifCond .eq 7, 3) := by decide +kernel
theorem dX6_mayWiden_25 : decode cX6_mayWiden 25 = .ok (.iconst 4, 1) := by decide +kernel
theorem dX6_mayWiden_26 : decode cX6_mayWiden 26 = .ok (.goto 4, 3) := by decide +kernel
theorem dX6_mayWiden_29 : decode cX6_mayWiden 29 = .ok (.iconst 3, 1) := by decide +kernel
theorem dX6_mayWiden_30 : decode cX6_mayWiden 30 = .ok (.invokevirtual 97, 3) := by decide +kernel
theorem dX6_mayWiden_33 : decode cX6_mayWiden 33 = .ok (.iload_n 3, 1) := by decide +kernel
theorem dX6_mayWiden_34 : decode cX6_mayWiden 34 = .ok (.iadd, 1) := by decide +kernel
theorem dX6_mayWiden_35 : decode cX6_mayWiden 35 = .ok (.ifCond .lt 7, 3) := by decide +kernel
theorem dX6_mayWiden_38 : decode cX6_mayWiden 38 = .ok (.iconst 1, 1) := by decide +kernel
theorem dX6_mayWiden_39 : decode cX6_mayWiden 39 = .ok (.goto 4, 3) := by decide +kernel
theorem dX6_mayWiden_42 : decode cX6_mayWiden 42 = .ok (.iconst 0, 1) := by decide +kernel
theorem dX6_mayWiden_43 : decode cX6_mayWiden 43 = .ok (.ireturn, 1) := by decide +kernel
theorem dX6_wider_0 : decode cX6_wider 0 = .ok (.aload_n 0, 1) := by decide +kernel
theorem dX6_wider_1 : decode cX6_wider 1 = .ok (.iconst 0, 1) := by decide +kernel
theorem dX6_wider_2 : decode cX6_wider 2 = .ok (.putfield 60, 3) := by decide +kernel
theorem dX6_wider_5 : decode cX6_wider 5 = .ok (.aload_n 0, 1) := by decide +kernel
theorem dX6_wider_6 : decode cX6_wider 6 = .ok (.iload_n 1, 1) := by decide +kernel
theorem dX6_wider_7 : decode cX6_wider 7 = .ok (.iload_n 2, 1) := by decide +kernel
theorem dX6_wider_8 : decode cX6_wider 8 = .ok (.iload_n 3, 1) := by decide +kernel
theorem dX6_wider_9 : decode cX6_wider 9 = .ok (.invokevirtual 233, 3) := by decide +kernel
theorem dX6_wider_12 : decode cX6_wider 12 = .ok (.ifCond .ne 6, 3) := by decide +kernel
theorem dX6_wider_15 : decode cX6_wider 15 = .ok (.bipush (-2), 2) := by decide +kernel
theorem dX6_wider_17 : decode cX6_wider 17 = .ok (.ireturn, 1) := by decide +kernel
theorem dX6_wider_18 : decode cX6_wider 18 = .ok (.aload_n 0, 1) := by decide +kernel
theorem dX6_wider_19 : decode cX6_wider 19 = .ok (.invokevirtual 182, 3) := by decide +kernel
theorem dX6_wider_22 : decode cX6_wider 22 = .ok (.aload_n 0, 1) := by decide +kernel
theorem dX6_wider_23 : decode cX6_wider 23 = .ok (.getfield 7, 3) := by decide +kernel
theorem dX6_wider_26 : decode cX6_wider 26 = .ok (.bipush 35, 2) := by decide +kernel
theorem dX6_wider_28 : decode cX6_wider 28 = .ok (.iconst 5, 1) := by decide +kernel
theorem dX6_wider_29 : decode cX6_wider 29 = .ok (.iload_n 1, 1) := by decide +kernel
theorem dX6_wider_30 : decode cX6_wider 30 = .ok (.imul, 1) := by decide +kernel
theorem dX6_wider_31 : decode cX6_wider 31 = .ok (.iadd, 1) := by decide +kernel
theorem dX6_wider_32 : decode cX6_wider 32 = .ok (.iload_n 2, 1) := by decide +kernel
theorem dX6_wider_33 : decode cX6_wider 33 = .ok (.ifCond .eq 7, 3) := by decide +kernel
theorem dX6_wider_36 : decode cX6_wider 36 = .ok (.iconst 4, 1) := by decide +kernel
theorem dX6_wider_37 : decode cX6_wider 37 = .ok (.goto 4, 3) := by decide +kernel
theorem dX6_wider_40 : decode cX6_wider 40 = .ok (.iconst 3, 1) := by decide +kernel
theorem dX6_wider_41 : decode cX6_wider 41 = .ok (.iadd, 1) := by decide +kernel
theorem dX6_wider_42 : decode cX6_wider 42 = .ok (.dup2, 1) := by decide +kernel
theorem dX6_wider_43 : decode cX6_wider 43 = .ok (.iaload, 1) := by decide +kernel
theorem dX6_wider_44 : decode cX6_wider 44 = .ok (.iload_n 3, 1) := by decide +kernel
theorem dX6_wider_45 : decode cX6_wider 45 = .ok (.iadd, 1) := by decide +kernel
theorem dX6_wider_46 : decode cX6_wider 46 = .ok (.iastore, 1) := by decide +kernel
theorem dX6_wider_47 : decode cX6_wider 47 = .ok (.aload_n 0, 1) := by decide +kernel
theorem dX6_wider_48 : decode cX6_wider 48 = .ok (.invokevirtual 224, 3) := by decide +kernel
theorem dX6_wider_51 : decode cX6_wider 51 = .ok (.istore 4, 2) := by decide +kernel
theorem dX6_wider_53 : decode cX6_wider 53 = .ok (.aload_n 0, 1) := by decide +kernel
theorem dX6_wider_54 : decode cX6_wider 54 = .ok (.invokevirtual 188, 3) := by decide +kernel
theorem dX6_wider_57 : decode cX6_wider 57 = .ok (.iload 4, 2) := by decide +kernel
theorem dX6_wider_59 : decode cX6_wider 59 = .ok (.ireturn, 1) := by decide +kernel
