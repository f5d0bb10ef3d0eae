theorem dX5_lacks_18 : decode cX5_lacks 18 = .ok (.bipush (-2), 2) := by decide +kernel
theorem dX5_lacks_20 : decode cX5_lacks 20 = .ok (.ireturn, 1) := by decide +kernel
theorem dX5_lacks_21 : decode cX5_lacks 21 = .ok (.iload_n 2, 1) := by decide +kernel
theorem dX5_lacks_22 : decode cX5_lacks 22 = .ok (.iload_n 3, 1) := by decide +kernel
theorem dX5_lacks_23 : decode cX5_lacks 23 = .ok (.invokestatic 170, 3) := by decide +kernel
theorem dX5_lacks_26 : decode cX5_lacks 26 = .ok (.istore 4, 2) := by decide +kernel
theorem dX5_lacks_28 : decode cX5_lacks 28 = .ok (.aload_n 0, 1) := by decide +kernel
theorem dX5_lacks_29 : decode cX5_lacks 29 = .ok (.getfield 37, 3) := by decide +kernel
theorem dX5_lacks_32 : decode cX5_lacks 32 = .ok (.iload_n 1, 1) := by decide +kernel
theorem dX5_lacks_33 : decode cX5_lacks 33 = .ok (.invokevirtual 203, 3) := by decide +kernel
theorem dX5_lacks_36 : decode cX5_lacks 36 = .ok (.ifCond .eq 5, 3) := by decide +kernel
theorem dX5_lacks_39 : decode cX5_lacks 39 = .ok (.iconst 0, 1) := by decide +kernel
theorem dX5_lacks_40 : decode cX5_lacks 40 = .ok (.ireturn, 1) := by decide +kernel
theorem dX5_lacks_41 : decode cX5_lacks 41 = .ok (.aload_n 0, 1) := by decide +kernel
theorem dX5_lacks_42 : decode cX5_lacks 42 = .ok (.iload 4, 2) := by decide +kernel
theorem dX5_lacks_44 : decode cX5_lacks 44 = .ok (.bipush 30, 2) := by decide +kernel
theorem dX5_lacks_46 : decode cX5_lacks 46 = .ok (.iload_n 1, 1) := by decide +kernel
theorem dX5_lacks_47 : decode cX5_lacks 47 = .ok (.invokevirtual 209, 3) := by decide +kernel
theorem dX5_lacks_50 : decode cX5_lacks 50 = .ok (.ifCond .ne 5, 3) := by decide +kernel
theorem dX5_lacks_53 : decode cX5_lacks 53 = .ok (.iconst (-1), 1) := by decide +kernel
theorem dX5_lacks_54 : decode cX5_lacks 54 = .ok (.ireturn, 1) := by decide +kernel
theorem dX5_lacks_55 : decode cX5_lacks 55 = .ok (.iconst 0, 1) := by decide +kernel
theorem dX5_lacks_56 : decode cX5_lacks 56 = .ok (.istore 5, 2) := by decide +kernel
theorem dX5_lacks_58 : decode cX5_lacks 58 = .ok (.bipush 30, 2) := by decide +kernel
theorem dX5_lacks_60 : decode cX5_lacks 60 = .ok (.istore 6, 2) := by decide +kernel
theorem dX5_lacks_62 : decode cX5_lacks 62 = .ok (.iconst 0, 1) := by decide +kernel
theorem dX5_lacks_63 : decode cX5_lacks 63 = .ok (.istore 7, 2) := by decide +kernel
theorem dX5_lacks_65 : decode cX5_lacks 65 = .ok (.iload 7, 2) := by decide +kernel
theorem dX5_lacks_67 : decode cX5_lacks 67 = .ok (.bipush 30, 2) := by decide +kernel
theorem dX5_lacks_69 : decode cX5_lacks 69 = .ok (.if_icmp .ge 50, 3) := by decide +kernel
theorem dX5_lacks_72 : decode cX5_lacks 72 = .ok (.iload 6, 2) := by decide +kernel
theorem dX5_lacks_74 : decode cX5_lacks 74 = .ok (.iload 5, 2) := by decide +kernel
theorem dX5_lacks_76 : decode cX5_lacks 76 = .ok (.isub, 1) := by decide +kernel
theorem dX5_lacks_77 : decode cX5_lacks 77 = .ok (.iconst 1, 1) := by decide +kernel
theorem dX5_lacks_78 : decode cX5_lacks 78 = .ok (.if_icmp .le 41, 3) := by decide +kernel
theorem dX5_lacks_81 : decode cX5_lacks 81 = .ok (.iload 6, 2) := by decide +kernel
theorem dX5_lacks_83 : decode cX5_lacks 83 = .ok (.iload 5, 2) := by decide +kernel
theorem dX5_lacks_85 : decode cX5_lacks 85 = .ok (.iadd, 1) := by decide +kernel
theorem dX5_lacks_86 : decode cX5_lacks 86 = .ok (.iconst 2, 1) := by decide +kernel
theorem dX5_lacks_87 : decode cX5_lacks 87 = .ok (.idiv, 1) := by decide +kernel
theorem dX5_lacks_88 : decode cX5_lacks 88 = .ok (.istore 8, 2) := by decide +kernel
theorem dX5_lacks_90 : decode cX5_lacks 90 = .ok (.aload_n 0, 1) := by decide +kernel
theorem dX5_lacks_91 : decode cX5_lacks 91 = .ok (.iload 4, 2) := by decide +kernel
theorem dX5_lacks_93 : decode cX5_lacks 93 = .ok (.iload 8, 2) := by decide +kernel
theorem dX5_lacks_95 : decode cX5_lacks 95 = .ok (.iload_n 1, 1) := by decide +kernel
theorem dX5_lacks_96 : decode cX5_lacks 96 = .ok (.invokevirtual 209, 3) := by decide +kernel
theorem dX5_lacks_99 : decode cX5_lacks 99 = .ok (.ifCond .eq 10, 3) := by decide +kernel
theorem dX5_lacks_102 : decode cX5_lacks 102 = .ok (.iload 8, 2) := by decide +kernel
theorem dX5_lacks_104 : decode cX5_lacks 104 = .ok (.istore 6, 2) := by decide +kernel
theorem dX5_lacks_106 : decode cX5_lacks 106 = .ok (.goto 7, 3) := by decide +kernel
theorem dX5_lacks_109 : decode cX5_lacks 109 = .ok (.iload 8, 2) := by decide +kernel
theorem dX5_lacks_111 : decode cX5_lacks 111 = .ok (.istore 5, 2) := by decide +kernel
theorem dX5_lacks_113 : decode cX5_lacks 113 = .ok (.iinc 7 1, 3) := by decide +kernel
theorem dX5_lacks_116 : decode cX5_lacks 116 = .ok (.goto (-51), 3) := by decide +kernel
theorem dX5_lacks_119 : decode cX5_lacks 119 = .ok (.iload 6, 2) := by decide +kernel
theorem dX5_lacks_121 : decode cX5_lacks 121 = .ok (.ireturn, 1) := by decide +kernel
theorem dX5_moved_0 : decode cX5_moved 0 = .ok (.iload_n 1, 1) := by decide +kernel
theorem dX5_moved_1 : decode cX5_moved 1 = .ok (.ifCond .lt 35, 3) := by decide +kernel
theorem dX5_moved_4 : decode cX5_moved 4 = .ok (.iload_n 1, 1) := by decide +kernel
theorem dX5_moved_5 : decode cX5_moved 5 = .ok (.aload_n 0, 1) := by decide +kernel
theorem dX5_moved_6 : decode cX5_moved 6 = .ok (.getfield 21, 3) := by decide +kernel
theorem dX5_moved_9 : decode cX5_moved 9 = .ok (.getfield 115, 3) := by decide +kernel
theorem dX5_moved_12 : decode cX5_moved 12 = .ok (.if_icmp .ge 24, 3) := by decide +kernel
theorem dX5_moved_15 : decode cX5_moved 15 = .ok (.iload_n 2, 1) := by decide +kernel
theorem dX5_moved_16 : decode cX5_moved 16 = .ok (.ifCond .lt 20, 3) := by decide +kernel
theorem dX5_moved_19 : decode cX5_moved 19 = .ok (.iload_n 2, 1) := by decide +kernel
theorem dX5_moved_20 : decode cX5_moved 20 = .ok (.iconst 4, 1) := by decide +kernel
theorem dX5_moved_21 : decode cX5_moved 21 = .ok (.if_icmp .ge 15, 3) := by decide +kernel
theorem dX5_moved_24 : decode cX5_moved 24 = .ok (.aload_n 0, 1) := by decide +kernel
theorem dX5_moved_25 : decode cX5_moved 25 = .ok (.getfield 21, 3) := by decide +kernel
theorem dX5_moved_28 : decode cX5_moved 28 = .ok (.iload_n 1, 1) := by decide +kernel
theorem dX5_moved_29 : decode cX5_moved 29 = .ok (.iload_n 2, 1) := by decide +kernel
theorem dX5_moved_30 : decode cX5_moved 30 = .ok (.invokevirtual 212, 3) := by decide +kernel
theorem dX5_moved_33 : decode cX5_moved 33 = .ok (.goto 4, 3) := by decide +kernel
theorem dX5_moved_36 : decode cX5_moved 36 = .ok (.iconst (-1), 1) := by decide +kernel
theorem dX5_moved_37 : decode cX5_moved 37 = .ok (.ireturn, 1) := by decide +kernel
theorem dX5_wrong_0 : decode cX5_wrong 0 = .ok (.aload_n 0, 1) := by decide +kernel
theorem dX5_wrong_1 : decode cX5_wrong 1 = .ok (.getfield 21, 3) := by decide +kernel
theorem dX5_wrong_4 : decode cX5_wrong 4 = .ok (.invokevirtual 215, 3) := by decide +kernel
theorem dX5_wrong_7 : decode cX5_wrong 7 = .ok (.aload_n 0, 1) := by decide +kernel
theorem dX5_wrong_8 : decode cX5_wrong 8 = .ok (.getfield 21, 3) := by decide +kernel
theorem dX5_wrong_11 : decode cX5_wrong 11 = .ok (.getfield 218, 3) := by decide +kernel
theorem dX5_wrong_14 : decode cX5_wrong 14 = .ok (.ireturn, 1) := by decide +kernel
theorem dX5_planned_0 : decode cX5_planned 0 = .ok (.aload_n 0, 1) := by decide +kernel
theorem dX5_planned_1 : decode cX5_planned 1 = .ok (.getfield 21, 3) := by decide +kernel
theorem dX5_planned_4 : decode cX5_planned 4 = .ok (.invokevirtual 215, 3) := by decide +kernel
theorem dX5_planned_7 : decode cX5_planned 7 = .ok (.iload_n 1, 1) := by decide +kernel
theorem dX5_planned_8 : decode cX5_planned 8 = .ok (.tableswitch 97 0 4 #[36, 51, 59, 67, 82], 36) := by decide +kernel
theorem dX5_planned_44 : decode cX5_planned 44 = .ok (.aload_n 0, 1) := by decide +kernel
theorem dX5_planned_45 : decode cX5_planned 45 = .ok (.getfield 21, 3) := by decide +kernel
theorem dX5_planned_48 : decode cX5_planned 48 = .ok (.aload_n 0, 1) := by decide +kernel
theorem dX5_planned_49 : decode cX5_planned 49 = .ok (.getfield 21, 3) := by decide +kernel
theorem dX5_planned_52 : decode cX5_planned 52 = .ok (.getfield 221, 3) := by decide +kernel
theorem dX5_planned_55 : decode cX5_planned 55 = .ok (.invokevirtual 224, 3) := by decide +kernel
theorem dX5_planned_58 : decode cX5_planned 58 = .ok (.ireturn, 1) := by decide +kernel
theorem dX5_planned_59 : decode cX5_planned 59 = .ok (.aload_n 0, 1) := by decide +kernel
theorem dX5_planned_60 : decode cX5_planned 60 = .ok (.getfield 21, 3) := by decide +kernel
theorem dX5_planned_63 : decode cX5_planned 63 = .ok (.getfield 228, 3) := by decide +kernel
theorem dX5_planned_66 : decode cX5_planned 66 = .ok (.ireturn, 1) := by decide +kernel
theorem dX5_planned_67 : decode cX5_planned 67 = .ok (.aload_n 0, 1) := by decide +kernel
theorem dX5_planned_68 : decode cX5_planned 68 = .ok (.getfield 21, 3) := by decide +kernel
theorem dX5_planned_71 : decode cX5_planned 71 = .ok (.getfield 231, 3) := by decide +kernel
theorem dX5_planned_74 : decode cX5_planned 74 = .ok (.ireturn, 1) := by decide +kernel
theorem dX5_planned_75 : decode cX5_planned 75 = .ok (.aload_n 0, 1) := by decide +kernel
theorem dX5_planned_76 : decode cX5_planned 76 = .ok (.getfield 21, 3) := by decide +kernel
theorem dX5_planned_79 : decode cX5_planned 79 = .ok (.aload_n 0, 1) := by decide +kernel
theorem dX5_planned_80 : decode cX5_planned 80 = .ok (.getfield 21, 3) := by decide +kernel
theorem dX5_planned_83 : decode cX5_planned 83 = .ok (.getfield 234, 3) := by decide +kernel
theorem dX5_planned_86 : decode cX5_planned 86 = .ok (.invokevirtual 224, 3) := by decide +kernel
theorem dX5_planned_89 : decode cX5_planned 89 = .ok (.ireturn, 1) := by decide +kernel
theorem dX5_planned_90 : decode cX5_planned 90 = .ok (.aload_n 0, 1) := by decide +kernel
theorem dX5_planned_91 : decode cX5_planned 91 = .ok (.getfield 21, 3) := by decide +kernel
theorem dX5_planned_94 : decode cX5_planned 94 = .ok (.aload_n 0, 1) := by decide +kernel
theorem dX5_planned_95 : decode cX5_planned 95 = .ok (.getfield 21, 3) := by decide +kernel
theorem dX5_planned_98 : decode cX5_planned 98 = .ok (.getfield 237, 3) := by decide +kernel
theorem dX5_planned_101 : decode cX5_planned 101 = .ok (.invokevirtual 224, 3) := by decide +kernel
theorem dX5_planned_104 : decode cX5_planned 104 = .ok (.ireturn, 1) := by decide +kernel
theorem dX5_planned_105 : decode cX5_planned 105 = .ok (.iconst (-1), 1) := by decide +kernel
theorem dX5_planned_106 : decode cX5_planned 106 = .ok (.ireturn, 1) := by decide +kernel
theorem dX5_there_0 : decode cX5_there 0 = .ok (.aload_n 0, 1) := by decide +kernel
theorem dX5_there_1 : decode cX5_there 1 = .ok (.getfield 12, 3) := by decide +kernel
theorem dX5_there_4 : decode cX5_there 4 = .ok (.iload_n 1, 1) := by decide +kernel
theorem dX5_there_5 : decode cX5_there 5 = .ok (.invokevirtual 98, 3) := by decide +kernel
theorem dX5_there_8 : decode cX5_there 8 = .ok (.ifCond .eq 22, 3) := by decide +kernel
theorem dX5_there_11 : decode cX5_there 11 = .ok (.iload_n 2, 1) := by decide +kernel
theorem dX5_there_12 : decode cX5_there 12 = .ok (.ifCond .lt 18, 3) := by decide +kernel
theorem dX5_there_15 : decode cX5_there 15 = .ok (.iload_n 2, 1) := by decide +kernel
theorem dX5_there_16 : decode cX5_there 16 = .ok (.bipush 50, 2) := by decide +kernel
theorem dX5_there_18 : decode cX5_there 18 = .ok (.if_icmp .gt 12, 3) := by decide +kernel
theorem dX5_there_21 : decode cX5_there 21 = .ok (.iload_n 3, 1) := by decide +kernel
theorem dX5_there_22 : decode cX5_there 22 = .ok (.ifCond .lt 8, 3) := by decide +kernel
theorem dX5_there_25 : decode cX5_there 25 = .ok (.iload_n 3, 1) := by decide +kernel
theorem dX5_there_26 : decode cX5_there 26 = .ok (.iconst 2, 1) := by decide +kernel
theorem dX5_there_27 : decode cX5_there 27 = .ok (.if_icmp .le 5, 3) := by decide +kernel
theorem dX5_there_30 : decode cX5_there 30 = .ok (.iconst (-1), 1) := by decide +kernel
theorem dX5_there_31 : decode cX5_there 31 = .ok (.ireturn, 1) := by decide +kernel
theorem dX5_there_32 : decode cX5_there 32 = .ok (.aload_n 0, 1) := by decide +kernel
theorem dX5_there_33 : decode cX5_there 33 = .ok (.getfield 21, 3) := by decide +kernel
theorem dX5_there_36 : decode cX5_there 36 = .ok (.invokevirtual 215, 3) := by decide +kernel
theorem dX5_there_39 : decode cX5_there 39 = .ok (.iload_n 2, 1) := by decide +kernel
theorem dX5_there_40 : decode cX5_there 40 = .ok (.aload_n 0, 1) := by decide +kernel
theorem dX5_there_41 : decode cX5_there 41 = .ok (.getfield 21, 3) := by decide +kernel
theorem dX5_there_44 : decode cX5_there 44 = .ok (.getfield 240, 3) := by decide +kernel
theorem dX5_there_47 : decode cX5_there 47 = .ok (.if_icmp .le 5, 3) := by decide +kernel
theorem dX5_there_50 : decode cX5_there 50 = .ok (.iconst (-1), 1) := by decide +kernel
theorem dX5_there_51 : decode cX5_there 51 = .ok (.ireturn, 1) := by decide +kernel
theorem dX5_there_52 : decode cX5_there 52 = .ok (.aload_n 0, 1) := by decide +kernel
theorem dX5_there_53 : decode cX5_there 53 = .ok (.getfield 21, 3) := by decide +kernel
theorem dX5_there_56 : decode cX5_there 56 = .ok (.iload_n 2, 1) := by decide +kernel
theorem dX5_there_57 : decode cX5_there 57 = .ok (.invokevirtual 243, 3) := by decide +kernel
theorem dX5_there_60 : decode cX5_there 60 = .ok (.iload_n 3, 1) := by decide +kernel
theorem dX5_there_61 : decode cX5_there 61 = .ok (.ifCond .ne 13, 3) := by decide +kernel
theorem dX5_there_64 : decode cX5_there 64 = .ok (.aload_n 0, 1) := by decide +kernel
theorem dX5_there_65 : decode cX5_there 65 = .ok (.getfield 21, 3) := by decide +kernel
theorem dX5_there_68 : decode cX5_there 68 = .ok (.getfield 237, 3) := by decide +kernel
theorem dX5_there_71 : decode cX5_there 71 = .ok (.iload_n 1, 1) := by decide +kernel
theorem dX5_there_72 : decode cX5_there 72 = .ok (.iaload, 1) := by decide +kernel
theorem dX5_there_73 : decode cX5_there 73 = .ok (.ireturn, 1) := by decide +kernel
theorem dX5_there_74 : decode cX5_there 74 = .ok (.iload_n 3, 1) := by decide +kernel
theorem dX5_there_75 : decode cX5_there 75 = .ok (.iconst 1, 1) := by decide +kernel
theorem dX5_there_76 : decode cX5_there 76 = .ok (.if_icmp .ne 15, 3) := by decide +kernel
theorem dX5_there_79 : decode cX5_there 79 = .ok (.aload_n 0, 1) := by decide +kernel
theorem dX5_there_80 : decode cX5_there 80 = .ok (.getfield 21, 3) := by decide +kernel
theorem dX5_there_83 : decode cX5_there 83 = .ok (.getfield 234, 3) := by decide +kernel
theorem dX5_there_86 : decode cX5_there 86 = .ok (.iload_n 1, 1) := by decide +kernel
theorem dX5_there_87 : decode cX5_there 87 = .ok (.iaload, 1) := by decide +kernel
theorem dX5_there_88 : decode cX5_there 88 = .ok (.goto 12, 3) := by decide +kernel
theorem dX5_there_91 : decode cX5_there 91 = .ok (.aload_n 0, 1) := by decide +kernel
theorem dX5_there_92 : decode cX5_there 92 = .ok (.getfield 21, 3) := by decide +kernel
theorem dX5_there_95 : decode cX5_there 95 = .ok (.getfield 221, 3) := by decide +kernel
theorem dX5_there_98 : decode cX5_there 98 = .ok (.iload_n 1, 1) := by decide +kernel
theorem dX5_there_99 : decode cX5_there 99 = .ok (.iaload, 1) := by decide +kernel
theorem dX5_there_100 : decode cX5_there 100 = .ok (.ireturn, 1) := by decide +kernel
theorem dX5_isT_0 : decode cX5_isT 0 = .ok (.iload_n 0, 1) := by decide +kernel
theorem dX5_isT_1 : decode cX5_isT 1 = .ok (.ifCond .lt 13, 3) := by decide +kernel
theorem dX5_isT_4 : decode cX5_isT 4 = .ok (.iload_n 0, 1) := by decide +kernel
theorem dX5_isT_5 : decode cX5_isT 5 = .ok (.bipush 40, 2) := by decide +kernel
theorem dX5_isT_7 : decode cX5_isT 7 = .ok (.if_icmp .gt 7, 3) := by decide +kernel
theorem dX5_isT_10 : decode cX5_isT 10 = .ok (.iconst 1, 1) := by decide +kernel
theorem dX5_isT_11 : decode cX5_isT 11 = .ok (.goto 4, 3) := by decide +kernel
theorem dX5_isT_14 : decode cX5_isT 14 = .ok (.iconst 0, 1) := by decide +kernel
theorem dX5_isT_15 : decode cX5_isT 15 = .ok (.ireturn, 1) := by decide +kernel
theorem dX5_told_0 : decode cX5_told 0 = .ok (.iload_n 0, 1) := by decide +kernel
theorem dX5_told_1 : decode cX5_told 1 = .ok (.bipush 41, 2) := by decide +kernel
theorem dX5_told_3 : decode cX5_told 3 = .ok (.if_icmp .ne 7, 3) := by decide +kernel
theorem dX5_told_6 : decode cX5_told 6 = .ok (.iconst (-1), 1) := by decide +kernel
theorem dX5_told_7 : decode cX5_told 7 = .ok (.goto 4, 3) := by decide +kernel
theorem dX5_told_10 : decode cX5_told 10 = .ok (.iload_n 0, 1) := by decide +kernel
theorem dX5_told_11 : decode cX5_told 11 = .ok (.ireturn, 1) := by decide +kernel
theorem dX5_way_0 : decode cX5_way 0 = .ok (.iload_n 1, 1) := by decide +kernel
theorem dX5_way_1 : decode cX5_way 1 = .ok (.ifCond .eq 11, 3) := by decide +kernel
theorem dX5_way_4 : decode cX5_way 4 = .ok (.iconst 2, 1) := by decide +kernel
theorem dX5_way_5 : decode cX5_way 5 = .ok (.iload_n 0, 1) := by decide +kernel
theorem dX5_way_6 : decode cX5_way 6 = .ok (.imul, 1) := by decide +kernel
theorem dX5_way_7 : decode cX5_way 7 = .ok (.iconst 1, 1) := by decide +kernel
theorem dX5_way_8 : decode cX5_way 8 = .ok (.iadd, 1) := by decide +kernel
theorem dX5_way_9 : decode cX5_way 9 = .ok (.goto 6, 3) := by decide +kernel
theorem dX5_way_12 : decode cX5_way 12 = .ok (.iconst 2, 1) := by decide +kernel
theorem dX5_way_13 : decode cX5_way 13 = .ok (.iload_n 0, 1) := by decide +kernel
theorem dX5_way_14 : decode cX5_way 14 = .ok (.imul, 1) := by decide +kernel
theorem dX5_way_15 : decode cX5_way 15 = .ok (.ireturn, 1) := by decide +kernel
theorem dX5_soonestWithout_0 : decode cX5_soonestWithout 0 = .ok (.aload_n 0, 1) := by decide +kernel
theorem dX5_soonestWithout_1 : decode cX5_soonestWithout 1 = .ok (.getfield 12, 3) := by decide +kernel
theorem dX5_soonestWithout_4 : decode cX5_soonestWithout 4 = .ok (.getfield 146, 3) := by decide +kernel
theorem dX5_soonestWithout_7 : decode cX5_soonestWithout 7 = .ok (.iconst 2, 1) := by decide +kernel
theorem dX5_soonestWithout_8 : decode cX5_soonestWithout 8 = .ok (.iload_n 1, 1) := by decide +kernel
theorem dX5_soonestWithout_9 : decode cX5_soonestWithout 9 = .ok (.imul, 1) := by decide +kernel
theorem dX5_soonestWithout_10 : decode cX5_soonestWithout 10 = .ok (.iaload, 1) := by decide +kernel
theorem dX5_soonestWithout_11 : decode cX5_soonestWithout 11 = .ok (.istore_n 3, 1) := by decide +kernel
theorem dX5_soonestWithout_12 : decode cX5_soonestWithout 12 = .ok (.aload_n 0, 1) := by decide +kernel
theorem dX5_soonestWithout_13 : decode cX5_soonestWithout 13 = .ok (.getfield 12, 3) := by decide +kernel
theorem dX5_soonestWithout_16 : decode cX5_soonestWithout 16 = .ok (.getfield 146, 3) := by decide +kernel
theorem dX5_soonestWithout_19 : decode cX5_soonestWithout 19 = .ok (.iconst 2, 1) := by decide +kernel
theorem dX5_soonestWithout_20 : decode cX5_soonestWithout 20 = .ok (.iload_n 1, 1) := by decide +kernel
theorem dX5_soonestWithout_21 : decode cX5_soonestWithout 21 = .ok (.imul, 1) := by decide +kernel
theorem dX5_soonestWithout_22 : decode cX5_soonestWithout 22 = .ok (.iconst 1, 1) := by decide +kernel
theorem dX5_soonestWithout_23 : decode cX5_soonestWithout 23 = .ok (.iadd, 1) := by decide +kernel
theorem dX5_soonestWithout_24 : decode cX5_soonestWithout 24 = .ok (.iaload, 1) := by decide +kernel
theorem dX5_soonestWithout_25 : decode cX5_soonestWithout 25 = .ok (.istore 4, 2) := by decide +kernel
theorem dX5_soonestWithout_27 : decode cX5_soonestWithout 27 = .ok (.aload_n 0, 1) := by decide +kernel
theorem dX5_soonestWithout_28 : decode cX5_soonestWithout 28 = .ok (.getfield 12, 3) := by decide +kernel
theorem dX5_soonestWithout_31 : decode cX5_soonestWithout 31 = .ok (.getfield 146, 3) := by decide +kernel
theorem dX5_soonestWithout_34 : decode cX5_soonestWithout 34 = .ok (.iconst 2, 1) := by decide +kernel
theorem dX5_soonestWithout_35 : decode cX5_soonestWithout 35 = .ok (.iload_n 1, 1) := by decide +kernel
theorem dX5_soonestWithout_36 : decode cX5_soonestWithout 36 = .ok (.imul, 1) := by decide +kernel
theorem dX5_soonestWithout_37 : decode cX5_soonestWithout 37 = .ok (.iconst 0, 1) := by decide +kernel
theorem dX5_soonestWithout_38 : decode cX5_soonestWithout 38 = .ok (.iastore, 1) := by decide +kernel
theorem dX5_soonestWithout_39 : decode cX5_soonestWithout 39 = .ok (.aload_n 0, 1) := by decide +kernel
theorem dX5_soonestWithout_40 : decode cX5_soonestWithout 40 = .ok (.getfield 12, 3) := by decide +kernel
theorem dX5_soonestWithout_43 : decode cX5_soonestWithout 43 = .ok (.getfield 146, 3) := by decide +kernel
theorem dX5_soonestWithout_46 : decode cX5_soonestWithout 46 = .ok (.iconst 2, 1) := by decide +kernel
theorem dX5_soonestWithout_47 : decode cX5_soonestWithout 47 = .ok (.iload_n 1, 1) := by decide +kernel
theorem dX5_soonestWithout_48 : decode cX5_soonestWithout 48 = .ok (.imul, 1) := by decide +kernel
theorem dX5_soonestWithout_49 : decode cX5_soonestWithout 49 = .ok (.iconst 1, 1) := by decide +kernel
theorem dX5_soonestWithout_50 : decode cX5_soonestWithout 50 = .ok (.iadd, 1) := by decide +kernel
theorem dX5_soonestWithout_51 : decode cX5_soonestWithout 51 = .ok (.iconst 0, 1) := by decide +kernel
theorem dX5_soonestWithout_52 : decode cX5_soonestWithout 52 = .ok (.iastore, 1) := by decide +kernel
theorem dX5_soonestWithout_53 : decode cX5_soonestWithout 53 = .ok (.aload_n 0, 1) := by decide +kernel
theorem dX5_soonestWithout_54 : decode cX5_soonestWithout 54 = .ok (.getfield 37, 3) := by decide +kernel
theorem dX5_soonestWithout_57 : decode cX5_soonestWithout 57 = .ok (.iload_n 2, 1) := by decide +kernel
theorem dX5_soonestWithout_58 : decode cX5_soonestWithout 58 = .ok (.bipush 41, 2) := by decide +kernel
theorem dX5_soonestWithout_60 : decode cX5_soonestWithout 60 = .ok (.invokevirtual 206, 3) := by decide +kernel
theorem dX5_soonestWithout_63 : decode cX5_soonestWithout 63 = .ok (.istore 5, 2) := by decide +kernel
theorem dX5_soonestWithout_65 : decode cX5_soonestWithout 65 = .ok (.aload_n 0, 1) := by decide +kernel
theorem dX5_soonestWithout_66 : decode cX5_soonestWithout 66 = .ok (.getfield 12, 3) := by decide +kernel
theorem dX5_soonestWithout_69 : decode cX5_soonestWithout 69 = .ok (.getfield 146, 3) := by decide +kernel
theorem dX5_soonestWithout_72 : decode cX5_soonestWithout 72 = .ok (.iconst 2, 1) := by decide +kernel
theorem dX5_soonestWithout_73 : decode cX5_soonestWithout 73 = .ok (.iload_n 1, 1) := by decide +kernel
theorem dX5_soonestWithout_74 : decode cX5_soonestWithout 74 = .ok (.imul, 1) := by decide +kernel
theorem dX5_soonestWithout_75 : decode cX5_soonestWithout 75 = .ok (.iload_n 3, 1) := by decide +kernel
theorem dX5_soonestWithout_76 : decode cX5_soonestWithout 76 = .ok (.iastore, 1) := by decide +kernel
theorem dX5_soonestWithout_77 : decode cX5_soonestWithout 77 = .ok (.aload_n 0, 1) := by decide +kernel
theorem dX5_soonestWithout_78 : decode cX5_soonestWithout 78 = .ok (.getfield 12, 3) := by decide +kernel
theorem dX5_soonestWithout_81 : decode cX5_soonestWithout 81 = .ok (.getfield 146, 3) := by decide +kernel
theorem dX5_soonestWithout_84 : decode cX5_soonestWithout 84 = .ok (.iconst 2, 1) := by decide +kernel
theorem dX5_soonestWithout_85 : decode cX5_soonestWithout 85 = .ok (.iload_n 1, 1) := by decide +kernel
theorem dX5_soonestWithout_86 : decode cX5_soonestWithout 86 = .ok (.imul, 1) := by decide +kernel
theorem dX5_soonestWithout_87 : decode cX5_soonestWithout 87 = .ok (.iconst 1, 1) := by decide +kernel
theorem dX5_soonestWithout_88 : decode cX5_soonestWithout 88 = .ok (.iadd, 1) := by decide +kernel
theorem dX5_soonestWithout_89 : decode cX5_soonestWithout 89 = .ok (.iload 4, 2) := by decide +kernel
theorem dX5_soonestWithout_91 : decode cX5_soonestWithout 91 = .ok (.iastore, 1) := by decide +kernel
theorem dX5_soonestWithout_92 : decode cX5_soonestWithout 92 = .ok (.iload 5, 2) := by decide +kernel
theorem dX5_soonestWithout_94 : decode cX5_soonestWithout 94 = .ok (.ireturn, 1) := by decide +kernel
theorem dX5_allSafeWith_0 : decode cX5_allSafeWith 0 = .ok (.aload_n 0, 1) := by decide +kernel
theorem dX5_allSafeWith_1 : decode cX5_allSafeWith 1 = .ok (.getfield 12, 3) := by decide +kernel
theorem dX5_allSafeWith_4 : decode cX5_allSafeWith 4 = .ok (.getfield 146, 3) := by decide +kernel
theorem dX5_allSafeWith_7 : decode cX5_allSafeWith 7 = .ok (.iload_n 1, 1) := by decide +kernel
theorem dX5_allSafeWith_8 : decode cX5_allSafeWith 8 = .ok (.dup2, 1) := by decide +kernel
theorem dX5_allSafeWith_9 : decode cX5_allSafeWith 9 = .ok (.iaload, 1) := by decide +kernel
theorem dX5_allSafeWith_10 : decode cX5_allSafeWith 10 = .ok (.iload_n 2, 1) := by decide +kernel
theorem dX5_allSafeWith_11 : decode cX5_allSafeWith 11 = .ok (.iadd, 1) := by decide +kernel
theorem dX5_allSafeWith_12 : decode cX5_allSafeWith 12 = .ok (.iastore, 1) := by decide +kernel
theorem dX5_allSafeWith_13 : decode cX5_allSafeWith 13 = .ok (.aload_n 0, 1) := by decide +kernel
theorem dX5_allSafeWith_14 : decode cX5_allSafeWith 14 = .ok (.getfield 37, 3) := by decide +kernel
theorem dX5_allSafeWith_17 : decode cX5_allSafeWith 17 = .ok (.iload_n 3, 1) := by decide +kernel
theorem dX5_allSafeWith_18 : decode cX5_allSafeWith 18 = .ok (.invokevirtual 203, 3) := by decide +kernel
theorem dX5_allSafeWith_21 : decode cX5_allSafeWith 21 = .ok (.istore 4, 2) := by decide +kernel
theorem dX5_allSafeWith_23 : decode cX5_allSafeWith 23 = .ok (.aload_n 0, 1) := by decide +kernel
theorem dX5_allSafeWith_24 : decode cX5_allSafeWith 24 = .ok (.getfield 12, 3) := by decide +kernel
theorem dX5_allSafeWith_27 : decode cX5_allSafeWith 27 = .ok (.getfield 146, 3) := by decide +kernel
theorem dX5_allSafeWith_30 : decode cX5_allSafeWith 30 = .ok (.iload_n 1, 1) := by decide +kernel
theorem dX5_allSafeWith_31 : decode cX5_allSafeWith 31 = .ok (.dup2, 1) := by decide +kernel
theorem dX5_allSafeWith_32 : decode cX5_allSafeWith 32 = .ok (.iaload, 1) := by decide +kernel
theorem dX5_allSafeWith_33 : decode cX5_allSafeWith 33 = .ok (.iload_n 2, 1) := by decide +kernel
theorem dX5_allSafeWith_34 : decode cX5_allSafeWith 34 = .ok (.isub, 1) := by decide +kernel
theorem dX5_allSafeWith_35 : decode cX5_allSafeWith 35 = .ok (.iastore, 1) := by decide +kernel
theorem dX5_allSafeWith_36 : decode cX5_allSafeWith 36 = .ok (.iload 4, 2) := by decide +kernel
theorem dX5_allSafeWith_38 : decode cX5_allSafeWith 38 = .ok (.ireturn, 1) := by decide +kernel
theorem dX6_init_0 : decode cX6_init 0 = .ok (.aload_n 0, 1) := by decide +kernel
theorem dX6_init_1 : decode cX6_init 1 = .ok (.invokespecial 1, 3) := by decide +kernel
theorem dX6_init_4 : decode cX6_init 4 = .ok (.aload_n 0, 1) := by decide +kernel
theorem dX6_init_5 : decode cX6_init 5 = .ok (.sipush 256, 3) := by decide +kernel
theorem dX6_init_8 : decode cX6_init 8 = .ok (.newarray .int, 2) := by decide +kernel
theorem dX6_init_10 : decode cX6_init 10 = .ok (.putfield 7, 3) := by decide +kernel
theorem dX6_init_13 : decode cX6_init 13 = .ok (.aload_n 0, 1) := by decide +kernel
theorem dX6_init_14 : decode cX6_init 14 = .ok (.sipush 256, 3) := by decide +kernel
theorem dX6_init_17 : decode cX6_init 17 = .ok (.newarray .int, 2) := by decide +kernel
theorem dX6_init_19 : decode cX6_init 19 = .ok (.putfield 13, 3) := by decide +kernel
theorem dX6_init_22 : decode cX6_init 22 = .ok (.aload_n 0, 1) := by decide +kernel
theorem dX6_init_23 : decode cX6_init 23 = .ok (.sipush 400, 3) := by decide +kernel
theorem dX6_init_26 : decode cX6_init 26 = .ok (.newarray .byte, 2) := by decide +kernel
theorem dX6_init_28 : decode cX6_init 28 = .ok (.putfield 16, 3) := by decide +kernel
theorem dX6_init_31 : decode cX6_init 31 = .ok (.aload_n 0, 1) := by decide +kernel
theorem dX6_init_32 : decode cX6_init 32 = .ok (.sipush 346, 3) := by decide +kernel
theorem dX6_init_35 : decode cX6_init 35 = .ok (.newarray .int, 2) := by decide +kernel
theorem dX6_init_37 : decode cX6_init 37 = .ok (.putfield 20, 3) := by decide +kernel
theorem dX6_init_40 : decode cX6_init 40 = .ok (.aload_n 0, 1) := by decide +kernel
theorem dX6_init_41 : decode cX6_init 41 = .ok (.sipush 4000, 3) := by decide +kernel
theorem dX6_init_44 : decode cX6_init 44 = .ok (.newarray .int, 2) := by decide +kernel
theorem dX6_init_46 : decode cX6_init 46 = .ok (.putfield 23, 3) := by decide +kernel
theorem dX6_init_49 : decode cX6_init 49 = .ok (.aload_n 0, 1) := by decide +kernel
theorem dX6_init_50 : decode cX6_init 50 = .ok (.sipush 4000, 3) := by decide +kernel
theorem dX6_init_53 : decode cX6_init 53 = .ok (.newarray .int, 2) := by decide +kernel
theorem dX6_init_55 : decode cX6_init 55 = .ok (.putfield 26, 3) := by decide +kernel
theorem dX6_init_58 : decode cX6_init 58 = .ok (.aload_n 0, 1) := by decide +kernel
theorem dX6_init_59 : decode cX6_init 59 = .ok (.sipush 4000, 3) := by decide +kernel
theorem dX6_init_62 : decode cX6_init 62 = .ok (.newarray .int, 2) := by decide +kernel
theorem dX6_init_64 : decode cX6_init 64 = .ok (.putfield 29, 3) := by decide +kernel
theorem dX6_init_67 : decode cX6_init 67 = .ok (.aload_n 0, 1) := by decide +kernel
theorem dX6_init_68 : decode cX6_init 68 = .ok (.sipush 346, 3) := by decide +kernel
theorem dX6_init_71 : decode cX6_init 71 = .ok (.newarray .int, 2) := by decide +kernel
theorem dX6_init_73 : decode cX6_init 73 = .ok (.putfield 32, 3) := by decide +kernel
theorem dX6_init_76 : decode cX6_init 76 = .ok (.aload_n 0, 1) := by decide +kernel
theorem dX6_init_77 : decode cX6_init 77 = .ok (.sipush 346, 3) := by decide +kernel
theorem dX6_init_80 : decode cX6_init 80 = .ok (.newarray .int, 2) := by decide +kernel
theorem dX6_init_82 : decode cX6_init 82 = .ok (.putfield 35, 3) := by decide +kernel
theorem dX6_init_85 : decode cX6_init 85 = .ok (.aload_n 0, 1) := by decide +kernel
theorem dX6_init_86 : decode cX6_init 86 = .ok (.sipush 346, 3) := by decide +kernel
theorem dX6_init_89 : decode cX6_init 89 = .ok (.newarray .boolean, 2) := by decide +kernel
theorem dX6_init_91 : decode cX6_init 91 = .ok (.putfield 38, 3) := by decide +kernel
theorem dX6_init_94 : decode cX6_init 94 = .ok (.aload_n 0, 1) := by decide +kernel
theorem dX6_init_95 : decode cX6_init 95 = .ok (.sipush 480, 3) := by decide +kernel
theorem dX6_init_98 : decode cX6_init 98 = .ok (.newarray .int, 2) := by decide +kernel
theorem dX6_init_100 : decode cX6_init 100 = .ok (.putfield 42, 3) := by decide +kernel
theorem dX6_init_103 : decode cX6_init 103 = .ok (.aload_n 0, 1) := by decide +kernel
theorem dX6_init_104 : decode cX6_init 104 = .ok (.bipush 8, 2) := by decide +kernel
theorem dX6_init_106 : decode cX6_init 106 = .ok (.newarray .int, 2) := by decide +kernel
theorem dX6_init_108 : decode cX6_init 108 = .ok (.putfield 45, 3) := by decide +kernel
theorem dX6_init_111 : decode cX6_init 111 = .ok (.aload_n 0, 1) := by decide +kernel
theorem dX6_init_112 : decode cX6_init 112 = .ok (.bipush 8, 2) := by decide +kernel
theorem dX6_init_114 : decode cX6_init 114 = .ok (.newarray .int, 2) := by decide +kernel
theorem dX6_init_116 : decode cX6_init 116 = .ok (.putfield 48, 3) := by decide +kernel
theorem dX6_init_119 : decode cX6_init 119 = .ok (.aload_n 0, 1) := by decide +kernel
theorem dX6_init_120 : decode cX6_init 120 = .ok (.bipush 8, 2) := by decide +kernel
theorem dX6_init_122 : decode cX6_init 122 = .ok (.newarray .int, 2) := by decide +kernel
theorem dX6_init_124 : decode cX6_init 124 = .ok (.putfield 51, 3) := by decide +kernel
theorem dX6_init_127 : decode cX6_init 127 = .ok (.aload_n 0, 1) := by decide +kernel
theorem dX6_init_128 : decode cX6_init 128 = .ok (.sipush 1224, 3) := by decide +kernel
theorem dX6_init_131 : decode cX6_init 131 = .ok (.newarray .int, 2) := by decide +kernel
theorem dX6_init_133 : decode cX6_init 133 = .ok (.putfield 54, 3) := by decide +kernel
theorem dX6_init_136 : decode cX6_init 136 = .ok (.aload_n 0, 1) := by decide +kernel
theorem dX6_init_137 : decode cX6_init 137 = .ok (.bipush 24, 2) := by decide +kernel
theorem dX6_init_139 : decode cX6_init 139 = .ok (.newarray .int, 2) := by decide +kernel
theorem dX6_init_141 : decode cX6_init 141 = .ok (.putfield 57, 3) := by decide +kernel
theorem dX6_init_144 : decode cX6_init 144 = .ok (.return_, 1) := by decide +kernel
theorem dX6_thrown_0 : decode cX6_thrown 0 = .ok (.aload_n 0, 1) := by decide +kernel
theorem dX6_thrown_1 : decode cX6_thrown 1 = .ok (.getfield 60, 3) := by decide +kernel
theorem dX6_thrown_4 : decode cX6_thrown 4 = .ok (.ireturn, 1) := by decide +kernel
theorem dX6_isIn_0 : decode cX6_isIn 0 = .ok (.iload_n 0, 1) := by decide +kernel
theorem dX6_isIn_1 : decode cX6_isIn 1 = .ok (.iload_n 1, 1) := by decide +kernel
theorem dX6_isIn_2 : decode cX6_isIn 2 = .ok (.if_icmp .lt 12, 3) := by decide +kernel
theorem dX6_isIn_5 : decode cX6_isIn 5 = .ok (.iload_n 0, 1) := by decide +kernel
theorem dX6_isIn_6 : decode cX6_isIn 6 = .ok (.iload_n 2, 1) := by decide +kernel
theorem dX6_isIn_7 : decode cX6_isIn 7 = .ok (.if_icmp .gt 7, 3) := by decide +kernel
theorem dX6_isIn_10 : decode cX6_isIn 10 = .ok (.iconst 1, 1) := by decide +kernel
theorem dX6_isIn_11 : decode cX6_isIn 11 = .ok (.goto 4, 3) := by decide +kernel
theorem dX6_isIn_14 : decode cX6_isIn 14 = .ok (.iconst 0, 1) := by decide +kernel
theorem dX6_isIn_15 : decode cX6_isIn 15 = .ok (.ireturn, 1) := by decide +kernel
theorem dX6_lesser_0 : decode cX6_lesser 0 = .ok (.iload_n 0, 1) := by decide +kernel
theorem dX6_lesser_1 : decode cX6_lesser 1 = .ok (.iload_n 1, 1) := by decide +kernel
theorem dX6_lesser_2 : decode cX6_lesser 2 = .ok (.if_icmp .ge 7, 3) := by decide +kernel
theorem dX6_lesser_5 : decode cX6_lesser 5 = .ok (.iload_n 0, 1) := by decide +kernel
theorem dX6_lesser_6 : decode cX6_lesser 6 = .ok (.goto 4, 3) := by decide +kernel
theorem dX6_lesser_9 : decode cX6_lesser 9 = .ok (.iload_n 1, 1) := by decide +kernel
theorem dX6_lesser_10 : decode cX6_lesser 10 = .ok (.ireturn, 1) := by decide +kernel
theorem dX6_places_0 : decode cX6_places 0 = .ok (.aload_n 0, 1) := by decide +kernel
theorem dX6_places_1 : decode cX6_places 1 = .ok (.getfield 7, 3) := by decide +kernel
theorem dX6_places_4 : decode cX6_places 4 = .ok (.iconst 0, 1) := by decide +kernel
theorem dX6_places_5 : decode cX6_places 5 = .ok (.iaload, 1) := by decide +kernel
theorem dX6_places_6 : decode cX6_places 6 = .ok (.ireturn, 1) := by decide +kernel
theorem dX6_roads_0 : decode cX6_roads 0 = .ok (.aload_n 0, 1) := by decide +kernel
theorem dX6_roads_1 : decode cX6_roads 1 = .ok (.getfield 7, 3) := by decide +kernel
theorem dX6_roads_4 : decode cX6_roads 4 = .ok (.iconst 1, 1) := by decide +kernel
theorem dX6_roads_5 : decode cX6_roads 5 = .ok (.iaload, 1) := by decide +kernel
theorem dX6_roads_6 : decode cX6_roads 6 = .ok (.ireturn, 1) := by decide +kernel
theorem dX6_moves_0 : decode cX6_moves 0 = .ok (.aload_n 0, 1) := by decide +kernel
theorem dX6_moves_1 : decode cX6_moves 1 = .ok (.getfield 7, 3) := by decide +kernel
theorem dX6_moves_4 : decode cX6_moves 4 = .ok (.iconst 2, 1) := by decide +kernel
theorem dX6_moves_5 : decode cX6_moves 5 = .ok (.iaload, 1) := by decide +kernel
theorem dX6_moves_6 : decode cX6_moves 6 = .ok (.ireturn, 1) := by decide +kernel
theorem dX6_ofPlace_0 : decode cX6_ofPlace 0 = .ok (.aload_n 0, 1) := by decide +kernel
theorem dX6_ofPlace_1 : decode cX6_ofPlace 1 = .ok (.getfield 7, 3) := by decide +kernel
theorem dX6_ofPlace_4 : decode cX6_ofPlace 4 = .ok (.iconst 3, 1) := by decide +kernel
theorem dX6_ofPlace_5 : decode cX6_ofPlace 5 = .ok (.iconst 4, 1) := by decide +kernel
theorem dX6_ofPlace_6 : decode cX6_ofPlace 6 = .ok (.iload_n 1, 1) := by decide +kernel
theorem dX6_ofPlace_7 : decode cX6_ofPlace 7 = .ok (.imul, 1) := by decide +kernel
theorem dX6_ofPlace_8 : decode cX6_ofPlace 8 = .ok (.iadd, 1) := by decide +kernel
theorem dX6_ofPlace_9 : decode cX6_ofPlace 9 = .ok (.iload_n 2, 1) := by decide +kernel
theorem dX6_ofPlace_10 : decode cX6_ofPlace 10 = .ok (.iadd, 1) := by decide +kernel
theorem dX6_ofPlace_11 : decode cX6_ofPlace 11 = .ok (.iaload, 1) := by decide +kernel
theorem dX6_ofPlace_12 : decode cX6_ofPlace 12 = .ok (.ireturn, 1) := by decide +kernel
theorem dX6_ofRoad_0 : decode cX6_ofRoad 0 = .ok (.aload_n 0, 1) := by decide +kernel
theorem dX6_ofRoad_1 : decode cX6_ofRoad 1 = .ok (.getfield 7, 3) := by decide +kernel
theorem dX6_ofRoad_4 : decode cX6_ofRoad 4 = .ok (.bipush 35, 2) := by decide +kernel
theorem dX6_ofRoad_6 : decode cX6_ofRoad 6 = .ok (.iconst 5, 1) := by decide +kernel
theorem dX6_ofRoad_7 : decode cX6_ofRoad 7 = .ok (.iload_n 1, 1) := by decide +kernel
theorem dX6_ofRoad_8 : decode cX6_ofRoad 8 = .ok (.imul, 1) := by decide +kernel
theorem dX6_ofRoad_9 : decode cX6_ofRoad 9 = .ok (.iadd, 1) := by decide +kernel
theorem dX6_ofRoad_10 : decode cX6_ofRoad 10 = .ok (.iload_n 2, 1) := by decide +kernel
theorem dX6_ofRoad_11 : decode cX6_ofRoad 11 = .ok (.iadd, 1) := by decide +kernel
theorem dX6_ofRoad_12 : decode cX6_ofRoad 12 = .ok (.iaload, 1) := by decide +kernel
theorem dX6_ofRoad_13 : decode cX6_ofRoad 13 = .ok (.ireturn, 1) := by decide +kernel
theorem dX6_ofMove_0 : decode cX6_ofMove 0 = .ok (.aload_n 0, 1) := by decide +kernel
theorem dX6_ofMove_1 : decode cX6_ofMove 1 = .ok (.getfield 7, 3) := by decide +kernel
theorem dX6_ofMove_4 : decode cX6_ofMove 4 = .ok (.bipush 95, 2) := by decide +kernel
theorem dX6_ofMove_6 : decode cX6_ofMove 6 = .ok (.iconst 4, 1) := by decide +kernel
theorem dX6_ofMove_7 : decode cX6_ofMove 7 = .ok (.iload_n 1, 1) := by decide +kernel
theorem dX6_ofMove_8 : decode cX6_ofMove 8 = .ok (.imul, 1) := by decide +kernel
theorem dX6_ofMove_9 : decode cX6_ofMove 9 = .ok (.iadd, 1) := by decide +kernel
theorem dX6_ofMove_10 : decode cX6_ofMove 10 = .ok (.iload_n 2, 1) := by decide +kernel
theorem dX6_ofMove_11 : decode cX6_ofMove 11 = .ok (.iadd, 1) := by decide +kernel
theorem dX6_ofMove_12 : decode cX6_ofMove 12 = .ok (.iaload, 1) := by decide +kernel
theorem dX6_ofMove_13 : decode cX6_ofMove 13 = .ok (.ireturn, 1) := by decide +kernel
theorem dX6_isPlace_0 : decode cX6_isPlace 0 = .ok (.iload_n 1, 1) := by decide +kernel
theorem dX6_isPlace_1 : decode cX6_isPlace 1 = .ok (.iconst 0, 1) := by decide +kernel
theorem dX6_isPlace_2 : decode cX6_isPlace 2 = .ok (.aload_n 0, 1) := by decide +kernel
theorem dX6_isPlace_3 : decode cX6_isPlace 3 = .ok (.invokevirtual 64, 3) := by decide +kernel
theorem dX6_isPlace_6 : decode cX6_isPlace 6 = .ok (.iconst 1, 1) := by decide +kernel
theorem dX6_isPlace_7 : decode cX6_isPlace 7 = .ok (.isub, 1) := by decide +kernel
theorem dX6_isPlace_8 : decode cX6_isPlace 8 = .ok (.invokestatic 68, 3) := by decide +kernel
theorem dX6_isPlace_11 : decode cX6_isPlace 11 = .ok (.ireturn, 1) := by decide +kernel
theorem dX6_isRoad_0 : decode cX6_isRoad 0 = .ok (.iload_n 1, 1) := by decide +kernel
theorem dX6_isRoad_1 : decode cX6_isRoad 1 = .ok (.iconst 0, 1) := by decide +kernel
theorem dX6_isRoad_2 : decode cX6_isRoad 2 = .ok (.aload_n 0, 1) := by decide +kernel
theorem dX6_isRoad_3 : decode cX6_isRoad 3 = .ok (.invokevirtual 72, 3) := by decide +kernel
theorem dX6_isRoad_6 : decode cX6_isRoad 6 = .ok (.iconst 1, 1) := by decide +kernel
theorem dX6_isRoad_7 : decode cX6_isRoad 7 = .ok (.isub, 1) := by decide +kernel
theorem dX6_isRoad_8 : decode cX6_isRoad 8 = .ok (.invokestatic 68, 3) := by decide +kernel
theorem dX6_isRoad_11 : decode cX6_isRoad 11 = .ok (.ireturn, 1) := by decide +kernel
theorem dX6_mayBe_0 : decode cX6_mayBe 0 = .ok (.iload_n 0, 1) := by decide +kernel
theorem dX6_mayBe_1 : decode cX6_mayBe 1 = .ok (.tableswitch 52 0 2 #[27, 35, 44], 27) := by decide +kernel
theorem dX6_mayBe_28 : decode cX6_mayBe 28 = .ok (.iload_n 1, 1) := by decide +kernel
theorem dX6_mayBe_29 : decode cX6_mayBe 29 = .ok (.iconst 0, 1) := by decide +kernel
theorem dX6_mayBe_30 : decode cX6_mayBe 30 = .ok (.bipush 60, 2) := by decide +kernel
theorem dX6_mayBe_32 : decode cX6_mayBe 32 = .ok (.invokestatic 68, 3) := by decide +kernel
theorem dX6_mayBe_35 : decode cX6_mayBe 35 = .ok (.ireturn, 1) := by decide +kernel
theorem dX6_mayBe_36 : decode cX6_mayBe 36 = .ok (.iload_n 1, 1) := by decide +kernel
theorem dX6_mayBe_37 : decode cX6_mayBe 37 = .ok (.iconst 0, 1) := by decide +kernel
theorem dX6_mayBe_38 : decode cX6_mayBe 38 = .ok (.sipush 300, 3) := by decide +kernel
theorem dX6_mayBe_41 : decode cX6_mayBe 41 = .ok (.invokestatic 68, 3) := by decide +kernel
theorem dX6_mayBe_44 : decode cX6_mayBe 44 = .ok (.ireturn, 1) := by decide +kernel
theorem dX6_mayBe_45 : decode cX6_mayBe 45 = .ok (.iload_n 1, 1) := by decide +kernel
theorem dX6_mayBe_46 : decode cX6_mayBe 46 = .ok (.iconst 0, 1) := by decide +kernel
theorem dX6_mayBe_47 : decode cX6_mayBe 47 = .ok (.bipush 20, 2) := by decide +kernel
theorem dX6_mayBe_49 : decode cX6_mayBe 49 = .ok (.invokestatic 68, 3) := by decide +kernel
theorem dX6_mayBe_52 : decode cX6_mayBe 52 = .ok (.ireturn, 1) := by decide +kernel
theorem dX6_mayBe_53 : decode cX6_mayBe 53 = .ok (.iload_n 0, 1) := by decide +kernel
theorem dX6_mayBe_54 : decode cX6_mayBe 54 = .ok (.iconst 3, 1) := by decide +kernel
theorem dX6_mayBe_55 : decode cX6_mayBe 55 = .ok (.if_icmp .ne 18, 3) := by decide +kernel
theorem dX6_mayBe_58 : decode cX6_mayBe 58 = .ok (.iload_n 1, 1) := by decide +kernel
theorem dX6_mayBe_59 : decode cX6_mayBe 59 = .ok (.iconst 0, 1) := by decide +kernel
theorem dX6_mayBe_60 : decode cX6_mayBe 60 = .ok (.sipush 300, 3) := by decide +kernel
theorem dX6_mayBe_63 : decode cX6_mayBe 63 = .ok (.invokestatic 68, 3) := by decide +kernel
theorem dX6_mayBe_66 : decode cX6_mayBe 66 = .ok (.ifCond .eq 7, 3) := by decide +kernel
theorem dX6_mayBe_69 : decode cX6_mayBe 69 = .ok (.iconst 1, 1) := by decide +kernel
theorem dX6_mayBe_70 : decode cX6_mayBe 70 = .ok (.goto 4, 3) := by decide +kernel
theorem dX6_mayBe_73 : decode cX6_mayBe 73 = .ok (.iconst 0, 1) := by decide +kernel
theorem dX6_mayBe_74 : decode cX6_mayBe 74 = .ok (.ireturn, 1) := by decide +kernel
theorem dX6_placeMore_0 : decode cX6_placeMore 0 = .ok (.iconst 3, 1) := by decide +kernel
theorem dX6_placeMore_1 : decode cX6_placeMore 1 = .ok (.iconst 4, 1) := by decide +kernel
theorem dX6_placeMore_2 : decode cX6_placeMore 2 = .ok (.aload_n 0, 1) := by decide +kernel
theorem dX6_placeMore_3 : decode cX6_placeMore 3 = .ok (.invokevirtual 64, 3) := by decide +kernel
theorem dX6_placeMore_6 : decode cX6_placeMore 6 = .ok (.imul, 1) := by decide +kernel
theorem dX6_placeMore_7 : decode cX6_placeMore 7 = .ok (.iadd, 1) := by decide +kernel
theorem dX6_placeMore_8 : decode cX6_placeMore 8 = .ok (.istore 5, 2) := by decide +kernel
theorem dX6_placeMore_10 : decode cX6_placeMore 10 = .ok (.aload_n 0, 1) := by decide +kernel
theorem dX6_placeMore_11 : decode cX6_placeMore 11 = .ok (.getfield 7, 3) := by decide +kernel
theorem dX6_placeMore_14 : decode cX6_placeMore 14 = .ok (.iload 5, 2) := by decide +kernel
theorem dX6_placeMore_16 : decode cX6_placeMore 16 = .ok (.iload_n 1, 1) := by decide +kernel
theorem dX6_placeMore_17 : decode cX6_placeMore 17 = .ok (.iastore, 1) := by decide +kernel
theorem dX6_placeMore_18 : decode cX6_placeMore 18 = .ok (.aload_n 0, 1) := by decide +kernel
theorem dX6_placeMore_19 : decode cX6_placeMore 19 = .ok (.getfield 7, 3) := by decide +kernel
theorem dX6_placeMore_22 : decode cX6_placeMore 22 = .ok (.iload 5, 2) := by decide +kernel
theorem dX6_placeMore_24 : decode cX6_placeMore 24 = .ok (.iconst 1, 1) := by decide +kernel
theorem dX6_placeMore_25 : decode cX6_placeMore 25 = .ok (.iadd, 1) := by decide +kernel
theorem dX6_placeMore_26 : decode cX6_placeMore 26 = .ok (.iload_n 2, 1) := by decide +kernel
theorem dX6_placeMore_27 : decode cX6_placeMore 27 = .ok (.iastore, 1) := by decide +kernel
theorem dX6_placeMore_28 : decode cX6_placeMore 28 = .ok (.aload_n 0, 1) := by decide +kernel
theorem dX6_placeMore_29 : decode cX6_placeMore 29 = .ok (.getfield 7, 3) := by decide +kernel
theorem dX6_placeMore_32 : decode cX6_placeMore 32 = .ok (.iload 5, 2) := by decide +kernel
theorem dX6_placeMore_34 : decode cX6_placeMore 34 = .ok (.iconst 2, 1) := by decide +kernel
theorem dX6_placeMore_35 : decode cX6_placeMore 35 = .ok (.iadd, 1) := by decide +kernel
theorem dX6_placeMore_36 : decode cX6_placeMore 36 = .ok (.iload_n 3, 1) := by decide +kernel
theorem dX6_placeMore_37 : decode cX6_placeMore 37 = .ok (.iastore, 1) := by decide +kernel
theorem dX6_placeMore_38 : decode cX6_placeMore 38 = .ok (.aload_n 0, 1) := by decide +kernel
theorem dX6_placeMore_39 : decode cX6_placeMore 39 = .ok (.getfield 7, 3) := by decide +kernel
theorem dX6_placeMore_42 : decode cX6_placeMore 42 = .ok (.iload 5, 2) := by decide +kernel
theorem dX6_placeMore_44 : decode cX6_placeMore 44 = .ok (.iconst 3, 1) := by decide +kernel
theorem dX6_placeMore_45 : decode cX6_placeMore 45 = .ok (.iadd, 1) := by decide +kernel
theorem dX6_placeMore_46 : decode cX6_placeMore 46 = .ok (.iload 4, 2) := by decide +kernel
theorem dX6_placeMore_48 : decode cX6_placeMore 48 = .ok (.iastore, 1) := by decide +kernel
theorem dX6_placeMore_49 : decode cX6_placeMore 49 = .ok (.aload_n 0, 1) := by decide +kernel
theorem dX6_placeMore_50 : decode cX6_placeMore 50 = .ok (.getfield 7, 3) := by decide +kernel
theorem dX6_placeMore_53 : decode cX6_placeMore 53 = .ok (.iconst 0, 1) := by decide +kernel
theorem dX6_placeMore_54 : decode cX6_placeMore 54 = .ok (.dup2, 1) := by decide +kernel
theorem dX6_placeMore_55 : decode cX6_placeMore 55 = .ok (.iaload, 1) := by decide +kernel
theorem dX6_placeMore_56 : decode cX6_placeMore 56 = .ok (.iconst 1, 1) := by decide +kernel
theorem dX6_placeMore_57 : decode cX6_placeMore 57 = .ok (.iadd, 1) := by decide +kernel
theorem dX6_placeMore_58 : decode cX6_placeMore 58 = .ok (.iastore, 1) := by decide +kernel
theorem dX6_placeMore_59 : decode cX6_placeMore 59 = .ok (.return_, 1) := by decide +kernel
theorem dX6_roadMore_0 : decode cX6_roadMore 0 = .ok (.bipush 35, 2) := by decide +kernel
theorem dX6_roadMore_2 : decode cX6_roadMore 2 = .ok (.iconst 5, 1) := by decide +kernel
theorem dX6_roadMore_3 : decode cX6_roadMore 3 = .ok (.aload_n 0, 1) := by decide +kernel
theorem dX6_roadMore_4 : decode cX6_roadMore 4 = .ok (.invokevirtual 72, 3) := by decide +kernel
theorem dX6_roadMore_7 : decode cX6_roadMore 7 = .ok (.imul, 1) := by decide +kernel
theorem dX6_roadMore_8 : decode cX6_roadMore 8 = .ok (.iadd, 1) := by decide +kernel
theorem dX6_roadMore_9 : decode cX6_roadMore 9 = .ok (.istore 6, 2) := by decide +kernel
theorem dX6_roadMore_11 : decode cX6_roadMore 11 = .ok (.aload_n 0, 1) := by decide +kernel
theorem dX6_roadMore_12 : decode cX6_roadMore 12 = .ok (.getfield 7, 3) := by decide +kernel
theorem dX6_roadMore_15 : decode cX6_roadMore 15 = .ok (.iload 6, 2) := by decide +kernel
theorem dX6_roadMore_17 : decode cX6_roadMore 17 = .ok (.iload_n 1, 1) := by decide +kernel
theorem dX6_roadMore_18 : decode cX6_roadMore 18 = .ok (.iastore, 1) := by decide +kernel
theorem dX6_roadMore_19 : decode cX6_roadMore 19 = .ok (.aload_n 0, 1) := by decide +kernel
theorem dX6_roadMore_20 : decode cX6_roadMore 20 = .ok (.getfield 7, 3) := by decide +kernel
theorem dX6_roadMore_23 : decode cX6_roadMore 23 = .ok (.iload 6, 2) := by decide +kernel
theorem dX6_roadMore_25 : decode cX6_roadMore 25 = .ok (.iconst 1, 1) := by decide +kernel
theorem dX6_roadMore_26 : decode cX6_roadMore 26 = .ok (.iadd, 1) := by decide +kernel
theorem dX6_roadMore_27 : decode cX6_roadMore 27 = .ok (.iload_n 2, 1) := by decide +kernel
theorem dX6_roadMore_28 : decode cX6_roadMore 28 = .ok (.iastore, 1) := by decide +kernel
theorem dX6_roadMore_29 : decode cX6_roadMore 29 = .ok (.aload_n 0, 1) := by decide +kernel
theorem dX6_roadMore_30 : decode cX6_roadMore 30 = .ok (.getfield 7, 3) := by decide +kernel
theorem dX6_roadMore_33 : decode cX6_roadMore 33 = .ok (.iload 6, 2) := by decide +kernel
theorem dX6_roadMore_35 : decode cX6_roadMore 35 = .ok (.iconst 2, 1) := by decide +kernel
theorem dX6_roadMore_36 : decode cX6_roadMore 36 = .ok (.iadd, 1) := by decide +kernel
theorem dX6_roadMore_37 : decode cX6_roadMore 37 = .ok (.iload_n 3, 1) := by decide +kernel
theorem dX6_roadMore_38 : decode cX6_roadMore 38 = .ok (.iastore, 1) := by decide +kernel
theorem dX6_roadMore_39 : decode cX6_roadMore 39 = .ok (.aload_n 0, 1) := by decide +kernel
theorem dX6_roadMore_40 : decode cX6_roadMore 40 = .ok (.getfield 7, 3) := by decide +kernel
theorem dX6_roadMore_43 : decode cX6_roadMore 43 = .ok (.iload 6, 2) := by decide +kernel
theorem dX6_roadMore_45 : decode cX6_roadMore 45 = .ok (.iconst 3, 1) := by decide +kernel
theorem dX6_roadMore_46 : decode cX6_roadMore 46 = .ok (.iadd, 1) := by decide +kernel
theorem dX6_roadMore_47 : decode cX6_roadMore 47 = .ok (.iload 4, 2) := by decide +kernel
theorem dX6_roadMore_49 : decode cX6_roadMore 49 = .ok (.iastore, 1) := by decide +kernel
theorem dX6_roadMore_50 : decode cX6_roadMore 50 = .ok (.aload_n 0, 1) := by decide +kernel
theorem dX6_roadMore_51 : decode cX6_roadMore 51 = .ok (.getfield 7, 3) := by decide +kernel
theorem dX6_roadMore_54 : decode cX6_roadMore 54 = .ok (.iload 6, 2) := by decide +kernel
theorem dX6_roadMore_56 : decode cX6_roadMore 56 = .ok (.iconst 4, 1) := by decide +kernel
theorem dX6_roadMore_57 : decode cX6_roadMore 57 = .ok (.iadd, 1) := by decide +kernel
theorem dX6_roadMore_58 : decode cX6_roadMore 58 = .ok (.iload 5, 2) := by decide +kernel
theorem dX6_roadMore_60 : decode cX6_roadMore 60 = .ok (.iastore, 1) := by decide +kernel
theorem dX6_roadMore_61 : decode cX6_roadMore 61 = .ok (.aload_n 0, 1) := by decide +kernel
theorem dX6_roadMore_62 : decode cX6_roadMore 62 = .ok (.getfield 7, 3) := by decide +kernel
theorem dX6_roadMore_65 : decode cX6_roadMore 65 = .ok (.iconst 1, 1) := by decide +kernel
theorem dX6_roadMore_66 : decode cX6_roadMore 66 = .ok (.dup2, 1) := by decide +kernel
theorem dX6_roadMore_67 : decode cX6_roadMore 67 = .ok (.iaload, 1) := by decide +kernel
theorem dX6_roadMore_68 : decode cX6_roadMore 68 = .ok (.iconst 1, 1) := by decide +kernel
theorem dX6_roadMore_69 : decode cX6_roadMore 69 = .ok (.iadd, 1) := by decide +kernel
theorem dX6_roadMore_70 : decode cX6_roadMore 70 = .ok (.iastore, 1) := by decide +kernel
theorem dX6_roadMore_71 : decode cX6_roadMore 71 = .ok (.return_, 1) := by decide +kernel
theorem dX6_moveMore_0 : decode cX6_moveMore 0 = .ok (.bipush 95, 2) := by decide +kernel
theorem dX6_moveMore_2 : decode cX6_moveMore 2 = .ok (.iconst 4, 1) := by decide +kernel
theorem dX6_moveMore_3 : decode cX6_moveMore 3 = .ok (.aload_n 0, 1) := by decide +kernel
theorem dX6_moveMore_4 : decode cX6_moveMore 4 = .ok (.invokevirtual 75, 3) := by decide +kernel
theorem dX6_moveMore_7 : decode cX6_moveMore 7 = .ok (.imul, 1) := by decide +kernel
theorem dX6_moveMore_8 : decode cX6_moveMore 8 = .ok (.iadd, 1) := by decide +kernel
theorem dX6_moveMore_9 : decode cX6_moveMore 9 = .ok (.istore 5, 2) := by decide +kernel
theorem dX6_moveMore_11 : decode cX6_moveMore 11 = .ok (.aload_n 0, 1) := by decide +kernel
theorem dX6_moveMore_12 : decode cX6_moveMore 12 = .ok (.getfield 7, 3) := by decide +kernel
theorem dX6_moveMore_15 : decode cX6_moveMore 15 = .ok (.iload 5, 2) := by decide +kernel
theorem dX6_moveMore_17 : decode cX6_moveMore 17 = .ok (.iload_n 1, 1) := by decide +kernel
theorem dX6_moveMore_18 : decode cX6_moveMore 18 = .ok (.iastore, 1) := by decide +kernel
theorem dX6_moveMore_19 : decode cX6_moveMore 19 = .ok (.aload_n 0, 1) := by decide +kernel
theorem dX6_moveMore_20 : decode cX6_moveMore 20 = .ok (.getfield 7, 3) := by decide +kernel
theorem dX6_moveMore_23 : decode cX6_moveMore 23 = .ok (.iload 5, 2) := by decide +kernel
theorem dX6_moveMore_25 : decode cX6_moveMore 25 = .ok (.iconst 1, 1) := by decide +kernel
theorem dX6_moveMore_26 : decode cX6_moveMore 26 = .ok (.iadd, 1) := by decide +kernel
theorem dX6_moveMore_27 : decode cX6_moveMore 27 = .ok (.iload_n 2, 1) := by decide +kernel
theorem dX6_moveMore_28 : decode cX6_moveMore 28 = .ok (.iastore, 1) := by decide +kernel
theorem dX6_moveMore_29 : decode cX6_moveMore 29 = .ok (.aload_n 0, 1) := by decide +kernel
theorem dX6_moveMore_30 : decode cX6_moveMore 30 = .ok (.getfield 7, 3) := by decide +kernel
theorem dX6_moveMore_33 : decode cX6_moveMore 33 = .ok (.iload 5, 2) := by decide +kernel
theorem dX6_moveMore_35 : decode cX6_moveMore 35 = .ok (.iconst 2, 1) := by decide +kernel
theorem dX6_moveMore_36 : decode cX6_moveMore 36 = .ok (.iadd, 1) := by decide +kernel
theorem dX6_moveMore_37 : decode cX6_moveMore 37 = .ok (.iload_n 3, 1) := by decide +kernel
theorem dX6_moveMore_38 : decode cX6_moveMore 38 = .ok (.iastore, 1) := by decide +kernel
theorem dX6_moveMore_39 : decode cX6_moveMore 39 = .ok (.aload_n 0, 1) := by decide +kernel
theorem dX6_moveMore_40 : decode cX6_moveMore 40 = .ok (.getfield 7, 3) := by decide +kernel
theorem dX6_moveMore_43 : decode cX6_moveMore 43 = .ok (.iload 5, 2) := by decide +kernel
theorem dX6_moveMore_45 : decode cX6_moveMore 45 = .ok (.iconst 3, 1) := by decide +kernel
theorem dX6_moveMore_46 : decode cX6_moveMore 46 = .ok (.iadd, 1) := by decide +kernel
theorem dX6_moveMore_47 : decode cX6_moveMore 47 = .ok (.iload 4, 2) := by decide +kernel
theorem dX6_moveMore_49 : decode cX6_moveMore 49 = .ok (.iastore, 1) := by decide +kernel
theorem dX6_moveMore_50 : decode cX6_moveMore 50 = .ok (.aload_n 0, 1) := by decide +kernel
theorem dX6_moveMore_51 : decode cX6_moveMore 51 = .ok (.getfield 7, 3) := by decide +kernel
theorem dX6_moveMore_54 : decode cX6_moveMore 54 = .ok (.iconst 2, 1) := by decide +kernel
theorem dX6_moveMore_55 : decode cX6_moveMore 55 = .ok (.dup2, 1) := by decide +kernel
theorem dX6_moveMore_56 : decode cX6_moveMore 56 = .ok (.iaload, 1) := by decide +kernel
theorem dX6_moveMore_57 : decode cX6_moveMore 57 = .ok (.iconst 1, 1) := by decide +kernel
theorem dX6_moveMore_58 : decode cX6_moveMore 58 = .ok (.iadd, 1) := by decide +kernel
theorem dX6_moveMore_59 : decode cX6_moveMore 59 = .ok (.iastore, 1) := by decide +kernel
theorem dX6_moveMore_60 : decode cX6_moveMore 60 = .ok (.return_, 1) := by decide +kernel
theorem dX6_place_0 : decode cX6_place 0 = .ok (.aload_n 0, 1) := by decide +kernel
theorem dX6_place_1 : decode cX6_place 1 = .ok (.iconst 0, 1) := by decide +kernel
theorem dX6_place_2 : decode cX6_place 2 = .ok (.putfield 60, 3) := by decide +kernel
theorem dX6_place_5 : decode cX6_place 5 = .ok (.iconst 0, 1) := by decide +kernel
theorem dX6_place_6 : decode cX6_place 6 = .ok (.iload_n 1, 1) := by decide +kernel
theorem dX6_place_7 : decode cX6_place 7 = .ok (.invokestatic 78, 3) := by decide +kernel
theorem dX6_place_10 : decode cX6_place 10 = .ok (.ifCond .eq 28, 3) := by decide +kernel
theorem dX6_place_13 : decode cX6_place 13 = .ok (.iconst 1, 1) := by decide +kernel
theorem dX6_place_14 : decode cX6_place 14 = .ok (.iload_n 2, 1) := by decide +kernel
theorem dX6_place_15 : decode cX6_place 15 = .ok (.invokestatic 78, 3) := by decide +kernel
theorem dX6_place_18 : decode cX6_place 18 = .ok (.ifCond .eq 20, 3) := by decide +kernel
theorem dX6_place_21 : decode cX6_place 21 = .ok (.iconst 2, 1) := by decide +kernel
theorem dX6_place_22 : decode cX6_place 22 = .ok (.iload_n 3, 1) := by decide +kernel
theorem dX6_place_23 : decode cX6_place 23 = .ok (.invokestatic 78, 3) := by decide +kernel
theorem dX6_place_26 : decode cX6_place 26 = .ok (.ifCond .eq 12, 3) := by decide +kernel
theorem dX6_place_29 : decode cX6_place 29 = .ok (.iconst 3, 1) := by decide +kernel
theorem dX6_place_30 : decode cX6_place 30 = .ok (.iload 4, 2) := by decide +kernel
theorem dX6_place_32 : decode cX6_place 32 = .ok (.invokestatic 78, 3) := by decide +kernel
theorem dX6_place_35 : decode cX6_place 35 = .ok (.ifCond .ne 5, 3) := by decide +kernel
theorem dX6_place_38 : decode cX6_place 38 = .ok (.iconst (-1), 1) := by decide +kernel
theorem dX6_place_39 : decode cX6_place 39 = .ok (.ireturn, 1) := by decide +kernel
theorem dX6_place_40 : decode cX6_place 40 = .ok (.aload_n 0, 1) := by decide +kernel
theorem dX6_place_41 : decode cX6_place 41 = .ok (.invokevirtual 64, 3) := by decide +kernel
theorem dX6_place_44 : decode cX6_place 44 = .ok (.bipush 8, 2) := by decide +kernel
theorem dX6_place_46 : decode cX6_place 46 = .ok (.if_icmp .ne 6, 3) := by decide +kernel
theorem dX6_place_49 : decode cX6_place 49 = .ok (.bipush (-2), 2) := by decide +kernel
theorem dX6_place_51 : decode cX6_place 51 = .ok (.ireturn, 1) := by decide +kernel
theorem dX6_place_52 : decode cX6_place 52 = .ok (.aload_n 0, 1) := by decide +kernel
theorem dX6_place_53 : decode cX6_place 53 = .ok (.iload_n 1, 1) := by decide +kernel
theorem dX6_place_54 : decode cX6_place 54 = .ok (.iload_n 2, 1) := by decide +kernel
theorem dX6_place_55 : decode cX6_place 55 = .ok (.iload_n 3, 1) := by decide +kernel
theorem dX6_place_56 : decode cX6_place 56 = .ok (.iload 4, 2) := by decide +kernel
theorem dX6_place_58 : decode cX6_place 58 = .ok (.invokevirtual 82, 3) := by decide +kernel
theorem dX6_place_61 : decode cX6_place 61 = .ok (.aload_n 0, 1) := by decide +kernel
theorem dX6_place_62 : decode cX6_place 62 = .ok (.invokevirtual 64, 3) := by decide +kernel
theorem dX6_place_65 : decode cX6_place 65 = .ok (.iconst 1, 1) := by decide +kernel
theorem dX6_place_66 : decode cX6_place 66 = .ok (.isub, 1) := by decide +kernel
theorem dX6_place_67 : decode cX6_place 67 = .ok (.ireturn, 1) := by decide +kernel
theorem dX6_road_0 : decode cX6_road 0 = .ok (.aload_n 0, 1) := by decide +kernel
theorem dX6_road_1 : decode cX6_road 1 = .ok (.iconst 0, 1) := by decide +kernel
theorem dX6_road_2 : decode cX6_road 2 = .ok (.putfield 60, 3) := by decide +kernel
theorem dX6_road_5 : decode cX6_road 5 = .ok (.aload_n 0, 1) := by decide +kernel
theorem dX6_road_6 : decode cX6_road 6 = .ok (.iload_n 1, 1) := by decide +kernel
theorem dX6_road_7 : decode cX6_road 7 = .ok (.invokevirtual 86, 3) := by decide +kernel
theorem dX6_road_10 : decode cX6_road 10 = .ok (.ifCond .eq 56, 3) := by decide +kernel
theorem dX6_road_13 : decode cX6_road 13 = .ok (.aload_n 0, 1) := by decide +kernel
theorem dX6_road_14 : decode cX6_road 14 = .ok (.iload_n 2, 1) := by decide +kernel
theorem dX6_road_15 : decode cX6_road 15 = .ok (.invokevirtual 86, 3) := by decide +kernel
theorem dX6_road_18 : decode cX6_road 18 = .ok (.ifCond .eq 48, 3) := by decide +kernel
theorem dX6_road_21 : decode cX6_road 21 = .ok (.iload_n 1, 1) := by decide +kernel
theorem dX6_road_22 : decode cX6_road 22 = .ok (.iload_n 2, 1) := by decide +kernel
theorem dX6_road_23 : decode cX6_road 23 = .ok (.if_icmp .eq 43, 3) := by decide +kernel
theorem dX6_road_26 : decode cX6_road 26 = .ok (.iload_n 3, 1) := by decide +kernel
theorem dX6_road_27 : decode cX6_road 27 = .ok (.iconst 1, 1) := by decide +kernel
theorem dX6_road_28 : decode cX6_road 28 = .ok (.bipush 9, 2) := by decide +kernel
theorem dX6_road_30 : decode cX6_road 30 = .ok (.invokestatic 68, 3) := by decide +kernel
theorem dX6_road_33 : decode cX6_road 33 = .ok (.ifCond .eq 33, 3) := by decide +kernel
theorem dX6_road_36 : decode cX6_road 36 = .ok (.iload 4, 2) := by decide +kernel
theorem dX6_road_38 : decode cX6_road 38 = .ok (.iconst 0, 1) := by decide +kernel
theorem dX6_road_39 : decode cX6_road 39 = .ok (.bipush 9, 2) := by decide +kernel
theorem dX6_road_41 : decode cX6_road 41 = .ok (.invokestatic 68, 3) := by decide +kernel
theorem dX6_road_44 : decode cX6_road 44 = .ok (.ifCond .eq 22, 3) := by decide +kernel
theorem dX6_road_47 : decode cX6_road 47 = .ok (.iload 5, 2) := by decide +kernel
theorem dX6_road_49 : decode cX6_road 49 = .ok (.iconst 0, 1) := by decide +kernel
theorem dX6_road_50 : decode cX6_road 50 = .ok (.bipush 9, 2) := by decide +kernel
theorem dX6_road_52 : decode cX6_road 52 = .ok (.invokestatic 68, 3) := by decide +kernel
theorem dX6_road_55 : decode cX6_road 55 = .ok (.ifCond .eq 11, 3) := by decide +kernel
theorem dX6_road_58 : decode cX6_road 58 = .ok (.iload 4, 2) := by decide +kernel
theorem dX6_road_60 : decode cX6_road 60 = .ok (.iload 5, 2) := by decide +kernel
theorem dX6_road_62 : decode cX6_road 62 = .ok (.iadd, 1) := by decide +kernel
theorem dX6_road_63 : decode cX6_road 63 = .ok (.ifCond .ne 5, 3) := by decide +kernel
theorem dX6_road_66 : decode cX6_road 66 = .ok (.iconst (-1), 1) := by decide +kernel
theorem dX6_road_67 : decode cX6_road 67 = .ok (.ireturn, 1) := by decide +kernel
theorem dX6_road_68 : decode cX6_road 68 = .ok (.aload_n 0, 1) := by decide +kernel
theorem dX6_road_69 : decode cX6_road 69 = .ok (.invokevirtual 72, 3) := by decide +kernel
theorem dX6_road_72 : decode cX6_road 72 = .ok (.bipush 12, 2) := by decide +kernel
theorem dX6_road_74 : decode cX6_road 74 = .ok (.if_icmp .ne 6, 3) := by decide +kernel
theorem dX6_road_77 : decode cX6_road 77 = .ok (.bipush (-2), 2) := by decide +kernel
theorem dX6_road_79 : decode cX6_road 79 = .ok (.ireturn, 1) := by decide +kernel
theorem dX6_road_80 : decode cX6_road 80 = .ok (.aload_n 0, 1) := by decide +kernel
theorem dX6_road_81 : decode cX6_road 81 = .ok (.iload_n 1, 1) := by decide +kernel
theorem dX6_road_82 : decode cX6_road 82 = .ok (.iload_n 2, 1) := by decide +kernel
theorem dX6_road_83 : decode cX6_road 83 = .ok (.iload_n 3, 1) := by decide +kernel
theorem dX6_road_84 : decode cX6_road 84 = .ok (.iload 4, 2) := by decide +kernel
theorem dX6_road_86 : decode cX6_road 86 = .ok (.iload 5, 2) := by decide +kernel
theorem dX6_road_88 : decode cX6_road 88 = .ok (.invokevirtual 90, 3) := by decide +kernel
theorem dX6_road_91 : decode cX6_road 91 = .ok (.aload_n 0, 1) := by decide +kernel
theorem dX6_road_92 : decode cX6_road 92 = .ok (.invokevirtual 72, 3) := by decide +kernel
theorem dX6_road_95 : decode cX6_road 95 = .ok (.iconst 1, 1) := by decide +kernel
theorem dX6_road_96 : decode cX6_road 96 = .ok (.isub, 1) := by decide +kernel
theorem dX6_road_97 : decode cX6_road 97 = .ok (.ireturn, 1) := by decide +kernel
theorem dX6_mayTurn_0 : decode cX6_mayTurn 0 = .ok (.aload_n 0, 1) := by decide +kernel
theorem dX6_mayTurn_1 : decode cX6_mayTurn 1 = .ok (.iload_n 1, 1) := by decide +kernel
theorem dX6_mayTurn_2 : decode cX6_mayTurn 2 = .ok (.invokevirtual 94, 3) := by decide +kernel
theorem dX6_mayTurn_5 : decode cX6_mayTurn 5 = .ok (.ifCond .eq 46, 3) := by decide +kernel
theorem dX6_mayTurn_8 : decode cX6_mayTurn 8 = .ok (.iload_n 2, 1) := by decide +kernel
theorem dX6_mayTurn_9 : decode cX6_mayTurn 9 = .ok (.sipush (-200), 3) := by decide +kernel
theorem dX6_mayTurn_12 : decode cX6_mayTurn 12 = .ok (.sipush 200, 3) := by decide +kernel
theorem dX6_mayTurn_15 : decode cX6_mayTurn 15 = .ok (.invokestatic 68, 3) := by decide +kernel
theorem dX6_mayTurn_18 : decode cX6_mayTurn 18 = .ok (.ifCond .eq 33, 3) := by decide +kernel
theorem dX6_mayTurn_21 : decode cX6_mayTurn 21 = .ok (.iload_n 2, 1) := by decide +kernel
theorem dX6_mayTurn_22 : decode cX6_mayTurn 22 = .ok (.ifCond .eq 29, 3) := by decide +kernel
theorem dX6_mayTurn_25 : decode cX6_mayTurn 25 = .ok (.aload_n 0, 1) := by decide +kernel
theorem dX6_mayTurn_26 : decode cX6_mayTurn 26 = .ok (.iload_n 1, 1) := by decide +kernel
theorem dX6_mayTurn_27 : decode cX6_mayTurn 27 = .ok (.iconst 3, 1) := by decide +kernel
theorem dX6_mayTurn_28 : decode cX6_mayTurn 28 = .ok (.invokevirtual 97, 3) := by decide +kernel
theorem dX6_mayTurn_31 : decode cX6_mayTurn 31 = .ok (.iload_n 2, 1) := by decide +kernel
theorem dX6_mayTurn_32 : decode cX6_mayTurn 32 = .ok (.iadd, 1) := by decide +kernel
theorem dX6_mayTurn_33 : decode cX6_mayTurn 33 = .ok (.ifCond .lt 18, 3) := by decide +kernel
theorem dX6_mayTurn_36 : decode cX6_mayTurn 36 = .ok (.aload_n 0, 1) := by decide +kernel
theorem dX6_mayTurn_37 : decode cX6_mayTurn 37 = .ok (.iload_n 1, 1) := by decide +kernel
theorem dX6_mayTurn_38 : decode cX6_mayTurn 38 = .ok (.iconst 4, 1) := by decide +kernel
theorem dX6_mayTurn_39 : decode cX6_mayTurn 39 = .ok (.invokevirtual 97, 3) := by decide +kernel
theorem dX6_mayTurn_42 : decode cX6_mayTurn 42 = .ok (.iload_n 2, 1) := by decide +kernel
theorem dX6_mayTurn_43 : decode cX6_mayTurn 43 = .ok (.isub, 1) := by decide +kernel
theorem dX6_mayTurn_44 : decode cX6_mayTurn 44 = .ok (.ifCond .lt 7, 3) := by decide +kernel
theorem dX6_mayTurn_47 : decode cX6_mayTurn 47 = .ok (.iconst 1, 1) := by decide +kernel
theorem dX6_mayTurn_48 : decode cX6_mayTurn 48 = .ok (.goto 4, 3) := by decide +kernel
theorem dX6_mayTurn_51 : decode cX6_mayTurn 51 = .ok (.iconst 0, 1) := by decide +kernel
theorem dX6_mayTurn_52 : decode cX6_mayTurn 52 = .ok (.ireturn, 1) := by decide +kernel
theorem dX6_turnsRoad_0 : decode cX6_turnsRoad 0 = .ok (.aload_n 0, 1) := by decide +kernel
theorem dX6_turnsRoad_1 : decode cX6_turnsRoad 1 = .ok (.getfield 7, 3) := by decide +kernel
theorem dX6_turnsRoad_4 : decode cX6_turnsRoad 4 = .ok (.bipush 35, 2) := by decide +kernel
theorem dX6_turnsRoad_6 : decode cX6_turnsRoad 6 = .ok (.iconst 5, 1) := by decide +kernel
theorem dX6_turnsRoad_7 : decode cX6_turnsRoad 7 = .ok (.iload_n 1, 1) := by decide +kernel
theorem dX6_turnsRoad_8 : decode cX6_turnsRoad 8 = .ok (.imul, 1) := by decide +kernel
theorem dX6_turnsRoad_9 : decode cX6_turnsRoad 9 = .ok (.iadd, 1) := by decide +kernel
theorem dX6_turnsRoad_10 : decode cX6_turnsRoad 10 = .ok (.iconst 3, 1) := by decide +kernel
theorem dX6_turnsRoad_11 : decode cX6_turnsRoad 11 = .ok (.iadd, 1) := by decide +kernel
theorem dX6_turnsRoad_12 : decode cX6_turnsRoad 12 = .ok (.dup2, 1) := by decide +kernel
theorem dX6_turnsRoad_13 : decode cX6_turnsRoad 13 = .ok (.iaload, 1) := by decide +kernel
theorem dX6_turnsRoad_14 : decode cX6_turnsRoad 14 = .ok (.iload_n 2, 1) := by decide +kernel
theorem dX6_turnsRoad_15 : decode cX6_turnsRoad 15 = .ok (.iadd, 1) := by decide +kernel
theorem dX6_turnsRoad_16 : decode cX6_turnsRoad 16 = .ok (.iastore, 1) := by decide +kernel
theorem dX6_turnsRoad_17 : decode cX6_turnsRoad 17 = .ok (.aload_n 0, 1) := by decide +kernel
theorem dX6_turnsRoad_18 : decode cX6_turnsRoad 18 = .ok (.getfield 7, 3) := by decide +kernel
theorem dX6_turnsRoad_21 : decode cX6_turnsRoad 21 = .ok (.bipush 35, 2) := by decide +kernel
theorem dX6_turnsRoad_23 : decode cX6_turnsRoad 23 = .ok (.iconst 5, 1) := by decide +kernel
theorem dX6_turnsRoad_24 : decode cX6_turnsRoad 24 = .ok (.iload_n 1, 1) := by decide +kernel
theorem dX6_turnsRoad_25 : decode cX6_turnsRoad 25 = .ok (.imul, 1) := by decide +kernel
theorem dX6_turnsRoad_26 : decode cX6_turnsRoad 26 = .ok (.iadd, 1) := by decide +kernel
theorem dX6_turnsRoad_27 : decode cX6_turnsRoad 27 = .ok (.iconst 4, 1) := by decide +kernel
theorem dX6_turnsRoad_28 : decode cX6_turnsRoad 28 = .ok (.iadd, 1) := by decide +kernel
theorem dX6_turnsRoad_29 : decode cX6_turnsRoad 29 = .ok (.dup2, 1) := by decide +kernel
theorem dX6_turnsRoad_30 : decode cX6_turnsRoad 30 = .ok (.iaload, 1) := by decide +kernel
theorem dX6_turnsRoad_31 : decode cX6_turnsRoad 31 = .ok (.iload_n 2, 1) := by decide +kernel
theorem dX6_turnsRoad_32 : decode cX6_turnsRoad 32 = .ok (.isub, 1) := by decide +kernel
theorem dX6_turnsRoad_33 : decode cX6_turnsRoad 33 = .ok (.iastore, 1) := by decide +kernel
theorem dX6_turnsRoad_34 : decode cX6_turnsRoad 34 = .ok (.return_, 1) := by decide +kernel
theorem dX6_turn_0 : decode cX6_turn 0 = .ok (.aload_n 0, 1) := by decide +kernel
theorem dX6_turn_1 : decode cX6_turn 1 = .ok (.iconst 0, 1) := by decide +kernel
theorem dX6_turn_2 : decode cX6_turn 2 = .ok (.putfield 60, 3) := by decide +kernel
theorem dX6_turn_5 : decode cX6_turn 5 = .ok (.aload_n 0, 1) := by decide +kernel
theorem dX6_turn_6 : decode cX6_turn 6 = .ok (.iload_n 1, 1) := by decide +kernel
theorem dX6_turn_7 : decode cX6_turn 7 = .ok (.iload_n 2, 1) := by decide +kernel
theorem dX6_turn_8 : decode cX6_turn 8 = .ok (.invokevirtual 101, 3) := by decide +kernel
theorem dX6_turn_11 : decode cX6_turn 11 = .ok (.ifCond .ne 5, 3) := by decide +kernel
theorem dX6_turn_14 : decode cX6_turn 14 = .ok (.iconst 0, 1) := by decide +kernel
theorem dX6_turn_15 : decode cX6_turn 15 = .ok (.ireturn, 1) := by decide +kernel
theorem dX6_turn_16 : decode cX6_turn 16 = .ok (.aload_n 0, 1) := by decide +kernel
theorem dX6_turn_17 : decode cX6_turn 17 = .ok (.iload_n 1, 1) := by decide +kernel
theorem dX6_turn_18 : decode cX6_turn 18 = .ok (.iload_n 2, 1) := by decide +kernel
theorem dX6_turn_19 : decode cX6_turn 19 = .ok (.invokevirtual 104, 3) := by decide +kernel
theorem dX6_turn_22 : decode cX6_turn 22 = .ok (.iconst 1, 1) := by decide +kernel
theorem dX6_turn_23 : decode cX6_turn 23 = .ok (.ireturn, 1) := by decide +kernel
theorem dX6_set_0 : decode cX6_set 0 = .ok (.aload_n 0, 1) := by decide +kernel
theorem dX6_set_1 : decode cX6_set 1 = .ok (.iconst 0, 1) := by decide +kernel
theorem dX6_set_2 : decode cX6_set 2 = .ok (.putfield 60, 3) := by decide +kernel
theorem dX6_set_5 : decode cX6_set 5 = .ok (.aload_n 0, 1) := by decide +kernel
theorem dX6_set_6 : decode cX6_set 6 = .ok (.iload_n 1, 1) := by decide +kernel
theorem dX6_set_7 : decode cX6_set 7 = .ok (.invokevirtual 86, 3) := by decide +kernel
theorem dX6_set_10 : decode cX6_set 10 = .ok (.ifCond .eq 21, 3) := by decide +kernel
theorem dX6_set_13 : decode cX6_set 13 = .ok (.iload_n 2, 1) := by decide +kernel
theorem dX6_set_14 : decode cX6_set 14 = .ok (.iload_n 3, 1) := by decide +kernel
theorem dX6_set_15 : decode cX6_set 15 = .ok (.invokestatic 78, 3) := by decide +kernel
theorem dX6_set_18 : decode cX6_set 18 = .ok (.ifCond .eq 13, 3) := by decide +kernel
theorem dX6_set_21 : decode cX6_set 21 = .ok (.aload_n 0, 1) := by decide +kernel
theorem dX6_set_22 : decode cX6_set 22 = .ok (.iload_n 1, 1) := by decide +kernel
theorem dX6_set_23 : decode cX6_set 23 = .ok (.iload_n 2, 1) := by decide +kernel
theorem dX6_set_24 : decode cX6_set 24 = .ok (.invokevirtual 108, 3) := by decide +kernel
theorem dX6_set_27 : decode cX6_set 27 = .ok (.iload_n 3, 1) := by decide +kernel
theorem dX6_set_28 : decode cX6_set 28 = .ok (.if_icmp .ne 5, 3) := by decide +kernel
theorem dX6_set_31 : decode cX6_set 31 = .ok (.iconst 0, 1) := by decide +kernel
theorem dX6_set_32 : decode cX6_set 32 = .ok (.ireturn, 1) := by decide +kernel
theorem dX6_set_33 : decode cX6_set 33 = .ok (.aload_n 0, 1) := by decide +kernel
theorem dX6_set_34 : decode cX6_set 34 = .ok (.getfield 7, 3) := by decide +kernel
theorem dX6_set_37 : decode cX6_set 37 = .ok (.iconst 3, 1) := by decide +kernel
theorem dX6_set_38 : decode cX6_set 38 = .ok (.iconst 4, 1) := by decide +kernel
theorem dX6_set_39 : decode cX6_set 39 = .ok (.iload_n 1, 1) := by decide +kernel
theorem dX6_set_40 : decode cX6_set 40 = .ok (.imul, 1) := by decide +kernel
theorem dX6_set_41 : decode cX6_set 41 = .ok (.iadd, 1) := by decide +kernel
theorem dX6_set_42 : decode cX6_set 42 = .ok (.iload_n 2, 1) := by decide +kernel
theorem dX6_set_43 : decode cX6_set 43 = .ok (.iadd, 1) := by decide +kernel
theorem dX6_set_44 : decode cX6_set 44 = .ok (.iload_n 3, 1) := by decide +kernel
theorem dX6_set_45 : decode cX6_set 45 = .ok (.iastore, 1) := by decide +kernel
theorem dX6_set_46 : decode cX6_set 46 = .ok (.iconst 1, 1) := by decide +kernel
theorem dX6_set_47 : decode cX6_set 47 = .ok (.ireturn, 1) := by decide +kernel
theorem dX6_moveGoes_0 : decode cX6_moveGoes 0 = .ok (.bipush 95, 2) := by decide +kernel
theorem dX6_moveGoes_2 : decode cX6_moveGoes 2 = .ok (.iconst 4, 1) := by decide +kernel
theorem dX6_moveGoes_3 : decode cX6_moveGoes 3 = .ok (.iload_n 1, 1) := by decide +kernel
theorem dX6_moveGoes_4 : decode cX6_moveGoes 4 = .ok (.imul, 1) := by decide +kernel
theorem dX6_moveGoes_5 : decode cX6_moveGoes 5 = .ok (.iadd, 1) := by decide +kernel
theorem dX6_moveGoes_6 : decode cX6_moveGoes 6 = .ok (.istore_n 2, 1) := by decide +kernel
theorem dX6_moveGoes_7 : decode cX6_moveGoes 7 = .ok (.iload_n 2, 1) := by decide +kernel
theorem dX6_moveGoes_8 : decode cX6_moveGoes 8 = .ok (.bipush 95, 2) := by decide +kernel
theorem dX6_moveGoes_10 : decode cX6_moveGoes 10 = .ok (.iconst 4, 1) := by decide +kernel
theorem dX6_moveGoes_11 : decode cX6_moveGoes 11 = .ok (.aload_n 0, 1) := by decide +kernel
theorem dX6_moveGoes_12 : decode cX6_moveGoes 12 = .ok (.invokevirtual 75, 3) := by decide +kernel
theorem dX6_moveGoes_15 : decode cX6_moveGoes 15 = .ok (.iconst 1, 1) := by decide +kernel
theorem dX6_moveGoes_16 : decode cX6_moveGoes 16 = .ok (.isub, 1) := by decide +kernel
theorem dX6_moveGoes_17 : decode cX6_moveGoes 17 = .ok (.imul, 1) := by decide +kernel
theorem dX6_moveGoes_18 : decode cX6_moveGoes 18 = .ok (.iadd, 1) := by decide +kernel
theorem dX6_moveGoes_19 : decode cX6_moveGoes 19 = .ok (.if_icmp .ge 23, 3) := by decide +kernel
theorem dX6_moveGoes_22 : decode cX6_moveGoes 22 = .ok (.aload_n 0, 1) := by decide +kernel
theorem dX6_moveGoes_23 : decode cX6_moveGoes 23 = .ok (.getfield 7, 3) := by decide +kernel
theorem dX6_moveGoes_26 : decode cX6_moveGoes 26 = .ok (.iload_n 2, 1) := by decide +kernel
theorem dX6_moveGoes_27 : decode cX6_moveGoes 27 = .ok (.aload_n 0, 1) := by decide +kernel
theorem dX6_moveGoes_28 : decode cX6_moveGoes 28 = .ok (.getfield 7, 3) := by decide +kernel
theorem dX6_moveGoes_31 : decode cX6_moveGoes 31 = .ok (.iload_n 2, 1) := by decide +kernel
theorem dX6_moveGoes_32 : decode cX6_moveGoes 32 = .ok (.iconst 4, 1) := by decide +kernel
theorem dX6_moveGoes_33 : decode cX6_moveGoes 33 = .ok (.iadd, 1) := by decide +kernel
theorem dX6_moveGoes_34 : decode cX6_moveGoes 34 = .ok (.iaload, 1) := by decide +kernel
theorem dX6_moveGoes_35 : decode cX6_moveGoes 35 = .ok (.iastore, 1) := by decide +kernel
theorem dX6_moveGoes_36 : decode cX6_moveGoes 36 = .ok (.iinc 2 1, 3) := by decide +kernel
theorem dX6_moveGoes_39 : decode cX6_moveGoes 39 = .ok (.goto (-32), 3) := by decide +kernel
theorem dX6_moveGoes_42 : decode cX6_moveGoes 42 = .ok (.aload_n 0, 1) := by decide +kernel
theorem dX6_moveGoes_43 : decode cX6_moveGoes 43 = .ok (.getfield 7, 3) := by decide +kernel
theorem dX6_moveGoes_46 : decode cX6_moveGoes 46 = .ok (.iconst 2, 1) := by decide +kernel
theorem dX6_moveGoes_47 : decode cX6_moveGoes 47 = .ok (.dup2, 1) := by decide +kernel
theorem dX6_moveGoes_48 : decode cX6_moveGoes 48 = .ok (.iaload, 1) := by decide +kernel
theorem dX6_moveGoes_49 : decode cX6_moveGoes 49 = .ok (.iconst 1, 1) := by decide +kernel
theorem dX6_moveGoes_50 : decode cX6_moveGoes 50 = .ok (.isub, 1) := by decide +kernel
theorem dX6_moveGoes_51 : decode cX6_moveGoes 51 = .ok (.iastore, 1) := by decide +kernel
theorem dX6_moveGoes_52 : decode cX6_moveGoes 52 = .ok (.return_, 1) := by decide +kernel
theorem dX6_drop_0 : decode cX6_drop 0 = .ok (.aload_n 0, 1) := by decide +kernel
theorem dX6_drop_1 : decode cX6_drop 1 = .ok (.iconst 0, 1) := by decide +kernel
theorem dX6_drop_2 : decode cX6_drop 2 = .ok (.putfield 60, 3) := by decide +kernel
theorem dX6_drop_5 : decode cX6_drop 5 = .ok (.aload_n 0, 1) := by decide +kernel
theorem dX6_drop_6 : decode cX6_drop 6 = .ok (.invokevirtual 72, 3) := by decide +kernel
theorem dX6_drop_9 : decode cX6_drop 9 = .ok (.ifCond .ne 5, 3) := by decide +kernel
theorem dX6_drop_12 : decode cX6_drop 12 = .ok (.iconst (-1), 1) := by decide +kernel
theorem dX6_drop_13 : decode cX6_drop 13 = .ok (.ireturn, 1) := by decide +kernel
theorem dX6_drop_14 : decode cX6_drop 14 = .ok (.aload_n 0, 1) := by decide +kernel
theorem dX6_drop_15 : decode cX6_drop 15 = .ok (.getfield 7, 3) := by decide +kernel
theorem dX6_drop_18 : decode cX6_drop 18 = .ok (.iconst 1, 1) := by decide +kernel
theorem dX6_drop_19 : decode cX6_drop 19 = .ok (.dup2, 1) := by decide +kernel
theorem dX6_drop_20 : decode cX6_drop 20 = .ok (.iaload, 1) := by decide +kernel
theorem dX6_drop_21 : decode cX6_drop 21 = .ok (.iconst 1, 1) := by decide +kernel
theorem dX6_drop_22 : decode cX6_drop 22 = .ok (.isub, 1) := by decide +kernel
theorem dX6_drop_23 : decode cX6_drop 23 = .ok (.iastore, 1) := by decide +kernel
theorem dX6_drop_24 : decode cX6_drop 24 = .ok (.aload_n 0, 1) := by decide +kernel
theorem dX6_drop_25 : decode cX6_drop 25 = .ok (.invokevirtual 75, 3) := by decide +kernel
theorem dX6_drop_28 : decode cX6_drop 28 = .ok (.iconst 1, 1) := by decide +kernel
theorem dX6_drop_29 : decode cX6_drop 29 = .ok (.isub, 1) := by decide +kernel
theorem dX6_drop_30 : decode cX6_drop 30 = .ok (.istore_n 1, 1) := by decide +kernel
theorem dX6_drop_31 : decode cX6_drop 31 = .ok (.iload_n 1, 1) := by decide +kernel
theorem dX6_drop_32 : decode cX6_drop 32 = .ok (.ifCond .lt 27, 3) := by decide +kernel
theorem dX6_drop_35 : decode cX6_drop 35 = .ok (.aload_n 0, 1) := by decide +kernel
theorem dX6_drop_36 : decode cX6_drop 36 = .ok (.iload_n 1, 1) := by decide +kernel
theorem dX6_drop_37 : decode cX6_drop 37 = .ok (.iconst 1, 1) := by decide +kernel
theorem dX6_drop_38 : decode cX6_drop 38 = .ok (.invokevirtual 111, 3) := by decide +kernel
theorem dX6_drop_41 : decode cX6_drop 41 = .ok (.aload_n 0, 1) := by decide +kernel
theorem dX6_drop_42 : decode cX6_drop 42 = .ok (.invokevirtual 72, 3) := by decide +kernel
theorem dX6_drop_45 : decode cX6_drop 45 = .ok (.if_icmp .ne 8, 3) := by decide +kernel
theorem dX6_drop_48 : decode cX6_drop 48 = .ok (.aload_n 0, 1) := by decide +kernel
theorem dX6_drop_49 : decode cX6_drop 49 = .ok (.iload_n 1, 1) := by decide +kernel
theorem dX6_drop_50 : decode cX6_drop 50 = .ok (.invokevirtual 114, 3) := by decide +kernel
theorem dX6_drop_53 : decode cX6_drop 53 = .ok (.iinc 1 (-1), 3) := by decide +kernel
theorem dX6_drop_56 : decode cX6_drop 56 = .ok (.goto (-25), 3) := by decide +kernel
theorem dX6_drop_59 : decode cX6_drop 59 = .ok (.aload_n 0, 1) := by decide +kernel
theorem dX6_drop_60 : decode cX6_drop 60 = .ok (.invokevirtual 72, 3) := by decide +kernel
theorem dX6_drop_63 : decode cX6_drop 63 = .ok (.ireturn, 1) := by decide +kernel
theorem dX6_mayMove_0 : decode cX6_mayMove 0 = .ok (.iload_n 1, 1) := by decide +kernel
theorem dX6_mayMove_1 : decode cX6_mayMove 1 = .ok (.iconst 0, 1) := by decide +kernel
theorem dX6_mayMove_2 : decode cX6_mayMove 2 = .ok (.bipush 40, 2) := by decide +kernel
theorem dX6_mayMove_4 : decode cX6_mayMove 4 = .ok (.invokestatic 68, 3) := by decide +kernel
theorem dX6_mayMove_7 : decode cX6_mayMove 7 = .ok (.ifCond .eq 25, 3) := by decide +kernel
theorem dX6_mayMove_10 : decode cX6_mayMove 10 = .ok (.aload_n 0, 1) := by decide +kernel
theorem dX6_mayMove_11 : decode cX6_mayMove 11 = .ok (.iload_n 2, 1) := by decide +kernel
theorem dX6_mayMove_12 : decode cX6_mayMove 12 = .ok (.invokevirtual 94, 3) := by decide +kernel
theorem dX6_mayMove_15 : decode cX6_mayMove 15 = .ok (.ifCond .eq 17, 3) := by decide +kernel
theorem dX6_mayMove_18 : decode cX6_mayMove 18 = .ok (.iload_n 3, 1) := by decide +kernel
theorem dX6_mayMove_19 : decode cX6_mayMove 19 = .ok (.iconst 1, 1) := by decide +kernel
theorem dX6_mayMove_20 : decode cX6_mayMove 20 = .ok (.bipush 60, 2) := by decide +kernel
theorem dX6_mayMove_22 : decode cX6_mayMove 22 = .ok (.invokestatic 68, 3) := by decide +kernel
theorem dX6_mayMove_25 : decode cX6_mayMove 25 = .ok (.ifCond .eq 7, 3) := by decide +kernel
theorem dX6_mayMove_28 : decode cX6_mayMove 28 = .ok (.iconst 1, 1) := by decide +kernel
theorem dX6_mayMove_29 : decode cX6_mayMove 29 = .ok (.goto 4, 3) := by decide +kernel
theorem dX6_mayMove_32 : decode cX6_mayMove 32 = .ok (.iconst 0, 1) := by decide +kernel
theorem dX6_mayMove_33 : decode cX6_mayMove 33 = .ok (.ireturn, 1) := by decide +kernel
theorem dX6_move_0 : decode cX6_move 0 = .ok (.aload_n 0, 1) := by decide +kernel
theorem dX6_move_1 : decode cX6_move 1 = .ok (.iconst 0, 1) := by decide +kernel
theorem dX6_move_2 : decode cX6_move 2 = .ok (.putfield 60, 3) := by decide +kernel
theorem dX6_move_5 : decode cX6_move 5 = .ok (.aload_n 0, 1) := by decide +kernel
theorem dX6_move_6 : decode cX6_move 6 = .ok (.iload_n 1, 1) := by decide +kernel
theorem dX6_move_7 : decode cX6_move 7 = .ok (.iload_n 2, 1) := by decide +kernel
theorem dX6_move_8 : decode cX6_move 8 = .ok (.iload 4, 2) := by decide +kernel
theorem dX6_move_10 : decode cX6_move 10 = .ok (.invokevirtual 118, 3) := by decide +kernel
theorem dX6_move_13 : decode cX6_move 13 = .ok (.ifCond .ne 5, 3) := by decide +kernel
theorem dX6_move_16 : decode cX6_move 16 = .ok (.iconst (-1), 1) := by decide +kernel
theorem dX6_move_17 : decode cX6_move 17 = .ok (.ireturn, 1) := by decide +kernel
theorem dX6_move_18 : decode cX6_move 18 = .ok (.aload_n 0, 1) := by decide +kernel
theorem dX6_move_19 : decode cX6_move 19 = .ok (.invokevirtual 75, 3) := by decide +kernel
theorem dX6_move_22 : decode cX6_move 22 = .ok (.bipush 40, 2) := by decide +kernel
theorem dX6_move_24 : decode cX6_move 24 = .ok (.if_icmp .ne 6, 3) := by decide +kernel
theorem dX6_move_27 : decode cX6_move 27 = .ok (.bipush (-2), 2) := by decide +kernel
theorem dX6_move_29 : decode cX6_move 29 = .ok (.ireturn, 1) := by decide +kernel
theorem dX6_move_30 : decode cX6_move 30 = .ok (.aload_n 0, 1) := by decide +kernel
theorem dX6_move_31 : decode cX6_move 31 = .ok (.iload_n 1, 1) := by decide +kernel
theorem dX6_move_32 : decode cX6_move 32 = .ok (.iload_n 2, 1) := by decide +kernel
theorem dX6_move_33 : decode cX6_move 33 = .ok (.iload_n 3, 1) := by decide +kernel
theorem dX6_move_34 : decode cX6_move 34 = .ok (.ifCond .eq 7, 3) := by decide +kernel
theorem dX6_move_37 : decode cX6_move 37 = .ok (.iconst 1, 1) := by decide +kernel
theorem dX6_move_38 : decode cX6_move 38 = .ok (.goto 4, 3) := by decide +kernel
theorem dX6_move_41 : decode cX6_move 41 = .ok (.iconst 0, 1) := by decide +kernel
theorem dX6_move_42 : decode cX6_move 42 = .ok (.iload 4, 2) := by decide +kernel
theorem dX6_move_44 : decode cX6_move 44 = .ok (.invokevirtual 121, 3) := by decide +kernel
theorem dX6_move_47 : decode cX6_move 47 = .ok (.aload_n 0, 1) := by decide +kernel
theorem dX6_move_48 : decode cX6_move 48 = .ok (.invokevirtual 75, 3) := by decide +kernel
theorem dX6_move_51 : decode cX6_move 51 = .ok (.iconst 1, 1) := by decide +kernel
theorem dX6_move_52 : decode cX6_move 52 = .ok (.isub, 1) := by decide +kernel
theorem dX6_move_53 : decode cX6_move 53 = .ok (.ireturn, 1) := by decide +kernel
theorem dX6_back_0 : decode cX6_back 0 = .ok (.aload_n 0, 1) := by decide +kernel
theorem dX6_back_1 : decode cX6_back 1 = .ok (.iconst 0, 1) := by decide +kernel
theorem dX6_back_2 : decode cX6_back 2 = .ok (.putfield 60, 3) := by decide +kernel
theorem dX6_back_5 : decode cX6_back 5 = .ok (.iload_n 1, 1) := by decide +kernel
theorem dX6_back_6 : decode cX6_back 6 = .ok (.iconst 1, 1) := by decide +kernel
theorem dX6_back_7 : decode cX6_back 7 = .ok (.if_icmp .ge 5, 3) := by decide +kernel
theorem dX6_back_10 : decode cX6_back 10 = .ok (.iconst (-1), 1) := by decide +kernel
theorem dX6_back_11 : decode cX6_back 11 = .ok (.ireturn, 1) := by decide +kernel
theorem dX6_back_12 : decode cX6_back 12 = .ok (.aload_n 0, 1) := by decide +kernel
theorem dX6_back_13 : decode cX6_back 13 = .ok (.getfield 7, 3) := by decide +kernel
theorem dX6_back_16 : decode cX6_back 16 = .ok (.iconst 2, 1) := by decide +kernel
theorem dX6_back_17 : decode cX6_back 17 = .ok (.dup2, 1) := by decide +kernel
theorem dX6_back_18 : decode cX6_back 18 = .ok (.iaload, 1) := by decide +kernel
theorem dX6_back_19 : decode cX6_back 19 = .ok (.iload_n 1, 1) := by decide +kernel
theorem dX6_back_20 : decode cX6_back 20 = .ok (.aload_n 0, 1) := by decide +kernel
theorem dX6_back_21 : decode cX6_back 21 = .ok (.invokevirtual 75, 3) := by decide +kernel
theorem dX6_back_24 : decode cX6_back 24 = .ok (.invokestatic 124, 3) := by decide +kernel
theorem dX6_back_27 : decode cX6_back 27 = .ok (.isub, 1) := by decide +kernel
theorem dX6_back_28 : decode cX6_back 28 = .ok (.iastore, 1) := by decide +kernel
theorem dX6_back_29 : decode cX6_back 29 = .ok (.aload_n 0, 1) := by decide +kernel
theorem dX6_back_30 : decode cX6_back 30 = .ok (.invokevirtual 75, 3) := by decide +kernel
theorem dX6_back_33 : decode cX6_back 33 = .ok (.ireturn, 1) := by decide +kernel
theorem dX6_sum_0 : decode cX6_sum 0 = .ok (.iconst 0, 1) := by decide +kernel
theorem dX6_sum_1 : decode cX6_sum 1 = .ok (.istore_n 2, 1) := by decide +kernel
theorem dX6_sum_2 : decode cX6_sum 2 = .ok (.iconst 0, 1) := by decide +kernel
theorem dX6_sum_3 : decode cX6_sum 3 = .ok (.istore_n 3, 1) := by decide +kernel
theorem dX6_sum_4 : decode cX6_sum 4 = .ok (.iload_n 3, 1) := by decide +kernel
theorem dX6_sum_5 : decode cX6_sum 5 = .ok (.aload_n 0, 1) := by decide +kernel
theorem dX6_sum_6 : decode cX6_sum 6 = .ok (.invokevirtual 64, 3) := by decide +kernel
theorem dX6_sum_9 : decode cX6_sum 9 = .ok (.if_icmp .ge 18, 3) := by decide +kernel
theorem dX6_sum_12 : decode cX6_sum 12 = .ok (.iload_n 2, 1) := by decide +kernel
theorem dX6_sum_13 : decode cX6_sum 13 = .ok (.aload_n 0, 1) := by decide +kernel
theorem dX6_sum_14 : decode cX6_sum 14 = .ok (.iload_n 3, 1) := by decide +kernel
theorem dX6_sum_15 : decode cX6_sum 15 = .ok (.iload_n 1, 1) := by decide +kernel
theorem dX6_sum_16 : decode cX6_sum 16 = .ok (.invokevirtual 108, 3) := by decide +kernel
theorem dX6_sum_19 : decode cX6_sum 19 = .ok (.iadd, 1) := by decide +kernel
theorem dX6_sum_20 : decode cX6_sum 20 = .ok (.istore_n 2, 1) := by decide +kernel
theorem dX6_sum_21 : decode cX6_sum 21 = .ok (.iinc 3 1, 3) := by decide +kernel
theorem dX6_sum_24 : decode cX6_sum 24 = .ok (.goto (-20), 3) := by decide +kernel
theorem dX6_sum_27 : decode cX6_sum 27 = .ok (.iload_n 2, 1) := by decide +kernel
theorem dX6_sum_28 : decode cX6_sum 28 = .ok (.ireturn, 1) := by decide +kernel
theorem dX6_count_0 : decode cX6_count 0 = .ok (.aload_n 0, 1) := by decide +kernel
theorem dX6_count_1 : decode cX6_count 1 = .ok (.iconst 0, 1) := by decide +kernel
theorem dX6_count_2 : decode cX6_count 2 = .ok (.putfield 60, 3) := by decide +kernel
theorem dX6_count_5 : decode cX6_count 5 = .ok (.iload_n 1, 1) := by decide +kernel
theorem dX6_count_6 : decode cX6_count 6 = .ok (.tableswitch 62 0 5 #[38, 38, 38, 45, 50, 56], 38) := by decide +kernel
theorem dX6_count_44 : decode cX6_count 44 = .ok (.aload_n 0, 1) := by decide +kernel
theorem dX6_count_45 : decode cX6_count 45 = .ok (.getfield 7, 3) := by decide +kernel
theorem dX6_count_48 : decode cX6_count 48 = .ok (.iload_n 1, 1) := by decide +kernel
theorem dX6_count_49 : decode cX6_count 49 = .ok (.iaload, 1) := by decide +kernel
theorem dX6_count_50 : decode cX6_count 50 = .ok (.ireturn, 1) := by decide +kernel
theorem dX6_count_51 : decode cX6_count 51 = .ok (.aload_n 0, 1) := by decide +kernel
theorem dX6_count_52 : decode cX6_count 52 = .ok (.getfield 127, 3) := by decide +kernel
theorem dX6_count_55 : decode cX6_count 55 = .ok (.ireturn, 1) := by decide +kernel
theorem dX6_count_56 : decode cX6_count 56 = .ok (.aload_n 0, 1) := by decide +kernel
theorem dX6_count_57 : decode cX6_count 57 = .ok (.iconst 0, 1) := by decide +kernel
theorem dX6_count_58 : decode cX6_count 58 = .ok (.invokevirtual 130, 3) := by decide +kernel
theorem dX6_count_61 : decode cX6_count 61 = .ok (.ireturn, 1) := by decide +kernel
theorem dX6_count_62 : decode cX6_count 62 = .ok (.aload_n 0, 1) := by decide +kernel
theorem dX6_count_63 : decode cX6_count 63 = .ok (.iconst 1, 1) := by decide +kernel
theorem dX6_count_64 : decode cX6_count 64 = .ok (.invokevirtual 130, 3) := by decide +kernel
theorem dX6_count_67 : decode cX6_count 67 = .ok (.ireturn, 1) := by decide +kernel
theorem dX6_count_68 : decode cX6_count 68 = .ok (.iconst (-1), 1) := by decide +kernel
theorem dX6_count_69 : decode cX6_count 69 = .ok (.ireturn, 1) := by decide +kernel
theorem dX6_of_0 : decode cX6_of 0 = .ok (.aload_n 0, 1) := by decide +kernel
theorem dX6_of_1 : decode cX6_of 1 = .ok (.iconst 0, 1) := by decide +kernel
theorem dX6_of_2 : decode cX6_of 2 = .ok (.putfield 60, 3) := by decide +kernel
theorem dX6_of_5 : decode cX6_of 5 = .ok (.aload_n 0, 1) := by decide +kernel
theorem dX6_of_6 : decode cX6_of 6 = .ok (.iload_n 1, 1) := by decide +kernel
theorem dX6_of_7 : decode cX6_of 7 = .ok (.invokevirtual 86, 3) := by decide +kernel
theorem dX6_of_10 : decode cX6_of 10 = .ok (.ifCond .eq 21, 3) := by decide +kernel
theorem dX6_of_13 : decode cX6_of 13 = .ok (.iload_n 2, 1) := by decide +kernel
theorem dX6_of_14 : decode cX6_of 14 = .ok (.iconst 0, 1) := by decide +kernel
theorem dX6_of_15 : decode cX6_of 15 = .ok (.iconst 3, 1) := by decide +kernel
theorem dX6_of_16 : decode cX6_of 16 = .ok (.invokestatic 68, 3) := by decide +kernel
theorem dX6_of_19 : decode cX6_of 19 = .ok (.ifCond .eq 12, 3) := by decide +kernel
theorem dX6_of_22 : decode cX6_of 22 = .ok (.aload_n 0, 1) := by decide +kernel
theorem dX6_of_23 : decode cX6_of 23 = .ok (.iload_n 1, 1) := by decide +kernel
theorem dX6_of_24 : decode cX6_of 24 = .ok (.iload_n 2, 1) := by decide +kernel
theorem dX6_of_25 : decode cX6_of 25 = .ok (.invokevirtual 108, 3) := by decide +kernel
theorem dX6_of_28 : decode cX6_of 28 = .ok (.goto 4, 3) := by decide +kernel
theorem dX6_of_31 : decode cX6_of 31 = .ok (.iconst (-1), 1) := by decide +kernel
theorem dX6_of_32 : decode cX6_of 32 = .ok (.ireturn, 1) := by decide +kernel
theorem dX6_along_0 : decode cX6_along 0 = .ok (.aload_n 0, 1) := by decide +kernel
theorem dX6_along_1 : decode cX6_along 1 = .ok (.aload_n 0, 1) := by decide +kernel
theorem dX6_along_2 : decode cX6_along 2 = .ok (.iload_n 1, 1) := by decide +kernel
theorem dX6_along_3 : decode cX6_along 3 = .ok (.invokevirtual 94, 3) := by decide +kernel
theorem dX6_along_6 : decode cX6_along 6 = .ok (.ifCond .eq 16, 3) := by decide +kernel
theorem dX6_along_9 : decode cX6_along 9 = .ok (.iload_n 2, 1) := by decide +kernel
theorem dX6_along_10 : decode cX6_along 10 = .ok (.iconst 0, 1) := by decide +kernel
theorem dX6_along_11 : decode cX6_along 11 = .ok (.iconst 4, 1) := by decide +kernel
theorem dX6_along_12 : decode cX6_along 12 = .ok (.invokestatic 68, 3) := by decide +kernel
theorem dX6_along_15 : decode cX6_along 15 = .ok (.ifCond .eq 7, 3) := by decide +kernel
theorem dX6_along_18 : decode cX6_along 18 = .ok (.iconst 0, 1) := by decide +kernel
theorem dX6_along_19 : decode cX6_along 19 = .ok (.goto 4, 3) := by decide +kernel
theorem dX6_along_22 : decode cX6_along 22 = .ok (.iconst 1, 1) := by decide +kernel
theorem dX6_along_23 : decode cX6_along 23 = .ok (.putfield 60, 3) := by decide +kernel
theorem dX6_along_26 : decode cX6_along 26 = .ok (.aload_n 0, 1) := by decide +kernel
theorem dX6_along_27 : decode cX6_along 27 = .ok (.getfield 60, 3) := by decide +kernel
theorem dX6_along_30 : decode cX6_along 30 = .ok (.iconst 1, 1) := by decide +kernel
theorem dX6_along_31 : decode cX6_along 31 = .ok (.if_icmp .ne 7, 3) := by decide +kernel
theorem dX6_along_34 : decode cX6_along 34 = .ok (.iconst 0, 1) := by decide +kernel
theorem dX6_along_35 : decode cX6_along 35 = .ok (.goto 9, 3) := by decide +kernel
theorem dX6_along_38 : decode cX6_along 38 = .ok (.aload_n 0, 1) := by decide +kernel
theorem dX6_along_39 : decode cX6_along 39 = .ok (.iload_n 1, 1) := by decide +kernel
theorem dX6_along_40 : decode cX6_along 40 = .ok (.iload_n 2, 1) := by decide +kernel
theorem dX6_along_41 : decode cX6_along 41 = .ok (.invokevirtual 97, 3) := by decide +kernel
theorem dX6_along_44 : decode cX6_along 44 = .ok (.ireturn, 1) := by decide +kernel
theorem dX6_moved_0 : decode cX6_moved 0 = .ok (.aload_n 0, 1) := by decide +kernel
theorem dX6_moved_1 : decode cX6_moved 1 = .ok (.iconst 0, 1) := by decide +kernel
theorem dX6_moved_2 : decode cX6_moved 2 = .ok (.putfield 60, 3) := by decide +kernel
theorem dX6_moved_5 : decode cX6_moved 5 = .ok (.iload_n 1, 1) := by decide +kernel
theorem dX6_moved_6 : decode cX6_moved 6 = .ok (.iconst 0, 1) := by decide +kernel
theorem dX6_moved_7 : decode cX6_moved 7 = .ok (.aload_n 0, 1) := by decide +kernel
theorem dX6_moved_8 : decode cX6_moved 8 = .ok (.invokevirtual 75, 3) := by decide +kernel
theorem dX6_moved_11 : decode cX6_moved 11 = .ok (.iconst 1, 1) := by decide +kernel
theorem dX6_moved_12 : decode cX6_moved 12 = .ok (.isub, 1) := by decide +kernel
theorem dX6_moved_13 : decode cX6_moved 13 = .ok (.invokestatic 68, 3) := by decide +kernel
theorem dX6_moved_16 : decode cX6_moved 16 = .ok (.ifCond .eq 21, 3) := by decide +kernel
theorem dX6_moved_19 : decode cX6_moved 19 = .ok (.iload_n 2, 1) := by decide +kernel
theorem dX6_moved_20 : decode cX6_moved 20 = .ok (.iconst 0, 1) := by decide +kernel
theorem dX6_moved_21 : decode cX6_moved 21 = .ok (.iconst 3, 1) := by decide +kernel
theorem dX6_moved_22 : decode cX6_moved 22 = .ok (.invokestatic 68, 3) := by decide +kernel
theorem dX6_moved_25 : decode cX6_moved 25 = .ok (.ifCond .eq 12, 3) := by decide +kernel
theorem dX6_moved_28 : decode cX6_moved 28 = .ok (.aload_n 0, 1) := by decide +kernel
theorem dX6_moved_29 : decode cX6_moved 29 = .ok (.iload_n 1, 1) := by decide +kernel
theorem dX6_moved_30 : decode cX6_moved 30 = .ok (.iload_n 2, 1) := by decide +kernel
theorem dX6_moved_31 : decode cX6_moved 31 = .ok (.invokevirtual 111, 3) := by decide +kernel
theorem dX6_moved_34 : decode cX6_moved 34 = .ok (.goto 4, 3) := by decide +kernel
theorem dX6_moved_37 : decode cX6_moved 37 = .ok (.iconst (-1), 1) := by decide +kernel
theorem dX6_moved_38 : decode cX6_moved 38 = .ok (.ireturn, 1) := by decide +kernel
theorem dX6_put_0 : decode cX6_put 0 = .ok (.bipush 24, 2) := by decide +kernel
theorem dX6_put_2 : decode cX6_put 2 = .ok (.istore_n 2, 1) := by decide +kernel
theorem dX6_put_3 : decode cX6_put 3 = .ok (.iload_n 2, 1) := by decide +kernel
theorem dX6_put_4 : decode cX6_put 4 = .ok (.ifCond .lt 32, 3) := by decide +kernel
theorem dX6_put_7 : decode cX6_put 7 = .ok (.aload_n 0, 1) := by decide +kernel
theorem dX6_put_8 : decode cX6_put 8 = .ok (.getfield 16, 3) := by decide +kernel
theorem dX6_put_11 : decode cX6_put 11 = .ok (.aload_n 0, 1) := by decide +kernel
theorem dX6_put_12 : decode cX6_put 12 = .ok (.getfield 127, 3) := by decide +kernel
theorem dX6_put_15 : decode cX6_put 15 = .ok (.iload_n 1, 1) := by decide +kernel
theorem dX6_put_16 : decode cX6_put 16 = .ok (.iload_n 2, 1) := by decide +kernel
theorem dX6_put_17 : decode cX6_put 17 = .ok (.ishr, 1) := by decide +kernel
theorem dX6_put_18 : decode cX6_put 18 = .ok (.i2b, 1) := by decide +kernel
theorem dX6_put_19 : decode cX6_put 19 = .ok (.bastore, 1) := by decide +kernel
theorem dX6_put_20 : decode cX6_put 20 = .ok (.aload_n 0, 1) := by decide +kernel
theorem dX6_put_21 : decode cX6_put 21 = .ok (.dup, 1) := by decide +kernel
theorem dX6_put_22 : decode cX6_put 22 = .ok (.getfield 127, 3) := by decide +kernel
theorem dX6_put_25 : decode cX6_put 25 = .ok (.iconst 1, 1) := by decide +kernel
theorem dX6_put_26 : decode cX6_put 26 = .ok (.iadd, 1) := by decide +kernel
theorem dX6_put_27 : decode cX6_put 27 = .ok (.putfield 127, 3) := by decide +kernel
theorem dX6_put_30 : decode cX6_put 30 = .ok (.iinc 2 (-8), 3) := by decide +kernel
theorem dX6_put_33 : decode cX6_put 33 = .ok (.goto (-30), 3) := by decide +kernel
theorem dX6_put_36 : decode cX6_put 36 = .ok (.return_, 1) := by decide +kernel
theorem dX6_feed_0 : decode cX6_feed 0 = .ok (.aload_n 0, 1) := by decide +kernel
theorem dX6_feed_1 : decode cX6_feed 1 = .ok (.iconst 0, 1) := by decide +kernel
theorem dX6_feed_2 : decode cX6_feed 2 = .ok (.putfield 60, 3) := by decide +kernel
theorem dX6_feed_5 : decode cX6_feed 5 = .ok (.aload_n 0, 1) := by decide +kernel
theorem dX6_feed_6 : decode cX6_feed 6 = .ok (.getfield 127, 3) := by decide +kernel
theorem dX6_feed_9 : decode cX6_feed 9 = .ok (.bipush 20, 2) := by decide +kernel
theorem dX6_feed_11 : decode cX6_feed 11 = .ok (.iadd, 1) := by decide +kernel
theorem dX6_feed_12 : decode cX6_feed 12 = .ok (.sipush 400, 3) := by decide +kernel
theorem dX6_feed_15 : decode cX6_feed 15 = .ok (.if_icmp .le 5, 3) := by decide +kernel
theorem dX6_feed_18 : decode cX6_feed 18 = .ok (.iconst (-1), 1) := by decide +kernel
theorem dX6_feed_19 : decode cX6_feed 19 = .ok (.ireturn, 1) := by decide +kernel
theorem dX6_feed_20 : decode cX6_feed 20 = .ok (.aload_n 0, 1) := by decide +kernel
theorem dX6_feed_21 : decode cX6_feed 21 = .ok (.iload_n 1, 1) := by decide +kernel
theorem dX6_feed_22 : decode cX6_feed 22 = .ok (.invokevirtual 134, 3) := by decide +kernel
theorem dX6_feed_25 : decode cX6_feed 25 = .ok (.aload_n 0, 1) := by decide +kernel
theorem dX6_feed_26 : decode cX6_feed 26 = .ok (.iload_n 2, 1) := by decide +kernel
theorem dX6_feed_27 : decode cX6_feed 27 = .ok (.invokevirtual 134, 3) := by decide +kernel
theorem dX6_feed_30 : decode cX6_feed 30 = .ok (.aload_n 0, 1) := by decide +kernel
theorem dX6_feed_31 : decode cX6_feed 31 = .ok (.iload_n 3, 1) := by decide +kernel
theorem dX6_feed_32 : decode cX6_feed 32 = .ok (.invokevirtual 134, 3) := by decide +kernel
theorem dX6_feed_35 : decode cX6_feed 35 = .ok (.aload_n 0, 1) := by decide +kernel
theorem dX6_feed_36 : decode cX6_feed 36 = .ok (.iload 4, 2) := by decide +kernel
theorem dX6_feed_38 : decode cX6_feed 38 = .ok (.invokevirtual 134, 3) := by decide +kernel
theorem dX6_feed_41 : decode cX6_feed 41 = .ok (.aload_n 0, 1) := by decide +kernel
theorem dX6_feed_42 : decode cX6_feed 42 = .ok (.iload 5, 2) := by decide +kernel
theorem dX6_feed_44 : decode cX6_feed 44 = .ok (.invokevirtual 134, 3) := by decide +kernel
theorem dX6_feed_47 : decode cX6_feed 47 = .ok (.aload_n 0, 1) := by decide +kernel
theorem dX6_feed_48 : decode cX6_feed 48 = .ok (.getfield 127, 3) := by decide +kernel
theorem dX6_feed_51 : decode cX6_feed 51 = .ok (.ireturn, 1) := by decide +kernel
theorem dX6_end_0 : decode cX6_end 0 = .ok (.aload_n 0, 1) := by decide +kernel
theorem dX6_end_1 : decode cX6_end 1 = .ok (.iconst 0, 1) := by decide +kernel
theorem dX6_end_2 : decode cX6_end 2 = .ok (.putfield 60, 3) := by decide +kernel
theorem dX6_end_5 : decode cX6_end 5 = .ok (.iload_n 1, 1) := by decide +kernel
theorem dX6_end_6 : decode cX6_end 6 = .ok (.iconst 0, 1) := by decide +kernel
theorem dX6_end_7 : decode cX6_end 7 = .ok (.aload_n 0, 1) := by decide +kernel
theorem dX6_end_8 : decode cX6_end 8 = .ok (.getfield 127, 3) := by decide +kernel
theorem dX6_end_11 : decode cX6_end 11 = .ok (.invokestatic 68, 3) := by decide +kernel
theorem dX6_end_14 : decode cX6_end 14 = .ok (.ifCond .ne 5, 3) := by decide +kernel
theorem dX6_end_17 : decode cX6_end 17 = .ok (.iconst 0, 1) := by decide +kernel
theorem dX6_end_18 : decode cX6_end 18 = .ok (.ireturn, 1) := by decide +kernel
theorem dX6_end_19 : decode cX6_end 19 = .ok (.aload_n 0, 1) := by decide +kernel
theorem dX6_end_20 : decode cX6_end 20 = .ok (.iload_n 1, 1) := by decide +kernel
theorem dX6_end_21 : decode cX6_end 21 = .ok (.putfield 127, 3) := by decide +kernel
theorem dX6_end_24 : decode cX6_end 24 = .ok (.iconst 1, 1) := by decide +kernel
theorem dX6_end_25 : decode cX6_end 25 = .ok (.ireturn, 1) := by decide +kernel
theorem dX6_here_0 : decode cX6_here 0 = .ok (.aload_n 0, 1) := by decide +kernel
theorem dX6_here_1 : decode cX6_here 1 = .ok (.getfield 137, 3) := by decide +kernel
theorem dX6_here_4 : decode cX6_here 4 = .ok (.aload_n 0, 1) := by decide +kernel
theorem dX6_here_5 : decode cX6_here 5 = .ok (.getfield 140, 3) := by decide +kernel
theorem dX6_here_8 : decode cX6_here 8 = .ok (.if_icmp .ge 44, 3) := by decide +kernel
theorem dX6_here_11 : decode cX6_here 11 = .ok (.aload_n 0, 1) := by decide +kernel
theorem dX6_here_12 : decode cX6_here 12 = .ok (.getfield 16, 3) := by decide +kernel
theorem dX6_here_15 : decode cX6_here 15 = .ok (.aload_n 0, 1) := by decide +kernel
theorem dX6_here_16 : decode cX6_here 16 = .ok (.getfield 137, 3) := by decide +kernel
theorem dX6_here_19 : decode cX6_here 19 = .ok (.baload, 1) := by decide +kernel
theorem dX6_here_20 : decode cX6_here 20 = .ok (.bipush 32, 2) := by decide +kernel
theorem dX6_here_22 : decode cX6_here 22 = .ok (.if_icmp .eq 17, 3) := by decide +kernel
theorem dX6_here_25 : decode cX6_here 25 = .ok (.aload_n 0, 1) := by decide +kernel
theorem dX6_here_26 : decode cX6_here 26 = .ok (.getfield 16, 3) := by decide +kernel
theorem dX6_here_29 : decode cX6_here 29 = .ok (.aload_n 0, 1) := by decide +kernel
theorem dX6_here_30 : decode cX6_here 30 = .ok (.getfield 137, 3) := by decide +kernel
theorem dX6_here_33 : decode cX6_here 33 = .ok (.baload, 1) := by decide +kernel
theorem dX6_here_34 : decode cX6_here 34 = .ok (.bipush 10, 2) := by decide +kernel
theorem dX6_here_36 : decode cX6_here 36 = .ok (.if_icmp .ne 16, 3) := by decide +kernel
theorem dX6_here_39 : decode cX6_here 39 = .ok (.aload_n 0, 1) := by decide +kernel
theorem dX6_here_40 : decode cX6_here 40 = .ok (.dup, 1) := by decide +kernel
theorem dX6_here_41 : decode cX6_here 41 = .ok (.getfield 137, 3) := by decide +kernel
theorem dX6_here_44 : decode cX6_here 44 = .ok (.iconst 1, 1) := by decide +kernel
theorem dX6_here_45 : decode cX6_here 45 = .ok (.iadd, 1) := by decide +kernel
theorem dX6_here_46 : decode cX6_here 46 = .ok (.putfield 137, 3) := by decide +kernel
theorem dX6_here_49 : decode cX6_here 49 = .ok (.goto (-49), 3) := by decide +kernel
theorem dX6_here_52 : decode cX6_here 52 = .ok (.aload_n 0, 1) := by decide +kernel
theorem dX6_here_53 : decode cX6_here 53 = .ok (.getfield 137, 3) := by decide +kernel
theorem dX6_here_56 : decode cX6_here 56 = .ok (.aload_n 0, 1) := by decide +kernel
theorem dX6_here_57 : decode cX6_here 57 = .ok (.getfield 140, 3) := by decide +kernel
theorem dX6_here_60 : decode cX6_here 60 = .ok (.if_icmp .ge 19, 3) := by decide +kernel
theorem dX6_here_63 : decode cX6_here 63 = .ok (.aload_n 0, 1) := by decide +kernel
theorem dX6_here_64 : decode cX6_here 64 = .ok (.getfield 16, 3) := by decide +kernel
theorem dX6_here_67 : decode cX6_here 67 = .ok (.aload_n 0, 1) := by decide +kernel
theorem dX6_here_68 : decode cX6_here 68 = .ok (.getfield 137, 3) := by decide +kernel
theorem dX6_here_71 : decode cX6_here 71 = .ok (.baload, 1) := by decide +kernel
theorem dX6_here_72 : decode cX6_here 72 = .ok (.sipush 255, 3) := by decide +kernel
theorem dX6_here_75 : decode cX6_here 75 = .ok (.iand, 1) := by decide +kernel
theorem dX6_here_76 : decode cX6_here 76 = .ok (.goto 4, 3) := by decide +kernel
theorem dX6_here_79 : decode cX6_here 79 = .ok (.iconst (-1), 1) := by decide +kernel
theorem dX6_here_80 : decode cX6_here 80 = .ok (.ireturn, 1) := by decide +kernel
theorem dX6_fails_0 : decode cX6_fails 0 = .ok (.aload_n 0, 1) := by decide +kernel
theorem dX6_fails_1 : decode cX6_fails 1 = .ok (.getfield 143, 3) := by decide +kernel
theorem dX6_fails_4 : decode cX6_fails 4 = .ok (.ifCond .ne 13, 3) := by decide +kernel
theorem dX6_fails_7 : decode cX6_fails 7 = .ok (.aload_n 0, 1) := by decide +kernel
theorem dX6_fails_8 : decode cX6_fails 8 = .ok (.iload_n 1, 1) := by decide +kernel
theorem dX6_fails_9 : decode cX6_fails 9 = .ok (.bipush 8, 2) := by decide +kernel
theorem dX6_fails_11 : decode cX6_fails 11 = .ok (.iload_n 2, 1) := by decide +kernel
theorem dX6_fails_12 : decode cX6_fails 12 = .ok (.imul, 1) := by decide +kernel
theorem dX6_fails_13 : decode cX6_fails 13 = .ok (.iadd, 1) := by decide +kernel
theorem dX6_fails_14 : decode cX6_fails 14 = .ok (.putfield 143, 3) := by decide +kernel
theorem dX6_fails_17 : decode cX6_fails 17 = .ok (.return_, 1) := by decide +kernel
theorem dX6_isDigitAt_0 : decode cX6_isDigitAt 0 = .ok (.iload_n 1, 1) := by decide +kernel
theorem dX6_isDigitAt_1 : decode cX6_isDigitAt 1 = .ok (.aload_n 0, 1) := by decide +kernel
theorem dX6_isDigitAt_2 : decode cX6_isDigitAt 2 = .ok (.getfield 140, 3) := by decide +kernel
theorem dX6_isDigitAt_5 : decode cX6_isDigitAt 5 = .ok (.if_icmp .ge 23, 3) := by decide +kernel
theorem dX6_isDigitAt_8 : decode cX6_isDigitAt 8 = .ok (.aload_n 0, 1) := by decide +kernel
theorem dX6_isDigitAt_9 : decode cX6_isDigitAt 9 = .ok (.getfield 16, 3) := by decide +kernel
theorem dX6_isDigitAt_12 : decode cX6_isDigitAt 12 = .ok (.iload_n 1, 1) := by decide +kernel
theorem dX6_isDigitAt_13 : decode cX6_isDigitAt 13 = .ok (.baload, 1) := by decide +kernel
theorem dX6_isDigitAt_14 : decode cX6_isDigitAt 14 = .ok (.bipush 48, 2) := by decide +kernel
theorem dX6_isDigitAt_16 : decode cX6_isDigitAt 16 = .ok (.bipush 57, 2) := by decide +kernel
theorem dX6_isDigitAt_18 : decode cX6_isDigitAt 18 = .ok (.invokestatic 68, 3) := by decide +kernel
theorem dX6_isDigitAt_21 : decode cX6_isDigitAt 21 = .ok (.ifCond .eq 7, 3) := by decide +kernel
theorem dX6_isDigitAt_24 : decode cX6_isDigitAt 24 = .ok (.iconst 1, 1) := by decide +kernel
theorem dX6_isDigitAt_25 : decode cX6_isDigitAt 25 = .ok (.goto 4, 3) := by decide +kernel
theorem dX6_isDigitAt_28 : decode cX6_isDigitAt 28 = .ok (.iconst 0, 1) := by decide +kernel
theorem dX6_isDigitAt_29 : decode cX6_isDigitAt 29 = .ok (.ireturn, 1) := by decide +kernel
theorem dX6_number_0 : decode cX6_number 0 = .ok (.aload_n 0, 1) := by decide +kernel
theorem dX6_number_1 : decode cX6_number 1 = .ok (.getfield 143, 3) := by decide +kernel
theorem dX6_number_4 : decode cX6_number 4 = .ok (.ifCond .eq 5, 3) := by decide +kernel
theorem dX6_number_7 : decode cX6_number 7 = .ok (.iconst 0, 1) := by decide +kernel
theorem dX6_number_8 : decode cX6_number 8 = .ok (.ireturn, 1) := by decide +kernel
theorem dX6_number_9 : decode cX6_number 9 = .ok (.aload_n 0, 1) := by decide +kernel
theorem dX6_number_10 : decode cX6_number 10 = .ok (.invokevirtual 146, 3) := by decide +kernel
theorem dX6_number_13 : decode cX6_number 13 = .ok (.bipush 45, 2) := by decide +kernel
theorem dX6_number_15 : decode cX6_number 15 = .ok (.if_icmp .ne 7, 3) := by decide +kernel
theorem dX6_number_18 : decode cX6_number 18 = .ok (.iconst 1, 1) := by decide +kernel
theorem dX6_number_19 : decode cX6_number 19 = .ok (.goto 4, 3) := by decide +kernel
theorem dX6_number_22 : decode cX6_number 22 = .ok (.iconst 0, 1) := by decide +kernel
theorem dX6_number_23 : decode cX6_number 23 = .ok (.istore_n 1, 1) := by decide +kernel
theorem dX6_number_24 : decode cX6_number 24 = .ok (.aload_n 0, 1) := by decide +kernel
theorem dX6_number_25 : decode cX6_number 25 = .ok (.aload_n 0, 1) := by decide +kernel
theorem dX6_number_26 : decode cX6_number 26 = .ok (.getfield 137, 3) := by decide +kernel
theorem dX6_number_29 : decode cX6_number 29 = .ok (.putfield 149, 3) := by decide +kernel
theorem dX6_number_32 : decode cX6_number 32 = .ok (.aload_n 0, 1) := by decide +kernel
theorem dX6_number_33 : decode cX6_number 33 = .ok (.iload_n 1, 1) := by decide +kernel
theorem dX6_number_34 : decode cX6_number 34 = .ok (.ifCond .eq 12, 3) := by decide +kernel
theorem dX6_number_37 : decode cX6_number 37 = .ok (.aload_n 0, 1) := by decide +kernel
theorem dX6_number_38 : decode cX6_number 38 = .ok (.getfield 137, 3) := by decide +kernel
theorem dX6_number_41 : decode cX6_number 41 = .ok (.iconst 1, 1) := by decide +kernel
theorem dX6_number_42 : decode cX6_number 42 = .ok (.iadd, 1) := by decide +kernel
theorem dX6_number_43 : decode cX6_number 43 = .ok (.goto 7, 3) := by decide +kernel
theorem dX6_number_46 : decode cX6_number 46 = .ok (.aload_n 0, 1) := by decide +kernel
theorem dX6_number_47 : decode cX6_number 47 = .ok (.getfield 137, 3) := by decide +kernel
theorem dX6_number_50 : decode cX6_number 50 = .ok (.invokevirtual 152, 3) := by decide +kernel
theorem dX6_number_53 : decode cX6_number 53 = .ok (.ifCond .ne 14, 3) := by decide +kernel
theorem dX6_number_56 : decode cX6_number 56 = .ok (.aload_n 0, 1) := by decide +kernel
theorem dX6_number_57 : decode cX6_number 57 = .ok (.iconst 1, 1) := by decide +kernel
theorem dX6_number_58 : decode cX6_number 58 = .ok (.aload_n 0, 1) := by decide +kernel
theorem dX6_number_59 : decode cX6_number 59 = .ok (.getfield 149, 3) := by decide +kernel
theorem dX6_number_62 : decode cX6_number 62 = .ok (.invokevirtual 155, 3) := by decide +kernel
theorem dX6_number_65 : decode cX6_number 65 = .ok (.iconst 0, 1) := by decide +kernel
theorem dX6_number_66 : decode cX6_number 66 = .ok (.ireturn, 1) := by decide +kernel
theorem dX6_number_67 : decode cX6_number 67 = .ok (.aload_n 0, 1) := by decide +kernel
theorem dX6_number_68 : decode cX6_number 68 = .ok (.dup, 1) := by decide +kernel
theorem dX6_number_69 : decode cX6_number 69 = .ok (.getfield 137, 3) := by decide +kernel
theorem dX6_number_72 : decode cX6_number 72 = .ok (.iload_n 1, 1) := by decide +kernel
theorem dX6_number_73 : decode cX6_number 73 = .ok (.ifCond .eq 7, 3) := by decide +kernel
theorem dX6_number_76 : decode cX6_number 76 = .ok (.iconst 1, 1) := by decide +kernel
theorem dX6_number_77 : decode cX6_number 77 = .ok (.goto 4, 3) := by decide +kernel
theorem dX6_number_80 : decode cX6_number 80 = .ok (.iconst 0, 1) := by decide +kernel
theorem dX6_number_81 : decode cX6_number 81 = .ok (.iadd, 1) := by decide +kernel
theorem dX6_number_82 : decode cX6_number 82 = .ok (.putfield 137, 3) := by decide +kernel
theorem dX6_number_85 : decode cX6_number 85 = .ok (.aload_n 0, 1) := by decide +kernel
theorem dX6_number_86 : decode cX6_number 86 = .ok (.getfield 137, 3) := by decide +kernel
theorem dX6_number_89 : decode cX6_number 89 = .ok (.istore_n 2, 1) := by decide +kernel
theorem dX6_number_90 : decode cX6_number 90 = .ok (.iconst 0, 1) := by decide +kernel
theorem dX6_number_91 : decode cX6_number 91 = .ok (.istore_n 3, 1) := by decide +kernel
theorem dX6_number_92 : decode cX6_number 92 = .ok (.aload_n 0, 1) := by decide +kernel
theorem dX6_number_93 : decode cX6_number 93 = .ok (.aload_n 0, 1) := by decide +kernel
theorem dX6_number_94 : decode cX6_number 94 = .ok (.getfield 137, 3) := by decide +kernel
theorem dX6_number_97 : decode cX6_number 97 = .ok (.invokevirtual 152, 3) := by decide +kernel
theorem dX6_number_100 : decode cX6_number 100 = .ok (.ifCond .eq 48, 3) := by decide +kernel
theorem dX6_number_103 : decode cX6_number 103 = .ok (.aload_n 0, 1) := by decide +kernel
theorem dX6_number_104 : decode cX6_number 104 = .ok (.getfield 137, 3) := by decide +kernel
theorem dX6_number_107 : decode cX6_number 107 = .ok (.iload_n 2, 1) := by decide +kernel
theorem dX6_number_108 : decode cX6_number 108 = .ok (.isub, 1) := by decide +kernel
theorem dX6_number_109 : decode cX6_number 109 = .ok (.iconst 3, 1) := by decide +kernel
