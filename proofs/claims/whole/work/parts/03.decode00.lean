theorem dX0_init_0 : decode cX0_init 0 = .ok (.aload_n 0, 1) := by decide +kernel
theorem dX0_init_1 : decode cX0_init 1 = .ok (.invokespecial 5, 3) := by decide +kernel
theorem dX0_init_4 : decode cX0_init 4 = .ok (.aload_n 0, 1) := by decide +kernel
theorem dX0_init_5 : decode cX0_init 5 = .ok (.sipush 346, 3) := by decide +kernel
theorem dX0_init_8 : decode cX0_init 8 = .ok (.newarray .int, 2) := by decide +kernel
theorem dX0_init_10 : decode cX0_init 10 = .ok (.putfield 11, 3) := by decide +kernel
theorem dX0_init_13 : decode cX0_init 13 = .ok (.aload_n 0, 1) := by decide +kernel
theorem dX0_init_14 : decode cX0_init 14 = .ok (.sipush 3968, 3) := by decide +kernel
theorem dX0_init_17 : decode cX0_init 17 = .ok (.newarray .int, 2) := by decide +kernel
theorem dX0_init_19 : decode cX0_init 19 = .ok (.putfield 15, 3) := by decide +kernel
theorem dX0_init_22 : decode cX0_init 22 = .ok (.aload_n 0, 1) := by decide +kernel
theorem dX0_init_23 : decode cX0_init 23 = .ok (.sipush 3968, 3) := by decide +kernel
theorem dX0_init_26 : decode cX0_init 26 = .ok (.newarray .int, 2) := by decide +kernel
theorem dX0_init_28 : decode cX0_init 28 = .ok (.putfield 18, 3) := by decide +kernel
theorem dX0_init_31 : decode cX0_init 31 = .ok (.aload_n 0, 1) := by decide +kernel
theorem dX0_init_32 : decode cX0_init 32 = .ok (.sipush 3968, 3) := by decide +kernel
theorem dX0_init_35 : decode cX0_init 35 = .ok (.newarray .int, 2) := by decide +kernel
theorem dX0_init_37 : decode cX0_init 37 = .ok (.putfield 21, 3) := by decide +kernel
theorem dX0_init_40 : decode cX0_init 40 = .ok (.aload_n 0, 1) := by decide +kernel
theorem dX0_init_41 : decode cX0_init 41 = .ok (.sipush 346, 3) := by decide +kernel
theorem dX0_init_44 : decode cX0_init 44 = .ok (.newarray .int, 2) := by decide +kernel
theorem dX0_init_46 : decode cX0_init 46 = .ok (.putfield 24, 3) := by decide +kernel
theorem dX0_init_49 : decode cX0_init 49 = .ok (.aload_n 0, 1) := by decide +kernel
theorem dX0_init_50 : decode cX0_init 50 = .ok (.sipush 346, 3) := by decide +kernel
theorem dX0_init_53 : decode cX0_init 53 = .ok (.newarray .int, 2) := by decide +kernel
theorem dX0_init_55 : decode cX0_init 55 = .ok (.putfield 27, 3) := by decide +kernel
theorem dX0_init_58 : decode cX0_init 58 = .ok (.aload_n 0, 1) := by decide +kernel
theorem dX0_init_59 : decode cX0_init 59 = .ok (.sipush 346, 3) := by decide +kernel
theorem dX0_init_62 : decode cX0_init 62 = .ok (.newarray .int, 2) := by decide +kernel
theorem dX0_init_64 : decode cX0_init 64 = .ok (.putfield 30, 3) := by decide +kernel
theorem dX0_init_67 : decode cX0_init 67 = .ok (.aload_n 0, 1) := by decide +kernel
theorem dX0_init_68 : decode cX0_init 68 = .ok (.bipush 24, 2) := by decide +kernel
theorem dX0_init_70 : decode cX0_init 70 = .ok (.newarray .int, 2) := by decide +kernel
theorem dX0_init_72 : decode cX0_init 72 = .ok (.putfield 33, 3) := by decide +kernel
theorem dX0_init_75 : decode cX0_init 75 = .ok (.aload_n 0, 1) := by decide +kernel
theorem dX0_init_76 : decode cX0_init 76 = .ok (.bipush 8, 2) := by decide +kernel
theorem dX0_init_78 : decode cX0_init 78 = .ok (.newarray .int, 2) := by decide +kernel
theorem dX0_init_80 : decode cX0_init 80 = .ok (.putfield 36, 3) := by decide +kernel
theorem dX0_init_83 : decode cX0_init 83 = .ok (.aload_n 0, 1) := by decide +kernel
theorem dX0_init_84 : decode cX0_init 84 = .ok (.aload_n 1, 1) := by decide +kernel
theorem dX0_init_85 : decode cX0_init 85 = .ok (.putfield 39, 3) := by decide +kernel
theorem dX0_init_88 : decode cX0_init 88 = .ok (.return_, 1) := by decide +kernel
theorem dX0_mostSafeBy_0 : decode cX0_mostSafeBy 0 = .ok (.aload_n 0, 1) := by decide +kernel
theorem dX0_mostSafeBy_1 : decode cX0_mostSafeBy 1 = .ok (.iload_n 1, 1) := by decide +kernel
theorem dX0_mostSafeBy_2 : decode cX0_mostSafeBy 2 = .ok (.invokevirtual 43, 3) := by decide +kernel
theorem dX0_mostSafeBy_5 : decode cX0_mostSafeBy 5 = .ok (.aload_n 0, 1) := by decide +kernel
theorem dX0_mostSafeBy_6 : decode cX0_mostSafeBy 6 = .ok (.getfield 47, 3) := by decide +kernel
theorem dX0_mostSafeBy_9 : decode cX0_mostSafeBy 9 = .ok (.ireturn, 1) := by decide +kernel
theorem dX0_allSafeBy_0 : decode cX0_allSafeBy 0 = .ok (.aload_n 0, 1) := by decide +kernel
theorem dX0_allSafeBy_1 : decode cX0_allSafeBy 1 = .ok (.invokevirtual 51, 3) := by decide +kernel
theorem dX0_allSafeBy_4 : decode cX0_allSafeBy 4 = .ok (.iload_n 1, 1) := by decide +kernel
theorem dX0_allSafeBy_5 : decode cX0_allSafeBy 5 = .ok (.if_icmp .le 5, 3) := by decide +kernel
theorem dX0_allSafeBy_8 : decode cX0_allSafeBy 8 = .ok (.iconst 0, 1) := by decide +kernel
theorem dX0_allSafeBy_9 : decode cX0_allSafeBy 9 = .ok (.ireturn, 1) := by decide +kernel
theorem dX0_allSafeBy_10 : decode cX0_allSafeBy 10 = .ok (.aload_n 0, 1) := by decide +kernel
theorem dX0_allSafeBy_11 : decode cX0_allSafeBy 11 = .ok (.iload_n 1, 1) := by decide +kernel
theorem dX0_allSafeBy_12 : decode cX0_allSafeBy 12 = .ok (.invokevirtual 43, 3) := by decide +kernel
theorem dX0_allSafeBy_15 : decode cX0_allSafeBy 15 = .ok (.aload_n 0, 1) := by decide +kernel
theorem dX0_allSafeBy_16 : decode cX0_allSafeBy 16 = .ok (.getfield 47, 3) := by decide +kernel
theorem dX0_allSafeBy_19 : decode cX0_allSafeBy 19 = .ok (.aload_n 0, 1) := by decide +kernel
theorem dX0_allSafeBy_20 : decode cX0_allSafeBy 20 = .ok (.getfield 55, 3) := by decide +kernel
theorem dX0_allSafeBy_23 : decode cX0_allSafeBy 23 = .ok (.if_icmp .ne 7, 3) := by decide +kernel
theorem dX0_allSafeBy_26 : decode cX0_allSafeBy 26 = .ok (.iconst 1, 1) := by decide +kernel
theorem dX0_allSafeBy_27 : decode cX0_allSafeBy 27 = .ok (.goto 4, 3) := by decide +kernel
theorem dX0_allSafeBy_30 : decode cX0_allSafeBy 30 = .ok (.iconst 0, 1) := by decide +kernel
theorem dX0_allSafeBy_31 : decode cX0_allSafeBy 31 = .ok (.ireturn, 1) := by decide +kernel
theorem dX0_soonest_0 : decode cX0_soonest 0 = .ok (.aload_n 0, 1) := by decide +kernel
theorem dX0_soonest_1 : decode cX0_soonest 1 = .ok (.iconst 0, 1) := by decide +kernel
theorem dX0_soonest_2 : decode cX0_soonest 2 = .ok (.bipush 41, 2) := by decide +kernel
theorem dX0_soonest_4 : decode cX0_soonest 4 = .ok (.invokevirtual 58, 3) := by decide +kernel
theorem dX0_soonest_7 : decode cX0_soonest 7 = .ok (.ireturn, 1) := by decide +kernel
theorem dX0_soonestWithin_0 : decode cX0_soonestWithin 0 = .ok (.iload_n 1, 1) := by decide +kernel
theorem dX0_soonestWithin_1 : decode cX0_soonestWithin 1 = .ok (.aload_n 0, 1) := by decide +kernel
theorem dX0_soonestWithin_2 : decode cX0_soonestWithin 2 = .ok (.invokevirtual 51, 3) := by decide +kernel
theorem dX0_soonestWithin_5 : decode cX0_soonestWithin 5 = .ok (.invokestatic 62, 3) := by decide +kernel
theorem dX0_soonestWithin_8 : decode cX0_soonestWithin 8 = .ok (.istore_n 3, 1) := by decide +kernel
theorem dX0_soonestWithin_9 : decode cX0_soonestWithin 9 = .ok (.iload_n 3, 1) := by decide +kernel
theorem dX0_soonestWithin_10 : decode cX0_soonestWithin 10 = .ok (.iload_n 2, 1) := by decide +kernel
theorem dX0_soonestWithin_11 : decode cX0_soonestWithin 11 = .ok (.if_icmp .lt 5, 3) := by decide +kernel
theorem dX0_soonestWithin_14 : decode cX0_soonestWithin 14 = .ok (.iload_n 2, 1) := by decide +kernel
theorem dX0_soonestWithin_15 : decode cX0_soonestWithin 15 = .ok (.ireturn, 1) := by decide +kernel
theorem dX0_soonestWithin_16 : decode cX0_soonestWithin 16 = .ok (.aload_n 0, 1) := by decide +kernel
theorem dX0_soonestWithin_17 : decode cX0_soonestWithin 17 = .ok (.iload_n 3, 1) := by decide +kernel
theorem dX0_soonestWithin_18 : decode cX0_soonestWithin 18 = .ok (.invokevirtual 43, 3) := by decide +kernel
theorem dX0_soonestWithin_21 : decode cX0_soonestWithin 21 = .ok (.iload_n 3, 1) := by decide +kernel
theorem dX0_soonestWithin_22 : decode cX0_soonestWithin 22 = .ok (.iconst 1, 1) := by decide +kernel
theorem dX0_soonestWithin_23 : decode cX0_soonestWithin 23 = .ok (.iadd, 1) := by decide +kernel
theorem dX0_soonestWithin_24 : decode cX0_soonestWithin 24 = .ok (.istore 4, 2) := by decide +kernel
theorem dX0_soonestWithin_26 : decode cX0_soonestWithin 26 = .ok (.iload 4, 2) := by decide +kernel
theorem dX0_soonestWithin_28 : decode cX0_soonestWithin 28 = .ok (.iload_n 2, 1) := by decide +kernel
theorem dX0_soonestWithin_29 : decode cX0_soonestWithin 29 = .ok (.if_icmp .ge 28, 3) := by decide +kernel
theorem dX0_soonestWithin_32 : decode cX0_soonestWithin 32 = .ok (.aload_n 0, 1) := by decide +kernel
theorem dX0_soonestWithin_33 : decode cX0_soonestWithin 33 = .ok (.getfield 47, 3) := by decide +kernel
theorem dX0_soonestWithin_36 : decode cX0_soonestWithin 36 = .ok (.aload_n 0, 1) := by decide +kernel
theorem dX0_soonestWithin_37 : decode cX0_soonestWithin 37 = .ok (.getfield 55, 3) := by decide +kernel
theorem dX0_soonestWithin_40 : decode cX0_soonestWithin 40 = .ok (.if_icmp .ge 17, 3) := by decide +kernel
theorem dX0_soonestWithin_43 : decode cX0_soonestWithin 43 = .ok (.aload_n 0, 1) := by decide +kernel
theorem dX0_soonestWithin_44 : decode cX0_soonestWithin 44 = .ok (.invokevirtual 67, 3) := by decide +kernel
theorem dX0_soonestWithin_47 : decode cX0_soonestWithin 47 = .ok (.aload_n 0, 1) := by decide +kernel
theorem dX0_soonestWithin_48 : decode cX0_soonestWithin 48 = .ok (.invokevirtual 70, 3) := by decide +kernel
theorem dX0_soonestWithin_51 : decode cX0_soonestWithin 51 = .ok (.iinc 4 1, 3) := by decide +kernel
theorem dX0_soonestWithin_54 : decode cX0_soonestWithin 54 = .ok (.goto (-28), 3) := by decide +kernel
theorem dX0_soonestWithin_57 : decode cX0_soonestWithin 57 = .ok (.aload_n 0, 1) := by decide +kernel
theorem dX0_soonestWithin_58 : decode cX0_soonestWithin 58 = .ok (.getfield 47, 3) := by decide +kernel
theorem dX0_soonestWithin_61 : decode cX0_soonestWithin 61 = .ok (.aload_n 0, 1) := by decide +kernel
theorem dX0_soonestWithin_62 : decode cX0_soonestWithin 62 = .ok (.getfield 55, 3) := by decide +kernel
theorem dX0_soonestWithin_65 : decode cX0_soonestWithin 65 = .ok (.if_icmp .ne 10, 3) := by decide +kernel
theorem dX0_soonestWithin_68 : decode cX0_soonestWithin 68 = .ok (.aload_n 0, 1) := by decide +kernel
theorem dX0_soonestWithin_69 : decode cX0_soonestWithin 69 = .ok (.getfield 73, 3) := by decide +kernel
theorem dX0_soonestWithin_72 : decode cX0_soonestWithin 72 = .ok (.goto 4, 3) := by decide +kernel
theorem dX0_soonestWithin_75 : decode cX0_soonestWithin 75 = .ok (.iload_n 2, 1) := by decide +kernel
theorem dX0_soonestWithin_76 : decode cX0_soonestWithin 76 = .ok (.ireturn, 1) := by decide +kernel
theorem dX0_findOpen_0 : decode cX0_findOpen 0 = .ok (.aload_n 0, 1) := by decide +kernel
theorem dX0_findOpen_1 : decode cX0_findOpen 1 = .ok (.iload_n 1, 1) := by decide +kernel
theorem dX0_findOpen_2 : decode cX0_findOpen 2 = .ok (.invokevirtual 43, 3) := by decide +kernel
theorem dX0_findOpen_5 : decode cX0_findOpen 5 = .ok (.aload_n 0, 1) := by decide +kernel
theorem dX0_findOpen_6 : decode cX0_findOpen 6 = .ok (.invokevirtual 76, 3) := by decide +kernel
theorem dX0_findOpen_9 : decode cX0_findOpen 9 = .ok (.pop, 1) := by decide +kernel
theorem dX0_findOpen_10 : decode cX0_findOpen 10 = .ok (.return_, 1) := by decide +kernel
theorem dX0_isOpen_0 : decode cX0_isOpen 0 = .ok (.aload_n 0, 1) := by decide +kernel
theorem dX0_isOpen_1 : decode cX0_isOpen 1 = .ok (.getfield 24, 3) := by decide +kernel
theorem dX0_isOpen_4 : decode cX0_isOpen 4 = .ok (.iload_n 2, 1) := by decide +kernel
theorem dX0_isOpen_5 : decode cX0_isOpen 5 = .ok (.bipush 8, 2) := by decide +kernel
theorem dX0_isOpen_7 : decode cX0_isOpen 7 = .ok (.imul, 1) := by decide +kernel
theorem dX0_isOpen_8 : decode cX0_isOpen 8 = .ok (.iload_n 1, 1) := by decide +kernel
theorem dX0_isOpen_9 : decode cX0_isOpen 9 = .ok (.iadd, 1) := by decide +kernel
theorem dX0_isOpen_10 : decode cX0_isOpen 10 = .ok (.iaload, 1) := by decide +kernel
theorem dX0_isOpen_11 : decode cX0_isOpen 11 = .ok (.iconst (-1), 1) := by decide +kernel
theorem dX0_isOpen_12 : decode cX0_isOpen 12 = .ok (.if_icmp .eq 7, 3) := by decide +kernel
theorem dX0_isOpen_15 : decode cX0_isOpen 15 = .ok (.iconst 1, 1) := by decide +kernel
theorem dX0_isOpen_16 : decode cX0_isOpen 16 = .ok (.goto 4, 3) := by decide +kernel
theorem dX0_isOpen_19 : decode cX0_isOpen 19 = .ok (.iconst 0, 1) := by decide +kernel
theorem dX0_isOpen_20 : decode cX0_isOpen 20 = .ok (.ireturn, 1) := by decide +kernel
theorem dX0_squeeze_0 : decode cX0_squeeze 0 = .ok (.aload_n 0, 1) := by decide +kernel
theorem dX0_squeeze_1 : decode cX0_squeeze 1 = .ok (.iload_n 1, 1) := by decide +kernel
theorem dX0_squeeze_2 : decode cX0_squeeze 2 = .ok (.invokevirtual 43, 3) := by decide +kernel
theorem dX0_squeeze_5 : decode cX0_squeeze 5 = .ok (.iconst 0, 1) := by decide +kernel
theorem dX0_squeeze_6 : decode cX0_squeeze 6 = .ok (.istore_n 2, 1) := by decide +kernel
theorem dX0_squeeze_7 : decode cX0_squeeze 7 = .ok (.iload_n 2, 1) := by decide +kernel
theorem dX0_squeeze_8 : decode cX0_squeeze 8 = .ok (.iconst 2, 1) := by decide +kernel
theorem dX0_squeeze_9 : decode cX0_squeeze 9 = .ok (.aload_n 0, 1) := by decide +kernel
theorem dX0_squeeze_10 : decode cX0_squeeze 10 = .ok (.getfield 39, 3) := by decide +kernel
theorem dX0_squeeze_13 : decode cX0_squeeze 13 = .ok (.getfield 80, 3) := by decide +kernel
theorem dX0_squeeze_16 : decode cX0_squeeze 16 = .ok (.imul, 1) := by decide +kernel
theorem dX0_squeeze_17 : decode cX0_squeeze 17 = .ok (.if_icmp .ge 21, 3) := by decide +kernel
theorem dX0_squeeze_20 : decode cX0_squeeze 20 = .ok (.aload_n 0, 1) := by decide +kernel
theorem dX0_squeeze_21 : decode cX0_squeeze 21 = .ok (.getfield 33, 3) := by decide +kernel
theorem dX0_squeeze_24 : decode cX0_squeeze 24 = .ok (.iload_n 2, 1) := by decide +kernel
theorem dX0_squeeze_25 : decode cX0_squeeze 25 = .ok (.aload_n 0, 1) := by decide +kernel
theorem dX0_squeeze_26 : decode cX0_squeeze 26 = .ok (.iload_n 2, 1) := by decide +kernel
theorem dX0_squeeze_27 : decode cX0_squeeze 27 = .ok (.iload_n 1, 1) := by decide +kernel
theorem dX0_squeeze_28 : decode cX0_squeeze 28 = .ok (.invokevirtual 85, 3) := by decide +kernel
theorem dX0_squeeze_31 : decode cX0_squeeze 31 = .ok (.iastore, 1) := by decide +kernel
theorem dX0_squeeze_32 : decode cX0_squeeze 32 = .ok (.iinc 2 1, 3) := by decide +kernel
theorem dX0_squeeze_35 : decode cX0_squeeze 35 = .ok (.goto (-28), 3) := by decide +kernel
theorem dX0_squeeze_38 : decode cX0_squeeze 38 = .ok (.aload_n 0, 1) := by decide +kernel
theorem dX0_squeeze_39 : decode cX0_squeeze 39 = .ok (.getfield 55, 3) := by decide +kernel
theorem dX0_squeeze_42 : decode cX0_squeeze 42 = .ok (.aload_n 0, 1) := by decide +kernel
theorem dX0_squeeze_43 : decode cX0_squeeze 43 = .ok (.getfield 47, 3) := by decide +kernel
theorem dX0_squeeze_46 : decode cX0_squeeze 46 = .ok (.isub, 1) := by decide +kernel
theorem dX0_squeeze_47 : decode cX0_squeeze 47 = .ok (.ireturn, 1) := by decide +kernel
theorem dX0_crossingMore_0 : decode cX0_crossingMore 0 = .ok (.iload_n 2, 1) := by decide +kernel
theorem dX0_crossingMore_1 : decode cX0_crossingMore 1 = .ok (.aload_n 0, 1) := by decide +kernel
theorem dX0_crossingMore_2 : decode cX0_crossingMore 2 = .ok (.getfield 33, 3) := by decide +kernel
theorem dX0_crossingMore_5 : decode cX0_crossingMore 5 = .ok (.iconst 2, 1) := by decide +kernel
theorem dX0_crossingMore_6 : decode cX0_crossingMore 6 = .ok (.iload_n 1, 1) := by decide +kernel
theorem dX0_crossingMore_7 : decode cX0_crossingMore 7 = .ok (.imul, 1) := by decide +kernel
theorem dX0_crossingMore_8 : decode cX0_crossingMore 8 = .ok (.iaload, 1) := by decide +kernel
theorem dX0_crossingMore_9 : decode cX0_crossingMore 9 = .ok (.aload_n 0, 1) := by decide +kernel
theorem dX0_crossingMore_10 : decode cX0_crossingMore 10 = .ok (.getfield 33, 3) := by decide +kernel
theorem dX0_crossingMore_13 : decode cX0_crossingMore 13 = .ok (.iconst 2, 1) := by decide +kernel
theorem dX0_crossingMore_14 : decode cX0_crossingMore 14 = .ok (.iload_n 1, 1) := by decide +kernel
theorem dX0_crossingMore_15 : decode cX0_crossingMore 15 = .ok (.imul, 1) := by decide +kernel
theorem dX0_crossingMore_16 : decode cX0_crossingMore 16 = .ok (.iconst 1, 1) := by decide +kernel
theorem dX0_crossingMore_17 : decode cX0_crossingMore 17 = .ok (.iadd, 1) := by decide +kernel
theorem dX0_crossingMore_18 : decode cX0_crossingMore 18 = .ok (.iaload, 1) := by decide +kernel
theorem dX0_crossingMore_19 : decode cX0_crossingMore 19 = .ok (.isub, 1) := by decide +kernel
theorem dX0_crossingMore_20 : decode cX0_crossingMore 20 = .ok (.imul, 1) := by decide +kernel
theorem dX0_crossingMore_21 : decode cX0_crossingMore 21 = .ok (.ireturn, 1) := by decide +kernel
theorem dX0_countCrossing_0 : decode cX0_countCrossing 0 = .ok (.iconst 0, 1) := by decide +kernel
theorem dX0_countCrossing_1 : decode cX0_countCrossing 1 = .ok (.istore_n 3, 1) := by decide +kernel
theorem dX0_countCrossing_2 : decode cX0_countCrossing 2 = .ok (.aload_n 0, 1) := by decide +kernel
theorem dX0_countCrossing_3 : decode cX0_countCrossing 3 = .ok (.getfield 39, 3) := by decide +kernel
theorem dX0_countCrossing_6 : decode cX0_countCrossing 6 = .ok (.getfield 88, 3) := by decide +kernel
theorem dX0_countCrossing_9 : decode cX0_countCrossing 9 = .ok (.iload_n 1, 1) := by decide +kernel
theorem dX0_countCrossing_10 : decode cX0_countCrossing 10 = .ok (.iconst 2, 1) := by decide +kernel
theorem dX0_countCrossing_11 : decode cX0_countCrossing 11 = .ok (.idiv, 1) := by decide +kernel
theorem dX0_countCrossing_12 : decode cX0_countCrossing 12 = .ok (.iaload, 1) := by decide +kernel
theorem dX0_countCrossing_13 : decode cX0_countCrossing 13 = .ok (.istore 4, 2) := by decide +kernel
theorem dX0_countCrossing_15 : decode cX0_countCrossing 15 = .ok (.iconst 0, 1) := by decide +kernel
theorem dX0_countCrossing_16 : decode cX0_countCrossing 16 = .ok (.istore 5, 2) := by decide +kernel
theorem dX0_countCrossing_18 : decode cX0_countCrossing 18 = .ok (.iload 5, 2) := by decide +kernel
theorem dX0_countCrossing_20 : decode cX0_countCrossing 20 = .ok (.iload 4, 2) := by decide +kernel
theorem dX0_countCrossing_22 : decode cX0_countCrossing 22 = .ok (.iadd, 1) := by decide +kernel
theorem dX0_countCrossing_23 : decode cX0_countCrossing 23 = .ok (.iload_n 2, 1) := by decide +kernel
theorem dX0_countCrossing_24 : decode cX0_countCrossing 24 = .ok (.if_icmp .gt 53, 3) := by decide +kernel
theorem dX0_countCrossing_27 : decode cX0_countCrossing 27 = .ok (.aload_n 0, 1) := by decide +kernel
theorem dX0_countCrossing_28 : decode cX0_countCrossing 28 = .ok (.aload_n 0, 1) := by decide +kernel
theorem dX0_countCrossing_29 : decode cX0_countCrossing 29 = .ok (.getfield 39, 3) := by decide +kernel
theorem dX0_countCrossing_32 : decode cX0_countCrossing 32 = .ok (.getfield 91, 3) := by decide +kernel
theorem dX0_countCrossing_35 : decode cX0_countCrossing 35 = .ok (.iload_n 1, 1) := by decide +kernel
theorem dX0_countCrossing_36 : decode cX0_countCrossing 36 = .ok (.iaload, 1) := by decide +kernel
theorem dX0_countCrossing_37 : decode cX0_countCrossing 37 = .ok (.iload 5, 2) := by decide +kernel
theorem dX0_countCrossing_39 : decode cX0_countCrossing 39 = .ok (.invokevirtual 94, 3) := by decide +kernel
theorem dX0_countCrossing_42 : decode cX0_countCrossing 42 = .ok (.ifCond .ne 29, 3) := by decide +kernel
theorem dX0_countCrossing_45 : decode cX0_countCrossing 45 = .ok (.aload_n 0, 1) := by decide +kernel
theorem dX0_countCrossing_46 : decode cX0_countCrossing 46 = .ok (.aload_n 0, 1) := by decide +kernel
theorem dX0_countCrossing_47 : decode cX0_countCrossing 47 = .ok (.getfield 39, 3) := by decide +kernel
theorem dX0_countCrossing_50 : decode cX0_countCrossing 50 = .ok (.getfield 91, 3) := by decide +kernel
theorem dX0_countCrossing_53 : decode cX0_countCrossing 53 = .ok (.iload_n 1, 1) := by decide +kernel
theorem dX0_countCrossing_54 : decode cX0_countCrossing 54 = .ok (.iconst 1, 1) := by decide +kernel
theorem dX0_countCrossing_55 : decode cX0_countCrossing 55 = .ok (.ixor, 1) := by decide +kernel
theorem dX0_countCrossing_56 : decode cX0_countCrossing 56 = .ok (.iaload, 1) := by decide +kernel
theorem dX0_countCrossing_57 : decode cX0_countCrossing 57 = .ok (.iload 5, 2) := by decide +kernel
theorem dX0_countCrossing_59 : decode cX0_countCrossing 59 = .ok (.iload 4, 2) := by decide +kernel
theorem dX0_countCrossing_61 : decode cX0_countCrossing 61 = .ok (.iadd, 1) := by decide +kernel
theorem dX0_countCrossing_62 : decode cX0_countCrossing 62 = .ok (.invokevirtual 94, 3) := by decide +kernel
theorem dX0_countCrossing_65 : decode cX0_countCrossing 65 = .ok (.ifCond .eq 6, 3) := by decide +kernel
theorem dX0_countCrossing_68 : decode cX0_countCrossing 68 = .ok (.iinc 3 1, 3) := by decide +kernel
theorem dX0_countCrossing_71 : decode cX0_countCrossing 71 = .ok (.iinc 5 1, 3) := by decide +kernel
theorem dX0_countCrossing_74 : decode cX0_countCrossing 74 = .ok (.goto (-56), 3) := by decide +kernel
theorem dX0_countCrossing_77 : decode cX0_countCrossing 77 = .ok (.iload_n 3, 1) := by decide +kernel
theorem dX0_countCrossing_78 : decode cX0_countCrossing 78 = .ok (.ireturn, 1) := by decide +kernel
theorem dX0_leastThinkable_0 : decode cX0_leastThinkable 0 = .ok (.aload_n 0, 1) := by decide +kernel
theorem dX0_leastThinkable_1 : decode cX0_leastThinkable 1 = .ok (.getfield 39, 3) := by decide +kernel
theorem dX0_leastThinkable_4 : decode cX0_leastThinkable 4 = .ok (.iconst 0, 1) := by decide +kernel
theorem dX0_leastThinkable_5 : decode cX0_leastThinkable 5 = .ok (.invokevirtual 98, 3) := by decide +kernel
theorem dX0_leastThinkable_8 : decode cX0_leastThinkable 8 = .ok (.aload_n 0, 1) := by decide +kernel
theorem dX0_leastThinkable_9 : decode cX0_leastThinkable 9 = .ok (.getfield 39, 3) := by decide +kernel
theorem dX0_leastThinkable_12 : decode cX0_leastThinkable 12 = .ok (.iconst 1, 1) := by decide +kernel
theorem dX0_leastThinkable_13 : decode cX0_leastThinkable 13 = .ok (.invokevirtual 98, 3) := by decide +kernel
theorem dX0_leastThinkable_16 : decode cX0_leastThinkable 16 = .ok (.if_icmp .le 6, 3) := by decide +kernel
theorem dX0_leastThinkable_19 : decode cX0_leastThinkable 19 = .ok (.bipush 41, 2) := by decide +kernel
theorem dX0_leastThinkable_21 : decode cX0_leastThinkable 21 = .ok (.ireturn, 1) := by decide +kernel
theorem dX0_leastThinkable_22 : decode cX0_leastThinkable 22 = .ok (.aload_n 0, 1) := by decide +kernel
theorem dX0_leastThinkable_23 : decode cX0_leastThinkable 23 = .ok (.invokevirtual 102, 3) := by decide +kernel
theorem dX0_leastThinkable_26 : decode cX0_leastThinkable 26 = .ok (.iconst 0, 1) := by decide +kernel
theorem dX0_leastThinkable_27 : decode cX0_leastThinkable 27 = .ok (.istore_n 1, 1) := by decide +kernel
theorem dX0_leastThinkable_28 : decode cX0_leastThinkable 28 = .ok (.iconst 0, 1) := by decide +kernel
theorem dX0_leastThinkable_29 : decode cX0_leastThinkable 29 = .ok (.istore_n 2, 1) := by decide +kernel
theorem dX0_leastThinkable_30 : decode cX0_leastThinkable 30 = .ok (.iload_n 2, 1) := by decide +kernel
theorem dX0_leastThinkable_31 : decode cX0_leastThinkable 31 = .ok (.aload_n 0, 1) := by decide +kernel
theorem dX0_leastThinkable_32 : decode cX0_leastThinkable 32 = .ok (.getfield 39, 3) := by decide +kernel
theorem dX0_leastThinkable_35 : decode cX0_leastThinkable 35 = .ok (.getfield 105, 3) := by decide +kernel
theorem dX0_leastThinkable_38 : decode cX0_leastThinkable 38 = .ok (.if_icmp .ge 42, 3) := by decide +kernel
theorem dX0_leastThinkable_41 : decode cX0_leastThinkable 41 = .ok (.aload_n 0, 1) := by decide +kernel
theorem dX0_leastThinkable_42 : decode cX0_leastThinkable 42 = .ok (.getfield 39, 3) := by decide +kernel
theorem dX0_leastThinkable_45 : decode cX0_leastThinkable 45 = .ok (.iload_n 2, 1) := by decide +kernel
theorem dX0_leastThinkable_46 : decode cX0_leastThinkable 46 = .ok (.iconst 0, 1) := by decide +kernel
theorem dX0_leastThinkable_47 : decode cX0_leastThinkable 47 = .ok (.invokevirtual 108, 3) := by decide +kernel
theorem dX0_leastThinkable_50 : decode cX0_leastThinkable 50 = .ok (.ifCond .le 24, 3) := by decide +kernel
theorem dX0_leastThinkable_53 : decode cX0_leastThinkable 53 = .ok (.iload_n 1, 1) := by decide +kernel
theorem dX0_leastThinkable_54 : decode cX0_leastThinkable 54 = .ok (.aload_n 0, 1) := by decide +kernel
theorem dX0_leastThinkable_55 : decode cX0_leastThinkable 55 = .ok (.getfield 39, 3) := by decide +kernel
theorem dX0_leastThinkable_58 : decode cX0_leastThinkable 58 = .ok (.iload_n 2, 1) := by decide +kernel
theorem dX0_leastThinkable_59 : decode cX0_leastThinkable 59 = .ok (.iconst 2, 1) := by decide +kernel
theorem dX0_leastThinkable_60 : decode cX0_leastThinkable 60 = .ok (.invokevirtual 108, 3) := by decide +kernel
theorem dX0_leastThinkable_63 : decode cX0_leastThinkable 63 = .ok (.aload_n 0, 1) := by decide +kernel
theorem dX0_leastThinkable_64 : decode cX0_leastThinkable 64 = .ok (.getfield 36, 3) := by decide +kernel
theorem dX0_leastThinkable_67 : decode cX0_leastThinkable 67 = .ok (.iload_n 2, 1) := by decide +kernel
theorem dX0_leastThinkable_68 : decode cX0_leastThinkable 68 = .ok (.iaload, 1) := by decide +kernel
theorem dX0_leastThinkable_69 : decode cX0_leastThinkable 69 = .ok (.iadd, 1) := by decide +kernel
theorem dX0_leastThinkable_70 : decode cX0_leastThinkable 70 = .ok (.invokestatic 62, 3) := by decide +kernel
theorem dX0_leastThinkable_73 : decode cX0_leastThinkable 73 = .ok (.istore_n 1, 1) := by decide +kernel
theorem dX0_leastThinkable_74 : decode cX0_leastThinkable 74 = .ok (.iinc 2 1, 3) := by decide +kernel
theorem dX0_leastThinkable_77 : decode cX0_leastThinkable 77 = .ok (.goto (-47), 3) := by decide +kernel
theorem dX0_leastThinkable_80 : decode cX0_leastThinkable 80 = .ok (.iload_n 1, 1) := by decide +kernel
theorem dX0_leastThinkable_81 : decode cX0_leastThinkable 81 = .ok (.bipush 41, 2) := by decide +kernel
theorem dX0_leastThinkable_83 : decode cX0_leastThinkable 83 = .ok (.invokestatic 111, 3) := by decide +kernel
theorem dX0_leastThinkable_86 : decode cX0_leastThinkable 86 = .ok (.ireturn, 1) := by decide +kernel
theorem dX0_measureRoads_0 : decode cX0_measureRoads 0 = .ok (.iconst 0, 1) := by decide +kernel
theorem dX0_measureRoads_1 : decode cX0_measureRoads 1 = .ok (.istore_n 1, 1) := by decide +kernel
theorem dX0_measureRoads_2 : decode cX0_measureRoads 2 = .ok (.iload_n 1, 1) := by decide +kernel
theorem dX0_measureRoads_3 : decode cX0_measureRoads 3 = .ok (.aload_n 0, 1) := by decide +kernel
theorem dX0_measureRoads_4 : decode cX0_measureRoads 4 = .ok (.getfield 39, 3) := by decide +kernel
theorem dX0_measureRoads_7 : decode cX0_measureRoads 7 = .ok (.getfield 105, 3) := by decide +kernel
theorem dX0_measureRoads_10 : decode cX0_measureRoads 10 = .ok (.if_icmp .ge 33, 3) := by decide +kernel
theorem dX0_measureRoads_13 : decode cX0_measureRoads 13 = .ok (.aload_n 0, 1) := by decide +kernel
theorem dX0_measureRoads_14 : decode cX0_measureRoads 14 = .ok (.getfield 36, 3) := by decide +kernel
theorem dX0_measureRoads_17 : decode cX0_measureRoads 17 = .ok (.iload_n 1, 1) := by decide +kernel
theorem dX0_measureRoads_18 : decode cX0_measureRoads 18 = .ok (.aload_n 0, 1) := by decide +kernel
theorem dX0_measureRoads_19 : decode cX0_measureRoads 19 = .ok (.getfield 39, 3) := by decide +kernel
theorem dX0_measureRoads_22 : decode cX0_measureRoads 22 = .ok (.iload_n 1, 1) := by decide +kernel
theorem dX0_measureRoads_23 : decode cX0_measureRoads 23 = .ok (.iconst 1, 1) := by decide +kernel
theorem dX0_measureRoads_24 : decode cX0_measureRoads 24 = .ok (.invokevirtual 108, 3) := by decide +kernel
theorem dX0_measureRoads_27 : decode cX0_measureRoads 27 = .ok (.ifCond .le 7, 3) := by decide +kernel
theorem dX0_measureRoads_30 : decode cX0_measureRoads 30 = .ok (.iconst 0, 1) := by decide +kernel
theorem dX0_measureRoads_31 : decode cX0_measureRoads 31 = .ok (.goto 5, 3) := by decide +kernel
theorem dX0_measureRoads_34 : decode cX0_measureRoads 34 = .ok (.bipush 41, 2) := by decide +kernel
theorem dX0_measureRoads_36 : decode cX0_measureRoads 36 = .ok (.iastore, 1) := by decide +kernel
theorem dX0_measureRoads_37 : decode cX0_measureRoads 37 = .ok (.iinc 1 1, 3) := by decide +kernel
theorem dX0_measureRoads_40 : decode cX0_measureRoads 40 = .ok (.goto (-38), 3) := by decide +kernel
theorem dX0_measureRoads_43 : decode cX0_measureRoads 43 = .ok (.iconst 1, 1) := by decide +kernel
theorem dX0_measureRoads_44 : decode cX0_measureRoads 44 = .ok (.istore_n 1, 1) := by decide +kernel
theorem dX0_measureRoads_45 : decode cX0_measureRoads 45 = .ok (.iload_n 1, 1) := by decide +kernel
theorem dX0_measureRoads_46 : decode cX0_measureRoads 46 = .ok (.aload_n 0, 1) := by decide +kernel
theorem dX0_measureRoads_47 : decode cX0_measureRoads 47 = .ok (.getfield 39, 3) := by decide +kernel
theorem dX0_measureRoads_50 : decode cX0_measureRoads 50 = .ok (.getfield 105, 3) := by decide +kernel
theorem dX0_measureRoads_53 : decode cX0_measureRoads 53 = .ok (.if_icmp .ge 101, 3) := by decide +kernel
theorem dX0_measureRoads_56 : decode cX0_measureRoads 56 = .ok (.iconst 0, 1) := by decide +kernel
theorem dX0_measureRoads_57 : decode cX0_measureRoads 57 = .ok (.istore_n 2, 1) := by decide +kernel
theorem dX0_measureRoads_58 : decode cX0_measureRoads 58 = .ok (.iload_n 2, 1) := by decide +kernel
theorem dX0_measureRoads_59 : decode cX0_measureRoads 59 = .ok (.iconst 2, 1) := by decide +kernel
theorem dX0_measureRoads_60 : decode cX0_measureRoads 60 = .ok (.aload_n 0, 1) := by decide +kernel
theorem dX0_measureRoads_61 : decode cX0_measureRoads 61 = .ok (.getfield 39, 3) := by decide +kernel
theorem dX0_measureRoads_64 : decode cX0_measureRoads 64 = .ok (.getfield 80, 3) := by decide +kernel
theorem dX0_measureRoads_67 : decode cX0_measureRoads 67 = .ok (.imul, 1) := by decide +kernel
theorem dX0_measureRoads_68 : decode cX0_measureRoads 68 = .ok (.if_icmp .ge 80, 3) := by decide +kernel
theorem dX0_measureRoads_71 : decode cX0_measureRoads 71 = .ok (.aload_n 0, 1) := by decide +kernel
theorem dX0_measureRoads_72 : decode cX0_measureRoads 72 = .ok (.getfield 39, 3) := by decide +kernel
theorem dX0_measureRoads_75 : decode cX0_measureRoads 75 = .ok (.getfield 91, 3) := by decide +kernel
theorem dX0_measureRoads_78 : decode cX0_measureRoads 78 = .ok (.iload_n 2, 1) := by decide +kernel
theorem dX0_measureRoads_79 : decode cX0_measureRoads 79 = .ok (.iaload, 1) := by decide +kernel
theorem dX0_measureRoads_80 : decode cX0_measureRoads 80 = .ok (.istore_n 3, 1) := by decide +kernel
theorem dX0_measureRoads_81 : decode cX0_measureRoads 81 = .ok (.aload_n 0, 1) := by decide +kernel
theorem dX0_measureRoads_82 : decode cX0_measureRoads 82 = .ok (.getfield 39, 3) := by decide +kernel
theorem dX0_measureRoads_85 : decode cX0_measureRoads 85 = .ok (.getfield 88, 3) := by decide +kernel
theorem dX0_measureRoads_88 : decode cX0_measureRoads 88 = .ok (.iload_n 2, 1) := by decide +kernel
theorem dX0_measureRoads_89 : decode cX0_measureRoads 89 = .ok (.iconst 2, 1) := by decide +kernel
theorem dX0_measureRoads_90 : decode cX0_measureRoads 90 = .ok (.idiv, 1) := by decide +kernel
theorem dX0_measureRoads_91 : decode cX0_measureRoads 91 = .ok (.iaload, 1) := by decide +kernel
theorem dX0_measureRoads_92 : decode cX0_measureRoads 92 = .ok (.aload_n 0, 1) := by decide +kernel
theorem dX0_measureRoads_93 : decode cX0_measureRoads 93 = .ok (.getfield 36, 3) := by decide +kernel
theorem dX0_measureRoads_96 : decode cX0_measureRoads 96 = .ok (.aload_n 0, 1) := by decide +kernel
theorem dX0_measureRoads_97 : decode cX0_measureRoads 97 = .ok (.getfield 39, 3) := by decide +kernel
theorem dX0_measureRoads_100 : decode cX0_measureRoads 100 = .ok (.getfield 91, 3) := by decide +kernel
theorem dX0_measureRoads_103 : decode cX0_measureRoads 103 = .ok (.iload_n 2, 1) := by decide +kernel
theorem dX0_measureRoads_104 : decode cX0_measureRoads 104 = .ok (.iconst 1, 1) := by decide +kernel
theorem dX0_measureRoads_105 : decode cX0_measureRoads 105 = .ok (.ixor, 1) := by decide +kernel
theorem dX0_measureRoads_106 : decode cX0_measureRoads 106 = .ok (.iaload, 1) := by decide +kernel
theorem dX0_measureRoads_107 : decode cX0_measureRoads 107 = .ok (.iaload, 1) := by decide +kernel
theorem dX0_measureRoads_108 : decode cX0_measureRoads 108 = .ok (.iadd, 1) := by decide +kernel
theorem dX0_measureRoads_109 : decode cX0_measureRoads 109 = .ok (.istore 4, 2) := by decide +kernel
theorem dX0_measureRoads_111 : decode cX0_measureRoads 111 = .ok (.aload_n 0, 1) := by decide +kernel
theorem dX0_measureRoads_112 : decode cX0_measureRoads 112 = .ok (.getfield 39, 3) := by decide +kernel
theorem dX0_measureRoads_115 : decode cX0_measureRoads 115 = .ok (.getfield 114, 3) := by decide +kernel
theorem dX0_measureRoads_118 : decode cX0_measureRoads 118 = .ok (.iload_n 2, 1) := by decide +kernel
theorem dX0_measureRoads_119 : decode cX0_measureRoads 119 = .ok (.iaload, 1) := by decide +kernel
theorem dX0_measureRoads_120 : decode cX0_measureRoads 120 = .ok (.ifCond .le 22, 3) := by decide +kernel
theorem dX0_measureRoads_123 : decode cX0_measureRoads 123 = .ok (.iload 4, 2) := by decide +kernel
theorem dX0_measureRoads_125 : decode cX0_measureRoads 125 = .ok (.aload_n 0, 1) := by decide +kernel
theorem dX0_measureRoads_126 : decode cX0_measureRoads 126 = .ok (.getfield 36, 3) := by decide +kernel
theorem dX0_measureRoads_129 : decode cX0_measureRoads 129 = .ok (.iload_n 3, 1) := by decide +kernel
theorem dX0_measureRoads_130 : decode cX0_measureRoads 130 = .ok (.iaload, 1) := by decide +kernel
theorem dX0_measureRoads_131 : decode cX0_measureRoads 131 = .ok (.if_icmp .ge 11, 3) := by decide +kernel
theorem dX0_measureRoads_134 : decode cX0_measureRoads 134 = .ok (.aload_n 0, 1) := by decide +kernel
theorem dX0_measureRoads_135 : decode cX0_measureRoads 135 = .ok (.getfield 36, 3) := by decide +kernel
theorem dX0_measureRoads_138 : decode cX0_measureRoads 138 = .ok (.iload_n 3, 1) := by decide +kernel
theorem dX0_measureRoads_139 : decode cX0_measureRoads 139 = .ok (.iload 4, 2) := by decide +kernel
theorem dX0_measureRoads_141 : decode cX0_measureRoads 141 = .ok (.iastore, 1) := by decide +kernel
theorem dX0_measureRoads_142 : decode cX0_measureRoads 142 = .ok (.iinc 2 1, 3) := by decide +kernel
theorem dX0_measureRoads_145 : decode cX0_measureRoads 145 = .ok (.goto (-87), 3) := by decide +kernel
theorem dX0_measureRoads_148 : decode cX0_measureRoads 148 = .ok (.iinc 1 1, 3) := by decide +kernel
theorem dX0_measureRoads_151 : decode cX0_measureRoads 151 = .ok (.goto (-106), 3) := by decide +kernel
theorem dX0_measureRoads_154 : decode cX0_measureRoads 154 = .ok (.return_, 1) := by decide +kernel
theorem dX0_fillUpTo_0 : decode cX0_fillUpTo 0 = .ok (.aload_n 0, 1) := by decide +kernel
theorem dX0_fillUpTo_1 : decode cX0_fillUpTo 1 = .ok (.invokevirtual 117, 3) := by decide +kernel
theorem dX0_fillUpTo_4 : decode cX0_fillUpTo 4 = .ok (.iconst 0, 1) := by decide +kernel
theorem dX0_fillUpTo_5 : decode cX0_fillUpTo 5 = .ok (.istore_n 2, 1) := by decide +kernel
theorem dX0_fillUpTo_6 : decode cX0_fillUpTo 6 = .ok (.iload_n 2, 1) := by decide +kernel
theorem dX0_fillUpTo_7 : decode cX0_fillUpTo 7 = .ok (.iload_n 1, 1) := by decide +kernel
theorem dX0_fillUpTo_8 : decode cX0_fillUpTo 8 = .ok (.if_icmp .gt 13, 3) := by decide +kernel
theorem dX0_fillUpTo_11 : decode cX0_fillUpTo 11 = .ok (.aload_n 0, 1) := by decide +kernel
theorem dX0_fillUpTo_12 : decode cX0_fillUpTo 12 = .ok (.invokevirtual 67, 3) := by decide +kernel
theorem dX0_fillUpTo_15 : decode cX0_fillUpTo 15 = .ok (.iinc 2 1, 3) := by decide +kernel
theorem dX0_fillUpTo_18 : decode cX0_fillUpTo 18 = .ok (.goto (-12), 3) := by decide +kernel
theorem dX0_fillUpTo_21 : decode cX0_fillUpTo 21 = .ok (.aload_n 0, 1) := by decide +kernel
theorem dX0_fillUpTo_22 : decode cX0_fillUpTo 22 = .ok (.invokevirtual 70, 3) := by decide +kernel
theorem dX0_fillUpTo_25 : decode cX0_fillUpTo 25 = .ok (.return_, 1) := by decide +kernel
theorem dX0_begin_0 : decode cX0_begin 0 = .ok (.aload_n 0, 1) := by decide +kernel
theorem dX0_begin_1 : decode cX0_begin 1 = .ok (.getfield 11, 3) := by decide +kernel
theorem dX0_begin_4 : decode cX0_begin 4 = .ok (.iconst (-1), 1) := by decide +kernel
theorem dX0_begin_5 : decode cX0_begin 5 = .ok (.invokestatic 120, 3) := by decide +kernel
theorem dX0_begin_8 : decode cX0_begin 8 = .ok (.aload_n 0, 1) := by decide +kernel
theorem dX0_begin_9 : decode cX0_begin 9 = .ok (.iconst 0, 1) := by decide +kernel
theorem dX0_begin_10 : decode cX0_begin 10 = .ok (.putfield 126, 3) := by decide +kernel
theorem dX0_begin_13 : decode cX0_begin 13 = .ok (.aload_n 0, 1) := by decide +kernel
theorem dX0_begin_14 : decode cX0_begin 14 = .ok (.iconst (-1), 1) := by decide +kernel
theorem dX0_begin_15 : decode cX0_begin 15 = .ok (.putfield 73, 3) := by decide +kernel
theorem dX0_begin_18 : decode cX0_begin 18 = .ok (.aload_n 0, 1) := by decide +kernel
theorem dX0_begin_19 : decode cX0_begin 19 = .ok (.iconst 0, 1) := by decide +kernel
theorem dX0_begin_20 : decode cX0_begin 20 = .ok (.putfield 47, 3) := by decide +kernel
theorem dX0_begin_23 : decode cX0_begin 23 = .ok (.aload_n 0, 1) := by decide +kernel
theorem dX0_begin_24 : decode cX0_begin 24 = .ok (.aload_n 0, 1) := by decide +kernel
theorem dX0_begin_25 : decode cX0_begin 25 = .ok (.getfield 39, 3) := by decide +kernel
theorem dX0_begin_28 : decode cX0_begin 28 = .ok (.iconst 0, 1) := by decide +kernel
theorem dX0_begin_29 : decode cX0_begin 29 = .ok (.invokevirtual 98, 3) := by decide +kernel
theorem dX0_begin_32 : decode cX0_begin 32 = .ok (.putfield 55, 3) := by decide +kernel
theorem dX0_begin_35 : decode cX0_begin 35 = .ok (.iconst 0, 1) := by decide +kernel
theorem dX0_begin_36 : decode cX0_begin 36 = .ok (.istore_n 1, 1) := by decide +kernel
theorem dX0_begin_37 : decode cX0_begin 37 = .ok (.iload_n 1, 1) := by decide +kernel
theorem dX0_begin_38 : decode cX0_begin 38 = .ok (.aload_n 0, 1) := by decide +kernel
theorem dX0_begin_39 : decode cX0_begin 39 = .ok (.getfield 39, 3) := by decide +kernel
theorem dX0_begin_42 : decode cX0_begin 42 = .ok (.getfield 105, 3) := by decide +kernel
theorem dX0_begin_45 : decode cX0_begin 45 = .ok (.if_icmp .ge 51, 3) := by decide +kernel
theorem dX0_begin_48 : decode cX0_begin 48 = .ok (.aload_n 0, 1) := by decide +kernel
theorem dX0_begin_49 : decode cX0_begin 49 = .ok (.sipush 344, 3) := by decide +kernel
theorem dX0_begin_52 : decode cX0_begin 52 = .ok (.sipush 328, 3) := by decide +kernel
theorem dX0_begin_55 : decode cX0_begin 55 = .ok (.iload_n 1, 1) := by decide +kernel
theorem dX0_begin_56 : decode cX0_begin 56 = .ok (.iadd, 1) := by decide +kernel
theorem dX0_begin_57 : decode cX0_begin 57 = .ok (.aload_n 0, 1) := by decide +kernel
theorem dX0_begin_58 : decode cX0_begin 58 = .ok (.getfield 39, 3) := by decide +kernel
theorem dX0_begin_61 : decode cX0_begin 61 = .ok (.iload_n 1, 1) := by decide +kernel
theorem dX0_begin_62 : decode cX0_begin 62 = .ok (.iconst 0, 1) := by decide +kernel
theorem dX0_begin_63 : decode cX0_begin 63 = .ok (.invokevirtual 108, 3) := by decide +kernel
theorem dX0_begin_66 : decode cX0_begin 66 = .ok (.invokevirtual 129, 3) := by decide +kernel
theorem dX0_begin_69 : decode cX0_begin 69 = .ok (.aload_n 0, 1) := by decide +kernel
theorem dX0_begin_70 : decode cX0_begin 70 = .ok (.sipush 336, 3) := by decide +kernel
theorem dX0_begin_73 : decode cX0_begin 73 = .ok (.iload_n 1, 1) := by decide +kernel
theorem dX0_begin_74 : decode cX0_begin 74 = .ok (.iadd, 1) := by decide +kernel
theorem dX0_begin_75 : decode cX0_begin 75 = .ok (.sipush 345, 3) := by decide +kernel
theorem dX0_begin_78 : decode cX0_begin 78 = .ok (.aload_n 0, 1) := by decide +kernel
theorem dX0_begin_79 : decode cX0_begin 79 = .ok (.getfield 39, 3) := by decide +kernel
theorem dX0_begin_82 : decode cX0_begin 82 = .ok (.iload_n 1, 1) := by decide +kernel
theorem dX0_begin_83 : decode cX0_begin 83 = .ok (.iconst 1, 1) := by decide +kernel
theorem dX0_begin_84 : decode cX0_begin 84 = .ok (.invokevirtual 108, 3) := by decide +kernel
theorem dX0_begin_87 : decode cX0_begin 87 = .ok (.invokevirtual 129, 3) := by decide +kernel
theorem dX0_begin_90 : decode cX0_begin 90 = .ok (.iinc 1 1, 3) := by decide +kernel
theorem dX0_begin_93 : decode cX0_begin 93 = .ok (.goto (-56), 3) := by decide +kernel
theorem dX0_begin_96 : decode cX0_begin 96 = .ok (.return_, 1) := by decide +kernel
theorem dX0_addMinute_0 : decode cX0_addMinute 0 = .ok (.aload_n 0, 1) := by decide +kernel
theorem dX0_addMinute_1 : decode cX0_addMinute 1 = .ok (.dup, 1) := by decide +kernel
theorem dX0_addMinute_2 : decode cX0_addMinute 2 = .ok (.getfield 73, 3) := by decide +kernel
theorem dX0_addMinute_5 : decode cX0_addMinute 5 = .ok (.iconst 1, 1) := by decide +kernel
theorem dX0_addMinute_6 : decode cX0_addMinute 6 = .ok (.iadd, 1) := by decide +kernel
theorem dX0_addMinute_7 : decode cX0_addMinute 7 = .ok (.putfield 73, 3) := by decide +kernel
theorem dX0_addMinute_10 : decode cX0_addMinute 10 = .ok (.aload_n 0, 1) := by decide +kernel
theorem dX0_addMinute_11 : decode cX0_addMinute 11 = .ok (.getfield 73, 3) := by decide +kernel
theorem dX0_addMinute_14 : decode cX0_addMinute 14 = .ok (.bipush 8, 2) := by decide +kernel
theorem dX0_addMinute_16 : decode cX0_addMinute 16 = .ok (.imul, 1) := by decide +kernel
theorem dX0_addMinute_17 : decode cX0_addMinute 17 = .ok (.istore_n 1, 1) := by decide +kernel
theorem dX0_addMinute_18 : decode cX0_addMinute 18 = .ok (.iconst 0, 1) := by decide +kernel
theorem dX0_addMinute_19 : decode cX0_addMinute 19 = .ok (.istore_n 2, 1) := by decide +kernel
theorem dX0_addMinute_20 : decode cX0_addMinute 20 = .ok (.iload_n 2, 1) := by decide +kernel
theorem dX0_addMinute_21 : decode cX0_addMinute 21 = .ok (.aload_n 0, 1) := by decide +kernel
theorem dX0_addMinute_22 : decode cX0_addMinute 22 = .ok (.getfield 39, 3) := by decide +kernel
theorem dX0_addMinute_25 : decode cX0_addMinute 25 = .ok (.getfield 105, 3) := by decide +kernel
theorem dX0_addMinute_28 : decode cX0_addMinute 28 = .ok (.if_icmp .ge 96, 3) := by decide +kernel
theorem dX0_addMinute_31 : decode cX0_addMinute 31 = .ok (.aload_n 0, 1) := by decide +kernel
theorem dX0_addMinute_32 : decode cX0_addMinute 32 = .ok (.iload_n 1, 1) := by decide +kernel
theorem dX0_addMinute_33 : decode cX0_addMinute 33 = .ok (.iload_n 2, 1) := by decide +kernel
theorem dX0_addMinute_34 : decode cX0_addMinute 34 = .ok (.iadd, 1) := by decide +kernel
theorem dX0_addMinute_35 : decode cX0_addMinute 35 = .ok (.sipush 336, 3) := by decide +kernel
theorem dX0_addMinute_38 : decode cX0_addMinute 38 = .ok (.iload_n 2, 1) := by decide +kernel
theorem dX0_addMinute_39 : decode cX0_addMinute 39 = .ok (.iadd, 1) := by decide +kernel
theorem dX0_addMinute_40 : decode cX0_addMinute 40 = .ok (.aload_n 0, 1) := by decide +kernel
theorem dX0_addMinute_41 : decode cX0_addMinute 41 = .ok (.getfield 39, 3) := by decide +kernel
theorem dX0_addMinute_44 : decode cX0_addMinute 44 = .ok (.iload_n 2, 1) := by decide +kernel
theorem dX0_addMinute_45 : decode cX0_addMinute 45 = .ok (.iconst 1, 1) := by decide +kernel
theorem dX0_addMinute_46 : decode cX0_addMinute 46 = .ok (.invokevirtual 108, 3) := by decide +kernel
theorem dX0_addMinute_49 : decode cX0_addMinute 49 = .ok (.invokevirtual 129, 3) := by decide +kernel
theorem dX0_addMinute_52 : decode cX0_addMinute 52 = .ok (.aload_n 0, 1) := by decide +kernel
theorem dX0_addMinute_53 : decode cX0_addMinute 53 = .ok (.getfield 73, 3) := by decide +kernel
theorem dX0_addMinute_56 : decode cX0_addMinute 56 = .ok (.ifCond .le 25, 3) := by decide +kernel
theorem dX0_addMinute_59 : decode cX0_addMinute 59 = .ok (.aload_n 0, 1) := by decide +kernel
theorem dX0_addMinute_60 : decode cX0_addMinute 60 = .ok (.iload_n 1, 1) := by decide +kernel
theorem dX0_addMinute_61 : decode cX0_addMinute 61 = .ok (.bipush 8, 2) := by decide +kernel
theorem dX0_addMinute_63 : decode cX0_addMinute 63 = .ok (.isub, 1) := by decide +kernel
theorem dX0_addMinute_64 : decode cX0_addMinute 64 = .ok (.iload_n 2, 1) := by decide +kernel
theorem dX0_addMinute_65 : decode cX0_addMinute 65 = .ok (.iadd, 1) := by decide +kernel
theorem dX0_addMinute_66 : decode cX0_addMinute 66 = .ok (.iload_n 1, 1) := by decide +kernel
theorem dX0_addMinute_67 : decode cX0_addMinute 67 = .ok (.iload_n 2, 1) := by decide +kernel
theorem dX0_addMinute_68 : decode cX0_addMinute 68 = .ok (.iadd, 1) := by decide +kernel
theorem dX0_addMinute_69 : decode cX0_addMinute 69 = .ok (.aload_n 0, 1) := by decide +kernel
theorem dX0_addMinute_70 : decode cX0_addMinute 70 = .ok (.getfield 39, 3) := by decide +kernel
theorem dX0_addMinute_73 : decode cX0_addMinute 73 = .ok (.iload_n 2, 1) := by decide +kernel
theorem dX0_addMinute_74 : decode cX0_addMinute 74 = .ok (.iconst 3, 1) := by decide +kernel
theorem dX0_addMinute_75 : decode cX0_addMinute 75 = .ok (.invokevirtual 108, 3) := by decide +kernel
theorem dX0_addMinute_78 : decode cX0_addMinute 78 = .ok (.invokevirtual 129, 3) := by decide +kernel
theorem dX0_addMinute_81 : decode cX0_addMinute 81 = .ok (.aload_n 0, 1) := by decide +kernel
theorem dX0_addMinute_82 : decode cX0_addMinute 82 = .ok (.getfield 73, 3) := by decide +kernel
theorem dX0_addMinute_85 : decode cX0_addMinute 85 = .ok (.aload_n 0, 1) := by decide +kernel
theorem dX0_addMinute_86 : decode cX0_addMinute 86 = .ok (.getfield 39, 3) := by decide +kernel
theorem dX0_addMinute_89 : decode cX0_addMinute 89 = .ok (.iload_n 2, 1) := by decide +kernel
theorem dX0_addMinute_90 : decode cX0_addMinute 90 = .ok (.iconst 2, 1) := by decide +kernel
theorem dX0_addMinute_91 : decode cX0_addMinute 91 = .ok (.invokevirtual 108, 3) := by decide +kernel
theorem dX0_addMinute_94 : decode cX0_addMinute 94 = .ok (.if_icmp .lt 24, 3) := by decide +kernel
theorem dX0_addMinute_97 : decode cX0_addMinute 97 = .ok (.aload_n 0, 1) := by decide +kernel
theorem dX0_addMinute_98 : decode cX0_addMinute 98 = .ok (.sipush 328, 3) := by decide +kernel
theorem dX0_addMinute_101 : decode cX0_addMinute 101 = .ok (.iload_n 2, 1) := by decide +kernel
theorem dX0_addMinute_102 : decode cX0_addMinute 102 = .ok (.iadd, 1) := by decide +kernel
theorem dX0_addMinute_103 : decode cX0_addMinute 103 = .ok (.iload_n 1, 1) := by decide +kernel
theorem dX0_addMinute_104 : decode cX0_addMinute 104 = .ok (.iload_n 2, 1) := by decide +kernel
theorem dX0_addMinute_105 : decode cX0_addMinute 105 = .ok (.iadd, 1) := by decide +kernel
theorem dX0_addMinute_106 : decode cX0_addMinute 106 = .ok (.aload_n 0, 1) := by decide +kernel
theorem dX0_addMinute_107 : decode cX0_addMinute 107 = .ok (.getfield 39, 3) := by decide +kernel
theorem dX0_addMinute_110 : decode cX0_addMinute 110 = .ok (.iload_n 2, 1) := by decide +kernel
theorem dX0_addMinute_111 : decode cX0_addMinute 111 = .ok (.iconst 0, 1) := by decide +kernel
theorem dX0_addMinute_112 : decode cX0_addMinute 112 = .ok (.invokevirtual 108, 3) := by decide +kernel
theorem dX0_addMinute_115 : decode cX0_addMinute 115 = .ok (.invokevirtual 129, 3) := by decide +kernel
theorem dX0_addMinute_118 : decode cX0_addMinute 118 = .ok (.iinc 2 1, 3) := by decide +kernel
theorem dX0_addMinute_121 : decode cX0_addMinute 121 = .ok (.goto (-101), 3) := by decide +kernel
theorem dX0_addMinute_124 : decode cX0_addMinute 124 = .ok (.iconst 0, 1) := by decide +kernel
theorem dX0_addMinute_125 : decode cX0_addMinute 125 = .ok (.istore_n 2, 1) := by decide +kernel
theorem dX0_addMinute_126 : decode cX0_addMinute 126 = .ok (.iload_n 2, 1) := by decide +kernel
theorem dX0_addMinute_127 : decode cX0_addMinute 127 = .ok (.iconst 2, 1) := by decide +kernel
theorem dX0_addMinute_128 : decode cX0_addMinute 128 = .ok (.aload_n 0, 1) := by decide +kernel
theorem dX0_addMinute_129 : decode cX0_addMinute 129 = .ok (.getfield 39, 3) := by decide +kernel
theorem dX0_addMinute_132 : decode cX0_addMinute 132 = .ok (.getfield 80, 3) := by decide +kernel
theorem dX0_addMinute_135 : decode cX0_addMinute 135 = .ok (.imul, 1) := by decide +kernel
theorem dX0_addMinute_136 : decode cX0_addMinute 136 = .ok (.if_icmp .ge 71, 3) := by decide +kernel
theorem dX0_addMinute_139 : decode cX0_addMinute 139 = .ok (.aload_n 0, 1) := by decide +kernel
theorem dX0_addMinute_140 : decode cX0_addMinute 140 = .ok (.getfield 39, 3) := by decide +kernel
theorem dX0_addMinute_143 : decode cX0_addMinute 143 = .ok (.getfield 88, 3) := by decide +kernel
theorem dX0_addMinute_146 : decode cX0_addMinute 146 = .ok (.iload_n 2, 1) := by decide +kernel
theorem dX0_addMinute_147 : decode cX0_addMinute 147 = .ok (.iconst 2, 1) := by decide +kernel
theorem dX0_addMinute_148 : decode cX0_addMinute 148 = .ok (.idiv, 1) := by decide +kernel
theorem dX0_addMinute_149 : decode cX0_addMinute 149 = .ok (.iaload, 1) := by decide +kernel
theorem dX0_addMinute_150 : decode cX0_addMinute 150 = .ok (.istore_n 3, 1) := by decide +kernel
theorem dX0_addMinute_151 : decode cX0_addMinute 151 = .ok (.aload_n 0, 1) := by decide +kernel
theorem dX0_addMinute_152 : decode cX0_addMinute 152 = .ok (.getfield 73, 3) := by decide +kernel
theorem dX0_addMinute_155 : decode cX0_addMinute 155 = .ok (.iload_n 3, 1) := by decide +kernel
theorem dX0_addMinute_156 : decode cX0_addMinute 156 = .ok (.if_icmp .lt 45, 3) := by decide +kernel
theorem dX0_addMinute_159 : decode cX0_addMinute 159 = .ok (.aload_n 0, 1) := by decide +kernel
theorem dX0_addMinute_160 : decode cX0_addMinute 160 = .ok (.iload_n 1, 1) := by decide +kernel
theorem dX0_addMinute_161 : decode cX0_addMinute 161 = .ok (.iload_n 3, 1) := by decide +kernel
theorem dX0_addMinute_162 : decode cX0_addMinute 162 = .ok (.bipush 8, 2) := by decide +kernel
theorem dX0_addMinute_164 : decode cX0_addMinute 164 = .ok (.imul, 1) := by decide +kernel
theorem dX0_addMinute_165 : decode cX0_addMinute 165 = .ok (.isub, 1) := by decide +kernel
theorem dX0_addMinute_166 : decode cX0_addMinute 166 = .ok (.aload_n 0, 1) := by decide +kernel
theorem dX0_addMinute_167 : decode cX0_addMinute 167 = .ok (.getfield 39, 3) := by decide +kernel
theorem dX0_addMinute_170 : decode cX0_addMinute 170 = .ok (.getfield 91, 3) := by decide +kernel
theorem dX0_addMinute_173 : decode cX0_addMinute 173 = .ok (.iload_n 2, 1) := by decide +kernel
theorem dX0_addMinute_174 : decode cX0_addMinute 174 = .ok (.iaload, 1) := by decide +kernel
theorem dX0_addMinute_175 : decode cX0_addMinute 175 = .ok (.iadd, 1) := by decide +kernel
theorem dX0_addMinute_176 : decode cX0_addMinute 176 = .ok (.iload_n 1, 1) := by decide +kernel
theorem dX0_addMinute_177 : decode cX0_addMinute 177 = .ok (.aload_n 0, 1) := by decide +kernel
theorem dX0_addMinute_178 : decode cX0_addMinute 178 = .ok (.getfield 39, 3) := by decide +kernel
theorem dX0_addMinute_181 : decode cX0_addMinute 181 = .ok (.getfield 91, 3) := by decide +kernel
theorem dX0_addMinute_184 : decode cX0_addMinute 184 = .ok (.iload_n 2, 1) := by decide +kernel
theorem dX0_addMinute_185 : decode cX0_addMinute 185 = .ok (.iconst 1, 1) := by decide +kernel
theorem dX0_addMinute_186 : decode cX0_addMinute 186 = .ok (.ixor, 1) := by decide +kernel
theorem dX0_addMinute_187 : decode cX0_addMinute 187 = .ok (.iaload, 1) := by decide +kernel
theorem dX0_addMinute_188 : decode cX0_addMinute 188 = .ok (.iadd, 1) := by decide +kernel
theorem dX0_addMinute_189 : decode cX0_addMinute 189 = .ok (.aload_n 0, 1) := by decide +kernel
theorem dX0_addMinute_190 : decode cX0_addMinute 190 = .ok (.getfield 39, 3) := by decide +kernel
theorem dX0_addMinute_193 : decode cX0_addMinute 193 = .ok (.getfield 114, 3) := by decide +kernel
theorem dX0_addMinute_196 : decode cX0_addMinute 196 = .ok (.iload_n 2, 1) := by decide +kernel
theorem dX0_addMinute_197 : decode cX0_addMinute 197 = .ok (.iaload, 1) := by decide +kernel
theorem dX0_addMinute_198 : decode cX0_addMinute 198 = .ok (.invokevirtual 129, 3) := by decide +kernel
theorem dX0_addMinute_201 : decode cX0_addMinute 201 = .ok (.iinc 2 1, 3) := by decide +kernel
theorem dX0_addMinute_204 : decode cX0_addMinute 204 = .ok (.goto (-78), 3) := by decide +kernel
theorem dX0_addMinute_207 : decode cX0_addMinute 207 = .ok (.return_, 1) := by decide +kernel
theorem dX0_join_0 : decode cX0_join 0 = .ok (.iload_n 3, 1) := by decide +kernel
theorem dX0_join_1 : decode cX0_join 1 = .ok (.ifCond .le 17, 3) := by decide +kernel
theorem dX0_join_4 : decode cX0_join 4 = .ok (.aload_n 0, 1) := by decide +kernel
theorem dX0_join_5 : decode cX0_join 5 = .ok (.iload_n 1, 1) := by decide +kernel
theorem dX0_join_6 : decode cX0_join 6 = .ok (.iload_n 2, 1) := by decide +kernel
theorem dX0_join_7 : decode cX0_join 7 = .ok (.iload_n 3, 1) := by decide +kernel
theorem dX0_join_8 : decode cX0_join 8 = .ok (.invokevirtual 133, 3) := by decide +kernel
theorem dX0_join_11 : decode cX0_join 11 = .ok (.aload_n 0, 1) := by decide +kernel
theorem dX0_join_12 : decode cX0_join 12 = .ok (.iload_n 2, 1) := by decide +kernel
theorem dX0_join_13 : decode cX0_join 13 = .ok (.iload_n 1, 1) := by decide +kernel
theorem dX0_join_14 : decode cX0_join 14 = .ok (.iconst 0, 1) := by decide +kernel
theorem dX0_join_15 : decode cX0_join 15 = .ok (.invokevirtual 133, 3) := by decide +kernel
theorem dX0_join_18 : decode cX0_join 18 = .ok (.return_, 1) := by decide +kernel
theorem dX0_addArc_0 : decode cX0_addArc 0 = .ok (.aload_n 0, 1) := by decide +kernel
theorem dX0_addArc_1 : decode cX0_addArc 1 = .ok (.getfield 18, 3) := by decide +kernel
theorem dX0_addArc_4 : decode cX0_addArc 4 = .ok (.aload_n 0, 1) := by decide +kernel
theorem dX0_addArc_5 : decode cX0_addArc 5 = .ok (.getfield 126, 3) := by decide +kernel
theorem dX0_addArc_8 : decode cX0_addArc 8 = .ok (.iload_n 2, 1) := by decide +kernel
theorem dX0_addArc_9 : decode cX0_addArc 9 = .ok (.iastore, 1) := by decide +kernel
theorem dX0_addArc_10 : decode cX0_addArc 10 = .ok (.aload_n 0, 1) := by decide +kernel
theorem dX0_addArc_11 : decode cX0_addArc 11 = .ok (.getfield 21, 3) := by decide +kernel
theorem dX0_addArc_14 : decode cX0_addArc 14 = .ok (.aload_n 0, 1) := by decide +kernel
theorem dX0_addArc_15 : decode cX0_addArc 15 = .ok (.getfield 126, 3) := by decide +kernel
theorem dX0_addArc_18 : decode cX0_addArc 18 = .ok (.iload_n 3, 1) := by decide +kernel
theorem dX0_addArc_19 : decode cX0_addArc 19 = .ok (.iastore, 1) := by decide +kernel
theorem dX0_addArc_20 : decode cX0_addArc 20 = .ok (.aload_n 0, 1) := by decide +kernel
theorem dX0_addArc_21 : decode cX0_addArc 21 = .ok (.getfield 15, 3) := by decide +kernel
theorem dX0_addArc_24 : decode cX0_addArc 24 = .ok (.aload_n 0, 1) := by decide +kernel
theorem dX0_addArc_25 : decode cX0_addArc 25 = .ok (.getfield 126, 3) := by decide +kernel
theorem dX0_addArc_28 : decode cX0_addArc 28 = .ok (.aload_n 0, 1) := by decide +kernel
theorem dX0_addArc_29 : decode cX0_addArc 29 = .ok (.getfield 11, 3) := by decide +kernel
theorem dX0_addArc_32 : decode cX0_addArc 32 = .ok (.iload_n 1, 1) := by decide +kernel
theorem dX0_addArc_33 : decode cX0_addArc 33 = .ok (.iaload, 1) := by decide +kernel
theorem dX0_addArc_34 : decode cX0_addArc 34 = .ok (.iastore, 1) := by decide +kernel
theorem dX0_addArc_35 : decode cX0_addArc 35 = .ok (.aload_n 0, 1) := by decide +kernel
theorem dX0_addArc_36 : decode cX0_addArc 36 = .ok (.getfield 11, 3) := by decide +kernel
theorem dX0_addArc_39 : decode cX0_addArc 39 = .ok (.iload_n 1, 1) := by decide +kernel
theorem dX0_addArc_40 : decode cX0_addArc 40 = .ok (.aload_n 0, 1) := by decide +kernel
theorem dX0_addArc_41 : decode cX0_addArc 41 = .ok (.getfield 126, 3) := by decide +kernel
theorem dX0_addArc_44 : decode cX0_addArc 44 = .ok (.iastore, 1) := by decide +kernel
theorem dX0_addArc_45 : decode cX0_addArc 45 = .ok (.aload_n 0, 1) := by decide +kernel
theorem dX0_addArc_46 : decode cX0_addArc 46 = .ok (.dup, 1) := by decide +kernel
theorem dX0_addArc_47 : decode cX0_addArc 47 = .ok (.getfield 126, 3) := by decide +kernel
theorem dX0_addArc_50 : decode cX0_addArc 50 = .ok (.iconst 1, 1) := by decide +kernel
theorem dX0_addArc_51 : decode cX0_addArc 51 = .ok (.iadd, 1) := by decide +kernel
theorem dX0_addArc_52 : decode cX0_addArc 52 = .ok (.putfield 126, 3) := by decide +kernel
theorem dX0_addArc_55 : decode cX0_addArc 55 = .ok (.return_, 1) := by decide +kernel
theorem dX0_push_0 : decode cX0_push 0 = .ok (.iconst 0, 1) := by decide +kernel
theorem dX0_push_1 : decode cX0_push 1 = .ok (.istore_n 1, 1) := by decide +kernel
theorem dX0_push_2 : decode cX0_push 2 = .ok (.iload_n 1, 1) := by decide +kernel
theorem dX0_push_3 : decode cX0_push 3 = .ok (.ldc 136, 2) := by decide +kernel
theorem dX0_push_5 : decode cX0_push 5 = .ok (.if_icmp .ge 31, 3) := by decide +kernel
theorem dX0_push_8 : decode cX0_push 8 = .ok (.aload_n 0, 1) := by decide +kernel
theorem dX0_push_9 : decode cX0_push 9 = .ok (.getfield 47, 3) := by decide +kernel
theorem dX0_push_12 : decode cX0_push 12 = .ok (.aload_n 0, 1) := by decide +kernel
theorem dX0_push_13 : decode cX0_push 13 = .ok (.getfield 55, 3) := by decide +kernel
theorem dX0_push_16 : decode cX0_push 16 = .ok (.if_icmp .ge 20, 3) := by decide +kernel
theorem dX0_push_19 : decode cX0_push 19 = .ok (.aload_n 0, 1) := by decide +kernel
theorem dX0_push_20 : decode cX0_push 20 = .ok (.invokevirtual 76, 3) := by decide +kernel
theorem dX0_push_23 : decode cX0_push 23 = .ok (.ifCond .eq 13, 3) := by decide +kernel
theorem dX0_push_26 : decode cX0_push 26 = .ok (.aload_n 0, 1) := by decide +kernel
theorem dX0_push_27 : decode cX0_push 27 = .ok (.invokevirtual 137, 3) := by decide +kernel
theorem dX0_push_30 : decode cX0_push 30 = .ok (.iinc 1 1, 3) := by decide +kernel
theorem dX0_push_33 : decode cX0_push 33 = .ok (.goto (-31), 3) := by decide +kernel
theorem dX0_push_36 : decode cX0_push 36 = .ok (.return_, 1) := by decide +kernel
theorem dX0_reachSource_0 : decode cX0_reachSource 0 = .ok (.aload_n 0, 1) := by decide +kernel
theorem dX0_reachSource_1 : decode cX0_reachSource 1 = .ok (.getfield 24, 3) := by decide +kernel
theorem dX0_reachSource_4 : decode cX0_reachSource 4 = .ok (.iconst (-1), 1) := by decide +kernel
theorem dX0_reachSource_5 : decode cX0_reachSource 5 = .ok (.invokestatic 120, 3) := by decide +kernel
theorem dX0_reachSource_8 : decode cX0_reachSource 8 = .ok (.aload_n 0, 1) := by decide +kernel
theorem dX0_reachSource_9 : decode cX0_reachSource 9 = .ok (.getfield 24, 3) := by decide +kernel
theorem dX0_reachSource_12 : decode cX0_reachSource 12 = .ok (.sipush 345, 3) := by decide +kernel
theorem dX0_reachSource_15 : decode cX0_reachSource 15 = .ok (.iconst 0, 1) := by decide +kernel
theorem dX0_reachSource_16 : decode cX0_reachSource 16 = .ok (.iastore, 1) := by decide +kernel
theorem dX0_reachSource_17 : decode cX0_reachSource 17 = .ok (.aload_n 0, 1) := by decide +kernel
theorem dX0_reachSource_18 : decode cX0_reachSource 18 = .ok (.getfield 30, 3) := by decide +kernel
theorem dX0_reachSource_21 : decode cX0_reachSource 21 = .ok (.iconst 0, 1) := by decide +kernel
theorem dX0_reachSource_22 : decode cX0_reachSource 22 = .ok (.sipush 345, 3) := by decide +kernel
theorem dX0_reachSource_25 : decode cX0_reachSource 25 = .ok (.iastore, 1) := by decide +kernel
theorem dX0_reachSource_26 : decode cX0_reachSource 26 = .ok (.iconst 1, 1) := by decide +kernel
theorem dX0_reachSource_27 : decode cX0_reachSource 27 = .ok (.istore_n 1, 1) := by decide +kernel
theorem dX0_reachSource_28 : decode cX0_reachSource 28 = .ok (.iconst 0, 1) := by decide +kernel
theorem dX0_reachSource_29 : decode cX0_reachSource 29 = .ok (.istore_n 2, 1) := by decide +kernel
theorem dX0_reachSource_30 : decode cX0_reachSource 30 = .ok (.iload_n 2, 1) := by decide +kernel
theorem dX0_reachSource_31 : decode cX0_reachSource 31 = .ok (.sipush 346, 3) := by decide +kernel
theorem dX0_reachSource_34 : decode cX0_reachSource 34 = .ok (.if_icmp .ge 131, 3) := by decide +kernel
theorem dX0_reachSource_37 : decode cX0_reachSource 37 = .ok (.iload_n 2, 1) := by decide +kernel
theorem dX0_reachSource_38 : decode cX0_reachSource 38 = .ok (.iload_n 1, 1) := by decide +kernel
theorem dX0_reachSource_39 : decode cX0_reachSource 39 = .ok (.if_icmp .ge 126, 3) := by decide +kernel
theorem dX0_reachSource_42 : decode cX0_reachSource 42 = .ok (.aload_n 0, 1) := by decide +kernel
theorem dX0_reachSource_43 : decode cX0_reachSource 43 = .ok (.getfield 24, 3) := by decide +kernel
theorem dX0_reachSource_46 : decode cX0_reachSource 46 = .ok (.sipush 344, 3) := by decide +kernel
theorem dX0_reachSource_49 : decode cX0_reachSource 49 = .ok (.iaload, 1) := by decide +kernel
theorem dX0_reachSource_50 : decode cX0_reachSource 50 = .ok (.iconst (-1), 1) := by decide +kernel
theorem dX0_reachSource_51 : decode cX0_reachSource 51 = .ok (.if_icmp .ne 114, 3) := by decide +kernel
theorem dX0_reachSource_54 : decode cX0_reachSource 54 = .ok (.aload_n 0, 1) := by decide +kernel
theorem dX0_reachSource_55 : decode cX0_reachSource 55 = .ok (.getfield 30, 3) := by decide +kernel
theorem dX0_reachSource_58 : decode cX0_reachSource 58 = .ok (.iload_n 2, 1) := by decide +kernel
theorem dX0_reachSource_59 : decode cX0_reachSource 59 = .ok (.iaload, 1) := by decide +kernel
theorem dX0_reachSource_60 : decode cX0_reachSource 60 = .ok (.istore_n 3, 1) := by decide +kernel
theorem dX0_reachSource_61 : decode cX0_reachSource 61 = .ok (.aload_n 0, 1) := by decide +kernel
theorem dX0_reachSource_62 : decode cX0_reachSource 62 = .ok (.getfield 11, 3) := by decide +kernel
theorem dX0_reachSource_65 : decode cX0_reachSource 65 = .ok (.iload_n 3, 1) := by decide +kernel
theorem dX0_reachSource_66 : decode cX0_reachSource 66 = .ok (.iaload, 1) := by decide +kernel
theorem dX0_reachSource_67 : decode cX0_reachSource 67 = .ok (.istore 4, 2) := by decide +kernel
theorem dX0_reachSource_69 : decode cX0_reachSource 69 = .ok (.iconst 0, 1) := by decide +kernel
theorem dX0_reachSource_70 : decode cX0_reachSource 70 = .ok (.istore 5, 2) := by decide +kernel
theorem dX0_reachSource_72 : decode cX0_reachSource 72 = .ok (.iload 5, 2) := by decide +kernel
theorem dX0_reachSource_74 : decode cX0_reachSource 74 = .ok (.sipush 3968, 3) := by decide +kernel
theorem dX0_reachSource_77 : decode cX0_reachSource 77 = .ok (.if_icmp .ge 82, 3) := by decide +kernel
theorem dX0_reachSource_80 : decode cX0_reachSource 80 = .ok (.iload 4, 2) := by decide +kernel
theorem dX0_reachSource_82 : decode cX0_reachSource 82 = .ok (.iconst (-1), 1) := by decide +kernel
theorem dX0_reachSource_83 : decode cX0_reachSource 83 = .ok (.if_icmp .eq 76, 3) := by decide +kernel
theorem dX0_reachSource_86 : decode cX0_reachSource 86 = .ok (.aload_n 0, 1) := by decide +kernel
theorem dX0_reachSource_87 : decode cX0_reachSource 87 = .ok (.getfield 18, 3) := by decide +kernel
theorem dX0_reachSource_90 : decode cX0_reachSource 90 = .ok (.iload 4, 2) := by decide +kernel
theorem dX0_reachSource_92 : decode cX0_reachSource 92 = .ok (.iaload, 1) := by decide +kernel
theorem dX0_reachSource_93 : decode cX0_reachSource 93 = .ok (.istore 6, 2) := by decide +kernel
theorem dX0_reachSource_95 : decode cX0_reachSource 95 = .ok (.aload_n 0, 1) := by decide +kernel
theorem dX0_reachSource_96 : decode cX0_reachSource 96 = .ok (.getfield 21, 3) := by decide +kernel
theorem dX0_reachSource_99 : decode cX0_reachSource 99 = .ok (.iload 4, 2) := by decide +kernel
theorem dX0_reachSource_101 : decode cX0_reachSource 101 = .ok (.iconst 1, 1) := by decide +kernel
theorem dX0_reachSource_102 : decode cX0_reachSource 102 = .ok (.ixor, 1) := by decide +kernel
theorem dX0_reachSource_103 : decode cX0_reachSource 103 = .ok (.iaload, 1) := by decide +kernel
theorem dX0_reachSource_104 : decode cX0_reachSource 104 = .ok (.ifCond .le 40, 3) := by decide +kernel
theorem dX0_reachSource_107 : decode cX0_reachSource 107 = .ok (.aload_n 0, 1) := by decide +kernel
theorem dX0_reachSource_108 : decode cX0_reachSource 108 = .ok (.getfield 24, 3) := by decide +kernel
theorem dX0_reachSource_111 : decode cX0_reachSource 111 = .ok (.iload 6, 2) := by decide +kernel
theorem dX0_reachSource_113 : decode cX0_reachSource 113 = .ok (.iaload, 1) := by decide +kernel
theorem dX0_reachSource_114 : decode cX0_reachSource 114 = .ok (.iconst (-1), 1) := by decide +kernel
theorem dX0_reachSource_115 : decode cX0_reachSource 115 = .ok (.if_icmp .ne 29, 3) := by decide +kernel
theorem dX0_reachSource_118 : decode cX0_reachSource 118 = .ok (.aload_n 0, 1) := by decide +kernel
theorem dX0_reachSource_119 : decode cX0_reachSource 119 = .ok (.getfield 24, 3) := by decide +kernel
theorem dX0_reachSource_122 : decode cX0_reachSource 122 = .ok (.iload 6, 2) := by decide +kernel
theorem dX0_reachSource_124 : decode cX0_reachSource 124 = .ok (.aload_n 0, 1) := by decide +kernel
theorem dX0_reachSource_125 : decode cX0_reachSource 125 = .ok (.getfield 24, 3) := by decide +kernel
theorem dX0_reachSource_128 : decode cX0_reachSource 128 = .ok (.iload_n 3, 1) := by decide +kernel
theorem dX0_reachSource_129 : decode cX0_reachSource 129 = .ok (.iaload, 1) := by decide +kernel
theorem dX0_reachSource_130 : decode cX0_reachSource 130 = .ok (.iconst 1, 1) := by decide +kernel
theorem dX0_reachSource_131 : decode cX0_reachSource 131 = .ok (.iadd, 1) := by decide +kernel
theorem dX0_reachSource_132 : decode cX0_reachSource 132 = .ok (.iastore, 1) := by decide +kernel
theorem dX0_reachSource_133 : decode cX0_reachSource 133 = .ok (.aload_n 0, 1) := by decide +kernel
theorem dX0_reachSource_134 : decode cX0_reachSource 134 = .ok (.getfield 30, 3) := by decide +kernel
theorem dX0_reachSource_137 : decode cX0_reachSource 137 = .ok (.iload_n 1, 1) := by decide +kernel
theorem dX0_reachSource_138 : decode cX0_reachSource 138 = .ok (.iload 6, 2) := by decide +kernel
theorem dX0_reachSource_140 : decode cX0_reachSource 140 = .ok (.iastore, 1) := by decide +kernel
theorem dX0_reachSource_141 : decode cX0_reachSource 141 = .ok (.iinc 1 1, 3) := by decide +kernel
theorem dX0_reachSource_144 : decode cX0_reachSource 144 = .ok (.aload_n 0, 1) := by decide +kernel
theorem dX0_reachSource_145 : decode cX0_reachSource 145 = .ok (.getfield 15, 3) := by decide +kernel
theorem dX0_reachSource_148 : decode cX0_reachSource 148 = .ok (.iload 4, 2) := by decide +kernel
theorem dX0_reachSource_150 : decode cX0_reachSource 150 = .ok (.iaload, 1) := by decide +kernel
theorem dX0_reachSource_151 : decode cX0_reachSource 151 = .ok (.istore 4, 2) := by decide +kernel
theorem dX0_reachSource_153 : decode cX0_reachSource 153 = .ok (.iinc 5 1, 3) := by decide +kernel
theorem dX0_reachSource_156 : decode cX0_reachSource 156 = .ok (.goto (-84), 3) := by decide +kernel
theorem dX0_reachSource_159 : decode cX0_reachSource 159 = .ok (.iinc 2 1, 3) := by decide +kernel
theorem dX0_reachSource_162 : decode cX0_reachSource 162 = .ok (.goto (-132), 3) := by decide +kernel
theorem dX0_reachSource_165 : decode cX0_reachSource 165 = .ok (.aload_n 0, 1) := by decide +kernel
theorem dX0_reachSource_166 : decode cX0_reachSource 166 = .ok (.getfield 24, 3) := by decide +kernel
theorem dX0_reachSource_169 : decode cX0_reachSource 169 = .ok (.sipush 344, 3) := by decide +kernel
theorem dX0_reachSource_172 : decode cX0_reachSource 172 = .ok (.iaload, 1) := by decide +kernel
theorem dX0_reachSource_173 : decode cX0_reachSource 173 = .ok (.iconst (-1), 1) := by decide +kernel
theorem dX0_reachSource_174 : decode cX0_reachSource 174 = .ok (.if_icmp .eq 7, 3) := by decide +kernel
theorem dX0_reachSource_177 : decode cX0_reachSource 177 = .ok (.iconst 1, 1) := by decide +kernel
theorem dX0_reachSource_178 : decode cX0_reachSource 178 = .ok (.goto 4, 3) := by decide +kernel
theorem dX0_reachSource_181 : decode cX0_reachSource 181 = .ok (.iconst 0, 1) := by decide +kernel
theorem dX0_reachSource_182 : decode cX0_reachSource 182 = .ok (.ireturn, 1) := by decide +kernel
theorem dX0_fillPaths_0 : decode cX0_fillPaths 0 = .ok (.aload_n 0, 1) := by decide +kernel
theorem dX0_fillPaths_1 : decode cX0_fillPaths 1 = .ok (.getfield 11, 3) := by decide +kernel
theorem dX0_fillPaths_4 : decode cX0_fillPaths 4 = .ok (.iconst 0, 1) := by decide +kernel
theorem dX0_fillPaths_5 : decode cX0_fillPaths 5 = .ok (.aload_n 0, 1) := by decide +kernel
theorem dX0_fillPaths_6 : decode cX0_fillPaths 6 = .ok (.getfield 27, 3) := by decide +kernel
theorem dX0_fillPaths_9 : decode cX0_fillPaths 9 = .ok (.iconst 0, 1) := by decide +kernel
theorem dX0_fillPaths_10 : decode cX0_fillPaths 10 = .ok (.sipush 346, 3) := by decide +kernel
theorem dX0_fillPaths_13 : decode cX0_fillPaths 13 = .ok (.invokestatic 140, 3) := by decide +kernel
theorem dX0_fillPaths_16 : decode cX0_fillPaths 16 = .ok (.sipush 344, 3) := by decide +kernel
theorem dX0_fillPaths_19 : decode cX0_fillPaths 19 = .ok (.istore_n 1, 1) := by decide +kernel
theorem dX0_fillPaths_20 : decode cX0_fillPaths 20 = .ok (.iconst 0, 1) := by decide +kernel
theorem dX0_fillPaths_21 : decode cX0_fillPaths 21 = .ok (.istore_n 2, 1) := by decide +kernel
theorem dX0_fillPaths_22 : decode cX0_fillPaths 22 = .ok (.iconst 0, 1) := by decide +kernel
theorem dX0_fillPaths_23 : decode cX0_fillPaths 23 = .ok (.istore_n 3, 1) := by decide +kernel
theorem dX0_fillPaths_24 : decode cX0_fillPaths 24 = .ok (.iload_n 3, 1) := by decide +kernel
theorem dX0_fillPaths_25 : decode cX0_fillPaths 25 = .ok (.ldc 136, 2) := by decide +kernel
theorem dX0_fillPaths_27 : decode cX0_fillPaths 27 = .ok (.if_icmp .ge 110, 3) := by decide +kernel
theorem dX0_fillPaths_30 : decode cX0_fillPaths 30 = .ok (.iload_n 1, 1) := by decide +kernel
theorem dX0_fillPaths_31 : decode cX0_fillPaths 31 = .ok (.sipush 345, 3) := by decide +kernel
theorem dX0_fillPaths_34 : decode cX0_fillPaths 34 = .ok (.if_icmp .ne 23, 3) := by decide +kernel
theorem dX0_fillPaths_37 : decode cX0_fillPaths 37 = .ok (.aload_n 0, 1) := by decide +kernel
theorem dX0_fillPaths_38 : decode cX0_fillPaths 38 = .ok (.iload_n 2, 1) := by decide +kernel
theorem dX0_fillPaths_39 : decode cX0_fillPaths 39 = .ok (.invokevirtual 146, 3) := by decide +kernel
theorem dX0_fillPaths_42 : decode cX0_fillPaths 42 = .ok (.istore_n 2, 1) := by decide +kernel
theorem dX0_fillPaths_43 : decode cX0_fillPaths 43 = .ok (.aload_n 0, 1) := by decide +kernel
theorem dX0_fillPaths_44 : decode cX0_fillPaths 44 = .ok (.getfield 18, 3) := by decide +kernel
theorem dX0_fillPaths_47 : decode cX0_fillPaths 47 = .ok (.aload_n 0, 1) := by decide +kernel
theorem dX0_fillPaths_48 : decode cX0_fillPaths 48 = .ok (.getfield 30, 3) := by decide +kernel
theorem dX0_fillPaths_51 : decode cX0_fillPaths 51 = .ok (.iload_n 2, 1) := by decide +kernel
theorem dX0_fillPaths_52 : decode cX0_fillPaths 52 = .ok (.iaload, 1) := by decide +kernel
theorem dX0_fillPaths_53 : decode cX0_fillPaths 53 = .ok (.iconst 1, 1) := by decide +kernel
theorem dX0_fillPaths_54 : decode cX0_fillPaths 54 = .ok (.ixor, 1) := by decide +kernel
theorem dX0_fillPaths_55 : decode cX0_fillPaths 55 = .ok (.iaload, 1) := by decide +kernel
theorem dX0_fillPaths_56 : decode cX0_fillPaths 56 = .ok (.istore_n 1, 1) := by decide +kernel
theorem dX0_fillPaths_57 : decode cX0_fillPaths 57 = .ok (.aload_n 0, 1) := by decide +kernel
theorem dX0_fillPaths_58 : decode cX0_fillPaths 58 = .ok (.iload_n 1, 1) := by decide +kernel
theorem dX0_fillPaths_59 : decode cX0_fillPaths 59 = .ok (.invokevirtual 149, 3) := by decide +kernel
theorem dX0_fillPaths_62 : decode cX0_fillPaths 62 = .ok (.istore 4, 2) := by decide +kernel
theorem dX0_fillPaths_64 : decode cX0_fillPaths 64 = .ok (.iload 4, 2) := by decide +kernel
theorem dX0_fillPaths_66 : decode cX0_fillPaths 66 = .ok (.iconst (-1), 1) := by decide +kernel
theorem dX0_fillPaths_67 : decode cX0_fillPaths 67 = .ok (.if_icmp .eq 25, 3) := by decide +kernel
theorem dX0_fillPaths_70 : decode cX0_fillPaths 70 = .ok (.aload_n 0, 1) := by decide +kernel
theorem dX0_fillPaths_71 : decode cX0_fillPaths 71 = .ok (.getfield 30, 3) := by decide +kernel
theorem dX0_fillPaths_74 : decode cX0_fillPaths 74 = .ok (.iload_n 2, 1) := by decide +kernel
theorem dX0_fillPaths_75 : decode cX0_fillPaths 75 = .ok (.iload 4, 2) := by decide +kernel
theorem dX0_fillPaths_77 : decode cX0_fillPaths 77 = .ok (.iastore, 1) := by decide +kernel
theorem dX0_fillPaths_78 : decode cX0_fillPaths 78 = .ok (.iinc 2 1, 3) := by decide +kernel
theorem dX0_fillPaths_81 : decode cX0_fillPaths 81 = .ok (.aload_n 0, 1) := by decide +kernel
theorem dX0_fillPaths_82 : decode cX0_fillPaths 82 = .ok (.getfield 18, 3) := by decide +kernel
theorem dX0_fillPaths_85 : decode cX0_fillPaths 85 = .ok (.iload 4, 2) := by decide +kernel
theorem dX0_fillPaths_87 : decode cX0_fillPaths 87 = .ok (.iaload, 1) := by decide +kernel
theorem dX0_fillPaths_88 : decode cX0_fillPaths 88 = .ok (.istore_n 1, 1) := by decide +kernel
theorem dX0_fillPaths_89 : decode cX0_fillPaths 89 = .ok (.goto 42, 3) := by decide +kernel
theorem dX0_fillPaths_92 : decode cX0_fillPaths 92 = .ok (.iload_n 2, 1) := by decide +kernel
theorem dX0_fillPaths_93 : decode cX0_fillPaths 93 = .ok (.ifCond .ne 4, 3) := by decide +kernel
theorem dX0_fillPaths_96 : decode cX0_fillPaths 96 = .ok (.return_, 1) := by decide +kernel
theorem dX0_fillPaths_97 : decode cX0_fillPaths 97 = .ok (.iinc 2 (-1), 3) := by decide +kernel
theorem dX0_fillPaths_100 : decode cX0_fillPaths 100 = .ok (.aload_n 0, 1) := by decide +kernel
theorem dX0_fillPaths_101 : decode cX0_fillPaths 101 = .ok (.getfield 18, 3) := by decide +kernel
theorem dX0_fillPaths_104 : decode cX0_fillPaths 104 = .ok (.aload_n 0, 1) := by decide +kernel
theorem dX0_fillPaths_105 : decode cX0_fillPaths 105 = .ok (.getfield 30, 3) := by decide +kernel
theorem dX0_fillPaths_108 : decode cX0_fillPaths 108 = .ok (.iload_n 2, 1) := by decide +kernel
theorem dX0_fillPaths_109 : decode cX0_fillPaths 109 = .ok (.iaload, 1) := by decide +kernel
theorem dX0_fillPaths_110 : decode cX0_fillPaths 110 = .ok (.iconst 1, 1) := by decide +kernel
theorem dX0_fillPaths_111 : decode cX0_fillPaths 111 = .ok (.ixor, 1) := by decide +kernel
theorem dX0_fillPaths_112 : decode cX0_fillPaths 112 = .ok (.iaload, 1) := by decide +kernel
theorem dX0_fillPaths_113 : decode cX0_fillPaths 113 = .ok (.istore_n 1, 1) := by decide +kernel
theorem dX0_fillPaths_114 : decode cX0_fillPaths 114 = .ok (.aload_n 0, 1) := by decide +kernel
theorem dX0_fillPaths_115 : decode cX0_fillPaths 115 = .ok (.getfield 27, 3) := by decide +kernel
theorem dX0_fillPaths_118 : decode cX0_fillPaths 118 = .ok (.iload_n 1, 1) := by decide +kernel
theorem dX0_fillPaths_119 : decode cX0_fillPaths 119 = .ok (.aload_n 0, 1) := by decide +kernel
theorem dX0_fillPaths_120 : decode cX0_fillPaths 120 = .ok (.getfield 15, 3) := by decide +kernel
theorem dX0_fillPaths_123 : decode cX0_fillPaths 123 = .ok (.aload_n 0, 1) := by decide +kernel
theorem dX0_fillPaths_124 : decode cX0_fillPaths 124 = .ok (.getfield 30, 3) := by decide +kernel
theorem dX0_fillPaths_127 : decode cX0_fillPaths 127 = .ok (.iload_n 2, 1) := by decide +kernel
theorem dX0_fillPaths_128 : decode cX0_fillPaths 128 = .ok (.iaload, 1) := by decide +kernel
theorem dX0_fillPaths_129 : decode cX0_fillPaths 129 = .ok (.iaload, 1) := by decide +kernel
theorem dX0_fillPaths_130 : decode cX0_fillPaths 130 = .ok (.iastore, 1) := by decide +kernel
theorem dX0_fillPaths_131 : decode cX0_fillPaths 131 = .ok (.iinc 3 1, 3) := by decide +kernel
theorem dX0_fillPaths_134 : decode cX0_fillPaths 134 = .ok (.goto (-110), 3) := by decide +kernel
theorem dX0_fillPaths_137 : decode cX0_fillPaths 137 = .ok (.return_, 1) := by decide +kernel
theorem dX0_arcNearer_0 : decode cX0_arcNearer 0 = .ok (.aload_n 0, 1) := by decide +kernel
theorem dX0_arcNearer_1 : decode cX0_arcNearer 1 = .ok (.getfield 27, 3) := by decide +kernel
theorem dX0_arcNearer_4 : decode cX0_arcNearer 4 = .ok (.iload_n 1, 1) := by decide +kernel
theorem dX0_arcNearer_5 : decode cX0_arcNearer 5 = .ok (.iaload, 1) := by decide +kernel
theorem dX0_arcNearer_6 : decode cX0_arcNearer 6 = .ok (.istore_n 2, 1) := by decide +kernel
theorem dX0_arcNearer_7 : decode cX0_arcNearer 7 = .ok (.aload_n 0, 1) := by decide +kernel
theorem dX0_arcNearer_8 : decode cX0_arcNearer 8 = .ok (.getfield 24, 3) := by decide +kernel
theorem dX0_arcNearer_11 : decode cX0_arcNearer 11 = .ok (.iload_n 1, 1) := by decide +kernel
theorem dX0_arcNearer_12 : decode cX0_arcNearer 12 = .ok (.iaload, 1) := by decide +kernel
theorem dX0_arcNearer_13 : decode cX0_arcNearer 13 = .ok (.iconst 1, 1) := by decide +kernel
theorem dX0_arcNearer_14 : decode cX0_arcNearer 14 = .ok (.isub, 1) := by decide +kernel
theorem dX0_arcNearer_15 : decode cX0_arcNearer 15 = .ok (.istore_n 3, 1) := by decide +kernel
theorem dX0_arcNearer_16 : decode cX0_arcNearer 16 = .ok (.iconst 0, 1) := by decide +kernel
theorem dX0_arcNearer_17 : decode cX0_arcNearer 17 = .ok (.istore 4, 2) := by decide +kernel
theorem dX0_arcNearer_19 : decode cX0_arcNearer 19 = .ok (.iload 4, 2) := by decide +kernel
theorem dX0_arcNearer_21 : decode cX0_arcNearer 21 = .ok (.sipush 3968, 3) := by decide +kernel
theorem dX0_arcNearer_24 : decode cX0_arcNearer 24 = .ok (.if_icmp .ge 48, 3) := by decide +kernel
theorem dX0_arcNearer_27 : decode cX0_arcNearer 27 = .ok (.iload_n 2, 1) := by decide +kernel
theorem dX0_arcNearer_28 : decode cX0_arcNearer 28 = .ok (.iconst (-1), 1) := by decide +kernel
theorem dX0_arcNearer_29 : decode cX0_arcNearer 29 = .ok (.if_icmp .eq 43, 3) := by decide +kernel
theorem dX0_arcNearer_32 : decode cX0_arcNearer 32 = .ok (.aload_n 0, 1) := by decide +kernel
theorem dX0_arcNearer_33 : decode cX0_arcNearer 33 = .ok (.getfield 21, 3) := by decide +kernel
theorem dX0_arcNearer_36 : decode cX0_arcNearer 36 = .ok (.iload_n 2, 1) := by decide +kernel
theorem dX0_arcNearer_37 : decode cX0_arcNearer 37 = .ok (.iaload, 1) := by decide +kernel
theorem dX0_arcNearer_38 : decode cX0_arcNearer 38 = .ok (.ifCond .le 21, 3) := by decide +kernel
theorem dX0_arcNearer_41 : decode cX0_arcNearer 41 = .ok (.aload_n 0, 1) := by decide +kernel
theorem dX0_arcNearer_42 : decode cX0_arcNearer 42 = .ok (.getfield 24, 3) := by decide +kernel
theorem dX0_arcNearer_45 : decode cX0_arcNearer 45 = .ok (.aload_n 0, 1) := by decide +kernel
theorem dX0_arcNearer_46 : decode cX0_arcNearer 46 = .ok (.getfield 18, 3) := by decide +kernel
theorem dX0_arcNearer_49 : decode cX0_arcNearer 49 = .ok (.iload_n 2, 1) := by decide +kernel
theorem dX0_arcNearer_50 : decode cX0_arcNearer 50 = .ok (.iaload, 1) := by decide +kernel
theorem dX0_arcNearer_51 : decode cX0_arcNearer 51 = .ok (.iaload, 1) := by decide +kernel
theorem dX0_arcNearer_52 : decode cX0_arcNearer 52 = .ok (.iload_n 3, 1) := by decide +kernel
theorem dX0_arcNearer_53 : decode cX0_arcNearer 53 = .ok (.if_icmp .ne 6, 3) := by decide +kernel
theorem dX0_arcNearer_56 : decode cX0_arcNearer 56 = .ok (.goto 16, 3) := by decide +kernel
theorem dX0_arcNearer_59 : decode cX0_arcNearer 59 = .ok (.aload_n 0, 1) := by decide +kernel
theorem dX0_arcNearer_60 : decode cX0_arcNearer 60 = .ok (.getfield 15, 3) := by decide +kernel
theorem dX0_arcNearer_63 : decode cX0_arcNearer 63 = .ok (.iload_n 2, 1) := by decide +kernel
theorem dX0_arcNearer_64 : decode cX0_arcNearer 64 = .ok (.iaload, 1) := by decide +kernel
theorem dX0_arcNearer_65 : decode cX0_arcNearer 65 = .ok (.istore_n 2, 1) := by decide +kernel
theorem dX0_arcNearer_66 : decode cX0_arcNearer 66 = .ok (.iinc 4 1, 3) := by decide +kernel
theorem dX0_arcNearer_69 : decode cX0_arcNearer 69 = .ok (.goto (-50), 3) := by decide +kernel
theorem dX0_arcNearer_72 : decode cX0_arcNearer 72 = .ok (.aload_n 0, 1) := by decide +kernel
theorem dX0_arcNearer_73 : decode cX0_arcNearer 73 = .ok (.getfield 27, 3) := by decide +kernel
theorem dX0_arcNearer_76 : decode cX0_arcNearer 76 = .ok (.iload_n 1, 1) := by decide +kernel
theorem dX0_arcNearer_77 : decode cX0_arcNearer 77 = .ok (.iload_n 2, 1) := by decide +kernel
theorem dX0_arcNearer_78 : decode cX0_arcNearer 78 = .ok (.iastore, 1) := by decide +kernel
theorem dX0_arcNearer_79 : decode cX0_arcNearer 79 = .ok (.iload_n 2, 1) := by decide +kernel
theorem dX0_arcNearer_80 : decode cX0_arcNearer 80 = .ok (.ireturn, 1) := by decide +kernel
theorem dX0_fillPath_0 : decode cX0_fillPath 0 = .ok (.aload_n 0, 1) := by decide +kernel
theorem dX0_fillPath_1 : decode cX0_fillPath 1 = .ok (.getfield 55, 3) := by decide +kernel
theorem dX0_fillPath_4 : decode cX0_fillPath 4 = .ok (.istore_n 2, 1) := by decide +kernel
theorem dX0_fillPath_5 : decode cX0_fillPath 5 = .ok (.iconst 0, 1) := by decide +kernel
theorem dX0_fillPath_6 : decode cX0_fillPath 6 = .ok (.istore_n 3, 1) := by decide +kernel
theorem dX0_fillPath_7 : decode cX0_fillPath 7 = .ok (.iload_n 3, 1) := by decide +kernel
theorem dX0_fillPath_8 : decode cX0_fillPath 8 = .ok (.iload_n 1, 1) := by decide +kernel
theorem dX0_fillPath_9 : decode cX0_fillPath 9 = .ok (.if_icmp .ge 40, 3) := by decide +kernel
theorem dX0_fillPath_12 : decode cX0_fillPath 12 = .ok (.aload_n 0, 1) := by decide +kernel
theorem dX0_fillPath_13 : decode cX0_fillPath 13 = .ok (.getfield 21, 3) := by decide +kernel
theorem dX0_fillPath_16 : decode cX0_fillPath 16 = .ok (.aload_n 0, 1) := by decide +kernel
theorem dX0_fillPath_17 : decode cX0_fillPath 17 = .ok (.getfield 30, 3) := by decide +kernel
theorem dX0_fillPath_20 : decode cX0_fillPath 20 = .ok (.iload_n 3, 1) := by decide +kernel
theorem dX0_fillPath_21 : decode cX0_fillPath 21 = .ok (.iaload, 1) := by decide +kernel
theorem dX0_fillPath_22 : decode cX0_fillPath 22 = .ok (.iaload, 1) := by decide +kernel
theorem dX0_fillPath_23 : decode cX0_fillPath 23 = .ok (.iload_n 2, 1) := by decide +kernel
theorem dX0_fillPath_24 : decode cX0_fillPath 24 = .ok (.if_icmp .ge 17, 3) := by decide +kernel
theorem dX0_fillPath_27 : decode cX0_fillPath 27 = .ok (.aload_n 0, 1) := by decide +kernel
theorem dX0_fillPath_28 : decode cX0_fillPath 28 = .ok (.getfield 21, 3) := by decide +kernel
theorem dX0_fillPath_31 : decode cX0_fillPath 31 = .ok (.aload_n 0, 1) := by decide +kernel
theorem dX0_fillPath_32 : decode cX0_fillPath 32 = .ok (.getfield 30, 3) := by decide +kernel
theorem dX0_fillPath_35 : decode cX0_fillPath 35 = .ok (.iload_n 3, 1) := by decide +kernel
theorem dX0_fillPath_36 : decode cX0_fillPath 36 = .ok (.iaload, 1) := by decide +kernel
theorem dX0_fillPath_37 : decode cX0_fillPath 37 = .ok (.iaload, 1) := by decide +kernel
theorem dX0_fillPath_38 : decode cX0_fillPath 38 = .ok (.goto 4, 3) := by decide +kernel
theorem dX0_fillPath_41 : decode cX0_fillPath 41 = .ok (.iload_n 2, 1) := by decide +kernel
theorem dX0_fillPath_42 : decode cX0_fillPath 42 = .ok (.istore_n 2, 1) := by decide +kernel
theorem dX0_fillPath_43 : decode cX0_fillPath 43 = .ok (.iinc 3 1, 3) := by decide +kernel
theorem dX0_fillPath_46 : decode cX0_fillPath 46 = .ok (.goto (-39), 3) := by decide +kernel
theorem dX0_fillPath_49 : decode cX0_fillPath 49 = .ok (.iconst 0, 1) := by decide +kernel
theorem dX0_fillPath_50 : decode cX0_fillPath 50 = .ok (.istore_n 3, 1) := by decide +kernel
theorem dX0_fillPath_51 : decode cX0_fillPath 51 = .ok (.iload_n 1, 1) := by decide +kernel
theorem dX0_fillPath_52 : decode cX0_fillPath 52 = .ok (.iconst 1, 1) := by decide +kernel
theorem dX0_fillPath_53 : decode cX0_fillPath 53 = .ok (.isub, 1) := by decide +kernel
theorem dX0_fillPath_54 : decode cX0_fillPath 54 = .ok (.istore 4, 2) := by decide +kernel
theorem dX0_fillPath_56 : decode cX0_fillPath 56 = .ok (.iload 4, 2) := by decide +kernel
theorem dX0_fillPath_58 : decode cX0_fillPath 58 = .ok (.ifCond .lt 61, 3) := by decide +kernel
theorem dX0_fillPath_61 : decode cX0_fillPath 61 = .ok (.aload_n 0, 1) := by decide +kernel
theorem dX0_fillPath_62 : decode cX0_fillPath 62 = .ok (.getfield 21, 3) := by decide +kernel
theorem dX0_fillPath_65 : decode cX0_fillPath 65 = .ok (.aload_n 0, 1) := by decide +kernel
theorem dX0_fillPath_66 : decode cX0_fillPath 66 = .ok (.getfield 30, 3) := by decide +kernel
theorem dX0_fillPath_69 : decode cX0_fillPath 69 = .ok (.iload 4, 2) := by decide +kernel
theorem dX0_fillPath_71 : decode cX0_fillPath 71 = .ok (.iaload, 1) := by decide +kernel
theorem dX0_fillPath_72 : decode cX0_fillPath 72 = .ok (.dup2, 1) := by decide +kernel
theorem dX0_fillPath_73 : decode cX0_fillPath 73 = .ok (.iaload, 1) := by decide +kernel
theorem dX0_fillPath_74 : decode cX0_fillPath 74 = .ok (.iload_n 2, 1) := by decide +kernel
theorem dX0_fillPath_75 : decode cX0_fillPath 75 = .ok (.isub, 1) := by decide +kernel
theorem dX0_fillPath_76 : decode cX0_fillPath 76 = .ok (.iastore, 1) := by decide +kernel
theorem dX0_fillPath_77 : decode cX0_fillPath 77 = .ok (.aload_n 0, 1) := by decide +kernel
theorem dX0_fillPath_78 : decode cX0_fillPath 78 = .ok (.getfield 21, 3) := by decide +kernel
theorem dX0_fillPath_81 : decode cX0_fillPath 81 = .ok (.aload_n 0, 1) := by decide +kernel
theorem dX0_fillPath_82 : decode cX0_fillPath 82 = .ok (.getfield 30, 3) := by decide +kernel
theorem dX0_fillPath_85 : decode cX0_fillPath 85 = .ok (.iload 4, 2) := by decide +kernel
theorem dX0_fillPath_87 : decode cX0_fillPath 87 = .ok (.iaload, 1) := by decide +kernel
theorem dX0_fillPath_88 : decode cX0_fillPath 88 = .ok (.iconst 1, 1) := by decide +kernel
theorem dX0_fillPath_89 : decode cX0_fillPath 89 = .ok (.ixor, 1) := by decide +kernel
theorem dX0_fillPath_90 : decode cX0_fillPath 90 = .ok (.dup2, 1) := by decide +kernel
theorem dX0_fillPath_91 : decode cX0_fillPath 91 = .ok (.iaload, 1) := by decide +kernel
theorem dX0_fillPath_92 : decode cX0_fillPath 92 = .ok (.iload_n 2, 1) := by decide +kernel
theorem dX0_fillPath_93 : decode cX0_fillPath 93 = .ok (.iadd, 1) := by decide +kernel
theorem dX0_fillPath_94 : decode cX0_fillPath 94 = .ok (.iastore, 1) := by decide +kernel
theorem dX0_fillPath_95 : decode cX0_fillPath 95 = .ok (.aload_n 0, 1) := by decide +kernel
theorem dX0_fillPath_96 : decode cX0_fillPath 96 = .ok (.getfield 21, 3) := by decide +kernel
theorem dX0_fillPath_99 : decode cX0_fillPath 99 = .ok (.aload_n 0, 1) := by decide +kernel
theorem dX0_fillPath_100 : decode cX0_fillPath 100 = .ok (.getfield 30, 3) := by decide +kernel
theorem dX0_fillPath_103 : decode cX0_fillPath 103 = .ok (.iload 4, 2) := by decide +kernel
theorem dX0_fillPath_105 : decode cX0_fillPath 105 = .ok (.iaload, 1) := by decide +kernel
theorem dX0_fillPath_106 : decode cX0_fillPath 106 = .ok (.iaload, 1) := by decide +kernel
theorem dX0_fillPath_107 : decode cX0_fillPath 107 = .ok (.ifCond .ne 6, 3) := by decide +kernel
theorem dX0_fillPath_110 : decode cX0_fillPath 110 = .ok (.iload 4, 2) := by decide +kernel
theorem dX0_fillPath_112 : decode cX0_fillPath 112 = .ok (.istore_n 3, 1) := by decide +kernel
theorem dX0_fillPath_113 : decode cX0_fillPath 113 = .ok (.iinc 4 (-1), 3) := by decide +kernel
theorem dX0_fillPath_116 : decode cX0_fillPath 116 = .ok (.goto (-60), 3) := by decide +kernel
theorem dX0_fillPath_119 : decode cX0_fillPath 119 = .ok (.aload_n 0, 1) := by decide +kernel
theorem dX0_fillPath_120 : decode cX0_fillPath 120 = .ok (.dup, 1) := by decide +kernel
theorem dX0_fillPath_121 : decode cX0_fillPath 121 = .ok (.getfield 47, 3) := by decide +kernel
theorem dX0_fillPath_124 : decode cX0_fillPath 124 = .ok (.iload_n 2, 1) := by decide +kernel
theorem dX0_fillPath_125 : decode cX0_fillPath 125 = .ok (.iadd, 1) := by decide +kernel
theorem dX0_fillPath_126 : decode cX0_fillPath 126 = .ok (.putfield 47, 3) := by decide +kernel
theorem dX0_fillPath_129 : decode cX0_fillPath 129 = .ok (.iload_n 3, 1) := by decide +kernel
theorem dX0_fillPath_130 : decode cX0_fillPath 130 = .ok (.ireturn, 1) := by decide +kernel
theorem dX1_init_0 : decode cX1_init 0 = .ok (.aload_n 0, 1) := by decide +kernel
theorem dX1_init_1 : decode cX1_init 1 = .ok (.invokespecial 3, 3) := by decide +kernel
theorem dX1_init_4 : decode cX1_init 4 = .ok (.aload_n 0, 1) := by decide +kernel
theorem dX1_init_5 : decode cX1_init 5 = .ok (.bipush 8, 2) := by decide +kernel
theorem dX1_init_7 : decode cX1_init 7 = .ok (.newarray .int, 2) := by decide +kernel
theorem dX1_init_9 : decode cX1_init 9 = .ok (.putfield 9, 3) := by decide +kernel
theorem dX1_init_12 : decode cX1_init 12 = .ok (.aload_n 0, 1) := by decide +kernel
theorem dX1_init_13 : decode cX1_init 13 = .ok (.bipush 8, 2) := by decide +kernel
theorem dX1_init_15 : decode cX1_init 15 = .ok (.newarray .int, 2) := by decide +kernel
theorem dX1_init_17 : decode cX1_init 17 = .ok (.putfield 15, 3) := by decide +kernel
theorem dX1_init_20 : decode cX1_init 20 = .ok (.aload_n 0, 1) := by decide +kernel
theorem dX1_init_21 : decode cX1_init 21 = .ok (.bipush 8, 2) := by decide +kernel
theorem dX1_init_23 : decode cX1_init 23 = .ok (.newarray .int, 2) := by decide +kernel
theorem dX1_init_25 : decode cX1_init 25 = .ok (.putfield 18, 3) := by decide +kernel
theorem dX1_init_28 : decode cX1_init 28 = .ok (.aload_n 0, 1) := by decide +kernel
theorem dX1_init_29 : decode cX1_init 29 = .ok (.sipush 160, 3) := by decide +kernel
theorem dX1_init_32 : decode cX1_init 32 = .ok (.newarray .int, 2) := by decide +kernel
theorem dX1_init_34 : decode cX1_init 34 = .ok (.putfield 21, 3) := by decide +kernel
theorem dX1_init_37 : decode cX1_init 37 = .ok (.aload_n 0, 1) := by decide +kernel
theorem dX1_init_38 : decode cX1_init 38 = .ok (.sipush 408, 3) := by decide +kernel
theorem dX1_init_41 : decode cX1_init 41 = .ok (.newarray .int, 2) := by decide +kernel
theorem dX1_init_43 : decode cX1_init 43 = .ok (.putfield 24, 3) := by decide +kernel
theorem dX1_init_46 : decode cX1_init 46 = .ok (.aload_n 0, 1) := by decide +kernel
theorem dX1_init_47 : decode cX1_init 47 = .ok (.bipush 24, 2) := by decide +kernel
theorem dX1_init_49 : decode cX1_init 49 = .ok (.newarray .int, 2) := by decide +kernel
theorem dX1_init_51 : decode cX1_init 51 = .ok (.putfield 27, 3) := by decide +kernel
theorem dX1_init_54 : decode cX1_init 54 = .ok (.aload_n 0, 1) := by decide +kernel
theorem dX1_init_55 : decode cX1_init 55 = .ok (.aload_n 1, 1) := by decide +kernel
theorem dX1_init_56 : decode cX1_init 56 = .ok (.putfield 30, 3) := by decide +kernel
theorem dX1_init_59 : decode cX1_init 59 = .ok (.return_, 1) := by decide +kernel
theorem dX1_part_0 : decode cX1_part 0 = .ok (.aload_n 0, 1) := by decide +kernel
theorem dX1_part_1 : decode cX1_part 1 = .ok (.getfield 21, 3) := by decide +kernel
theorem dX1_part_4 : decode cX1_part 4 = .ok (.iload_n 1, 1) := by decide +kernel
theorem dX1_part_5 : decode cX1_part 5 = .ok (.iconst 4, 1) := by decide +kernel
theorem dX1_part_6 : decode cX1_part 6 = .ok (.imul, 1) := by decide +kernel
theorem dX1_part_7 : decode cX1_part 7 = .ok (.iload_n 2, 1) := by decide +kernel
theorem dX1_part_8 : decode cX1_part 8 = .ok (.iadd, 1) := by decide +kernel
theorem dX1_part_9 : decode cX1_part 9 = .ok (.iaload, 1) := by decide +kernel
theorem dX1_part_10 : decode cX1_part 10 = .ok (.ireturn, 1) := by decide +kernel
theorem dX1_moveFits_0 : decode cX1_moveFits 0 = .ok (.iload_n 1, 1) := by decide +kernel
theorem dX1_moveFits_1 : decode cX1_moveFits 1 = .ok (.lookupswitch 52 #[(0, 27), (1, 43)], 27) := by decide +kernel
theorem dX1_moveFits_28 : decode cX1_moveFits 28 = .ok (.iload_n 2, 1) := by decide +kernel
theorem dX1_moveFits_29 : decode cX1_moveFits 29 = .ok (.ifCond .lt 13, 3) := by decide +kernel
theorem dX1_moveFits_32 : decode cX1_moveFits 32 = .ok (.iload_n 2, 1) := by decide +kernel
theorem dX1_moveFits_33 : decode cX1_moveFits 33 = .ok (.bipush 40, 2) := by decide +kernel
theorem dX1_moveFits_35 : decode cX1_moveFits 35 = .ok (.if_icmp .gt 7, 3) := by decide +kernel
theorem dX1_moveFits_38 : decode cX1_moveFits 38 = .ok (.iconst 1, 1) := by decide +kernel
theorem dX1_moveFits_39 : decode cX1_moveFits 39 = .ok (.goto 4, 3) := by decide +kernel
theorem dX1_moveFits_42 : decode cX1_moveFits 42 = .ok (.iconst 0, 1) := by decide +kernel
theorem dX1_moveFits_43 : decode cX1_moveFits 43 = .ok (.ireturn, 1) := by decide +kernel
theorem dX1_moveFits_44 : decode cX1_moveFits 44 = .ok (.aload_n 0, 1) := by decide +kernel
theorem dX1_moveFits_45 : decode cX1_moveFits 45 = .ok (.getfield 30, 3) := by decide +kernel
theorem dX1_moveFits_48 : decode cX1_moveFits 48 = .ok (.iload_n 2, 1) := by decide +kernel
theorem dX1_moveFits_49 : decode cX1_moveFits 49 = .ok (.invokevirtual 34, 3) := by decide +kernel
theorem dX1_moveFits_52 : decode cX1_moveFits 52 = .ok (.ireturn, 1) := by decide +kernel
theorem dX1_moveFits_53 : decode cX1_moveFits 53 = .ok (.iload_n 2, 1) := by decide +kernel
theorem dX1_moveFits_54 : decode cX1_moveFits 54 = .ok (.iconst 1, 1) := by decide +kernel
theorem dX1_moveFits_55 : decode cX1_moveFits 55 = .ok (.if_icmp .lt 13, 3) := by decide +kernel
theorem dX1_moveFits_58 : decode cX1_moveFits 58 = .ok (.iload_n 2, 1) := by decide +kernel
theorem dX1_moveFits_59 : decode cX1_moveFits 59 = .ok (.bipush 60, 2) := by decide +kernel
theorem dX1_moveFits_61 : decode cX1_moveFits 61 = .ok (.if_icmp .gt 7, 3) := by decide +kernel
theorem dX1_moveFits_64 : decode cX1_moveFits 64 = .ok (.iconst 1, 1) := by decide +kernel
theorem dX1_moveFits_65 : decode cX1_moveFits 65 = .ok (.goto 4, 3) := by decide +kernel
theorem dX1_moveFits_68 : decode cX1_moveFits 68 = .ok (.iconst 0, 1) := by decide +kernel
theorem dX1_moveFits_69 : decode cX1_moveFits 69 = .ok (.ireturn, 1) := by decide +kernel
theorem dX1_add_0 : decode cX1_add 0 = .ok (.aload_n 0, 1) := by decide +kernel
theorem dX1_add_1 : decode cX1_add 1 = .ok (.getfield 40, 3) := by decide +kernel
theorem dX1_add_4 : decode cX1_add 4 = .ok (.iconst 4, 1) := by decide +kernel
theorem dX1_add_5 : decode cX1_add 5 = .ok (.imul, 1) := by decide +kernel
theorem dX1_add_6 : decode cX1_add 6 = .ok (.istore 5, 2) := by decide +kernel
theorem dX1_add_8 : decode cX1_add 8 = .ok (.aload_n 0, 1) := by decide +kernel
theorem dX1_add_9 : decode cX1_add 9 = .ok (.getfield 21, 3) := by decide +kernel
theorem dX1_add_12 : decode cX1_add 12 = .ok (.iload 5, 2) := by decide +kernel
theorem dX1_add_14 : decode cX1_add 14 = .ok (.iconst 0, 1) := by decide +kernel
theorem dX1_add_15 : decode cX1_add 15 = .ok (.iadd, 1) := by decide +kernel
theorem dX1_add_16 : decode cX1_add 16 = .ok (.iload_n 1, 1) := by decide +kernel
theorem dX1_add_17 : decode cX1_add 17 = .ok (.iastore, 1) := by decide +kernel
theorem dX1_add_18 : decode cX1_add 18 = .ok (.aload_n 0, 1) := by decide +kernel
theorem dX1_add_19 : decode cX1_add 19 = .ok (.getfield 21, 3) := by decide +kernel
theorem dX1_add_22 : decode cX1_add 22 = .ok (.iload 5, 2) := by decide +kernel
theorem dX1_add_24 : decode cX1_add 24 = .ok (.iconst 1, 1) := by decide +kernel
theorem dX1_add_25 : decode cX1_add 25 = .ok (.iadd, 1) := by decide +kernel
theorem dX1_add_26 : decode cX1_add 26 = .ok (.iload_n 2, 1) := by decide +kernel
theorem dX1_add_27 : decode cX1_add 27 = .ok (.iastore, 1) := by decide +kernel
theorem dX1_add_28 : decode cX1_add 28 = .ok (.aload_n 0, 1) := by decide +kernel
theorem dX1_add_29 : decode cX1_add 29 = .ok (.getfield 21, 3) := by decide +kernel
theorem dX1_add_32 : decode cX1_add 32 = .ok (.iload 5, 2) := by decide +kernel
theorem dX1_add_34 : decode cX1_add 34 = .ok (.iconst 2, 1) := by decide +kernel
theorem dX1_add_35 : decode cX1_add 35 = .ok (.iadd, 1) := by decide +kernel
theorem dX1_add_36 : decode cX1_add 36 = .ok (.iload_n 3, 1) := by decide +kernel
theorem dX1_add_37 : decode cX1_add 37 = .ok (.ifCond .eq 7, 3) := by decide +kernel
theorem dX1_add_40 : decode cX1_add 40 = .ok (.iconst 1, 1) := by decide +kernel
theorem dX1_add_41 : decode cX1_add 41 = .ok (.goto 4, 3) := by decide +kernel
theorem dX1_add_44 : decode cX1_add 44 = .ok (.iconst 0, 1) := by decide +kernel
theorem dX1_add_45 : decode cX1_add 45 = .ok (.iastore, 1) := by decide +kernel
theorem dX1_add_46 : decode cX1_add 46 = .ok (.aload_n 0, 1) := by decide +kernel
theorem dX1_add_47 : decode cX1_add 47 = .ok (.getfield 21, 3) := by decide +kernel
theorem dX1_add_50 : decode cX1_add 50 = .ok (.iload 5, 2) := by decide +kernel
theorem dX1_add_52 : decode cX1_add 52 = .ok (.iconst 3, 1) := by decide +kernel
theorem dX1_add_53 : decode cX1_add 53 = .ok (.iadd, 1) := by decide +kernel
theorem dX1_add_54 : decode cX1_add 54 = .ok (.iload 4, 2) := by decide +kernel
theorem dX1_add_56 : decode cX1_add 56 = .ok (.iastore, 1) := by decide +kernel
theorem dX1_add_57 : decode cX1_add 57 = .ok (.aload_n 0, 1) := by decide +kernel
theorem dX1_add_58 : decode cX1_add 58 = .ok (.dup, 1) := by decide +kernel
theorem dX1_add_59 : decode cX1_add 59 = .ok (.getfield 40, 3) := by decide +kernel
theorem dX1_add_62 : decode cX1_add 62 = .ok (.iconst 1, 1) := by decide +kernel
theorem dX1_add_63 : decode cX1_add 63 = .ok (.iadd, 1) := by decide +kernel
theorem dX1_add_64 : decode cX1_add 64 = .ok (.putfield 40, 3) := by decide +kernel
theorem dX1_add_67 : decode cX1_add 67 = .ok (.aload_n 0, 1) := by decide +kernel
theorem dX1_add_68 : decode cX1_add 68 = .ok (.getfield 40, 3) := by decide +kernel
theorem dX1_add_71 : decode cX1_add 71 = .ok (.iconst 1, 1) := by decide +kernel
theorem dX1_add_72 : decode cX1_add 72 = .ok (.isub, 1) := by decide +kernel
theorem dX1_add_73 : decode cX1_add 73 = .ok (.ireturn, 1) := by decide +kernel
theorem dX1_forgetRoad_0 : decode cX1_forgetRoad 0 = .ok (.iconst 0, 1) := by decide +kernel
theorem dX1_forgetRoad_1 : decode cX1_forgetRoad 1 = .ok (.istore_n 2, 1) := by decide +kernel
theorem dX1_forgetRoad_2 : decode cX1_forgetRoad 2 = .ok (.iconst 0, 1) := by decide +kernel
theorem dX1_forgetRoad_3 : decode cX1_forgetRoad 3 = .ok (.istore_n 3, 1) := by decide +kernel
theorem dX1_forgetRoad_4 : decode cX1_forgetRoad 4 = .ok (.iload_n 3, 1) := by decide +kernel
theorem dX1_forgetRoad_5 : decode cX1_forgetRoad 5 = .ok (.aload_n 0, 1) := by decide +kernel
theorem dX1_forgetRoad_6 : decode cX1_forgetRoad 6 = .ok (.getfield 40, 3) := by decide +kernel
theorem dX1_forgetRoad_9 : decode cX1_forgetRoad 9 = .ok (.if_icmp .ge 40, 3) := by decide +kernel
theorem dX1_forgetRoad_12 : decode cX1_forgetRoad 12 = .ok (.aload_n 0, 1) := by decide +kernel
theorem dX1_forgetRoad_13 : decode cX1_forgetRoad 13 = .ok (.iload_n 3, 1) := by decide +kernel
theorem dX1_forgetRoad_14 : decode cX1_forgetRoad 14 = .ok (.iconst 1, 1) := by decide +kernel
theorem dX1_forgetRoad_15 : decode cX1_forgetRoad 15 = .ok (.invokevirtual 44, 3) := by decide +kernel
theorem dX1_forgetRoad_18 : decode cX1_forgetRoad 18 = .ok (.iload_n 1, 1) := by decide +kernel
theorem dX1_forgetRoad_19 : decode cX1_forgetRoad 19 = .ok (.if_icmp .eq 24, 3) := by decide +kernel
theorem dX1_forgetRoad_22 : decode cX1_forgetRoad 22 = .ok (.aload_n 0, 1) := by decide +kernel
theorem dX1_forgetRoad_23 : decode cX1_forgetRoad 23 = .ok (.getfield 21, 3) := by decide +kernel
theorem dX1_forgetRoad_26 : decode cX1_forgetRoad 26 = .ok (.iload_n 3, 1) := by decide +kernel
theorem dX1_forgetRoad_27 : decode cX1_forgetRoad 27 = .ok (.iconst 4, 1) := by decide +kernel
theorem dX1_forgetRoad_28 : decode cX1_forgetRoad 28 = .ok (.imul, 1) := by decide +kernel
theorem dX1_forgetRoad_29 : decode cX1_forgetRoad 29 = .ok (.aload_n 0, 1) := by decide +kernel
theorem dX1_forgetRoad_30 : decode cX1_forgetRoad 30 = .ok (.getfield 21, 3) := by decide +kernel
theorem dX1_forgetRoad_33 : decode cX1_forgetRoad 33 = .ok (.iload_n 2, 1) := by decide +kernel
theorem dX1_forgetRoad_34 : decode cX1_forgetRoad 34 = .ok (.iconst 4, 1) := by decide +kernel
theorem dX1_forgetRoad_35 : decode cX1_forgetRoad 35 = .ok (.imul, 1) := by decide +kernel
theorem dX1_forgetRoad_36 : decode cX1_forgetRoad 36 = .ok (.iconst 4, 1) := by decide +kernel
theorem dX1_forgetRoad_37 : decode cX1_forgetRoad 37 = .ok (.invokestatic 48, 3) := by decide +kernel
theorem dX1_forgetRoad_40 : decode cX1_forgetRoad 40 = .ok (.iinc 2 1, 3) := by decide +kernel
theorem dX1_forgetRoad_43 : decode cX1_forgetRoad 43 = .ok (.iinc 3 1, 3) := by decide +kernel
theorem dX1_forgetRoad_46 : decode cX1_forgetRoad 46 = .ok (.goto (-42), 3) := by decide +kernel
theorem dX1_forgetRoad_49 : decode cX1_forgetRoad 49 = .ok (.aload_n 0, 1) := by decide +kernel
theorem dX1_forgetRoad_50 : decode cX1_forgetRoad 50 = .ok (.iload_n 2, 1) := by decide +kernel
theorem dX1_forgetRoad_51 : decode cX1_forgetRoad 51 = .ok (.putfield 40, 3) := by decide +kernel
theorem dX1_forgetRoad_54 : decode cX1_forgetRoad 54 = .ok (.return_, 1) := by decide +kernel
theorem dX1_sum_0 : decode cX1_sum 0 = .ok (.iconst 0, 1) := by decide +kernel
theorem dX1_sum_1 : decode cX1_sum 1 = .ok (.istore_n 2, 1) := by decide +kernel
theorem dX1_sum_2 : decode cX1_sum 2 = .ok (.iconst 0, 1) := by decide +kernel
theorem dX1_sum_3 : decode cX1_sum 3 = .ok (.istore_n 3, 1) := by decide +kernel
theorem dX1_sum_4 : decode cX1_sum 4 = .ok (.iload_n 3, 1) := by decide +kernel
theorem dX1_sum_5 : decode cX1_sum 5 = .ok (.aload_n 0, 1) := by decide +kernel
theorem dX1_sum_6 : decode cX1_sum 6 = .ok (.getfield 30, 3) := by decide +kernel
theorem dX1_sum_9 : decode cX1_sum 9 = .ok (.getfield 54, 3) := by decide +kernel
theorem dX1_sum_12 : decode cX1_sum 12 = .ok (.if_icmp .ge 15, 3) := by decide +kernel
theorem dX1_sum_15 : decode cX1_sum 15 = .ok (.iload_n 2, 1) := by decide +kernel
theorem dX1_sum_16 : decode cX1_sum 16 = .ok (.aload_n 1, 1) := by decide +kernel
theorem dX1_sum_17 : decode cX1_sum 17 = .ok (.iload_n 3, 1) := by decide +kernel
theorem dX1_sum_18 : decode cX1_sum 18 = .ok (.iaload, 1) := by decide +kernel
theorem dX1_sum_19 : decode cX1_sum 19 = .ok (.iadd, 1) := by decide +kernel
theorem dX1_sum_20 : decode cX1_sum 20 = .ok (.istore_n 2, 1) := by decide +kernel
theorem dX1_sum_21 : decode cX1_sum 21 = .ok (.iinc 3 1, 3) := by decide +kernel
theorem dX1_sum_24 : decode cX1_sum 24 = .ok (.goto (-20), 3) := by decide +kernel
theorem dX1_sum_27 : decode cX1_sum 27 = .ok (.iload_n 2, 1) := by decide +kernel
theorem dX1_sum_28 : decode cX1_sum 28 = .ok (.ireturn, 1) := by decide +kernel
theorem dX1_judge_0 : decode cX1_judge 0 = .ok (.aload_n 0, 1) := by decide +kernel
theorem dX1_judge_1 : decode cX1_judge 1 = .ok (.bipush 50, 2) := by decide +kernel
theorem dX1_judge_3 : decode cX1_judge 3 = .ok (.invokevirtual 57, 3) := by decide +kernel
theorem dX1_judge_6 : decode cX1_judge 6 = .ok (.aload_n 0, 1) := by decide +kernel
theorem dX1_judge_7 : decode cX1_judge 7 = .ok (.getfield 61, 3) := by decide +kernel
theorem dX1_judge_10 : decode cX1_judge 10 = .ok (.ifCond .ne 34, 3) := by decide +kernel
theorem dX1_judge_13 : decode cX1_judge 13 = .ok (.aload_n 0, 1) := by decide +kernel
theorem dX1_judge_14 : decode cX1_judge 14 = .ok (.getfield 64, 3) := by decide +kernel
theorem dX1_judge_17 : decode cX1_judge 17 = .ok (.iconst (-1), 1) := by decide +kernel
theorem dX1_judge_18 : decode cX1_judge 18 = .ok (.if_icmp .eq 26, 3) := by decide +kernel
theorem dX1_judge_21 : decode cX1_judge 21 = .ok (.iconst 3, 1) := by decide +kernel
theorem dX1_judge_22 : decode cX1_judge 22 = .ok (.bipush 8, 2) := by decide +kernel
theorem dX1_judge_24 : decode cX1_judge 24 = .ok (.aload_n 0, 1) := by decide +kernel
theorem dX1_judge_25 : decode cX1_judge 25 = .ok (.getfield 64, 3) := by decide +kernel
theorem dX1_judge_28 : decode cX1_judge 28 = .ok (.imul, 1) := by decide +kernel
theorem dX1_judge_29 : decode cX1_judge 29 = .ok (.iadd, 1) := by decide +kernel
theorem dX1_judge_30 : decode cX1_judge 30 = .ok (.istore_n 1, 1) := by decide +kernel
theorem dX1_judge_31 : decode cX1_judge 31 = .ok (.aload_n 0, 1) := by decide +kernel
theorem dX1_judge_32 : decode cX1_judge 32 = .ok (.aload_n 0, 1) := by decide +kernel
theorem dX1_judge_33 : decode cX1_judge 33 = .ok (.getfield 67, 3) := by decide +kernel
theorem dX1_judge_36 : decode cX1_judge 36 = .ok (.invokevirtual 57, 3) := by decide +kernel
theorem dX1_judge_39 : decode cX1_judge 39 = .ok (.aload_n 0, 1) := by decide +kernel
theorem dX1_judge_40 : decode cX1_judge 40 = .ok (.iload_n 1, 1) := by decide +kernel
theorem dX1_judge_41 : decode cX1_judge 41 = .ok (.putfield 61, 3) := by decide +kernel
theorem dX1_judge_44 : decode cX1_judge 44 = .ok (.return_, 1) := by decide +kernel
theorem dX1_play_0 : decode cX1_play 0 = .ok (.aload_n 0, 1) := by decide +kernel
theorem dX1_play_1 : decode cX1_play 1 = .ok (.invokevirtual 70, 3) := by decide +kernel
theorem dX1_play_4 : decode cX1_play 4 = .ok (.iconst 0, 1) := by decide +kernel
theorem dX1_play_5 : decode cX1_play 5 = .ok (.istore_n 2, 1) := by decide +kernel
theorem dX1_play_6 : decode cX1_play 6 = .ok (.iload_n 2, 1) := by decide +kernel
theorem dX1_play_7 : decode cX1_play 7 = .ok (.iload_n 1, 1) := by decide +kernel
theorem dX1_play_8 : decode cX1_play 8 = .ok (.if_icmp .gt 69, 3) := by decide +kernel
theorem dX1_play_11 : decode cX1_play 11 = .ok (.aload_n 0, 1) := by decide +kernel
theorem dX1_play_12 : decode cX1_play 12 = .ok (.getfield 61, 3) := by decide +kernel
theorem dX1_play_15 : decode cX1_play 15 = .ok (.ifCond .ne 62, 3) := by decide +kernel
theorem dX1_play_18 : decode cX1_play 18 = .ok (.iconst 0, 1) := by decide +kernel
theorem dX1_play_19 : decode cX1_play 19 = .ok (.istore_n 3, 1) := by decide +kernel
theorem dX1_play_20 : decode cX1_play 20 = .ok (.iload_n 3, 1) := by decide +kernel
theorem dX1_play_21 : decode cX1_play 21 = .ok (.aload_n 0, 1) := by decide +kernel
theorem dX1_play_22 : decode cX1_play 22 = .ok (.getfield 30, 3) := by decide +kernel
theorem dX1_play_25 : decode cX1_play 25 = .ok (.getfield 54, 3) := by decide +kernel
theorem dX1_play_28 : decode cX1_play 28 = .ok (.if_icmp .ge 21, 3) := by decide +kernel
theorem dX1_play_31 : decode cX1_play 31 = .ok (.aload_n 0, 1) := by decide +kernel
theorem dX1_play_32 : decode cX1_play 32 = .ok (.iload_n 3, 1) := by decide +kernel
theorem dX1_play_33 : decode cX1_play 33 = .ok (.iload_n 2, 1) := by decide +kernel
theorem dX1_play_34 : decode cX1_play 34 = .ok (.invokevirtual 73, 3) := by decide +kernel
theorem dX1_play_37 : decode cX1_play 37 = .ok (.aload_n 0, 1) := by decide +kernel
theorem dX1_play_38 : decode cX1_play 38 = .ok (.iload_n 3, 1) := by decide +kernel
theorem dX1_play_39 : decode cX1_play 39 = .ok (.iload_n 2, 1) := by decide +kernel
theorem dX1_play_40 : decode cX1_play 40 = .ok (.invokevirtual 77, 3) := by decide +kernel
theorem dX1_play_43 : decode cX1_play 43 = .ok (.iinc 3 1, 3) := by decide +kernel
theorem dX1_play_46 : decode cX1_play 46 = .ok (.goto (-26), 3) := by decide +kernel
theorem dX1_play_49 : decode cX1_play 49 = .ok (.aload_n 0, 1) := by decide +kernel
theorem dX1_play_50 : decode cX1_play 50 = .ok (.iload_n 2, 1) := by decide +kernel
theorem dX1_play_51 : decode cX1_play 51 = .ok (.invokevirtual 80, 3) := by decide +kernel
theorem dX1_play_54 : decode cX1_play 54 = .ok (.aload_n 0, 1) := by decide +kernel
theorem dX1_play_55 : decode cX1_play 55 = .ok (.getfield 61, 3) := by decide +kernel
theorem dX1_play_58 : decode cX1_play 58 = .ok (.ifCond .ne 13, 3) := by decide +kernel
theorem dX1_play_61 : decode cX1_play 61 = .ok (.aload_n 0, 1) := by decide +kernel
theorem dX1_play_62 : decode cX1_play 62 = .ok (.iload_n 2, 1) := by decide +kernel
theorem dX1_play_63 : decode cX1_play 63 = .ok (.putfield 83, 3) := by decide +kernel
theorem dX1_play_66 : decode cX1_play 66 = .ok (.aload_n 0, 1) := by decide +kernel
theorem dX1_play_67 : decode cX1_play 67 = .ok (.iload_n 2, 1) := by decide +kernel
theorem dX1_play_68 : decode cX1_play 68 = .ok (.invokevirtual 86, 3) := by decide +kernel
theorem dX1_play_71 : decode cX1_play 71 = .ok (.iinc 2 1, 3) := by decide +kernel
theorem dX1_play_74 : decode cX1_play 74 = .ok (.goto (-68), 3) := by decide +kernel
theorem dX1_play_77 : decode cX1_play 77 = .ok (.return_, 1) := by decide +kernel
theorem dX1_bringHome_0 : decode cX1_bringHome 0 = .ok (.aload_n 0, 1) := by decide +kernel
theorem dX1_bringHome_1 : decode cX1_bringHome 1 = .ok (.iconst 0, 1) := by decide +kernel
theorem dX1_bringHome_2 : decode cX1_bringHome 2 = .ok (.putfield 61, 3) := by decide +kernel
theorem dX1_bringHome_5 : decode cX1_bringHome 5 = .ok (.aload_n 0, 1) := by decide +kernel
theorem dX1_bringHome_6 : decode cX1_bringHome 6 = .ok (.iconst (-1), 1) := by decide +kernel
theorem dX1_bringHome_7 : decode cX1_bringHome 7 = .ok (.putfield 83, 3) := by decide +kernel
theorem dX1_bringHome_10 : decode cX1_bringHome 10 = .ok (.aload_n 0, 1) := by decide +kernel
theorem dX1_bringHome_11 : decode cX1_bringHome 11 = .ok (.iconst (-1), 1) := by decide +kernel
theorem dX1_bringHome_12 : decode cX1_bringHome 12 = .ok (.putfield 89, 3) := by decide +kernel
theorem dX1_bringHome_15 : decode cX1_bringHome 15 = .ok (.aload_n 0, 1) := by decide +kernel
theorem dX1_bringHome_16 : decode cX1_bringHome 16 = .ok (.iconst 0, 1) := by decide +kernel
theorem dX1_bringHome_17 : decode cX1_bringHome 17 = .ok (.putfield 92, 3) := by decide +kernel
theorem dX1_bringHome_20 : decode cX1_bringHome 20 = .ok (.aload_n 0, 1) := by decide +kernel
theorem dX1_bringHome_21 : decode cX1_bringHome 21 = .ok (.iconst (-1), 1) := by decide +kernel
theorem dX1_bringHome_22 : decode cX1_bringHome 22 = .ok (.putfield 64, 3) := by decide +kernel
theorem dX1_bringHome_25 : decode cX1_bringHome 25 = .ok (.aload_n 0, 1) := by decide +kernel
theorem dX1_bringHome_26 : decode cX1_bringHome 26 = .ok (.iconst (-1), 1) := by decide +kernel
theorem dX1_bringHome_27 : decode cX1_bringHome 27 = .ok (.putfield 67, 3) := by decide +kernel
theorem dX1_bringHome_30 : decode cX1_bringHome 30 = .ok (.aload_n 0, 1) := by decide +kernel
theorem dX1_bringHome_31 : decode cX1_bringHome 31 = .ok (.getfield 24, 3) := by decide +kernel
theorem dX1_bringHome_34 : decode cX1_bringHome 34 = .ok (.iconst 0, 1) := by decide +kernel
theorem dX1_bringHome_35 : decode cX1_bringHome 35 = .ok (.invokestatic 95, 3) := by decide +kernel
theorem dX1_bringHome_38 : decode cX1_bringHome 38 = .ok (.iconst 0, 1) := by decide +kernel
theorem dX1_bringHome_39 : decode cX1_bringHome 39 = .ok (.istore_n 1, 1) := by decide +kernel
theorem dX1_bringHome_40 : decode cX1_bringHome 40 = .ok (.iload_n 1, 1) := by decide +kernel
theorem dX1_bringHome_41 : decode cX1_bringHome 41 = .ok (.aload_n 0, 1) := by decide +kernel
theorem dX1_bringHome_42 : decode cX1_bringHome 42 = .ok (.getfield 30, 3) := by decide +kernel
theorem dX1_bringHome_45 : decode cX1_bringHome 45 = .ok (.getfield 54, 3) := by decide +kernel
theorem dX1_bringHome_48 : decode cX1_bringHome 48 = .ok (.if_icmp .ge 38, 3) := by decide +kernel
theorem dX1_bringHome_51 : decode cX1_bringHome 51 = .ok (.aload_n 0, 1) := by decide +kernel
theorem dX1_bringHome_52 : decode cX1_bringHome 52 = .ok (.getfield 9, 3) := by decide +kernel
theorem dX1_bringHome_55 : decode cX1_bringHome 55 = .ok (.iload_n 1, 1) := by decide +kernel
theorem dX1_bringHome_56 : decode cX1_bringHome 56 = .ok (.iconst 0, 1) := by decide +kernel
theorem dX1_bringHome_57 : decode cX1_bringHome 57 = .ok (.iastore, 1) := by decide +kernel
theorem dX1_bringHome_58 : decode cX1_bringHome 58 = .ok (.aload_n 0, 1) := by decide +kernel
theorem dX1_bringHome_59 : decode cX1_bringHome 59 = .ok (.getfield 18, 3) := by decide +kernel
theorem dX1_bringHome_62 : decode cX1_bringHome 62 = .ok (.iload_n 1, 1) := by decide +kernel
theorem dX1_bringHome_63 : decode cX1_bringHome 63 = .ok (.iconst 0, 1) := by decide +kernel
theorem dX1_bringHome_64 : decode cX1_bringHome 64 = .ok (.iastore, 1) := by decide +kernel
theorem dX1_bringHome_65 : decode cX1_bringHome 65 = .ok (.aload_n 0, 1) := by decide +kernel
theorem dX1_bringHome_66 : decode cX1_bringHome 66 = .ok (.getfield 15, 3) := by decide +kernel
theorem dX1_bringHome_69 : decode cX1_bringHome 69 = .ok (.iload_n 1, 1) := by decide +kernel
theorem dX1_bringHome_70 : decode cX1_bringHome 70 = .ok (.aload_n 0, 1) := by decide +kernel
theorem dX1_bringHome_71 : decode cX1_bringHome 71 = .ok (.getfield 30, 3) := by decide +kernel
theorem dX1_bringHome_74 : decode cX1_bringHome 74 = .ok (.iload_n 1, 1) := by decide +kernel
theorem dX1_bringHome_75 : decode cX1_bringHome 75 = .ok (.iconst 0, 1) := by decide +kernel
theorem dX1_bringHome_76 : decode cX1_bringHome 76 = .ok (.invokevirtual 101, 3) := by decide +kernel
theorem dX1_bringHome_79 : decode cX1_bringHome 79 = .ok (.iastore, 1) := by decide +kernel
theorem dX1_bringHome_80 : decode cX1_bringHome 80 = .ok (.iinc 1 1, 3) := by decide +kernel
theorem dX1_bringHome_83 : decode cX1_bringHome 83 = .ok (.goto (-43), 3) := by decide +kernel
theorem dX1_bringHome_86 : decode cX1_bringHome 86 = .ok (.return_, 1) := by decide +kernel
theorem dX1_arrive_0 : decode cX1_arrive 0 = .ok (.aload_n 0, 1) := by decide +kernel
theorem dX1_arrive_1 : decode cX1_arrive 1 = .ok (.getfield 24, 3) := by decide +kernel
theorem dX1_arrive_4 : decode cX1_arrive 4 = .ok (.iload_n 2, 1) := by decide +kernel
theorem dX1_arrive_5 : decode cX1_arrive 5 = .ok (.bipush 8, 2) := by decide +kernel
theorem dX1_arrive_7 : decode cX1_arrive 7 = .ok (.imul, 1) := by decide +kernel
theorem dX1_arrive_8 : decode cX1_arrive 8 = .ok (.iload_n 1, 1) := by decide +kernel
theorem dX1_arrive_9 : decode cX1_arrive 9 = .ok (.iadd, 1) := by decide +kernel
theorem dX1_arrive_10 : decode cX1_arrive 10 = .ok (.iaload, 1) := by decide +kernel
theorem dX1_arrive_11 : decode cX1_arrive 11 = .ok (.istore_n 3, 1) := by decide +kernel
theorem dX1_arrive_12 : decode cX1_arrive 12 = .ok (.aload_n 0, 1) := by decide +kernel
theorem dX1_arrive_13 : decode cX1_arrive 13 = .ok (.getfield 9, 3) := by decide +kernel
theorem dX1_arrive_16 : decode cX1_arrive 16 = .ok (.iload_n 1, 1) := by decide +kernel
theorem dX1_arrive_17 : decode cX1_arrive 17 = .ok (.dup2, 1) := by decide +kernel
theorem dX1_arrive_18 : decode cX1_arrive 18 = .ok (.iaload, 1) := by decide +kernel
theorem dX1_arrive_19 : decode cX1_arrive 19 = .ok (.iload_n 3, 1) := by decide +kernel
theorem dX1_arrive_20 : decode cX1_arrive 20 = .ok (.iadd, 1) := by decide +kernel
theorem dX1_arrive_21 : decode cX1_arrive 21 = .ok (.iastore, 1) := by decide +kernel
theorem dX1_arrive_22 : decode cX1_arrive 22 = .ok (.aload_n 0, 1) := by decide +kernel
theorem dX1_arrive_23 : decode cX1_arrive 23 = .ok (.dup, 1) := by decide +kernel
theorem dX1_arrive_24 : decode cX1_arrive 24 = .ok (.getfield 92, 3) := by decide +kernel
theorem dX1_arrive_27 : decode cX1_arrive 27 = .ok (.iload_n 3, 1) := by decide +kernel
theorem dX1_arrive_28 : decode cX1_arrive 28 = .ok (.isub, 1) := by decide +kernel
theorem dX1_arrive_29 : decode cX1_arrive 29 = .ok (.putfield 92, 3) := by decide +kernel
theorem dX1_arrive_32 : decode cX1_arrive 32 = .ok (.return_, 1) := by decide +kernel
theorem dX1_takeShelter_0 : decode cX1_takeShelter 0 = .ok (.aload_n 0, 1) := by decide +kernel
theorem dX1_takeShelter_1 : decode cX1_takeShelter 1 = .ok (.getfield 30, 3) := by decide +kernel
theorem dX1_takeShelter_4 : decode cX1_takeShelter 4 = .ok (.iload_n 1, 1) := by decide +kernel
theorem dX1_takeShelter_5 : decode cX1_takeShelter 5 = .ok (.iconst 1, 1) := by decide +kernel
theorem dX1_takeShelter_6 : decode cX1_takeShelter 6 = .ok (.invokevirtual 101, 3) := by decide +kernel
theorem dX1_takeShelter_9 : decode cX1_takeShelter 9 = .ok (.aload_n 0, 1) := by decide +kernel
theorem dX1_takeShelter_10 : decode cX1_takeShelter 10 = .ok (.getfield 18, 3) := by decide +kernel
theorem dX1_takeShelter_13 : decode cX1_takeShelter 13 = .ok (.iload_n 1, 1) := by decide +kernel
theorem dX1_takeShelter_14 : decode cX1_takeShelter 14 = .ok (.iaload, 1) := by decide +kernel
theorem dX1_takeShelter_15 : decode cX1_takeShelter 15 = .ok (.isub, 1) := by decide +kernel
theorem dX1_takeShelter_16 : decode cX1_takeShelter 16 = .ok (.istore_n 3, 1) := by decide +kernel
theorem dX1_takeShelter_17 : decode cX1_takeShelter 17 = .ok (.iload_n 3, 1) := by decide +kernel
theorem dX1_takeShelter_18 : decode cX1_takeShelter 18 = .ok (.aload_n 0, 1) := by decide +kernel
theorem dX1_takeShelter_19 : decode cX1_takeShelter 19 = .ok (.getfield 9, 3) := by decide +kernel
theorem dX1_takeShelter_22 : decode cX1_takeShelter 22 = .ok (.iload_n 1, 1) := by decide +kernel
theorem dX1_takeShelter_23 : decode cX1_takeShelter 23 = .ok (.iaload, 1) := by decide +kernel
theorem dX1_takeShelter_24 : decode cX1_takeShelter 24 = .ok (.invokestatic 104, 3) := by decide +kernel
theorem dX1_takeShelter_27 : decode cX1_takeShelter 27 = .ok (.istore 4, 2) := by decide +kernel
theorem dX1_takeShelter_29 : decode cX1_takeShelter 29 = .ok (.iload_n 3, 1) := by decide +kernel
theorem dX1_takeShelter_30 : decode cX1_takeShelter 30 = .ok (.iload 4, 2) := by decide +kernel
theorem dX1_takeShelter_32 : decode cX1_takeShelter 32 = .ok (.isub, 1) := by decide +kernel
theorem dX1_takeShelter_33 : decode cX1_takeShelter 33 = .ok (.aload_n 0, 1) := by decide +kernel
theorem dX1_takeShelter_34 : decode cX1_takeShelter 34 = .ok (.iload_n 1, 1) := by decide +kernel
