theorem dX3_addRoad_71 : decode cX3_addRoad 71 = .ok (.putfield 28, 3) := by decide +kernel
theorem dX3_addRoad_74 : decode cX3_addRoad 74 = .ok (.aload_n 0, 1) := by decide +kernel
theorem dX3_addRoad_75 : decode cX3_addRoad 75 = .ok (.getfield 28, 3) := by decide +kernel
theorem dX3_addRoad_78 : decode cX3_addRoad 78 = .ok (.iconst 1, 1) := by decide +kernel
theorem dX3_addRoad_79 : decode cX3_addRoad 79 = .ok (.isub, 1) := by decide +kernel
theorem dX3_addRoad_80 : decode cX3_addRoad 80 = .ok (.ireturn, 1) := by decide +kernel
theorem dX4_init_0 : decode cX4_init 0 = .ok (.aload_n 0, 1) := by decide +kernel
theorem dX4_init_1 : decode cX4_init 1 = .ok (.invokespecial 3, 3) := by decide +kernel
theorem dX4_init_4 : decode cX4_init 4 = .ok (.aload_n 0, 1) := by decide +kernel
theorem dX4_init_5 : decode cX4_init 5 = .ok (.iconst 4, 1) := by decide +kernel
theorem dX4_init_6 : decode cX4_init 6 = .ok (.newarray .int, 2) := by decide +kernel
theorem dX4_init_8 : decode cX4_init 8 = .ok (.putfield 11, 3) := by decide +kernel
theorem dX4_init_11 : decode cX4_init 11 = .ok (.aload_n 0, 1) := by decide +kernel
theorem dX4_init_12 : decode cX4_init 12 = .ok (.bipush 24, 2) := by decide +kernel
theorem dX4_init_14 : decode cX4_init 14 = .ok (.newarray .int, 2) := by decide +kernel
theorem dX4_init_16 : decode cX4_init 16 = .ok (.putfield 15, 3) := by decide +kernel
theorem dX4_init_19 : decode cX4_init 19 = .ok (.aload_n 0, 1) := by decide +kernel
theorem dX4_init_20 : decode cX4_init 20 = .ok (.aload_n 1, 1) := by decide +kernel
theorem dX4_init_21 : decode cX4_init 21 = .ok (.putfield 18, 3) := by decide +kernel
theorem dX4_init_24 : decode cX4_init 24 = .ok (.aload_n 0, 1) := by decide +kernel
theorem dX4_init_25 : decode cX4_init 25 = .ok (.aload_n 2, 1) := by decide +kernel
theorem dX4_init_26 : decode cX4_init 26 = .ok (.putfield 22, 3) := by decide +kernel
theorem dX4_init_29 : decode cX4_init 29 = .ok (.return_, 1) := by decide +kernel
theorem dX4_findTurn_0 : decode cX4_findTurn 0 = .ok (.aload_n 0, 1) := by decide +kernel
theorem dX4_findTurn_1 : decode cX4_findTurn 1 = .ok (.getfield 22, 3) := by decide +kernel
theorem dX4_findTurn_4 : decode cX4_findTurn 4 = .ok (.invokevirtual 26, 3) := by decide +kernel
theorem dX4_findTurn_7 : decode cX4_findTurn 7 = .ok (.istore_n 1, 1) := by decide +kernel
theorem dX4_findTurn_8 : decode cX4_findTurn 8 = .ok (.aload_n 0, 1) := by decide +kernel
theorem dX4_findTurn_9 : decode cX4_findTurn 9 = .ok (.iload_n 1, 1) := by decide +kernel
theorem dX4_findTurn_10 : decode cX4_findTurn 10 = .ok (.putfield 32, 3) := by decide +kernel
theorem dX4_findTurn_13 : decode cX4_findTurn 13 = .ok (.aload_n 0, 1) := by decide +kernel
theorem dX4_findTurn_14 : decode cX4_findTurn 14 = .ok (.invokevirtual 36, 3) := by decide +kernel
theorem dX4_findTurn_17 : decode cX4_findTurn 17 = .ok (.iconst 1, 1) := by decide +kernel
theorem dX4_findTurn_18 : decode cX4_findTurn 18 = .ok (.istore_n 2, 1) := by decide +kernel
theorem dX4_findTurn_19 : decode cX4_findTurn 19 = .ok (.iload_n 2, 1) := by decide +kernel
theorem dX4_findTurn_20 : decode cX4_findTurn 20 = .ok (.bipush 18, 2) := by decide +kernel
theorem dX4_findTurn_22 : decode cX4_findTurn 22 = .ok (.if_icmp .gt 63, 3) := by decide +kernel
theorem dX4_findTurn_25 : decode cX4_findTurn 25 = .ok (.iconst 0, 1) := by decide +kernel
theorem dX4_findTurn_26 : decode cX4_findTurn 26 = .ok (.istore_n 3, 1) := by decide +kernel
theorem dX4_findTurn_27 : decode cX4_findTurn 27 = .ok (.iload_n 3, 1) := by decide +kernel
theorem dX4_findTurn_28 : decode cX4_findTurn 28 = .ok (.iconst 2, 1) := by decide +kernel
theorem dX4_findTurn_29 : decode cX4_findTurn 29 = .ok (.aload_n 0, 1) := by decide +kernel
theorem dX4_findTurn_30 : decode cX4_findTurn 30 = .ok (.getfield 18, 3) := by decide +kernel
theorem dX4_findTurn_33 : decode cX4_findTurn 33 = .ok (.getfield 39, 3) := by decide +kernel
theorem dX4_findTurn_36 : decode cX4_findTurn 36 = .ok (.imul, 1) := by decide +kernel
theorem dX4_findTurn_37 : decode cX4_findTurn 37 = .ok (.if_icmp .ge 42, 3) := by decide +kernel
theorem dX4_findTurn_40 : decode cX4_findTurn 40 = .ok (.aload_n 0, 1) := by decide +kernel
theorem dX4_findTurn_41 : decode cX4_findTurn 41 = .ok (.getfield 32, 3) := by decide +kernel
theorem dX4_findTurn_44 : decode cX4_findTurn 44 = .ok (.ifCond .le 35, 3) := by decide +kernel
theorem dX4_findTurn_47 : decode cX4_findTurn 47 = .ok (.aload_n 0, 1) := by decide +kernel
theorem dX4_findTurn_48 : decode cX4_findTurn 48 = .ok (.iload_n 3, 1) := by decide +kernel
theorem dX4_findTurn_49 : decode cX4_findTurn 49 = .ok (.iconst 2, 1) := by decide +kernel
theorem dX4_findTurn_50 : decode cX4_findTurn 50 = .ok (.idiv, 1) := by decide +kernel
theorem dX4_findTurn_51 : decode cX4_findTurn 51 = .ok (.iload_n 3, 1) := by decide +kernel
theorem dX4_findTurn_52 : decode cX4_findTurn 52 = .ok (.iconst 2, 1) := by decide +kernel
theorem dX4_findTurn_53 : decode cX4_findTurn 53 = .ok (.irem, 1) := by decide +kernel
theorem dX4_findTurn_54 : decode cX4_findTurn 54 = .ok (.ifCond .ne 7, 3) := by decide +kernel
theorem dX4_findTurn_57 : decode cX4_findTurn 57 = .ok (.iload_n 2, 1) := by decide +kernel
theorem dX4_findTurn_58 : decode cX4_findTurn 58 = .ok (.goto 5, 3) := by decide +kernel
theorem dX4_findTurn_61 : decode cX4_findTurn 61 = .ok (.iload_n 2, 1) := by decide +kernel
theorem dX4_findTurn_62 : decode cX4_findTurn 62 = .ok (.ineg, 1) := by decide +kernel
theorem dX4_findTurn_63 : decode cX4_findTurn 63 = .ok (.invokevirtual 44, 3) := by decide +kernel
theorem dX4_findTurn_66 : decode cX4_findTurn 66 = .ok (.ifCond .eq 7, 3) := by decide +kernel
theorem dX4_findTurn_69 : decode cX4_findTurn 69 = .ok (.aload_n 0, 1) := by decide +kernel
theorem dX4_findTurn_70 : decode cX4_findTurn 70 = .ok (.invokevirtual 36, 3) := by decide +kernel
theorem dX4_findTurn_73 : decode cX4_findTurn 73 = .ok (.iinc 3 1, 3) := by decide +kernel
theorem dX4_findTurn_76 : decode cX4_findTurn 76 = .ok (.goto (-49), 3) := by decide +kernel
theorem dX4_findTurn_79 : decode cX4_findTurn 79 = .ok (.iinc 2 1, 3) := by decide +kernel
theorem dX4_findTurn_82 : decode cX4_findTurn 82 = .ok (.goto (-63), 3) := by decide +kernel
theorem dX4_findTurn_85 : decode cX4_findTurn 85 = .ok (.aload_n 0, 1) := by decide +kernel
theorem dX4_findTurn_86 : decode cX4_findTurn 86 = .ok (.getfield 32, 3) := by decide +kernel
theorem dX4_findTurn_89 : decode cX4_findTurn 89 = .ok (.iload_n 1, 1) := by decide +kernel
theorem dX4_findTurn_90 : decode cX4_findTurn 90 = .ok (.if_icmp .ge 7, 3) := by decide +kernel
theorem dX4_findTurn_93 : decode cX4_findTurn 93 = .ok (.iconst 1, 1) := by decide +kernel
theorem dX4_findTurn_94 : decode cX4_findTurn 94 = .ok (.goto 4, 3) := by decide +kernel
theorem dX4_findTurn_97 : decode cX4_findTurn 97 = .ok (.iconst 0, 1) := by decide +kernel
theorem dX4_findTurn_98 : decode cX4_findTurn 98 = .ok (.ireturn, 1) := by decide +kernel
theorem dX4_tryTurn_0 : decode cX4_tryTurn 0 = .ok (.aload_n 0, 1) := by decide +kernel
theorem dX4_tryTurn_1 : decode cX4_tryTurn 1 = .ok (.getfield 18, 3) := by decide +kernel
theorem dX4_tryTurn_4 : decode cX4_tryTurn 4 = .ok (.iload_n 1, 1) := by decide +kernel
theorem dX4_tryTurn_5 : decode cX4_tryTurn 5 = .ok (.iload_n 2, 1) := by decide +kernel
theorem dX4_tryTurn_6 : decode cX4_tryTurn 6 = .ok (.invokevirtual 48, 3) := by decide +kernel
theorem dX4_tryTurn_9 : decode cX4_tryTurn 9 = .ok (.ifCond .eq 19, 3) := by decide +kernel
theorem dX4_tryTurn_12 : decode cX4_tryTurn 12 = .ok (.aload_n 0, 1) := by decide +kernel
theorem dX4_tryTurn_13 : decode cX4_tryTurn 13 = .ok (.getfield 22, 3) := by decide +kernel
theorem dX4_tryTurn_16 : decode cX4_tryTurn 16 = .ok (.iload_n 1, 1) := by decide +kernel
theorem dX4_tryTurn_17 : decode cX4_tryTurn 17 = .ok (.iload_n 2, 1) := by decide +kernel
theorem dX4_tryTurn_18 : decode cX4_tryTurn 18 = .ok (.invokevirtual 51, 3) := by decide +kernel
theorem dX4_tryTurn_21 : decode cX4_tryTurn 21 = .ok (.aload_n 0, 1) := by decide +kernel
theorem dX4_tryTurn_22 : decode cX4_tryTurn 22 = .ok (.getfield 55, 3) := by decide +kernel
theorem dX4_tryTurn_25 : decode cX4_tryTurn 25 = .ok (.if_icmp .ge 5, 3) := by decide +kernel
theorem dX4_tryTurn_28 : decode cX4_tryTurn 28 = .ok (.iconst 0, 1) := by decide +kernel
theorem dX4_tryTurn_29 : decode cX4_tryTurn 29 = .ok (.ireturn, 1) := by decide +kernel
theorem dX4_tryTurn_30 : decode cX4_tryTurn 30 = .ok (.aload_n 0, 1) := by decide +kernel
theorem dX4_tryTurn_31 : decode cX4_tryTurn 31 = .ok (.getfield 18, 3) := by decide +kernel
theorem dX4_tryTurn_34 : decode cX4_tryTurn 34 = .ok (.iload_n 1, 1) := by decide +kernel
theorem dX4_tryTurn_35 : decode cX4_tryTurn 35 = .ok (.iload_n 2, 1) := by decide +kernel
theorem dX4_tryTurn_36 : decode cX4_tryTurn 36 = .ok (.invokevirtual 58, 3) := by decide +kernel
theorem dX4_tryTurn_39 : decode cX4_tryTurn 39 = .ok (.aload_n 0, 1) := by decide +kernel
theorem dX4_tryTurn_40 : decode cX4_tryTurn 40 = .ok (.getfield 22, 3) := by decide +kernel
theorem dX4_tryTurn_43 : decode cX4_tryTurn 43 = .ok (.aload_n 0, 1) := by decide +kernel
theorem dX4_tryTurn_44 : decode cX4_tryTurn 44 = .ok (.getfield 32, 3) := by decide +kernel
theorem dX4_tryTurn_47 : decode cX4_tryTurn 47 = .ok (.iconst 1, 1) := by decide +kernel
theorem dX4_tryTurn_48 : decode cX4_tryTurn 48 = .ok (.isub, 1) := by decide +kernel
theorem dX4_tryTurn_49 : decode cX4_tryTurn 49 = .ok (.invokevirtual 62, 3) := by decide +kernel
theorem dX4_tryTurn_52 : decode cX4_tryTurn 52 = .ok (.ifCond .eq 18, 3) := by decide +kernel
theorem dX4_tryTurn_55 : decode cX4_tryTurn 55 = .ok (.aload_n 0, 1) := by decide +kernel
theorem dX4_tryTurn_56 : decode cX4_tryTurn 56 = .ok (.getfield 22, 3) := by decide +kernel
theorem dX4_tryTurn_59 : decode cX4_tryTurn 59 = .ok (.iconst 0, 1) := by decide +kernel
theorem dX4_tryTurn_60 : decode cX4_tryTurn 60 = .ok (.aload_n 0, 1) := by decide +kernel
theorem dX4_tryTurn_61 : decode cX4_tryTurn 61 = .ok (.getfield 32, 3) := by decide +kernel
theorem dX4_tryTurn_64 : decode cX4_tryTurn 64 = .ok (.invokevirtual 66, 3) := by decide +kernel
theorem dX4_tryTurn_67 : decode cX4_tryTurn 67 = .ok (.goto 7, 3) := by decide +kernel
theorem dX4_tryTurn_70 : decode cX4_tryTurn 70 = .ok (.aload_n 0, 1) := by decide +kernel
theorem dX4_tryTurn_71 : decode cX4_tryTurn 71 = .ok (.getfield 32, 3) := by decide +kernel
theorem dX4_tryTurn_74 : decode cX4_tryTurn 74 = .ok (.istore_n 3, 1) := by decide +kernel
theorem dX4_tryTurn_75 : decode cX4_tryTurn 75 = .ok (.aload_n 0, 1) := by decide +kernel
theorem dX4_tryTurn_76 : decode cX4_tryTurn 76 = .ok (.getfield 18, 3) := by decide +kernel
theorem dX4_tryTurn_79 : decode cX4_tryTurn 79 = .ok (.iload_n 1, 1) := by decide +kernel
theorem dX4_tryTurn_80 : decode cX4_tryTurn 80 = .ok (.iload_n 2, 1) := by decide +kernel
theorem dX4_tryTurn_81 : decode cX4_tryTurn 81 = .ok (.ineg, 1) := by decide +kernel
theorem dX4_tryTurn_82 : decode cX4_tryTurn 82 = .ok (.invokevirtual 58, 3) := by decide +kernel
theorem dX4_tryTurn_85 : decode cX4_tryTurn 85 = .ok (.iload_n 3, 1) := by decide +kernel
theorem dX4_tryTurn_86 : decode cX4_tryTurn 86 = .ok (.aload_n 0, 1) := by decide +kernel
theorem dX4_tryTurn_87 : decode cX4_tryTurn 87 = .ok (.getfield 32, 3) := by decide +kernel
theorem dX4_tryTurn_90 : decode cX4_tryTurn 90 = .ok (.if_icmp .ne 5, 3) := by decide +kernel
theorem dX4_tryTurn_93 : decode cX4_tryTurn 93 = .ok (.iconst 0, 1) := by decide +kernel
theorem dX4_tryTurn_94 : decode cX4_tryTurn 94 = .ok (.ireturn, 1) := by decide +kernel
theorem dX4_tryTurn_95 : decode cX4_tryTurn 95 = .ok (.aload_n 0, 1) := by decide +kernel
theorem dX4_tryTurn_96 : decode cX4_tryTurn 96 = .ok (.iload_n 3, 1) := by decide +kernel
theorem dX4_tryTurn_97 : decode cX4_tryTurn 97 = .ok (.putfield 32, 3) := by decide +kernel
theorem dX4_tryTurn_100 : decode cX4_tryTurn 100 = .ok (.aload_n 0, 1) := by decide +kernel
theorem dX4_tryTurn_101 : decode cX4_tryTurn 101 = .ok (.iload_n 1, 1) := by decide +kernel
theorem dX4_tryTurn_102 : decode cX4_tryTurn 102 = .ok (.putfield 69, 3) := by decide +kernel
theorem dX4_tryTurn_105 : decode cX4_tryTurn 105 = .ok (.aload_n 0, 1) := by decide +kernel
theorem dX4_tryTurn_106 : decode cX4_tryTurn 106 = .ok (.iload_n 2, 1) := by decide +kernel
theorem dX4_tryTurn_107 : decode cX4_tryTurn 107 = .ok (.putfield 72, 3) := by decide +kernel
theorem dX4_tryTurn_110 : decode cX4_tryTurn 110 = .ok (.iconst 1, 1) := by decide +kernel
theorem dX4_tryTurn_111 : decode cX4_tryTurn 111 = .ok (.ireturn, 1) := by decide +kernel
theorem dX4_findRow_0 : decode cX4_findRow 0 = .ok (.aload_n 0, 1) := by decide +kernel
theorem dX4_findRow_1 : decode cX4_findRow 1 = .ok (.iload_n 1, 1) := by decide +kernel
theorem dX4_findRow_2 : decode cX4_findRow 2 = .ok (.invokevirtual 75, 3) := by decide +kernel
theorem dX4_findRow_5 : decode cX4_findRow 5 = .ok (.istore_n 2, 1) := by decide +kernel
theorem dX4_findRow_6 : decode cX4_findRow 6 = .ok (.aload_n 0, 1) := by decide +kernel
theorem dX4_findRow_7 : decode cX4_findRow 7 = .ok (.iconst 0, 1) := by decide +kernel
theorem dX4_findRow_8 : decode cX4_findRow 8 = .ok (.putfield 79, 3) := by decide +kernel
theorem dX4_findRow_11 : decode cX4_findRow 11 = .ok (.aload_n 0, 1) := by decide +kernel
theorem dX4_findRow_12 : decode cX4_findRow 12 = .ok (.aload_n 0, 1) := by decide +kernel
theorem dX4_findRow_13 : decode cX4_findRow 13 = .ok (.getfield 22, 3) := by decide +kernel
theorem dX4_findRow_16 : decode cX4_findRow 16 = .ok (.invokevirtual 26, 3) := by decide +kernel
theorem dX4_findRow_19 : decode cX4_findRow 19 = .ok (.putfield 32, 3) := by decide +kernel
theorem dX4_findRow_22 : decode cX4_findRow 22 = .ok (.aload_n 0, 1) := by decide +kernel
theorem dX4_findRow_23 : decode cX4_findRow 23 = .ok (.invokevirtual 36, 3) := by decide +kernel
theorem dX4_findRow_26 : decode cX4_findRow 26 = .ok (.iconst 1, 1) := by decide +kernel
theorem dX4_findRow_27 : decode cX4_findRow 27 = .ok (.istore_n 3, 1) := by decide +kernel
theorem dX4_findRow_28 : decode cX4_findRow 28 = .ok (.iload_n 3, 1) := by decide +kernel
theorem dX4_findRow_29 : decode cX4_findRow 29 = .ok (.aload_n 0, 1) := by decide +kernel
theorem dX4_findRow_30 : decode cX4_findRow 30 = .ok (.getfield 82, 3) := by decide +kernel
theorem dX4_findRow_33 : decode cX4_findRow 33 = .ok (.if_icmp .gt 53, 3) := by decide +kernel
theorem dX4_findRow_36 : decode cX4_findRow 36 = .ok (.iconst 1, 1) := by decide +kernel
theorem dX4_findRow_37 : decode cX4_findRow 37 = .ok (.istore 4, 2) := by decide +kernel
theorem dX4_findRow_39 : decode cX4_findRow 39 = .ok (.iload 4, 2) := by decide +kernel
theorem dX4_findRow_41 : decode cX4_findRow 41 = .ok (.iload_n 2, 1) := by decide +kernel
theorem dX4_findRow_42 : decode cX4_findRow 42 = .ok (.if_icmp .ge 38, 3) := by decide +kernel
theorem dX4_findRow_45 : decode cX4_findRow 45 = .ok (.aload_n 0, 1) := by decide +kernel
theorem dX4_findRow_46 : decode cX4_findRow 46 = .ok (.getfield 32, 3) := by decide +kernel
theorem dX4_findRow_49 : decode cX4_findRow 49 = .ok (.ifCond .le 31, 3) := by decide +kernel
theorem dX4_findRow_52 : decode cX4_findRow 52 = .ok (.iload 4, 2) := by decide +kernel
theorem dX4_findRow_54 : decode cX4_findRow 54 = .ok (.invokestatic 85, 3) := by decide +kernel
theorem dX4_findRow_57 : decode cX4_findRow 57 = .ok (.iload_n 3, 1) := by decide +kernel
theorem dX4_findRow_58 : decode cX4_findRow 58 = .ok (.if_icmp .ne 16, 3) := by decide +kernel
theorem dX4_findRow_61 : decode cX4_findRow 61 = .ok (.aload_n 0, 1) := by decide +kernel
theorem dX4_findRow_62 : decode cX4_findRow 62 = .ok (.iload 4, 2) := by decide +kernel
theorem dX4_findRow_64 : decode cX4_findRow 64 = .ok (.invokevirtual 88, 3) := by decide +kernel
theorem dX4_findRow_67 : decode cX4_findRow 67 = .ok (.ifCond .eq 7, 3) := by decide +kernel
theorem dX4_findRow_70 : decode cX4_findRow 70 = .ok (.aload_n 0, 1) := by decide +kernel
theorem dX4_findRow_71 : decode cX4_findRow 71 = .ok (.invokevirtual 36, 3) := by decide +kernel
theorem dX4_findRow_74 : decode cX4_findRow 74 = .ok (.iinc 4 1, 3) := by decide +kernel
theorem dX4_findRow_77 : decode cX4_findRow 77 = .ok (.goto (-38), 3) := by decide +kernel
theorem dX4_findRow_80 : decode cX4_findRow 80 = .ok (.iinc 3 1, 3) := by decide +kernel
theorem dX4_findRow_83 : decode cX4_findRow 83 = .ok (.goto (-55), 3) := by decide +kernel
theorem dX4_findRow_86 : decode cX4_findRow 86 = .ok (.return_, 1) := by decide +kernel
theorem dX4_choose_0 : decode cX4_choose 0 = .ok (.aload_n 0, 1) := by decide +kernel
theorem dX4_choose_1 : decode cX4_choose 1 = .ok (.iconst 0, 1) := by decide +kernel
theorem dX4_choose_2 : decode cX4_choose 2 = .ok (.putfield 82, 3) := by decide +kernel
theorem dX4_choose_5 : decode cX4_choose 5 = .ok (.iconst 1, 1) := by decide +kernel
theorem dX4_choose_6 : decode cX4_choose 6 = .ok (.istore_n 2, 1) := by decide +kernel
theorem dX4_choose_7 : decode cX4_choose 7 = .ok (.iconst 0, 1) := by decide +kernel
theorem dX4_choose_8 : decode cX4_choose 8 = .ok (.istore_n 3, 1) := by decide +kernel
theorem dX4_choose_9 : decode cX4_choose 9 = .ok (.iload_n 3, 1) := by decide +kernel
theorem dX4_choose_10 : decode cX4_choose 10 = .ok (.aload_n 0, 1) := by decide +kernel
theorem dX4_choose_11 : decode cX4_choose 11 = .ok (.getfield 18, 3) := by decide +kernel
theorem dX4_choose_14 : decode cX4_choose 14 = .ok (.getfield 39, 3) := by decide +kernel
theorem dX4_choose_17 : decode cX4_choose 17 = .ok (.if_icmp .ge 50, 3) := by decide +kernel
theorem dX4_choose_20 : decode cX4_choose 20 = .ok (.aload_n 0, 1) := by decide +kernel
theorem dX4_choose_21 : decode cX4_choose 21 = .ok (.getfield 82, 3) := by decide +kernel
theorem dX4_choose_24 : decode cX4_choose 24 = .ok (.iconst 4, 1) := by decide +kernel
theorem dX4_choose_25 : decode cX4_choose 25 = .ok (.if_icmp .ge 42, 3) := by decide +kernel
theorem dX4_choose_28 : decode cX4_choose 28 = .ok (.iload_n 1, 1) := by decide +kernel
theorem dX4_choose_29 : decode cX4_choose 29 = .ok (.iload_n 3, 1) := by decide +kernel
theorem dX4_choose_30 : decode cX4_choose 30 = .ok (.ishr, 1) := by decide +kernel
theorem dX4_choose_31 : decode cX4_choose 31 = .ok (.iconst 1, 1) := by decide +kernel
theorem dX4_choose_32 : decode cX4_choose 32 = .ok (.iand, 1) := by decide +kernel
theorem dX4_choose_33 : decode cX4_choose 33 = .ok (.iconst 1, 1) := by decide +kernel
theorem dX4_choose_34 : decode cX4_choose 34 = .ok (.if_icmp .ne 27, 3) := by decide +kernel
theorem dX4_choose_37 : decode cX4_choose 37 = .ok (.aload_n 0, 1) := by decide +kernel
theorem dX4_choose_38 : decode cX4_choose 38 = .ok (.getfield 11, 3) := by decide +kernel
theorem dX4_choose_41 : decode cX4_choose 41 = .ok (.aload_n 0, 1) := by decide +kernel
theorem dX4_choose_42 : decode cX4_choose 42 = .ok (.getfield 82, 3) := by decide +kernel
theorem dX4_choose_45 : decode cX4_choose 45 = .ok (.iload_n 3, 1) := by decide +kernel
theorem dX4_choose_46 : decode cX4_choose 46 = .ok (.iastore, 1) := by decide +kernel
theorem dX4_choose_47 : decode cX4_choose 47 = .ok (.aload_n 0, 1) := by decide +kernel
theorem dX4_choose_48 : decode cX4_choose 48 = .ok (.dup, 1) := by decide +kernel
theorem dX4_choose_49 : decode cX4_choose 49 = .ok (.getfield 82, 3) := by decide +kernel
theorem dX4_choose_52 : decode cX4_choose 52 = .ok (.iconst 1, 1) := by decide +kernel
theorem dX4_choose_53 : decode cX4_choose 53 = .ok (.iadd, 1) := by decide +kernel
theorem dX4_choose_54 : decode cX4_choose 54 = .ok (.putfield 82, 3) := by decide +kernel
theorem dX4_choose_57 : decode cX4_choose 57 = .ok (.iload_n 2, 1) := by decide +kernel
theorem dX4_choose_58 : decode cX4_choose 58 = .ok (.iconst 3, 1) := by decide +kernel
theorem dX4_choose_59 : decode cX4_choose 59 = .ok (.imul, 1) := by decide +kernel
theorem dX4_choose_60 : decode cX4_choose 60 = .ok (.istore_n 2, 1) := by decide +kernel
theorem dX4_choose_61 : decode cX4_choose 61 = .ok (.iinc 3 1, 3) := by decide +kernel
theorem dX4_choose_64 : decode cX4_choose 64 = .ok (.goto (-55), 3) := by decide +kernel
theorem dX4_choose_67 : decode cX4_choose 67 = .ok (.iload_n 2, 1) := by decide +kernel
theorem dX4_choose_68 : decode cX4_choose 68 = .ok (.ireturn, 1) := by decide +kernel
theorem dX4_digitsNotZero_0 : decode cX4_digitsNotZero 0 = .ok (.iconst 0, 1) := by decide +kernel
theorem dX4_digitsNotZero_1 : decode cX4_digitsNotZero 1 = .ok (.istore_n 1, 1) := by decide +kernel
theorem dX4_digitsNotZero_2 : decode cX4_digitsNotZero 2 = .ok (.iload_n 0, 1) := by decide +kernel
theorem dX4_digitsNotZero_3 : decode cX4_digitsNotZero 3 = .ok (.istore_n 2, 1) := by decide +kernel
theorem dX4_digitsNotZero_4 : decode cX4_digitsNotZero 4 = .ok (.iconst 0, 1) := by decide +kernel
theorem dX4_digitsNotZero_5 : decode cX4_digitsNotZero 5 = .ok (.istore_n 3, 1) := by decide +kernel
theorem dX4_digitsNotZero_6 : decode cX4_digitsNotZero 6 = .ok (.iload_n 3, 1) := by decide +kernel
theorem dX4_digitsNotZero_7 : decode cX4_digitsNotZero 7 = .ok (.iconst 4, 1) := by decide +kernel
theorem dX4_digitsNotZero_8 : decode cX4_digitsNotZero 8 = .ok (.if_icmp .ge 22, 3) := by decide +kernel
theorem dX4_digitsNotZero_11 : decode cX4_digitsNotZero 11 = .ok (.iload_n 2, 1) := by decide +kernel
theorem dX4_digitsNotZero_12 : decode cX4_digitsNotZero 12 = .ok (.iconst 3, 1) := by decide +kernel
theorem dX4_digitsNotZero_13 : decode cX4_digitsNotZero 13 = .ok (.irem, 1) := by decide +kernel
theorem dX4_digitsNotZero_14 : decode cX4_digitsNotZero 14 = .ok (.ifCond .eq 6, 3) := by decide +kernel
theorem dX4_digitsNotZero_17 : decode cX4_digitsNotZero 17 = .ok (.iinc 1 1, 3) := by decide +kernel
theorem dX4_digitsNotZero_20 : decode cX4_digitsNotZero 20 = .ok (.iload_n 2, 1) := by decide +kernel
theorem dX4_digitsNotZero_21 : decode cX4_digitsNotZero 21 = .ok (.iconst 3, 1) := by decide +kernel
theorem dX4_digitsNotZero_22 : decode cX4_digitsNotZero 22 = .ok (.idiv, 1) := by decide +kernel
theorem dX4_digitsNotZero_23 : decode cX4_digitsNotZero 23 = .ok (.istore_n 2, 1) := by decide +kernel
theorem dX4_digitsNotZero_24 : decode cX4_digitsNotZero 24 = .ok (.iinc 3 1, 3) := by decide +kernel
theorem dX4_digitsNotZero_27 : decode cX4_digitsNotZero 27 = .ok (.goto (-21), 3) := by decide +kernel
theorem dX4_digitsNotZero_30 : decode cX4_digitsNotZero 30 = .ok (.iload_n 1, 1) := by decide +kernel
theorem dX4_digitsNotZero_31 : decode cX4_digitsNotZero 31 = .ok (.ireturn, 1) := by decide +kernel
theorem dX4_tryRow_0 : decode cX4_tryRow 0 = .ok (.aload_n 0, 1) := by decide +kernel
theorem dX4_tryRow_1 : decode cX4_tryRow 1 = .ok (.getfield 18, 3) := by decide +kernel
theorem dX4_tryRow_4 : decode cX4_tryRow 4 = .ok (.getfield 91, 3) := by decide +kernel
theorem dX4_tryRow_7 : decode cX4_tryRow 7 = .ok (.iconst 0, 1) := by decide +kernel
theorem dX4_tryRow_8 : decode cX4_tryRow 8 = .ok (.aload_n 0, 1) := by decide +kernel
theorem dX4_tryRow_9 : decode cX4_tryRow 9 = .ok (.getfield 15, 3) := by decide +kernel
theorem dX4_tryRow_12 : decode cX4_tryRow 12 = .ok (.iconst 0, 1) := by decide +kernel
theorem dX4_tryRow_13 : decode cX4_tryRow 13 = .ok (.bipush 24, 2) := by decide +kernel
theorem dX4_tryRow_15 : decode cX4_tryRow 15 = .ok (.invokestatic 94, 3) := by decide +kernel
theorem dX4_tryRow_18 : decode cX4_tryRow 18 = .ok (.iconst 0, 1) := by decide +kernel
theorem dX4_tryRow_19 : decode cX4_tryRow 19 = .ok (.istore_n 2, 1) := by decide +kernel
theorem dX4_tryRow_20 : decode cX4_tryRow 20 = .ok (.iload_n 1, 1) := by decide +kernel
theorem dX4_tryRow_21 : decode cX4_tryRow 21 = .ok (.istore_n 3, 1) := by decide +kernel
theorem dX4_tryRow_22 : decode cX4_tryRow 22 = .ok (.aload_n 0, 1) := by decide +kernel
theorem dX4_tryRow_23 : decode cX4_tryRow 23 = .ok (.getfield 82, 3) := by decide +kernel
theorem dX4_tryRow_26 : decode cX4_tryRow 26 = .ok (.iconst 1, 1) := by decide +kernel
theorem dX4_tryRow_27 : decode cX4_tryRow 27 = .ok (.isub, 1) := by decide +kernel
theorem dX4_tryRow_28 : decode cX4_tryRow 28 = .ok (.istore 4, 2) := by decide +kernel
theorem dX4_tryRow_30 : decode cX4_tryRow 30 = .ok (.iload 4, 2) := by decide +kernel
theorem dX4_tryRow_32 : decode cX4_tryRow 32 = .ok (.ifCond .lt 30, 3) := by decide +kernel
theorem dX4_tryRow_35 : decode cX4_tryRow 35 = .ok (.iload_n 2, 1) := by decide +kernel
theorem dX4_tryRow_36 : decode cX4_tryRow 36 = .ok (.aload_n 0, 1) := by decide +kernel
theorem dX4_tryRow_37 : decode cX4_tryRow 37 = .ok (.aload_n 0, 1) := by decide +kernel
theorem dX4_tryRow_38 : decode cX4_tryRow 38 = .ok (.getfield 11, 3) := by decide +kernel
theorem dX4_tryRow_41 : decode cX4_tryRow 41 = .ok (.iload 4, 2) := by decide +kernel
theorem dX4_tryRow_43 : decode cX4_tryRow 43 = .ok (.iaload, 1) := by decide +kernel
theorem dX4_tryRow_44 : decode cX4_tryRow 44 = .ok (.iload_n 3, 1) := by decide +kernel
theorem dX4_tryRow_45 : decode cX4_tryRow 45 = .ok (.iconst 3, 1) := by decide +kernel
theorem dX4_tryRow_46 : decode cX4_tryRow 46 = .ok (.irem, 1) := by decide +kernel
theorem dX4_tryRow_47 : decode cX4_tryRow 47 = .ok (.invokevirtual 100, 3) := by decide +kernel
theorem dX4_tryRow_50 : decode cX4_tryRow 50 = .ok (.iadd, 1) := by decide +kernel
theorem dX4_tryRow_51 : decode cX4_tryRow 51 = .ok (.istore_n 2, 1) := by decide +kernel
theorem dX4_tryRow_52 : decode cX4_tryRow 52 = .ok (.iload_n 3, 1) := by decide +kernel
theorem dX4_tryRow_53 : decode cX4_tryRow 53 = .ok (.iconst 3, 1) := by decide +kernel
theorem dX4_tryRow_54 : decode cX4_tryRow 54 = .ok (.idiv, 1) := by decide +kernel
theorem dX4_tryRow_55 : decode cX4_tryRow 55 = .ok (.istore_n 3, 1) := by decide +kernel
theorem dX4_tryRow_56 : decode cX4_tryRow 56 = .ok (.iinc 4 (-1), 3) := by decide +kernel
theorem dX4_tryRow_59 : decode cX4_tryRow 59 = .ok (.goto (-29), 3) := by decide +kernel
theorem dX4_tryRow_62 : decode cX4_tryRow 62 = .ok (.aload_n 0, 1) := by decide +kernel
theorem dX4_tryRow_63 : decode cX4_tryRow 63 = .ok (.getfield 32, 3) := by decide +kernel
theorem dX4_tryRow_66 : decode cX4_tryRow 66 = .ok (.istore 4, 2) := by decide +kernel
theorem dX4_tryRow_68 : decode cX4_tryRow 68 = .ok (.iload_n 2, 1) := by decide +kernel
theorem dX4_tryRow_69 : decode cX4_tryRow 69 = .ok (.aload_n 0, 1) := by decide +kernel
theorem dX4_tryRow_70 : decode cX4_tryRow 70 = .ok (.getfield 55, 3) := by decide +kernel
theorem dX4_tryRow_73 : decode cX4_tryRow 73 = .ok (.if_icmp .lt 33, 3) := by decide +kernel
theorem dX4_tryRow_76 : decode cX4_tryRow 76 = .ok (.aload_n 0, 1) := by decide +kernel
theorem dX4_tryRow_77 : decode cX4_tryRow 77 = .ok (.getfield 22, 3) := by decide +kernel
theorem dX4_tryRow_80 : decode cX4_tryRow 80 = .ok (.aload_n 0, 1) := by decide +kernel
theorem dX4_tryRow_81 : decode cX4_tryRow 81 = .ok (.getfield 32, 3) := by decide +kernel
theorem dX4_tryRow_84 : decode cX4_tryRow 84 = .ok (.iconst 1, 1) := by decide +kernel
theorem dX4_tryRow_85 : decode cX4_tryRow 85 = .ok (.isub, 1) := by decide +kernel
theorem dX4_tryRow_86 : decode cX4_tryRow 86 = .ok (.invokevirtual 62, 3) := by decide +kernel
theorem dX4_tryRow_89 : decode cX4_tryRow 89 = .ok (.ifCond .eq 17, 3) := by decide +kernel
theorem dX4_tryRow_92 : decode cX4_tryRow 92 = .ok (.aload_n 0, 1) := by decide +kernel
theorem dX4_tryRow_93 : decode cX4_tryRow 93 = .ok (.getfield 22, 3) := by decide +kernel
theorem dX4_tryRow_96 : decode cX4_tryRow 96 = .ok (.iconst 0, 1) := by decide +kernel
theorem dX4_tryRow_97 : decode cX4_tryRow 97 = .ok (.aload_n 0, 1) := by decide +kernel
theorem dX4_tryRow_98 : decode cX4_tryRow 98 = .ok (.getfield 32, 3) := by decide +kernel
theorem dX4_tryRow_101 : decode cX4_tryRow 101 = .ok (.invokevirtual 66, 3) := by decide +kernel
theorem dX4_tryRow_104 : decode cX4_tryRow 104 = .ok (.istore 4, 2) := by decide +kernel
theorem dX4_tryRow_106 : decode cX4_tryRow 106 = .ok (.aload_n 0, 1) := by decide +kernel
theorem dX4_tryRow_107 : decode cX4_tryRow 107 = .ok (.getfield 15, 3) := by decide +kernel
theorem dX4_tryRow_110 : decode cX4_tryRow 110 = .ok (.iconst 0, 1) := by decide +kernel
theorem dX4_tryRow_111 : decode cX4_tryRow 111 = .ok (.aload_n 0, 1) := by decide +kernel
theorem dX4_tryRow_112 : decode cX4_tryRow 112 = .ok (.getfield 18, 3) := by decide +kernel
theorem dX4_tryRow_115 : decode cX4_tryRow 115 = .ok (.getfield 91, 3) := by decide +kernel
theorem dX4_tryRow_118 : decode cX4_tryRow 118 = .ok (.iconst 0, 1) := by decide +kernel
theorem dX4_tryRow_119 : decode cX4_tryRow 119 = .ok (.bipush 24, 2) := by decide +kernel
theorem dX4_tryRow_121 : decode cX4_tryRow 121 = .ok (.invokestatic 94, 3) := by decide +kernel
theorem dX4_tryRow_124 : decode cX4_tryRow 124 = .ok (.iload 4, 2) := by decide +kernel
theorem dX4_tryRow_126 : decode cX4_tryRow 126 = .ok (.aload_n 0, 1) := by decide +kernel
theorem dX4_tryRow_127 : decode cX4_tryRow 127 = .ok (.getfield 32, 3) := by decide +kernel
theorem dX4_tryRow_130 : decode cX4_tryRow 130 = .ok (.if_icmp .ne 5, 3) := by decide +kernel
theorem dX4_tryRow_133 : decode cX4_tryRow 133 = .ok (.iconst 0, 1) := by decide +kernel
theorem dX4_tryRow_134 : decode cX4_tryRow 134 = .ok (.ireturn, 1) := by decide +kernel
theorem dX4_tryRow_135 : decode cX4_tryRow 135 = .ok (.aload_n 0, 1) := by decide +kernel
theorem dX4_tryRow_136 : decode cX4_tryRow 136 = .ok (.iload 4, 2) := by decide +kernel
theorem dX4_tryRow_138 : decode cX4_tryRow 138 = .ok (.putfield 32, 3) := by decide +kernel
theorem dX4_tryRow_141 : decode cX4_tryRow 141 = .ok (.aload_n 0, 1) := by decide +kernel
theorem dX4_tryRow_142 : decode cX4_tryRow 142 = .ok (.iload_n 1, 1) := by decide +kernel
theorem dX4_tryRow_143 : decode cX4_tryRow 143 = .ok (.putfield 79, 3) := by decide +kernel
theorem dX4_tryRow_146 : decode cX4_tryRow 146 = .ok (.iconst 1, 1) := by decide +kernel
theorem dX4_tryRow_147 : decode cX4_tryRow 147 = .ok (.ireturn, 1) := by decide +kernel
theorem dX4_turnAll_0 : decode cX4_turnAll 0 = .ok (.iload_n 2, 1) := by decide +kernel
theorem dX4_turnAll_1 : decode cX4_turnAll 1 = .ok (.ifCond .ne 5, 3) := by decide +kernel
theorem dX4_turnAll_4 : decode cX4_turnAll 4 = .ok (.iconst 0, 1) := by decide +kernel
theorem dX4_turnAll_5 : decode cX4_turnAll 5 = .ok (.ireturn, 1) := by decide +kernel
theorem dX4_turnAll_6 : decode cX4_turnAll 6 = .ok (.iload_n 2, 1) := by decide +kernel
theorem dX4_turnAll_7 : decode cX4_turnAll 7 = .ok (.iconst 1, 1) := by decide +kernel
theorem dX4_turnAll_8 : decode cX4_turnAll 8 = .ok (.if_icmp .ne 19, 3) := by decide +kernel
theorem dX4_turnAll_11 : decode cX4_turnAll 11 = .ok (.aload_n 0, 1) := by decide +kernel
theorem dX4_turnAll_12 : decode cX4_turnAll 12 = .ok (.getfield 18, 3) := by decide +kernel
theorem dX4_turnAll_15 : decode cX4_turnAll 15 = .ok (.getfield 91, 3) := by decide +kernel
theorem dX4_turnAll_18 : decode cX4_turnAll 18 = .ok (.iconst 2, 1) := by decide +kernel
theorem dX4_turnAll_19 : decode cX4_turnAll 19 = .ok (.iload_n 1, 1) := by decide +kernel
theorem dX4_turnAll_20 : decode cX4_turnAll 20 = .ok (.imul, 1) := by decide +kernel
theorem dX4_turnAll_21 : decode cX4_turnAll 21 = .ok (.iconst 1, 1) := by decide +kernel
theorem dX4_turnAll_22 : decode cX4_turnAll 22 = .ok (.iadd, 1) := by decide +kernel
theorem dX4_turnAll_23 : decode cX4_turnAll 23 = .ok (.iaload, 1) := by decide +kernel
theorem dX4_turnAll_24 : decode cX4_turnAll 24 = .ok (.goto 15, 3) := by decide +kernel
theorem dX4_turnAll_27 : decode cX4_turnAll 27 = .ok (.aload_n 0, 1) := by decide +kernel
theorem dX4_turnAll_28 : decode cX4_turnAll 28 = .ok (.getfield 18, 3) := by decide +kernel
theorem dX4_turnAll_31 : decode cX4_turnAll 31 = .ok (.getfield 91, 3) := by decide +kernel
theorem dX4_turnAll_34 : decode cX4_turnAll 34 = .ok (.iconst 2, 1) := by decide +kernel
theorem dX4_turnAll_35 : decode cX4_turnAll 35 = .ok (.iload_n 1, 1) := by decide +kernel
theorem dX4_turnAll_36 : decode cX4_turnAll 36 = .ok (.imul, 1) := by decide +kernel
theorem dX4_turnAll_37 : decode cX4_turnAll 37 = .ok (.iaload, 1) := by decide +kernel
theorem dX4_turnAll_38 : decode cX4_turnAll 38 = .ok (.ineg, 1) := by decide +kernel
theorem dX4_turnAll_39 : decode cX4_turnAll 39 = .ok (.istore_n 3, 1) := by decide +kernel
theorem dX4_turnAll_40 : decode cX4_turnAll 40 = .ok (.aload_n 0, 1) := by decide +kernel
theorem dX4_turnAll_41 : decode cX4_turnAll 41 = .ok (.getfield 18, 3) := by decide +kernel
theorem dX4_turnAll_44 : decode cX4_turnAll 44 = .ok (.iload_n 1, 1) := by decide +kernel
theorem dX4_turnAll_45 : decode cX4_turnAll 45 = .ok (.iload_n 3, 1) := by decide +kernel
theorem dX4_turnAll_46 : decode cX4_turnAll 46 = .ok (.invokevirtual 58, 3) := by decide +kernel
theorem dX4_turnAll_49 : decode cX4_turnAll 49 = .ok (.aload_n 0, 1) := by decide +kernel
theorem dX4_turnAll_50 : decode cX4_turnAll 50 = .ok (.getfield 22, 3) := by decide +kernel
theorem dX4_turnAll_53 : decode cX4_turnAll 53 = .ok (.iload_n 1, 1) := by decide +kernel
theorem dX4_turnAll_54 : decode cX4_turnAll 54 = .ok (.iload_n 3, 1) := by decide +kernel
theorem dX4_turnAll_55 : decode cX4_turnAll 55 = .ok (.invokevirtual 51, 3) := by decide +kernel
theorem dX4_turnAll_58 : decode cX4_turnAll 58 = .ok (.ireturn, 1) := by decide +kernel
theorem dX4_findNarrow_0 : decode cX4_findNarrow 0 = .ok (.aload_n 0, 1) := by decide +kernel
theorem dX4_findNarrow_1 : decode cX4_findNarrow 1 = .ok (.aload_n 0, 1) := by decide +kernel
theorem dX4_findNarrow_2 : decode cX4_findNarrow 2 = .ok (.getfield 32, 3) := by decide +kernel
theorem dX4_findNarrow_5 : decode cX4_findNarrow 5 = .ok (.ifCond .le 19, 3) := by decide +kernel
theorem dX4_findNarrow_8 : decode cX4_findNarrow 8 = .ok (.aload_n 0, 1) := by decide +kernel
theorem dX4_findNarrow_9 : decode cX4_findNarrow 9 = .ok (.getfield 22, 3) := by decide +kernel
theorem dX4_findNarrow_12 : decode cX4_findNarrow 12 = .ok (.aload_n 0, 1) := by decide +kernel
theorem dX4_findNarrow_13 : decode cX4_findNarrow 13 = .ok (.getfield 32, 3) := by decide +kernel
theorem dX4_findNarrow_16 : decode cX4_findNarrow 16 = .ok (.iconst 1, 1) := by decide +kernel
theorem dX4_findNarrow_17 : decode cX4_findNarrow 17 = .ok (.isub, 1) := by decide +kernel
theorem dX4_findNarrow_18 : decode cX4_findNarrow 18 = .ok (.invokevirtual 103, 3) := by decide +kernel
theorem dX4_findNarrow_21 : decode cX4_findNarrow 21 = .ok (.goto 4, 3) := by decide +kernel
theorem dX4_findNarrow_24 : decode cX4_findNarrow 24 = .ok (.iconst 1, 1) := by decide +kernel
theorem dX4_findNarrow_25 : decode cX4_findNarrow 25 = .ok (.putfield 55, 3) := by decide +kernel
theorem dX4_findNarrow_28 : decode cX4_findNarrow 28 = .ok (.return_, 1) := by decide +kernel
theorem dX5_init_0 : decode cX5_init 0 = .ok (.aload_n 0, 1) := by decide +kernel
theorem dX5_init_1 : decode cX5_init 1 = .ok (.invokespecial 3, 3) := by decide +kernel
theorem dX5_init_4 : decode cX5_init 4 = .ok (.aload_n 0, 1) := by decide +kernel
theorem dX5_init_5 : decode cX5_init 5 = .ok (.new 9, 3) := by decide +kernel
theorem dX5_init_8 : decode cX5_init 8 = .ok (.dup, 1) := by decide +kernel
theorem dX5_init_9 : decode cX5_init 9 = .ok (.invokespecial 11, 3) := by decide +kernel
theorem dX5_init_12 : decode cX5_init 12 = .ok (.putfield 12, 3) := by decide +kernel
theorem dX5_init_15 : decode cX5_init 15 = .ok (.aload_n 0, 1) := by decide +kernel
theorem dX5_init_16 : decode cX5_init 16 = .ok (.new 16, 3) := by decide +kernel
theorem dX5_init_19 : decode cX5_init 19 = .ok (.dup, 1) := by decide +kernel
theorem dX5_init_20 : decode cX5_init 20 = .ok (.aload_n 0, 1) := by decide +kernel
theorem dX5_init_21 : decode cX5_init 21 = .ok (.getfield 12, 3) := by decide +kernel
theorem dX5_init_24 : decode cX5_init 24 = .ok (.invokespecial 18, 3) := by decide +kernel
theorem dX5_init_27 : decode cX5_init 27 = .ok (.putfield 21, 3) := by decide +kernel
theorem dX5_init_30 : decode cX5_init 30 = .ok (.aload_n 0, 1) := by decide +kernel
theorem dX5_init_31 : decode cX5_init 31 = .ok (.new 25, 3) := by decide +kernel
theorem dX5_init_34 : decode cX5_init 34 = .ok (.dup, 1) := by decide +kernel
theorem dX5_init_35 : decode cX5_init 35 = .ok (.aload_n 0, 1) := by decide +kernel
theorem dX5_init_36 : decode cX5_init 36 = .ok (.getfield 12, 3) := by decide +kernel
theorem dX5_init_39 : decode cX5_init 39 = .ok (.aload_n 0, 1) := by decide +kernel
theorem dX5_init_40 : decode cX5_init 40 = .ok (.getfield 21, 3) := by decide +kernel
theorem dX5_init_43 : decode cX5_init 43 = .ok (.invokespecial 27, 3) := by decide +kernel
theorem dX5_init_46 : decode cX5_init 46 = .ok (.putfield 30, 3) := by decide +kernel
theorem dX5_init_49 : decode cX5_init 49 = .ok (.aload_n 0, 1) := by decide +kernel
theorem dX5_init_50 : decode cX5_init 50 = .ok (.new 34, 3) := by decide +kernel
theorem dX5_init_53 : decode cX5_init 53 = .ok (.dup, 1) := by decide +kernel
theorem dX5_init_54 : decode cX5_init 54 = .ok (.aload_n 0, 1) := by decide +kernel
theorem dX5_init_55 : decode cX5_init 55 = .ok (.getfield 12, 3) := by decide +kernel
theorem dX5_init_58 : decode cX5_init 58 = .ok (.invokespecial 36, 3) := by decide +kernel
theorem dX5_init_61 : decode cX5_init 61 = .ok (.putfield 37, 3) := by decide +kernel
theorem dX5_init_64 : decode cX5_init 64 = .ok (.aload_n 0, 1) := by decide +kernel
theorem dX5_init_65 : decode cX5_init 65 = .ok (.new 41, 3) := by decide +kernel
theorem dX5_init_68 : decode cX5_init 68 = .ok (.dup, 1) := by decide +kernel
theorem dX5_init_69 : decode cX5_init 69 = .ok (.aload_n 0, 1) := by decide +kernel
theorem dX5_init_70 : decode cX5_init 70 = .ok (.getfield 12, 3) := by decide +kernel
theorem dX5_init_73 : decode cX5_init 73 = .ok (.aload_n 0, 1) := by decide +kernel
theorem dX5_init_74 : decode cX5_init 74 = .ok (.getfield 37, 3) := by decide +kernel
theorem dX5_init_77 : decode cX5_init 77 = .ok (.invokespecial 43, 3) := by decide +kernel
theorem dX5_init_80 : decode cX5_init 80 = .ok (.putfield 46, 3) := by decide +kernel
theorem dX5_init_83 : decode cX5_init 83 = .ok (.return_, 1) := by decide +kernel
theorem dX5_feed_0 : decode cX5_feed 0 = .ok (.aload_n 0, 1) := by decide +kernel
theorem dX5_feed_1 : decode cX5_feed 1 = .ok (.getfield 30, 3) := by decide +kernel
theorem dX5_feed_4 : decode cX5_feed 4 = .ok (.bipush 20, 2) := by decide +kernel
theorem dX5_feed_6 : decode cX5_feed 6 = .ok (.invokevirtual 50, 3) := by decide +kernel
theorem dX5_feed_9 : decode cX5_feed 9 = .ok (.ifCond .ne 5, 3) := by decide +kernel
theorem dX5_feed_12 : decode cX5_feed 12 = .ok (.iconst (-1), 1) := by decide +kernel
theorem dX5_feed_13 : decode cX5_feed 13 = .ok (.ireturn, 1) := by decide +kernel
theorem dX5_feed_14 : decode cX5_feed 14 = .ok (.aload_n 0, 1) := by decide +kernel
theorem dX5_feed_15 : decode cX5_feed 15 = .ok (.getfield 30, 3) := by decide +kernel
theorem dX5_feed_18 : decode cX5_feed 18 = .ok (.iload_n 1, 1) := by decide +kernel
theorem dX5_feed_19 : decode cX5_feed 19 = .ok (.invokevirtual 54, 3) := by decide +kernel
theorem dX5_feed_22 : decode cX5_feed 22 = .ok (.aload_n 0, 1) := by decide +kernel
theorem dX5_feed_23 : decode cX5_feed 23 = .ok (.getfield 30, 3) := by decide +kernel
theorem dX5_feed_26 : decode cX5_feed 26 = .ok (.iload_n 2, 1) := by decide +kernel
theorem dX5_feed_27 : decode cX5_feed 27 = .ok (.invokevirtual 54, 3) := by decide +kernel
theorem dX5_feed_30 : decode cX5_feed 30 = .ok (.aload_n 0, 1) := by decide +kernel
theorem dX5_feed_31 : decode cX5_feed 31 = .ok (.getfield 30, 3) := by decide +kernel
theorem dX5_feed_34 : decode cX5_feed 34 = .ok (.iload_n 3, 1) := by decide +kernel
theorem dX5_feed_35 : decode cX5_feed 35 = .ok (.invokevirtual 54, 3) := by decide +kernel
theorem dX5_feed_38 : decode cX5_feed 38 = .ok (.aload_n 0, 1) := by decide +kernel
theorem dX5_feed_39 : decode cX5_feed 39 = .ok (.getfield 30, 3) := by decide +kernel
theorem dX5_feed_42 : decode cX5_feed 42 = .ok (.iload 4, 2) := by decide +kernel
theorem dX5_feed_44 : decode cX5_feed 44 = .ok (.invokevirtual 54, 3) := by decide +kernel
theorem dX5_feed_47 : decode cX5_feed 47 = .ok (.aload_n 0, 1) := by decide +kernel
theorem dX5_feed_48 : decode cX5_feed 48 = .ok (.getfield 30, 3) := by decide +kernel
theorem dX5_feed_51 : decode cX5_feed 51 = .ok (.iload 5, 2) := by decide +kernel
theorem dX5_feed_53 : decode cX5_feed 53 = .ok (.invokevirtual 54, 3) := by decide +kernel
theorem dX5_feed_56 : decode cX5_feed 56 = .ok (.aload_n 0, 1) := by decide +kernel
theorem dX5_feed_57 : decode cX5_feed 57 = .ok (.getfield 30, 3) := by decide +kernel
theorem dX5_feed_60 : decode cX5_feed 60 = .ok (.getfield 58, 3) := by decide +kernel
theorem dX5_feed_63 : decode cX5_feed 63 = .ok (.ireturn, 1) := by decide +kernel
theorem dX5_end_0 : decode cX5_end 0 = .ok (.iload_n 1, 1) := by decide +kernel
theorem dX5_end_1 : decode cX5_end 1 = .ok (.ifCond .lt 14, 3) := by decide +kernel
theorem dX5_end_4 : decode cX5_end 4 = .ok (.iload_n 1, 1) := by decide +kernel
theorem dX5_end_5 : decode cX5_end 5 = .ok (.aload_n 0, 1) := by decide +kernel
theorem dX5_end_6 : decode cX5_end 6 = .ok (.getfield 30, 3) := by decide +kernel
theorem dX5_end_9 : decode cX5_end 9 = .ok (.getfield 58, 3) := by decide +kernel
theorem dX5_end_12 : decode cX5_end 12 = .ok (.if_icmp .le 5, 3) := by decide +kernel
theorem dX5_end_15 : decode cX5_end 15 = .ok (.iconst 0, 1) := by decide +kernel
theorem dX5_end_16 : decode cX5_end 16 = .ok (.ireturn, 1) := by decide +kernel
theorem dX5_end_17 : decode cX5_end 17 = .ok (.aload_n 0, 1) := by decide +kernel
theorem dX5_end_18 : decode cX5_end 18 = .ok (.getfield 30, 3) := by decide +kernel
theorem dX5_end_21 : decode cX5_end 21 = .ok (.iload_n 1, 1) := by decide +kernel
theorem dX5_end_22 : decode cX5_end 22 = .ok (.putfield 58, 3) := by decide +kernel
theorem dX5_end_25 : decode cX5_end 25 = .ok (.iconst 1, 1) := by decide +kernel
theorem dX5_end_26 : decode cX5_end 26 = .ok (.ireturn, 1) := by decide +kernel
theorem dX5_tell_0 : decode cX5_tell 0 = .ok (.aload_n 0, 1) := by decide +kernel
theorem dX5_tell_1 : decode cX5_tell 1 = .ok (.getfield 30, 3) := by decide +kernel
theorem dX5_tell_4 : decode cX5_tell 4 = .ok (.invokevirtual 62, 3) := by decide +kernel
theorem dX5_tell_7 : decode cX5_tell 7 = .ok (.ireturn, 1) := by decide +kernel
theorem dX5_fault_0 : decode cX5_fault 0 = .ok (.aload_n 0, 1) := by decide +kernel
theorem dX5_fault_1 : decode cX5_fault 1 = .ok (.getfield 30, 3) := by decide +kernel
theorem dX5_fault_4 : decode cX5_fault 4 = .ok (.getfield 66, 3) := by decide +kernel
theorem dX5_fault_7 : decode cX5_fault 7 = .ok (.ireturn, 1) := by decide +kernel
theorem dX5_place_0 : decode cX5_place 0 = .ok (.aload_n 0, 1) := by decide +kernel
theorem dX5_place_1 : decode cX5_place 1 = .ok (.getfield 12, 3) := by decide +kernel
theorem dX5_place_4 : decode cX5_place 4 = .ok (.iconst 0, 1) := by decide +kernel
theorem dX5_place_5 : decode cX5_place 5 = .ok (.iload_n 1, 1) := by decide +kernel
theorem dX5_place_6 : decode cX5_place 6 = .ok (.invokevirtual 69, 3) := by decide +kernel
theorem dX5_place_9 : decode cX5_place 9 = .ok (.ifCond .eq 40, 3) := by decide +kernel
theorem dX5_place_12 : decode cX5_place 12 = .ok (.aload_n 0, 1) := by decide +kernel
theorem dX5_place_13 : decode cX5_place 13 = .ok (.getfield 12, 3) := by decide +kernel
theorem dX5_place_16 : decode cX5_place 16 = .ok (.iconst 1, 1) := by decide +kernel
theorem dX5_place_17 : decode cX5_place 17 = .ok (.iload_n 2, 1) := by decide +kernel
theorem dX5_place_18 : decode cX5_place 18 = .ok (.invokevirtual 69, 3) := by decide +kernel
theorem dX5_place_21 : decode cX5_place 21 = .ok (.ifCond .eq 28, 3) := by decide +kernel
theorem dX5_place_24 : decode cX5_place 24 = .ok (.aload_n 0, 1) := by decide +kernel
theorem dX5_place_25 : decode cX5_place 25 = .ok (.getfield 12, 3) := by decide +kernel
theorem dX5_place_28 : decode cX5_place 28 = .ok (.iconst 2, 1) := by decide +kernel
theorem dX5_place_29 : decode cX5_place 29 = .ok (.iload_n 3, 1) := by decide +kernel
theorem dX5_place_30 : decode cX5_place 30 = .ok (.invokevirtual 69, 3) := by decide +kernel
theorem dX5_place_33 : decode cX5_place 33 = .ok (.ifCond .eq 16, 3) := by decide +kernel
theorem dX5_place_36 : decode cX5_place 36 = .ok (.aload_n 0, 1) := by decide +kernel
theorem dX5_place_37 : decode cX5_place 37 = .ok (.getfield 12, 3) := by decide +kernel
theorem dX5_place_40 : decode cX5_place 40 = .ok (.iconst 3, 1) := by decide +kernel
theorem dX5_place_41 : decode cX5_place 41 = .ok (.iload 4, 2) := by decide +kernel
theorem dX5_place_43 : decode cX5_place 43 = .ok (.invokevirtual 69, 3) := by decide +kernel
theorem dX5_place_46 : decode cX5_place 46 = .ok (.ifCond .ne 5, 3) := by decide +kernel
theorem dX5_place_49 : decode cX5_place 49 = .ok (.iconst (-1), 1) := by decide +kernel
theorem dX5_place_50 : decode cX5_place 50 = .ok (.ireturn, 1) := by decide +kernel
theorem dX5_place_51 : decode cX5_place 51 = .ok (.aload_n 0, 1) := by decide +kernel
theorem dX5_place_52 : decode cX5_place 52 = .ok (.getfield 12, 3) := by decide +kernel
theorem dX5_place_55 : decode cX5_place 55 = .ok (.getfield 73, 3) := by decide +kernel
theorem dX5_place_58 : decode cX5_place 58 = .ok (.bipush 8, 2) := by decide +kernel
theorem dX5_place_60 : decode cX5_place 60 = .ok (.if_icmp .lt 6, 3) := by decide +kernel
theorem dX5_place_63 : decode cX5_place 63 = .ok (.bipush (-2), 2) := by decide +kernel
theorem dX5_place_65 : decode cX5_place 65 = .ok (.ireturn, 1) := by decide +kernel
theorem dX5_place_66 : decode cX5_place 66 = .ok (.aload_n 0, 1) := by decide +kernel
theorem dX5_place_67 : decode cX5_place 67 = .ok (.getfield 12, 3) := by decide +kernel
theorem dX5_place_70 : decode cX5_place 70 = .ok (.iload_n 1, 1) := by decide +kernel
theorem dX5_place_71 : decode cX5_place 71 = .ok (.iload_n 2, 1) := by decide +kernel
theorem dX5_place_72 : decode cX5_place 72 = .ok (.iload_n 3, 1) := by decide +kernel
theorem dX5_place_73 : decode cX5_place 73 = .ok (.iload 4, 2) := by decide +kernel
theorem dX5_place_75 : decode cX5_place 75 = .ok (.invokevirtual 76, 3) := by decide +kernel
theorem dX5_place_78 : decode cX5_place 78 = .ok (.ireturn, 1) := by decide +kernel
theorem dX5_road_0 : decode cX5_road 0 = .ok (.aload_n 0, 1) := by decide +kernel
theorem dX5_road_1 : decode cX5_road 1 = .ok (.getfield 12, 3) := by decide +kernel
theorem dX5_road_4 : decode cX5_road 4 = .ok (.iconst 0, 1) := by decide +kernel
theorem dX5_road_5 : decode cX5_road 5 = .ok (.iload_n 1, 1) := by decide +kernel
theorem dX5_road_6 : decode cX5_road 6 = .ok (.iconst 0, 1) := by decide +kernel
theorem dX5_road_7 : decode cX5_road 7 = .ok (.invokevirtual 80, 3) := by decide +kernel
theorem dX5_road_10 : decode cX5_road 10 = .ok (.ifCond .eq 58, 3) := by decide +kernel
theorem dX5_road_13 : decode cX5_road 13 = .ok (.aload_n 0, 1) := by decide +kernel
theorem dX5_road_14 : decode cX5_road 14 = .ok (.getfield 12, 3) := by decide +kernel
theorem dX5_road_17 : decode cX5_road 17 = .ok (.iconst 1, 1) := by decide +kernel
theorem dX5_road_18 : decode cX5_road 18 = .ok (.iload_n 2, 1) := by decide +kernel
theorem dX5_road_19 : decode cX5_road 19 = .ok (.iload_n 1, 1) := by decide +kernel
theorem dX5_road_20 : decode cX5_road 20 = .ok (.invokevirtual 80, 3) := by decide +kernel
theorem dX5_road_23 : decode cX5_road 23 = .ok (.ifCond .eq 45, 3) := by decide +kernel
theorem dX5_road_26 : decode cX5_road 26 = .ok (.aload_n 0, 1) := by decide +kernel
theorem dX5_road_27 : decode cX5_road 27 = .ok (.getfield 12, 3) := by decide +kernel
theorem dX5_road_30 : decode cX5_road 30 = .ok (.iconst 2, 1) := by decide +kernel
theorem dX5_road_31 : decode cX5_road 31 = .ok (.iload_n 3, 1) := by decide +kernel
theorem dX5_road_32 : decode cX5_road 32 = .ok (.iload_n 2, 1) := by decide +kernel
theorem dX5_road_33 : decode cX5_road 33 = .ok (.invokevirtual 80, 3) := by decide +kernel
theorem dX5_road_36 : decode cX5_road 36 = .ok (.ifCond .eq 32, 3) := by decide +kernel
theorem dX5_road_39 : decode cX5_road 39 = .ok (.aload_n 0, 1) := by decide +kernel
theorem dX5_road_40 : decode cX5_road 40 = .ok (.getfield 12, 3) := by decide +kernel
theorem dX5_road_43 : decode cX5_road 43 = .ok (.iconst 3, 1) := by decide +kernel
theorem dX5_road_44 : decode cX5_road 44 = .ok (.iload 4, 2) := by decide +kernel
theorem dX5_road_46 : decode cX5_road 46 = .ok (.iload_n 3, 1) := by decide +kernel
theorem dX5_road_47 : decode cX5_road 47 = .ok (.invokevirtual 80, 3) := by decide +kernel
theorem dX5_road_50 : decode cX5_road 50 = .ok (.ifCond .eq 18, 3) := by decide +kernel
theorem dX5_road_53 : decode cX5_road 53 = .ok (.aload_n 0, 1) := by decide +kernel
theorem dX5_road_54 : decode cX5_road 54 = .ok (.getfield 12, 3) := by decide +kernel
theorem dX5_road_57 : decode cX5_road 57 = .ok (.iconst 4, 1) := by decide +kernel
theorem dX5_road_58 : decode cX5_road 58 = .ok (.iload 5, 2) := by decide +kernel
theorem dX5_road_60 : decode cX5_road 60 = .ok (.iload 4, 2) := by decide +kernel
theorem dX5_road_62 : decode cX5_road 62 = .ok (.invokevirtual 80, 3) := by decide +kernel
theorem dX5_road_65 : decode cX5_road 65 = .ok (.ifCond .ne 5, 3) := by decide +kernel
theorem dX5_road_68 : decode cX5_road 68 = .ok (.iconst (-1), 1) := by decide +kernel
theorem dX5_road_69 : decode cX5_road 69 = .ok (.ireturn, 1) := by decide +kernel
theorem dX5_road_70 : decode cX5_road 70 = .ok (.aload_n 0, 1) := by decide +kernel
theorem dX5_road_71 : decode cX5_road 71 = .ok (.getfield 12, 3) := by decide +kernel
theorem dX5_road_74 : decode cX5_road 74 = .ok (.getfield 84, 3) := by decide +kernel
theorem dX5_road_77 : decode cX5_road 77 = .ok (.bipush 12, 2) := by decide +kernel
theorem dX5_road_79 : decode cX5_road 79 = .ok (.if_icmp .lt 6, 3) := by decide +kernel
theorem dX5_road_82 : decode cX5_road 82 = .ok (.bipush (-2), 2) := by decide +kernel
theorem dX5_road_84 : decode cX5_road 84 = .ok (.ireturn, 1) := by decide +kernel
theorem dX5_road_85 : decode cX5_road 85 = .ok (.aload_n 0, 1) := by decide +kernel
theorem dX5_road_86 : decode cX5_road 86 = .ok (.getfield 12, 3) := by decide +kernel
theorem dX5_road_89 : decode cX5_road 89 = .ok (.iload_n 1, 1) := by decide +kernel
theorem dX5_road_90 : decode cX5_road 90 = .ok (.iload_n 2, 1) := by decide +kernel
theorem dX5_road_91 : decode cX5_road 91 = .ok (.iload_n 3, 1) := by decide +kernel
theorem dX5_road_92 : decode cX5_road 92 = .ok (.iload 4, 2) := by decide +kernel
theorem dX5_road_94 : decode cX5_road 94 = .ok (.iload 5, 2) := by decide +kernel
theorem dX5_road_96 : decode cX5_road 96 = .ok (.invokevirtual 87, 3) := by decide +kernel
theorem dX5_road_99 : decode cX5_road 99 = .ok (.ireturn, 1) := by decide +kernel
theorem dX5_turn_0 : decode cX5_turn 0 = .ok (.aload_n 0, 1) := by decide +kernel
theorem dX5_turn_1 : decode cX5_turn 1 = .ok (.getfield 12, 3) := by decide +kernel
theorem dX5_turn_4 : decode cX5_turn 4 = .ok (.iload_n 1, 1) := by decide +kernel
theorem dX5_turn_5 : decode cX5_turn 5 = .ok (.iload_n 2, 1) := by decide +kernel
theorem dX5_turn_6 : decode cX5_turn 6 = .ok (.invokevirtual 91, 3) := by decide +kernel
theorem dX5_turn_9 : decode cX5_turn 9 = .ok (.ifCond .ne 5, 3) := by decide +kernel
theorem dX5_turn_12 : decode cX5_turn 12 = .ok (.iconst 0, 1) := by decide +kernel
theorem dX5_turn_13 : decode cX5_turn 13 = .ok (.ireturn, 1) := by decide +kernel
theorem dX5_turn_14 : decode cX5_turn 14 = .ok (.aload_n 0, 1) := by decide +kernel
theorem dX5_turn_15 : decode cX5_turn 15 = .ok (.getfield 12, 3) := by decide +kernel
theorem dX5_turn_18 : decode cX5_turn 18 = .ok (.iload_n 1, 1) := by decide +kernel
theorem dX5_turn_19 : decode cX5_turn 19 = .ok (.iload_n 2, 1) := by decide +kernel
theorem dX5_turn_20 : decode cX5_turn 20 = .ok (.invokevirtual 94, 3) := by decide +kernel
theorem dX5_turn_23 : decode cX5_turn 23 = .ok (.iconst 1, 1) := by decide +kernel
theorem dX5_turn_24 : decode cX5_turn 24 = .ok (.ireturn, 1) := by decide +kernel
theorem dX5_set_0 : decode cX5_set 0 = .ok (.aload_n 0, 1) := by decide +kernel
theorem dX5_set_1 : decode cX5_set 1 = .ok (.getfield 12, 3) := by decide +kernel
theorem dX5_set_4 : decode cX5_set 4 = .ok (.iload_n 1, 1) := by decide +kernel
theorem dX5_set_5 : decode cX5_set 5 = .ok (.invokevirtual 98, 3) := by decide +kernel
theorem dX5_set_8 : decode cX5_set 8 = .ok (.ifCond .eq 28, 3) := by decide +kernel
theorem dX5_set_11 : decode cX5_set 11 = .ok (.aload_n 0, 1) := by decide +kernel
theorem dX5_set_12 : decode cX5_set 12 = .ok (.getfield 12, 3) := by decide +kernel
theorem dX5_set_15 : decode cX5_set 15 = .ok (.iload_n 2, 1) := by decide +kernel
theorem dX5_set_16 : decode cX5_set 16 = .ok (.iload_n 3, 1) := by decide +kernel
theorem dX5_set_17 : decode cX5_set 17 = .ok (.invokevirtual 69, 3) := by decide +kernel
theorem dX5_set_20 : decode cX5_set 20 = .ok (.ifCond .eq 16, 3) := by decide +kernel
theorem dX5_set_23 : decode cX5_set 23 = .ok (.aload_n 0, 1) := by decide +kernel
theorem dX5_set_24 : decode cX5_set 24 = .ok (.getfield 12, 3) := by decide +kernel
theorem dX5_set_27 : decode cX5_set 27 = .ok (.iload_n 1, 1) := by decide +kernel
theorem dX5_set_28 : decode cX5_set 28 = .ok (.iload_n 2, 1) := by decide +kernel
theorem dX5_set_29 : decode cX5_set 29 = .ok (.invokevirtual 101, 3) := by decide +kernel
theorem dX5_set_32 : decode cX5_set 32 = .ok (.iload_n 3, 1) := by decide +kernel
theorem dX5_set_33 : decode cX5_set 33 = .ok (.if_icmp .ne 5, 3) := by decide +kernel
theorem dX5_set_36 : decode cX5_set 36 = .ok (.iconst 0, 1) := by decide +kernel
theorem dX5_set_37 : decode cX5_set 37 = .ok (.ireturn, 1) := by decide +kernel
theorem dX5_set_38 : decode cX5_set 38 = .ok (.aload_n 0, 1) := by decide +kernel
theorem dX5_set_39 : decode cX5_set 39 = .ok (.getfield 12, 3) := by decide +kernel
theorem dX5_set_42 : decode cX5_set 42 = .ok (.iload_n 1, 1) := by decide +kernel
theorem dX5_set_43 : decode cX5_set 43 = .ok (.iload_n 2, 1) := by decide +kernel
theorem dX5_set_44 : decode cX5_set 44 = .ok (.iload_n 3, 1) := by decide +kernel
theorem dX5_set_45 : decode cX5_set 45 = .ok (.invokevirtual 105, 3) := by decide +kernel
theorem dX5_set_48 : decode cX5_set 48 = .ok (.iconst 1, 1) := by decide +kernel
theorem dX5_set_49 : decode cX5_set 49 = .ok (.ireturn, 1) := by decide +kernel
theorem dX5_drop_0 : decode cX5_drop 0 = .ok (.aload_n 0, 1) := by decide +kernel
theorem dX5_drop_1 : decode cX5_drop 1 = .ok (.getfield 12, 3) := by decide +kernel
theorem dX5_drop_4 : decode cX5_drop 4 = .ok (.getfield 84, 3) := by decide +kernel
theorem dX5_drop_7 : decode cX5_drop 7 = .ok (.ifCond .ne 5, 3) := by decide +kernel
theorem dX5_drop_10 : decode cX5_drop 10 = .ok (.iconst (-1), 1) := by decide +kernel
theorem dX5_drop_11 : decode cX5_drop 11 = .ok (.ireturn, 1) := by decide +kernel
theorem dX5_drop_12 : decode cX5_drop 12 = .ok (.aload_n 0, 1) := by decide +kernel
theorem dX5_drop_13 : decode cX5_drop 13 = .ok (.getfield 12, 3) := by decide +kernel
theorem dX5_drop_16 : decode cX5_drop 16 = .ok (.dup, 1) := by decide +kernel
theorem dX5_drop_17 : decode cX5_drop 17 = .ok (.getfield 84, 3) := by decide +kernel
theorem dX5_drop_20 : decode cX5_drop 20 = .ok (.iconst 1, 1) := by decide +kernel
theorem dX5_drop_21 : decode cX5_drop 21 = .ok (.isub, 1) := by decide +kernel
theorem dX5_drop_22 : decode cX5_drop 22 = .ok (.putfield 84, 3) := by decide +kernel
theorem dX5_drop_25 : decode cX5_drop 25 = .ok (.aload_n 0, 1) := by decide +kernel
theorem dX5_drop_26 : decode cX5_drop 26 = .ok (.getfield 21, 3) := by decide +kernel
theorem dX5_drop_29 : decode cX5_drop 29 = .ok (.aload_n 0, 1) := by decide +kernel
theorem dX5_drop_30 : decode cX5_drop 30 = .ok (.getfield 12, 3) := by decide +kernel
theorem dX5_drop_33 : decode cX5_drop 33 = .ok (.getfield 84, 3) := by decide +kernel
theorem dX5_drop_36 : decode cX5_drop 36 = .ok (.invokevirtual 109, 3) := by decide +kernel
theorem dX5_drop_39 : decode cX5_drop 39 = .ok (.aload_n 0, 1) := by decide +kernel
theorem dX5_drop_40 : decode cX5_drop 40 = .ok (.getfield 12, 3) := by decide +kernel
theorem dX5_drop_43 : decode cX5_drop 43 = .ok (.getfield 84, 3) := by decide +kernel
theorem dX5_drop_46 : decode cX5_drop 46 = .ok (.ireturn, 1) := by decide +kernel
theorem dX5_move_0 : decode cX5_move 0 = .ok (.aload_n 0, 1) := by decide +kernel
theorem dX5_move_1 : decode cX5_move 1 = .ok (.getfield 21, 3) := by decide +kernel
theorem dX5_move_4 : decode cX5_move 4 = .ok (.iconst 0, 1) := by decide +kernel
theorem dX5_move_5 : decode cX5_move 5 = .ok (.iload_n 1, 1) := by decide +kernel
theorem dX5_move_6 : decode cX5_move 6 = .ok (.invokevirtual 112, 3) := by decide +kernel
theorem dX5_move_9 : decode cX5_move 9 = .ok (.ifCond .eq 28, 3) := by decide +kernel
theorem dX5_move_12 : decode cX5_move 12 = .ok (.aload_n 0, 1) := by decide +kernel
theorem dX5_move_13 : decode cX5_move 13 = .ok (.getfield 21, 3) := by decide +kernel
theorem dX5_move_16 : decode cX5_move 16 = .ok (.iconst 1, 1) := by decide +kernel
theorem dX5_move_17 : decode cX5_move 17 = .ok (.iload_n 2, 1) := by decide +kernel
theorem dX5_move_18 : decode cX5_move 18 = .ok (.invokevirtual 112, 3) := by decide +kernel
theorem dX5_move_21 : decode cX5_move 21 = .ok (.ifCond .eq 16, 3) := by decide +kernel
theorem dX5_move_24 : decode cX5_move 24 = .ok (.aload_n 0, 1) := by decide +kernel
theorem dX5_move_25 : decode cX5_move 25 = .ok (.getfield 21, 3) := by decide +kernel
theorem dX5_move_28 : decode cX5_move 28 = .ok (.iconst 2, 1) := by decide +kernel
theorem dX5_move_29 : decode cX5_move 29 = .ok (.iload 4, 2) := by decide +kernel
theorem dX5_move_31 : decode cX5_move 31 = .ok (.invokevirtual 112, 3) := by decide +kernel
theorem dX5_move_34 : decode cX5_move 34 = .ok (.ifCond .ne 5, 3) := by decide +kernel
theorem dX5_move_37 : decode cX5_move 37 = .ok (.iconst (-1), 1) := by decide +kernel
theorem dX5_move_38 : decode cX5_move 38 = .ok (.ireturn, 1) := by decide +kernel
theorem dX5_move_39 : decode cX5_move 39 = .ok (.aload_n 0, 1) := by decide +kernel
theorem dX5_move_40 : decode cX5_move 40 = .ok (.getfield 21, 3) := by decide +kernel
theorem dX5_move_43 : decode cX5_move 43 = .ok (.getfield 115, 3) := by decide +kernel
theorem dX5_move_46 : decode cX5_move 46 = .ok (.bipush 40, 2) := by decide +kernel
theorem dX5_move_48 : decode cX5_move 48 = .ok (.if_icmp .lt 6, 3) := by decide +kernel
theorem dX5_move_51 : decode cX5_move 51 = .ok (.bipush (-2), 2) := by decide +kernel
theorem dX5_move_53 : decode cX5_move 53 = .ok (.ireturn, 1) := by decide +kernel
theorem dX5_move_54 : decode cX5_move 54 = .ok (.aload_n 0, 1) := by decide +kernel
theorem dX5_move_55 : decode cX5_move 55 = .ok (.getfield 21, 3) := by decide +kernel
theorem dX5_move_58 : decode cX5_move 58 = .ok (.iload_n 1, 1) := by decide +kernel
theorem dX5_move_59 : decode cX5_move 59 = .ok (.iload_n 2, 1) := by decide +kernel
theorem dX5_move_60 : decode cX5_move 60 = .ok (.iload_n 3, 1) := by decide +kernel
theorem dX5_move_61 : decode cX5_move 61 = .ok (.iload 4, 2) := by decide +kernel
theorem dX5_move_63 : decode cX5_move 63 = .ok (.invokevirtual 118, 3) := by decide +kernel
theorem dX5_move_66 : decode cX5_move 66 = .ok (.ireturn, 1) := by decide +kernel
theorem dX5_back_0 : decode cX5_back 0 = .ok (.iload_n 1, 1) := by decide +kernel
theorem dX5_back_1 : decode cX5_back 1 = .ok (.iconst 1, 1) := by decide +kernel
theorem dX5_back_2 : decode cX5_back 2 = .ok (.if_icmp .ge 5, 3) := by decide +kernel
theorem dX5_back_5 : decode cX5_back 5 = .ok (.iconst (-1), 1) := by decide +kernel
theorem dX5_back_6 : decode cX5_back 6 = .ok (.ireturn, 1) := by decide +kernel
theorem dX5_back_7 : decode cX5_back 7 = .ok (.aload_n 0, 1) := by decide +kernel
theorem dX5_back_8 : decode cX5_back 8 = .ok (.getfield 21, 3) := by decide +kernel
theorem dX5_back_11 : decode cX5_back 11 = .ok (.iload_n 1, 1) := by decide +kernel
theorem dX5_back_12 : decode cX5_back 12 = .ok (.aload_n 0, 1) := by decide +kernel
theorem dX5_back_13 : decode cX5_back 13 = .ok (.getfield 21, 3) := by decide +kernel
theorem dX5_back_16 : decode cX5_back 16 = .ok (.getfield 115, 3) := by decide +kernel
theorem dX5_back_19 : decode cX5_back 19 = .ok (.if_icmp .le 7, 3) := by decide +kernel
theorem dX5_back_22 : decode cX5_back 22 = .ok (.iconst 0, 1) := by decide +kernel
theorem dX5_back_23 : decode cX5_back 23 = .ok (.goto 12, 3) := by decide +kernel
theorem dX5_back_26 : decode cX5_back 26 = .ok (.aload_n 0, 1) := by decide +kernel
theorem dX5_back_27 : decode cX5_back 27 = .ok (.getfield 21, 3) := by decide +kernel
theorem dX5_back_30 : decode cX5_back 30 = .ok (.getfield 115, 3) := by decide +kernel
theorem dX5_back_33 : decode cX5_back 33 = .ok (.iload_n 1, 1) := by decide +kernel
theorem dX5_back_34 : decode cX5_back 34 = .ok (.isub, 1) := by decide +kernel
theorem dX5_back_35 : decode cX5_back 35 = .ok (.putfield 115, 3) := by decide +kernel
theorem dX5_back_38 : decode cX5_back 38 = .ok (.aload_n 0, 1) := by decide +kernel
theorem dX5_back_39 : decode cX5_back 39 = .ok (.getfield 21, 3) := by decide +kernel
theorem dX5_back_42 : decode cX5_back 42 = .ok (.getfield 115, 3) := by decide +kernel
theorem dX5_back_45 : decode cX5_back 45 = .ok (.ireturn, 1) := by decide +kernel
theorem dX5_count_0 : decode cX5_count 0 = .ok (.iload_n 1, 1) := by decide +kernel
theorem dX5_count_1 : decode cX5_count 1 = .ok (.tableswitch 89 0 5 #[39, 47, 55, 63, 71, 80], 39) := by decide +kernel
theorem dX5_count_40 : decode cX5_count 40 = .ok (.aload_n 0, 1) := by decide +kernel
theorem dX5_count_41 : decode cX5_count 41 = .ok (.getfield 12, 3) := by decide +kernel
theorem dX5_count_44 : decode cX5_count 44 = .ok (.getfield 73, 3) := by decide +kernel
theorem dX5_count_47 : decode cX5_count 47 = .ok (.ireturn, 1) := by decide +kernel
theorem dX5_count_48 : decode cX5_count 48 = .ok (.aload_n 0, 1) := by decide +kernel
theorem dX5_count_49 : decode cX5_count 49 = .ok (.getfield 12, 3) := by decide +kernel
theorem dX5_count_52 : decode cX5_count 52 = .ok (.getfield 84, 3) := by decide +kernel
theorem dX5_count_55 : decode cX5_count 55 = .ok (.ireturn, 1) := by decide +kernel
theorem dX5_count_56 : decode cX5_count 56 = .ok (.aload_n 0, 1) := by decide +kernel
theorem dX5_count_57 : decode cX5_count 57 = .ok (.getfield 21, 3) := by decide +kernel
theorem dX5_count_60 : decode cX5_count 60 = .ok (.getfield 115, 3) := by decide +kernel
theorem dX5_count_63 : decode cX5_count 63 = .ok (.ireturn, 1) := by decide +kernel
theorem dX5_count_64 : decode cX5_count 64 = .ok (.aload_n 0, 1) := by decide +kernel
theorem dX5_count_65 : decode cX5_count 65 = .ok (.getfield 30, 3) := by decide +kernel
theorem dX5_count_68 : decode cX5_count 68 = .ok (.getfield 58, 3) := by decide +kernel
theorem dX5_count_71 : decode cX5_count 71 = .ok (.ireturn, 1) := by decide +kernel
theorem dX5_count_72 : decode cX5_count 72 = .ok (.aload_n 0, 1) := by decide +kernel
theorem dX5_count_73 : decode cX5_count 73 = .ok (.getfield 12, 3) := by decide +kernel
theorem dX5_count_76 : decode cX5_count 76 = .ok (.iconst 0, 1) := by decide +kernel
theorem dX5_count_77 : decode cX5_count 77 = .ok (.invokevirtual 122, 3) := by decide +kernel
theorem dX5_count_80 : decode cX5_count 80 = .ok (.ireturn, 1) := by decide +kernel
theorem dX5_count_81 : decode cX5_count 81 = .ok (.aload_n 0, 1) := by decide +kernel
theorem dX5_count_82 : decode cX5_count 82 = .ok (.getfield 12, 3) := by decide +kernel
theorem dX5_count_85 : decode cX5_count 85 = .ok (.iconst 1, 1) := by decide +kernel
theorem dX5_count_86 : decode cX5_count 86 = .ok (.invokevirtual 122, 3) := by decide +kernel
theorem dX5_count_89 : decode cX5_count 89 = .ok (.ireturn, 1) := by decide +kernel
theorem dX5_count_90 : decode cX5_count 90 = .ok (.iconst (-1), 1) := by decide +kernel
theorem dX5_count_91 : decode cX5_count 91 = .ok (.ireturn, 1) := by decide +kernel
theorem dX5_of_0 : decode cX5_of 0 = .ok (.aload_n 0, 1) := by decide +kernel
theorem dX5_of_1 : decode cX5_of 1 = .ok (.getfield 12, 3) := by decide +kernel
theorem dX5_of_4 : decode cX5_of 4 = .ok (.iload_n 1, 1) := by decide +kernel
theorem dX5_of_5 : decode cX5_of 5 = .ok (.invokevirtual 98, 3) := by decide +kernel
theorem dX5_of_8 : decode cX5_of 8 = .ok (.ifCond .eq 26, 3) := by decide +kernel
theorem dX5_of_11 : decode cX5_of 11 = .ok (.aload_n 0, 1) := by decide +kernel
theorem dX5_of_12 : decode cX5_of 12 = .ok (.getfield 12, 3) := by decide +kernel
theorem dX5_of_15 : decode cX5_of 15 = .ok (.iload_n 2, 1) := by decide +kernel
theorem dX5_of_16 : decode cX5_of 16 = .ok (.invokevirtual 126, 3) := by decide +kernel
theorem dX5_of_19 : decode cX5_of 19 = .ok (.ifCond .eq 15, 3) := by decide +kernel
theorem dX5_of_22 : decode cX5_of 22 = .ok (.aload_n 0, 1) := by decide +kernel
theorem dX5_of_23 : decode cX5_of 23 = .ok (.getfield 12, 3) := by decide +kernel
theorem dX5_of_26 : decode cX5_of 26 = .ok (.iload_n 1, 1) := by decide +kernel
theorem dX5_of_27 : decode cX5_of 27 = .ok (.iload_n 2, 1) := by decide +kernel
theorem dX5_of_28 : decode cX5_of 28 = .ok (.invokevirtual 101, 3) := by decide +kernel
theorem dX5_of_31 : decode cX5_of 31 = .ok (.goto 4, 3) := by decide +kernel
theorem dX5_of_34 : decode cX5_of 34 = .ok (.iconst (-1), 1) := by decide +kernel
theorem dX5_of_35 : decode cX5_of 35 = .ok (.ireturn, 1) := by decide +kernel
theorem dX5_along_0 : decode cX5_along 0 = .ok (.aload_n 0, 1) := by decide +kernel
theorem dX5_along_1 : decode cX5_along 1 = .ok (.getfield 12, 3) := by decide +kernel
theorem dX5_along_4 : decode cX5_along 4 = .ok (.iload_n 1, 1) := by decide +kernel
theorem dX5_along_5 : decode cX5_along 5 = .ok (.invokevirtual 129, 3) := by decide +kernel
theorem dX5_along_8 : decode cX5_along 8 = .ok (.ifCond .eq 12, 3) := by decide +kernel
theorem dX5_along_11 : decode cX5_along 11 = .ok (.iload_n 2, 1) := by decide +kernel
theorem dX5_along_12 : decode cX5_along 12 = .ok (.ifCond .lt 8, 3) := by decide +kernel
theorem dX5_along_15 : decode cX5_along 15 = .ok (.iload_n 2, 1) := by decide +kernel
theorem dX5_along_16 : decode cX5_along 16 = .ok (.iconst 4, 1) := by decide +kernel
theorem dX5_along_17 : decode cX5_along 17 = .ok (.if_icmp .le 13, 3) := by decide +kernel
theorem dX5_along_20 : decode cX5_along 20 = .ok (.new 132, 3) := by decide +kernel
theorem dX5_along_23 : decode cX5_along 23 = .ok (.dup, 1) := by decide +kernel
theorem dX5_along_24 : decode cX5_along 24 = .ok (.ldc 134, 2) := by decide +kernel
theorem dX5_along_26 : decode cX5_along 26 = .ok (.invokespecial 136, 3) := by decide +kernel
theorem dX5_along_29 : decode cX5_along 29 = .ok (.athrow, 1) := by decide +kernel
theorem dX5_along_30 : decode cX5_along 30 = .ok (.iload_n 2, 1) := by decide +kernel
theorem dX5_along_31 : decode cX5_along 31 = .ok (.tableswitch 77 0 3 #[29, 41, 55, 65], 29) := by decide +kernel
theorem dX5_along_60 : decode cX5_along 60 = .ok (.aload_n 0, 1) := by decide +kernel
theorem dX5_along_61 : decode cX5_along 61 = .ok (.getfield 12, 3) := by decide +kernel
theorem dX5_along_64 : decode cX5_along 64 = .ok (.getfield 139, 3) := by decide +kernel
theorem dX5_along_67 : decode cX5_along 67 = .ok (.iconst 2, 1) := by decide +kernel
theorem dX5_along_68 : decode cX5_along 68 = .ok (.iload_n 1, 1) := by decide +kernel
theorem dX5_along_69 : decode cX5_along 69 = .ok (.imul, 1) := by decide +kernel
theorem dX5_along_70 : decode cX5_along 70 = .ok (.iaload, 1) := by decide +kernel
theorem dX5_along_71 : decode cX5_along 71 = .ok (.ireturn, 1) := by decide +kernel
theorem dX5_along_72 : decode cX5_along 72 = .ok (.aload_n 0, 1) := by decide +kernel
theorem dX5_along_73 : decode cX5_along 73 = .ok (.getfield 12, 3) := by decide +kernel
theorem dX5_along_76 : decode cX5_along 76 = .ok (.getfield 139, 3) := by decide +kernel
theorem dX5_along_79 : decode cX5_along 79 = .ok (.iconst 2, 1) := by decide +kernel
theorem dX5_along_80 : decode cX5_along 80 = .ok (.iload_n 1, 1) := by decide +kernel
theorem dX5_along_81 : decode cX5_along 81 = .ok (.imul, 1) := by decide +kernel
theorem dX5_along_82 : decode cX5_along 82 = .ok (.iconst 1, 1) := by decide +kernel
theorem dX5_along_83 : decode cX5_along 83 = .ok (.iadd, 1) := by decide +kernel
theorem dX5_along_84 : decode cX5_along 84 = .ok (.iaload, 1) := by decide +kernel
theorem dX5_along_85 : decode cX5_along 85 = .ok (.ireturn, 1) := by decide +kernel
theorem dX5_along_86 : decode cX5_along 86 = .ok (.aload_n 0, 1) := by decide +kernel
theorem dX5_along_87 : decode cX5_along 87 = .ok (.getfield 12, 3) := by decide +kernel
theorem dX5_along_90 : decode cX5_along 90 = .ok (.getfield 143, 3) := by decide +kernel
theorem dX5_along_93 : decode cX5_along 93 = .ok (.iload_n 1, 1) := by decide +kernel
theorem dX5_along_94 : decode cX5_along 94 = .ok (.iaload, 1) := by decide +kernel
theorem dX5_along_95 : decode cX5_along 95 = .ok (.ireturn, 1) := by decide +kernel
theorem dX5_along_96 : decode cX5_along 96 = .ok (.aload_n 0, 1) := by decide +kernel
theorem dX5_along_97 : decode cX5_along 97 = .ok (.getfield 12, 3) := by decide +kernel
theorem dX5_along_100 : decode cX5_along 100 = .ok (.getfield 146, 3) := by decide +kernel
theorem dX5_along_103 : decode cX5_along 103 = .ok (.iconst 2, 1) := by decide +kernel
theorem dX5_along_104 : decode cX5_along 104 = .ok (.iload_n 1, 1) := by decide +kernel
theorem dX5_along_105 : decode cX5_along 105 = .ok (.imul, 1) := by decide +kernel
theorem dX5_along_106 : decode cX5_along 106 = .ok (.iaload, 1) := by decide +kernel
theorem dX5_along_107 : decode cX5_along 107 = .ok (.ireturn, 1) := by decide +kernel
theorem dX5_along_108 : decode cX5_along 108 = .ok (.aload_n 0, 1) := by decide +kernel
theorem dX5_along_109 : decode cX5_along 109 = .ok (.getfield 12, 3) := by decide +kernel
theorem dX5_along_112 : decode cX5_along 112 = .ok (.getfield 146, 3) := by decide +kernel
theorem dX5_along_115 : decode cX5_along 115 = .ok (.iconst 2, 1) := by decide +kernel
theorem dX5_along_116 : decode cX5_along 116 = .ok (.iload_n 1, 1) := by decide +kernel
theorem dX5_along_117 : decode cX5_along 117 = .ok (.imul, 1) := by decide +kernel
theorem dX5_along_118 : decode cX5_along 118 = .ok (.iconst 1, 1) := by decide +kernel
theorem dX5_along_119 : decode cX5_along 119 = .ok (.iadd, 1) := by decide +kernel
theorem dX5_along_120 : decode cX5_along 120 = .ok (.iaload, 1) := by decide +kernel
theorem dX5_along_121 : decode cX5_along 121 = .ok (.ireturn, 1) := by decide +kernel
theorem dX5_safe_0 : decode cX5_safe 0 = .ok (.iload_n 1, 1) := by decide +kernel
theorem dX5_safe_1 : decode cX5_safe 1 = .ok (.invokestatic 149, 3) := by decide +kernel
theorem dX5_safe_4 : decode cX5_safe 4 = .ok (.ifCond .eq 14, 3) := by decide +kernel
theorem dX5_safe_7 : decode cX5_safe 7 = .ok (.aload_n 0, 1) := by decide +kernel
theorem dX5_safe_8 : decode cX5_safe 8 = .ok (.getfield 37, 3) := by decide +kernel
theorem dX5_safe_11 : decode cX5_safe 11 = .ok (.iload_n 1, 1) := by decide +kernel
theorem dX5_safe_12 : decode cX5_safe 12 = .ok (.invokevirtual 152, 3) := by decide +kernel
theorem dX5_safe_15 : decode cX5_safe 15 = .ok (.goto 4, 3) := by decide +kernel
theorem dX5_safe_18 : decode cX5_safe 18 = .ok (.iconst (-1), 1) := by decide +kernel
theorem dX5_safe_19 : decode cX5_safe 19 = .ok (.ireturn, 1) := by decide +kernel
theorem dX5_quickest_0 : decode cX5_quickest 0 = .ok (.aload_n 0, 1) := by decide +kernel
theorem dX5_quickest_1 : decode cX5_quickest 1 = .ok (.getfield 37, 3) := by decide +kernel
theorem dX5_quickest_4 : decode cX5_quickest 4 = .ok (.invokevirtual 155, 3) := by decide +kernel
theorem dX5_quickest_7 : decode cX5_quickest 7 = .ok (.invokestatic 158, 3) := by decide +kernel
theorem dX5_quickest_10 : decode cX5_quickest 10 = .ok (.ireturn, 1) := by decide +kernel
theorem dX5_open_0 : decode cX5_open 0 = .ok (.iload_n 1, 1) := by decide +kernel
theorem dX5_open_1 : decode cX5_open 1 = .ok (.invokestatic 149, 3) := by decide +kernel
theorem dX5_open_4 : decode cX5_open 4 = .ok (.ifCond .eq 23, 3) := by decide +kernel
theorem dX5_open_7 : decode cX5_open 7 = .ok (.aload_n 0, 1) := by decide +kernel
theorem dX5_open_8 : decode cX5_open 8 = .ok (.getfield 12, 3) := by decide +kernel
theorem dX5_open_11 : decode cX5_open 11 = .ok (.iload_n 2, 1) := by decide +kernel
theorem dX5_open_12 : decode cX5_open 12 = .ok (.invokevirtual 98, 3) := by decide +kernel
theorem dX5_open_15 : decode cX5_open 15 = .ok (.ifCond .eq 12, 3) := by decide +kernel
theorem dX5_open_18 : decode cX5_open 18 = .ok (.iload_n 3, 1) := by decide +kernel
theorem dX5_open_19 : decode cX5_open 19 = .ok (.ifCond .lt 8, 3) := by decide +kernel
theorem dX5_open_22 : decode cX5_open 22 = .ok (.iload_n 3, 1) := by decide +kernel
theorem dX5_open_23 : decode cX5_open 23 = .ok (.iload_n 1, 1) := by decide +kernel
theorem dX5_open_24 : decode cX5_open 24 = .ok (.if_icmp .le 5, 3) := by decide +kernel
theorem dX5_open_27 : decode cX5_open 27 = .ok (.iconst 0, 1) := by decide +kernel
theorem dX5_open_28 : decode cX5_open 28 = .ok (.ireturn, 1) := by decide +kernel
theorem dX5_open_29 : decode cX5_open 29 = .ok (.aload_n 0, 1) := by decide +kernel
theorem dX5_open_30 : decode cX5_open 30 = .ok (.getfield 37, 3) := by decide +kernel
theorem dX5_open_33 : decode cX5_open 33 = .ok (.iload_n 1, 1) := by decide +kernel
theorem dX5_open_34 : decode cX5_open 34 = .ok (.invokevirtual 161, 3) := by decide +kernel
theorem dX5_open_37 : decode cX5_open 37 = .ok (.aload_n 0, 1) := by decide +kernel
theorem dX5_open_38 : decode cX5_open 38 = .ok (.getfield 37, 3) := by decide +kernel
theorem dX5_open_41 : decode cX5_open 41 = .ok (.iload_n 2, 1) := by decide +kernel
theorem dX5_open_42 : decode cX5_open 42 = .ok (.iload_n 3, 1) := by decide +kernel
theorem dX5_open_43 : decode cX5_open 43 = .ok (.invokevirtual 164, 3) := by decide +kernel
theorem dX5_open_46 : decode cX5_open 46 = .ok (.ireturn, 1) := by decide +kernel
theorem dX5_openings_0 : decode cX5_openings 0 = .ok (.iload_n 1, 1) := by decide +kernel
theorem dX5_openings_1 : decode cX5_openings 1 = .ok (.invokestatic 149, 3) := by decide +kernel
theorem dX5_openings_4 : decode cX5_openings 4 = .ok (.ifCond .eq 14, 3) := by decide +kernel
theorem dX5_openings_7 : decode cX5_openings 7 = .ok (.aload_n 0, 1) := by decide +kernel
theorem dX5_openings_8 : decode cX5_openings 8 = .ok (.getfield 12, 3) := by decide +kernel
theorem dX5_openings_11 : decode cX5_openings 11 = .ok (.iload_n 2, 1) := by decide +kernel
theorem dX5_openings_12 : decode cX5_openings 12 = .ok (.invokevirtual 98, 3) := by decide +kernel
theorem dX5_openings_15 : decode cX5_openings 15 = .ok (.ifCond .ne 5, 3) := by decide +kernel
theorem dX5_openings_18 : decode cX5_openings 18 = .ok (.iconst (-1), 1) := by decide +kernel
theorem dX5_openings_19 : decode cX5_openings 19 = .ok (.ireturn, 1) := by decide +kernel
theorem dX5_openings_20 : decode cX5_openings 20 = .ok (.aload_n 0, 1) := by decide +kernel
theorem dX5_openings_21 : decode cX5_openings 21 = .ok (.getfield 37, 3) := by decide +kernel
theorem dX5_openings_24 : decode cX5_openings 24 = .ok (.iload_n 1, 1) := by decide +kernel
theorem dX5_openings_25 : decode cX5_openings 25 = .ok (.invokevirtual 161, 3) := by decide +kernel
theorem dX5_openings_28 : decode cX5_openings 28 = .ok (.iconst 0, 1) := by decide +kernel
theorem dX5_openings_29 : decode cX5_openings 29 = .ok (.istore_n 3, 1) := by decide +kernel
theorem dX5_openings_30 : decode cX5_openings 30 = .ok (.iconst 0, 1) := by decide +kernel
theorem dX5_openings_31 : decode cX5_openings 31 = .ok (.istore 4, 2) := by decide +kernel
theorem dX5_openings_33 : decode cX5_openings 33 = .ok (.iload 4, 2) := by decide +kernel
theorem dX5_openings_35 : decode cX5_openings 35 = .ok (.iload_n 1, 1) := by decide +kernel
theorem dX5_openings_36 : decode cX5_openings 36 = .ok (.if_icmp .gt 25, 3) := by decide +kernel
theorem dX5_openings_39 : decode cX5_openings 39 = .ok (.aload_n 0, 1) := by decide +kernel
theorem dX5_openings_40 : decode cX5_openings 40 = .ok (.getfield 37, 3) := by decide +kernel
theorem dX5_openings_43 : decode cX5_openings 43 = .ok (.iload_n 2, 1) := by decide +kernel
theorem dX5_openings_44 : decode cX5_openings 44 = .ok (.iload 4, 2) := by decide +kernel
theorem dX5_openings_46 : decode cX5_openings 46 = .ok (.invokevirtual 164, 3) := by decide +kernel
theorem dX5_openings_49 : decode cX5_openings 49 = .ok (.ifCond .eq 6, 3) := by decide +kernel
theorem dX5_openings_52 : decode cX5_openings 52 = .ok (.iinc 3 1, 3) := by decide +kernel
theorem dX5_openings_55 : decode cX5_openings 55 = .ok (.iinc 4 1, 3) := by decide +kernel
theorem dX5_openings_58 : decode cX5_openings 58 = .ok (.goto (-25), 3) := by decide +kernel
theorem dX5_openings_61 : decode cX5_openings 61 = .ok (.iload_n 3, 1) := by decide +kernel
theorem dX5_openings_62 : decode cX5_openings 62 = .ok (.ireturn, 1) := by decide +kernel
theorem dX5_shut_0 : decode cX5_shut 0 = .ok (.aload_n 0, 1) := by decide +kernel
theorem dX5_shut_1 : decode cX5_shut 1 = .ok (.getfield 12, 3) := by decide +kernel
theorem dX5_shut_4 : decode cX5_shut 4 = .ok (.iload_n 1, 1) := by decide +kernel
theorem dX5_shut_5 : decode cX5_shut 5 = .ok (.invokevirtual 129, 3) := by decide +kernel
theorem dX5_shut_8 : decode cX5_shut 8 = .ok (.ifCond .eq 15, 3) := by decide +kernel
theorem dX5_shut_11 : decode cX5_shut 11 = .ok (.aload_n 0, 1) := by decide +kernel
theorem dX5_shut_12 : decode cX5_shut 12 = .ok (.iload_n 1, 1) := by decide +kernel
theorem dX5_shut_13 : decode cX5_shut 13 = .ok (.iconst 0, 1) := by decide +kernel
theorem dX5_shut_14 : decode cX5_shut 14 = .ok (.invokevirtual 167, 3) := by decide +kernel
theorem dX5_shut_17 : decode cX5_shut 17 = .ok (.invokestatic 158, 3) := by decide +kernel
theorem dX5_shut_20 : decode cX5_shut 20 = .ok (.goto 5, 3) := by decide +kernel
theorem dX5_shut_23 : decode cX5_shut 23 = .ok (.bipush (-2), 2) := by decide +kernel
theorem dX5_shut_25 : decode cX5_shut 25 = .ok (.ireturn, 1) := by decide +kernel
theorem dX5_wider_0 : decode cX5_wider 0 = .ok (.aload_n 0, 1) := by decide +kernel
theorem dX5_wider_1 : decode cX5_wider 1 = .ok (.getfield 12, 3) := by decide +kernel
theorem dX5_wider_4 : decode cX5_wider 4 = .ok (.iload_n 1, 1) := by decide +kernel
theorem dX5_wider_5 : decode cX5_wider 5 = .ok (.invokevirtual 129, 3) := by decide +kernel
theorem dX5_wider_8 : decode cX5_wider 8 = .ok (.ifCond .eq 15, 3) := by decide +kernel
theorem dX5_wider_11 : decode cX5_wider 11 = .ok (.iload_n 3, 1) := by decide +kernel
theorem dX5_wider_12 : decode cX5_wider 12 = .ok (.bipush (-9), 2) := by decide +kernel
theorem dX5_wider_14 : decode cX5_wider 14 = .ok (.if_icmp .lt 9, 3) := by decide +kernel
theorem dX5_wider_17 : decode cX5_wider 17 = .ok (.iload_n 3, 1) := by decide +kernel
theorem dX5_wider_18 : decode cX5_wider 18 = .ok (.bipush 30, 2) := by decide +kernel
theorem dX5_wider_20 : decode cX5_wider 20 = .ok (.if_icmp .le 6, 3) := by decide +kernel
theorem dX5_wider_23 : decode cX5_wider 23 = .ok (.bipush (-2), 2) := by decide +kernel
theorem dX5_wider_25 : decode cX5_wider 25 = .ok (.ireturn, 1) := by decide +kernel
theorem dX5_wider_26 : decode cX5_wider 26 = .ok (.iload_n 1, 1) := by decide +kernel
theorem dX5_wider_27 : decode cX5_wider 27 = .ok (.iload_n 2, 1) := by decide +kernel
theorem dX5_wider_28 : decode cX5_wider 28 = .ok (.invokestatic 170, 3) := by decide +kernel
theorem dX5_wider_31 : decode cX5_wider 31 = .ok (.istore 4, 2) := by decide +kernel
theorem dX5_wider_33 : decode cX5_wider 33 = .ok (.aload_n 0, 1) := by decide +kernel
theorem dX5_wider_34 : decode cX5_wider 34 = .ok (.getfield 12, 3) := by decide +kernel
theorem dX5_wider_37 : decode cX5_wider 37 = .ok (.getfield 146, 3) := by decide +kernel
theorem dX5_wider_40 : decode cX5_wider 40 = .ok (.iload 4, 2) := by decide +kernel
theorem dX5_wider_42 : decode cX5_wider 42 = .ok (.iaload, 1) := by decide +kernel
theorem dX5_wider_43 : decode cX5_wider 43 = .ok (.iload_n 3, 1) := by decide +kernel
theorem dX5_wider_44 : decode cX5_wider 44 = .ok (.iadd, 1) := by decide +kernel
theorem dX5_wider_45 : decode cX5_wider 45 = .ok (.ifCond .ge 6, 3) := by decide +kernel
theorem dX5_wider_48 : decode cX5_wider 48 = .ok (.bipush (-2), 2) := by decide +kernel
theorem dX5_wider_50 : decode cX5_wider 50 = .ok (.ireturn, 1) := by decide +kernel
theorem dX5_wider_51 : decode cX5_wider 51 = .ok (.aload_n 0, 1) := by decide +kernel
theorem dX5_wider_52 : decode cX5_wider 52 = .ok (.getfield 12, 3) := by decide +kernel
theorem dX5_wider_55 : decode cX5_wider 55 = .ok (.getfield 146, 3) := by decide +kernel
theorem dX5_wider_58 : decode cX5_wider 58 = .ok (.iload 4, 2) := by decide +kernel
theorem dX5_wider_60 : decode cX5_wider 60 = .ok (.dup2, 1) := by decide +kernel
theorem dX5_wider_61 : decode cX5_wider 61 = .ok (.iaload, 1) := by decide +kernel
theorem dX5_wider_62 : decode cX5_wider 62 = .ok (.iload_n 3, 1) := by decide +kernel
theorem dX5_wider_63 : decode cX5_wider 63 = .ok (.iadd, 1) := by decide +kernel
theorem dX5_wider_64 : decode cX5_wider 64 = .ok (.iastore, 1) := by decide +kernel
theorem dX5_wider_65 : decode cX5_wider 65 = .ok (.aload_n 0, 1) := by decide +kernel
theorem dX5_wider_66 : decode cX5_wider 66 = .ok (.getfield 37, 3) := by decide +kernel
theorem dX5_wider_69 : decode cX5_wider 69 = .ok (.invokevirtual 155, 3) := by decide +kernel
theorem dX5_wider_72 : decode cX5_wider 72 = .ok (.istore 5, 2) := by decide +kernel
theorem dX5_wider_74 : decode cX5_wider 74 = .ok (.aload_n 0, 1) := by decide +kernel
theorem dX5_wider_75 : decode cX5_wider 75 = .ok (.getfield 12, 3) := by decide +kernel
theorem dX5_wider_78 : decode cX5_wider 78 = .ok (.getfield 146, 3) := by decide +kernel
theorem dX5_wider_81 : decode cX5_wider 81 = .ok (.iload 4, 2) := by decide +kernel
theorem dX5_wider_83 : decode cX5_wider 83 = .ok (.dup2, 1) := by decide +kernel
theorem dX5_wider_84 : decode cX5_wider 84 = .ok (.iaload, 1) := by decide +kernel
theorem dX5_wider_85 : decode cX5_wider 85 = .ok (.iload_n 3, 1) := by decide +kernel
theorem dX5_wider_86 : decode cX5_wider 86 = .ok (.isub, 1) := by decide +kernel
theorem dX5_wider_87 : decode cX5_wider 87 = .ok (.iastore, 1) := by decide +kernel
theorem dX5_wider_88 : decode cX5_wider 88 = .ok (.iload 5, 2) := by decide +kernel
theorem dX5_wider_90 : decode cX5_wider 90 = .ok (.invokestatic 158, 3) := by decide +kernel
theorem dX5_wider_93 : decode cX5_wider 93 = .ok (.ireturn, 1) := by decide +kernel
theorem dX5_turned_0 : decode cX5_turned 0 = .ok (.aload_n 0, 1) := by decide +kernel
theorem dX5_turned_1 : decode cX5_turned 1 = .ok (.getfield 12, 3) := by decide +kernel
theorem dX5_turned_4 : decode cX5_turned 4 = .ok (.iload_n 1, 1) := by decide +kernel
theorem dX5_turned_5 : decode cX5_turned 5 = .ok (.iload_n 2, 1) := by decide +kernel
theorem dX5_turned_6 : decode cX5_turned 6 = .ok (.invokevirtual 91, 3) := by decide +kernel
theorem dX5_turned_9 : decode cX5_turned 9 = .ok (.ifCond .ne 6, 3) := by decide +kernel
theorem dX5_turned_12 : decode cX5_turned 12 = .ok (.bipush (-2), 2) := by decide +kernel
theorem dX5_turned_14 : decode cX5_turned 14 = .ok (.ireturn, 1) := by decide +kernel
theorem dX5_turned_15 : decode cX5_turned 15 = .ok (.aload_n 0, 1) := by decide +kernel
theorem dX5_turned_16 : decode cX5_turned 16 = .ok (.getfield 12, 3) := by decide +kernel
theorem dX5_turned_19 : decode cX5_turned 19 = .ok (.iload_n 1, 1) := by decide +kernel
theorem dX5_turned_20 : decode cX5_turned 20 = .ok (.iload_n 2, 1) := by decide +kernel
theorem dX5_turned_21 : decode cX5_turned 21 = .ok (.invokevirtual 94, 3) := by decide +kernel
theorem dX5_turned_24 : decode cX5_turned 24 = .ok (.aload_n 0, 1) := by decide +kernel
theorem dX5_turned_25 : decode cX5_turned 25 = .ok (.getfield 37, 3) := by decide +kernel
theorem dX5_turned_28 : decode cX5_turned 28 = .ok (.invokevirtual 155, 3) := by decide +kernel
theorem dX5_turned_31 : decode cX5_turned 31 = .ok (.istore_n 3, 1) := by decide +kernel
theorem dX5_turned_32 : decode cX5_turned 32 = .ok (.aload_n 0, 1) := by decide +kernel
theorem dX5_turned_33 : decode cX5_turned 33 = .ok (.getfield 12, 3) := by decide +kernel
theorem dX5_turned_36 : decode cX5_turned 36 = .ok (.iload_n 1, 1) := by decide +kernel
theorem dX5_turned_37 : decode cX5_turned 37 = .ok (.iload_n 2, 1) := by decide +kernel
theorem dX5_turned_38 : decode cX5_turned 38 = .ok (.ineg, 1) := by decide +kernel
theorem dX5_turned_39 : decode cX5_turned 39 = .ok (.invokevirtual 94, 3) := by decide +kernel
theorem dX5_turned_42 : decode cX5_turned 42 = .ok (.iload_n 3, 1) := by decide +kernel
theorem dX5_turned_43 : decode cX5_turned 43 = .ok (.invokestatic 158, 3) := by decide +kernel
theorem dX5_turned_46 : decode cX5_turned 46 = .ok (.ireturn, 1) := by decide +kernel
theorem dX5_bestTurn_0 : decode cX5_bestTurn 0 = .ok (.iload_n 1, 1) := by decide +kernel
theorem dX5_bestTurn_1 : decode cX5_bestTurn 1 = .ok (.ifCond .lt 18, 3) := by decide +kernel
theorem dX5_bestTurn_4 : decode cX5_bestTurn 4 = .ok (.iload_n 1, 1) := by decide +kernel
theorem dX5_bestTurn_5 : decode cX5_bestTurn 5 = .ok (.iconst 2, 1) := by decide +kernel
theorem dX5_bestTurn_6 : decode cX5_bestTurn 6 = .ok (.if_icmp .gt 13, 3) := by decide +kernel
theorem dX5_bestTurn_9 : decode cX5_bestTurn 9 = .ok (.aload_n 0, 1) := by decide +kernel
theorem dX5_bestTurn_10 : decode cX5_bestTurn 10 = .ok (.getfield 46, 3) := by decide +kernel
theorem dX5_bestTurn_13 : decode cX5_bestTurn 13 = .ok (.invokevirtual 174, 3) := by decide +kernel
theorem dX5_bestTurn_16 : decode cX5_bestTurn 16 = .ok (.ifCond .ne 6, 3) := by decide +kernel
theorem dX5_bestTurn_19 : decode cX5_bestTurn 19 = .ok (.bipush (-2), 2) := by decide +kernel
theorem dX5_bestTurn_21 : decode cX5_bestTurn 21 = .ok (.ireturn, 1) := by decide +kernel
theorem dX5_bestTurn_22 : decode cX5_bestTurn 22 = .ok (.iload_n 1, 1) := by decide +kernel
theorem dX5_bestTurn_23 : decode cX5_bestTurn 23 = .ok (.ifCond .ne 11, 3) := by decide +kernel
theorem dX5_bestTurn_26 : decode cX5_bestTurn 26 = .ok (.aload_n 0, 1) := by decide +kernel
theorem dX5_bestTurn_27 : decode cX5_bestTurn 27 = .ok (.getfield 46, 3) := by decide +kernel
theorem dX5_bestTurn_30 : decode cX5_bestTurn 30 = .ok (.getfield 178, 3) := by decide +kernel
theorem dX5_bestTurn_33 : decode cX5_bestTurn 33 = .ok (.ireturn, 1) := by decide +kernel
theorem dX5_bestTurn_34 : decode cX5_bestTurn 34 = .ok (.iload_n 1, 1) := by decide +kernel
theorem dX5_bestTurn_35 : decode cX5_bestTurn 35 = .ok (.iconst 1, 1) := by decide +kernel
theorem dX5_bestTurn_36 : decode cX5_bestTurn 36 = .ok (.if_icmp .ne 13, 3) := by decide +kernel
theorem dX5_bestTurn_39 : decode cX5_bestTurn 39 = .ok (.aload_n 0, 1) := by decide +kernel
theorem dX5_bestTurn_40 : decode cX5_bestTurn 40 = .ok (.getfield 46, 3) := by decide +kernel
theorem dX5_bestTurn_43 : decode cX5_bestTurn 43 = .ok (.getfield 181, 3) := by decide +kernel
theorem dX5_bestTurn_46 : decode cX5_bestTurn 46 = .ok (.goto 10, 3) := by decide +kernel
theorem dX5_bestTurn_49 : decode cX5_bestTurn 49 = .ok (.aload_n 0, 1) := by decide +kernel
theorem dX5_bestTurn_50 : decode cX5_bestTurn 50 = .ok (.getfield 46, 3) := by decide +kernel
theorem dX5_bestTurn_53 : decode cX5_bestTurn 53 = .ok (.getfield 184, 3) := by decide +kernel
theorem dX5_bestTurn_56 : decode cX5_bestTurn 56 = .ok (.ireturn, 1) := by decide +kernel
theorem dX5_turns_0 : decode cX5_turns 0 = .ok (.iload_n 2, 1) := by decide +kernel
theorem dX5_turns_1 : decode cX5_turns 1 = .ok (.ifCond .lt 28, 3) := by decide +kernel
theorem dX5_turns_4 : decode cX5_turns 4 = .ok (.iload_n 2, 1) := by decide +kernel
theorem dX5_turns_5 : decode cX5_turns 5 = .ok (.iconst 1, 1) := by decide +kernel
theorem dX5_turns_6 : decode cX5_turns 6 = .ok (.if_icmp .gt 23, 3) := by decide +kernel
theorem dX5_turns_9 : decode cX5_turns 9 = .ok (.iload_n 1, 1) := by decide +kernel
theorem dX5_turns_10 : decode cX5_turns 10 = .ok (.aload_n 0, 1) := by decide +kernel
theorem dX5_turns_11 : decode cX5_turns 11 = .ok (.getfield 12, 3) := by decide +kernel
theorem dX5_turns_14 : decode cX5_turns 14 = .ok (.getfield 84, 3) := by decide +kernel
theorem dX5_turns_17 : decode cX5_turns 17 = .ok (.iushr, 1) := by decide +kernel
theorem dX5_turns_18 : decode cX5_turns 18 = .ok (.ifCond .ne 11, 3) := by decide +kernel
theorem dX5_turns_21 : decode cX5_turns 21 = .ok (.iload_n 1, 1) := by decide +kernel
theorem dX5_turns_22 : decode cX5_turns 22 = .ok (.invokestatic 187, 3) := by decide +kernel
theorem dX5_turns_25 : decode cX5_turns 25 = .ok (.iconst 4, 1) := by decide +kernel
theorem dX5_turns_26 : decode cX5_turns 26 = .ok (.if_icmp .le 6, 3) := by decide +kernel
theorem dX5_turns_29 : decode cX5_turns 29 = .ok (.bipush (-2), 2) := by decide +kernel
theorem dX5_turns_31 : decode cX5_turns 31 = .ok (.ireturn, 1) := by decide +kernel
theorem dX5_turns_32 : decode cX5_turns 32 = .ok (.aload_n 0, 1) := by decide +kernel
theorem dX5_turns_33 : decode cX5_turns 33 = .ok (.getfield 46, 3) := by decide +kernel
theorem dX5_turns_36 : decode cX5_turns 36 = .ok (.iload_n 1, 1) := by decide +kernel
theorem dX5_turns_37 : decode cX5_turns 37 = .ok (.invokevirtual 192, 3) := by decide +kernel
theorem dX5_turns_40 : decode cX5_turns 40 = .ok (.iload_n 2, 1) := by decide +kernel
theorem dX5_turns_41 : decode cX5_turns 41 = .ok (.ifCond .ne 16, 3) := by decide +kernel
theorem dX5_turns_44 : decode cX5_turns 44 = .ok (.aload_n 0, 1) := by decide +kernel
theorem dX5_turns_45 : decode cX5_turns 45 = .ok (.getfield 46, 3) := by decide +kernel
theorem dX5_turns_48 : decode cX5_turns 48 = .ok (.getfield 178, 3) := by decide +kernel
theorem dX5_turns_51 : decode cX5_turns 51 = .ok (.invokestatic 158, 3) := by decide +kernel
theorem dX5_turns_54 : decode cX5_turns 54 = .ok (.goto 10, 3) := by decide +kernel
theorem dX5_turns_57 : decode cX5_turns 57 = .ok (.aload_n 0, 1) := by decide +kernel
theorem dX5_turns_58 : decode cX5_turns 58 = .ok (.getfield 46, 3) := by decide +kernel
theorem dX5_turns_61 : decode cX5_turns 61 = .ok (.getfield 195, 3) := by decide +kernel
theorem dX5_turns_64 : decode cX5_turns 64 = .ok (.ireturn, 1) := by decide +kernel
theorem dX5_roomy_0 : decode cX5_roomy 0 = .ok (.aload_n 0, 1) := by decide +kernel
theorem dX5_roomy_1 : decode cX5_roomy 1 = .ok (.getfield 12, 3) := by decide +kernel
theorem dX5_roomy_4 : decode cX5_roomy 4 = .ok (.iload_n 1, 1) := by decide +kernel
theorem dX5_roomy_5 : decode cX5_roomy 5 = .ok (.invokevirtual 98, 3) := by decide +kernel
theorem dX5_roomy_8 : decode cX5_roomy 8 = .ok (.ifCond .eq 15, 3) := by decide +kernel
theorem dX5_roomy_11 : decode cX5_roomy 11 = .ok (.aload_n 0, 1) := by decide +kernel
theorem dX5_roomy_12 : decode cX5_roomy 12 = .ok (.getfield 12, 3) := by decide +kernel
theorem dX5_roomy_15 : decode cX5_roomy 15 = .ok (.iconst 1, 1) := by decide +kernel
theorem dX5_roomy_16 : decode cX5_roomy 16 = .ok (.iload_n 2, 1) := by decide +kernel
theorem dX5_roomy_17 : decode cX5_roomy 17 = .ok (.invokevirtual 69, 3) := by decide +kernel
theorem dX5_roomy_20 : decode cX5_roomy 20 = .ok (.ifCond .ne 6, 3) := by decide +kernel
theorem dX5_roomy_23 : decode cX5_roomy 23 = .ok (.bipush (-2), 2) := by decide +kernel
theorem dX5_roomy_25 : decode cX5_roomy 25 = .ok (.ireturn, 1) := by decide +kernel
theorem dX5_roomy_26 : decode cX5_roomy 26 = .ok (.aload_n 0, 1) := by decide +kernel
theorem dX5_roomy_27 : decode cX5_roomy 27 = .ok (.getfield 12, 3) := by decide +kernel
theorem dX5_roomy_30 : decode cX5_roomy 30 = .ok (.iload_n 1, 1) := by decide +kernel
theorem dX5_roomy_31 : decode cX5_roomy 31 = .ok (.iconst 1, 1) := by decide +kernel
theorem dX5_roomy_32 : decode cX5_roomy 32 = .ok (.invokevirtual 101, 3) := by decide +kernel
theorem dX5_roomy_35 : decode cX5_roomy 35 = .ok (.istore_n 3, 1) := by decide +kernel
theorem dX5_roomy_36 : decode cX5_roomy 36 = .ok (.aload_n 0, 1) := by decide +kernel
theorem dX5_roomy_37 : decode cX5_roomy 37 = .ok (.getfield 12, 3) := by decide +kernel
theorem dX5_roomy_40 : decode cX5_roomy 40 = .ok (.iload_n 1, 1) := by decide +kernel
theorem dX5_roomy_41 : decode cX5_roomy 41 = .ok (.iconst 1, 1) := by decide +kernel
theorem dX5_roomy_42 : decode cX5_roomy 42 = .ok (.iload_n 2, 1) := by decide +kernel
theorem dX5_roomy_43 : decode cX5_roomy 43 = .ok (.invokevirtual 105, 3) := by decide +kernel
theorem dX5_roomy_46 : decode cX5_roomy 46 = .ok (.aload_n 0, 1) := by decide +kernel
theorem dX5_roomy_47 : decode cX5_roomy 47 = .ok (.getfield 37, 3) := by decide +kernel
theorem dX5_roomy_50 : decode cX5_roomy 50 = .ok (.invokevirtual 155, 3) := by decide +kernel
theorem dX5_roomy_53 : decode cX5_roomy 53 = .ok (.istore 4, 2) := by decide +kernel
theorem dX5_roomy_55 : decode cX5_roomy 55 = .ok (.aload_n 0, 1) := by decide +kernel
theorem dX5_roomy_56 : decode cX5_roomy 56 = .ok (.getfield 12, 3) := by decide +kernel
theorem dX5_roomy_59 : decode cX5_roomy 59 = .ok (.iload_n 1, 1) := by decide +kernel
theorem dX5_roomy_60 : decode cX5_roomy 60 = .ok (.iconst 1, 1) := by decide +kernel
theorem dX5_roomy_61 : decode cX5_roomy 61 = .ok (.iload_n 3, 1) := by decide +kernel
theorem dX5_roomy_62 : decode cX5_roomy 62 = .ok (.invokevirtual 105, 3) := by decide +kernel
theorem dX5_roomy_65 : decode cX5_roomy 65 = .ok (.iload 4, 2) := by decide +kernel
theorem dX5_roomy_67 : decode cX5_roomy 67 = .ok (.invokestatic 158, 3) := by decide +kernel
theorem dX5_roomy_70 : decode cX5_roomy 70 = .ok (.ireturn, 1) := by decide +kernel
theorem dX5_best_0 : decode cX5_best 0 = .ok (.aload_n 0, 1) := by decide +kernel
theorem dX5_best_1 : decode cX5_best 1 = .ok (.getfield 12, 3) := by decide +kernel
theorem dX5_best_4 : decode cX5_best 4 = .ok (.getfield 73, 3) := by decide +kernel
theorem dX5_best_7 : decode cX5_best 7 = .ok (.ifCond .eq 15, 3) := by decide +kernel
theorem dX5_best_10 : decode cX5_best 10 = .ok (.iload_n 1, 1) := by decide +kernel
theorem dX5_best_11 : decode cX5_best 11 = .ok (.iconst 1, 1) := by decide +kernel
theorem dX5_best_12 : decode cX5_best 12 = .ok (.if_icmp .lt 10, 3) := by decide +kernel
theorem dX5_best_15 : decode cX5_best 15 = .ok (.iload_n 1, 1) := by decide +kernel
theorem dX5_best_16 : decode cX5_best 16 = .ok (.sipush 300, 3) := by decide +kernel
theorem dX5_best_19 : decode cX5_best 19 = .ok (.if_icmp .le 6, 3) := by decide +kernel
theorem dX5_best_22 : decode cX5_best 22 = .ok (.bipush (-2), 2) := by decide +kernel
theorem dX5_best_24 : decode cX5_best 24 = .ok (.ireturn, 1) := by decide +kernel
theorem dX5_best_25 : decode cX5_best 25 = .ok (.iconst 0, 1) := by decide +kernel
theorem dX5_best_26 : decode cX5_best 26 = .ok (.istore_n 2, 1) := by decide +kernel
theorem dX5_best_27 : decode cX5_best 27 = .ok (.bipush 41, 2) := by decide +kernel
theorem dX5_best_29 : decode cX5_best 29 = .ok (.istore_n 3, 1) := by decide +kernel
theorem dX5_best_30 : decode cX5_best 30 = .ok (.iconst 0, 1) := by decide +kernel
theorem dX5_best_31 : decode cX5_best 31 = .ok (.istore 4, 2) := by decide +kernel
theorem dX5_best_33 : decode cX5_best 33 = .ok (.iload 4, 2) := by decide +kernel
theorem dX5_best_35 : decode cX5_best 35 = .ok (.aload_n 0, 1) := by decide +kernel
theorem dX5_best_36 : decode cX5_best 36 = .ok (.getfield 12, 3) := by decide +kernel
theorem dX5_best_39 : decode cX5_best 39 = .ok (.getfield 73, 3) := by decide +kernel
theorem dX5_best_42 : decode cX5_best 42 = .ok (.if_icmp .ge 97, 3) := by decide +kernel
theorem dX5_best_45 : decode cX5_best 45 = .ok (.iload_n 3, 1) := by decide +kernel
theorem dX5_best_46 : decode cX5_best 46 = .ok (.ifCond .le 93, 3) := by decide +kernel
theorem dX5_best_49 : decode cX5_best 49 = .ok (.aload_n 0, 1) := by decide +kernel
theorem dX5_best_50 : decode cX5_best 50 = .ok (.getfield 12, 3) := by decide +kernel
theorem dX5_best_53 : decode cX5_best 53 = .ok (.iload 4, 2) := by decide +kernel
theorem dX5_best_55 : decode cX5_best 55 = .ok (.iconst 1, 1) := by decide +kernel
theorem dX5_best_56 : decode cX5_best 56 = .ok (.invokevirtual 101, 3) := by decide +kernel
theorem dX5_best_59 : decode cX5_best 59 = .ok (.istore 5, 2) := by decide +kernel
theorem dX5_best_61 : decode cX5_best 61 = .ok (.aload_n 0, 1) := by decide +kernel
theorem dX5_best_62 : decode cX5_best 62 = .ok (.getfield 12, 3) := by decide +kernel
theorem dX5_best_65 : decode cX5_best 65 = .ok (.iload 4, 2) := by decide +kernel
theorem dX5_best_67 : decode cX5_best 67 = .ok (.iconst 1, 1) := by decide +kernel
theorem dX5_best_68 : decode cX5_best 68 = .ok (.sipush 300, 3) := by decide +kernel
theorem dX5_best_71 : decode cX5_best 71 = .ok (.iload 5, 2) := by decide +kernel
theorem dX5_best_73 : decode cX5_best 73 = .ok (.iload_n 1, 1) := by decide +kernel
theorem dX5_best_74 : decode cX5_best 74 = .ok (.iadd, 1) := by decide +kernel
theorem dX5_best_75 : decode cX5_best 75 = .ok (.invokestatic 198, 3) := by decide +kernel
theorem dX5_best_78 : decode cX5_best 78 = .ok (.invokevirtual 105, 3) := by decide +kernel
theorem dX5_best_81 : decode cX5_best 81 = .ok (.aload_n 0, 1) := by decide +kernel
theorem dX5_best_82 : decode cX5_best 82 = .ok (.getfield 37, 3) := by decide +kernel
theorem dX5_best_85 : decode cX5_best 85 = .ok (.iload_n 3, 1) := by decide +kernel
theorem dX5_best_86 : decode cX5_best 86 = .ok (.iconst 1, 1) := by decide +kernel
theorem dX5_best_87 : decode cX5_best 87 = .ok (.isub, 1) := by decide +kernel
theorem dX5_best_88 : decode cX5_best 88 = .ok (.invokevirtual 203, 3) := by decide +kernel
theorem dX5_best_91 : decode cX5_best 91 = .ok (.ifCond .eq 15, 3) := by decide +kernel
theorem dX5_best_94 : decode cX5_best 94 = .ok (.aload_n 0, 1) := by decide +kernel
theorem dX5_best_95 : decode cX5_best 95 = .ok (.getfield 37, 3) := by decide +kernel
theorem dX5_best_98 : decode cX5_best 98 = .ok (.iconst 0, 1) := by decide +kernel
theorem dX5_best_99 : decode cX5_best 99 = .ok (.iload_n 3, 1) := by decide +kernel
theorem dX5_best_100 : decode cX5_best 100 = .ok (.invokevirtual 206, 3) := by decide +kernel
theorem dX5_best_103 : decode cX5_best 103 = .ok (.goto 4, 3) := by decide +kernel
theorem dX5_best_106 : decode cX5_best 106 = .ok (.iload_n 3, 1) := by decide +kernel
theorem dX5_best_107 : decode cX5_best 107 = .ok (.istore 6, 2) := by decide +kernel
theorem dX5_best_109 : decode cX5_best 109 = .ok (.aload_n 0, 1) := by decide +kernel
theorem dX5_best_110 : decode cX5_best 110 = .ok (.getfield 12, 3) := by decide +kernel
theorem dX5_best_113 : decode cX5_best 113 = .ok (.iload 4, 2) := by decide +kernel
theorem dX5_best_115 : decode cX5_best 115 = .ok (.iconst 1, 1) := by decide +kernel
theorem dX5_best_116 : decode cX5_best 116 = .ok (.iload 5, 2) := by decide +kernel
theorem dX5_best_118 : decode cX5_best 118 = .ok (.invokevirtual 105, 3) := by decide +kernel
theorem dX5_best_121 : decode cX5_best 121 = .ok (.iload 6, 2) := by decide +kernel
theorem dX5_best_123 : decode cX5_best 123 = .ok (.iload_n 3, 1) := by decide +kernel
theorem dX5_best_124 : decode cX5_best 124 = .ok (.if_icmp .ge 9, 3) := by decide +kernel
theorem dX5_best_127 : decode cX5_best 127 = .ok (.iload 6, 2) := by decide +kernel
theorem dX5_best_129 : decode cX5_best 129 = .ok (.istore_n 3, 1) := by decide +kernel
theorem dX5_best_130 : decode cX5_best 130 = .ok (.iload 4, 2) := by decide +kernel
theorem dX5_best_132 : decode cX5_best 132 = .ok (.istore_n 2, 1) := by decide +kernel
theorem dX5_best_133 : decode cX5_best 133 = .ok (.iinc 4 1, 3) := by decide +kernel
theorem dX5_best_136 : decode cX5_best 136 = .ok (.goto (-103), 3) := by decide +kernel
theorem dX5_best_139 : decode cX5_best 139 = .ok (.iload_n 2, 1) := by decide +kernel
theorem dX5_best_140 : decode cX5_best 140 = .ok (.ireturn, 1) := by decide +kernel
theorem dX5_latest_0 : decode cX5_latest 0 = .ok (.aload_n 0, 1) := by decide +kernel
theorem dX5_latest_1 : decode cX5_latest 1 = .ok (.getfield 12, 3) := by decide +kernel
theorem dX5_latest_4 : decode cX5_latest 4 = .ok (.iload_n 1, 1) := by decide +kernel
theorem dX5_latest_5 : decode cX5_latest 5 = .ok (.invokevirtual 98, 3) := by decide +kernel
theorem dX5_latest_8 : decode cX5_latest 8 = .ok (.ifCond .ne 6, 3) := by decide +kernel
theorem dX5_latest_11 : decode cX5_latest 11 = .ok (.bipush (-2), 2) := by decide +kernel
theorem dX5_latest_13 : decode cX5_latest 13 = .ok (.ireturn, 1) := by decide +kernel
theorem dX5_latest_14 : decode cX5_latest 14 = .ok (.aload_n 0, 1) := by decide +kernel
theorem dX5_latest_15 : decode cX5_latest 15 = .ok (.getfield 37, 3) := by decide +kernel
theorem dX5_latest_18 : decode cX5_latest 18 = .ok (.invokevirtual 155, 3) := by decide +kernel
theorem dX5_latest_21 : decode cX5_latest 21 = .ok (.istore_n 2, 1) := by decide +kernel
theorem dX5_latest_22 : decode cX5_latest 22 = .ok (.iload_n 2, 1) := by decide +kernel
theorem dX5_latest_23 : decode cX5_latest 23 = .ok (.bipush 41, 2) := by decide +kernel
theorem dX5_latest_25 : decode cX5_latest 25 = .ok (.if_icmp .ne 5, 3) := by decide +kernel
theorem dX5_latest_28 : decode cX5_latest 28 = .ok (.iconst (-1), 1) := by decide +kernel
theorem dX5_latest_29 : decode cX5_latest 29 = .ok (.ireturn, 1) := by decide +kernel
theorem dX5_latest_30 : decode cX5_latest 30 = .ok (.aload_n 0, 1) := by decide +kernel
theorem dX5_latest_31 : decode cX5_latest 31 = .ok (.getfield 12, 3) := by decide +kernel
theorem dX5_latest_34 : decode cX5_latest 34 = .ok (.iload_n 1, 1) := by decide +kernel
theorem dX5_latest_35 : decode cX5_latest 35 = .ok (.iconst 2, 1) := by decide +kernel
theorem dX5_latest_36 : decode cX5_latest 36 = .ok (.invokevirtual 101, 3) := by decide +kernel
theorem dX5_latest_39 : decode cX5_latest 39 = .ok (.istore_n 3, 1) := by decide +kernel
theorem dX5_latest_40 : decode cX5_latest 40 = .ok (.iload_n 3, 1) := by decide +kernel
theorem dX5_latest_41 : decode cX5_latest 41 = .ok (.istore 4, 2) := by decide +kernel
theorem dX5_latest_43 : decode cX5_latest 43 = .ok (.bipush 21, 2) := by decide +kernel
theorem dX5_latest_45 : decode cX5_latest 45 = .ok (.istore 5, 2) := by decide +kernel
theorem dX5_latest_47 : decode cX5_latest 47 = .ok (.iconst 0, 1) := by decide +kernel
theorem dX5_latest_48 : decode cX5_latest 48 = .ok (.istore 6, 2) := by decide +kernel
theorem dX5_latest_50 : decode cX5_latest 50 = .ok (.iload 6, 2) := by decide +kernel
theorem dX5_latest_52 : decode cX5_latest 52 = .ok (.bipush 20, 2) := by decide +kernel
theorem dX5_latest_54 : decode cX5_latest 54 = .ok (.if_icmp .ge 60, 3) := by decide +kernel
theorem dX5_latest_57 : decode cX5_latest 57 = .ok (.iload 5, 2) := by decide +kernel
theorem dX5_latest_59 : decode cX5_latest 59 = .ok (.iload 4, 2) := by decide +kernel
theorem dX5_latest_61 : decode cX5_latest 61 = .ok (.isub, 1) := by decide +kernel
theorem dX5_latest_62 : decode cX5_latest 62 = .ok (.iconst 1, 1) := by decide +kernel
theorem dX5_latest_63 : decode cX5_latest 63 = .ok (.if_icmp .le 51, 3) := by decide +kernel
theorem dX5_latest_66 : decode cX5_latest 66 = .ok (.iload 4, 2) := by decide +kernel
theorem dX5_latest_68 : decode cX5_latest 68 = .ok (.iload 5, 2) := by decide +kernel
theorem dX5_latest_70 : decode cX5_latest 70 = .ok (.iadd, 1) := by decide +kernel
theorem dX5_latest_71 : decode cX5_latest 71 = .ok (.iconst 2, 1) := by decide +kernel
theorem dX5_latest_72 : decode cX5_latest 72 = .ok (.idiv, 1) := by decide +kernel
theorem dX5_latest_73 : decode cX5_latest 73 = .ok (.istore 7, 2) := by decide +kernel
theorem dX5_latest_75 : decode cX5_latest 75 = .ok (.aload_n 0, 1) := by decide +kernel
theorem dX5_latest_76 : decode cX5_latest 76 = .ok (.getfield 12, 3) := by decide +kernel
theorem dX5_latest_79 : decode cX5_latest 79 = .ok (.iload_n 1, 1) := by decide +kernel
theorem dX5_latest_80 : decode cX5_latest 80 = .ok (.iconst 2, 1) := by decide +kernel
theorem dX5_latest_81 : decode cX5_latest 81 = .ok (.iload 7, 2) := by decide +kernel
theorem dX5_latest_83 : decode cX5_latest 83 = .ok (.invokevirtual 105, 3) := by decide +kernel
theorem dX5_latest_86 : decode cX5_latest 86 = .ok (.aload_n 0, 1) := by decide +kernel
theorem dX5_latest_87 : decode cX5_latest 87 = .ok (.getfield 37, 3) := by decide +kernel
theorem dX5_latest_90 : decode cX5_latest 90 = .ok (.iload_n 2, 1) := by decide +kernel
theorem dX5_latest_91 : decode cX5_latest 91 = .ok (.invokevirtual 203, 3) := by decide +kernel
theorem dX5_latest_94 : decode cX5_latest 94 = .ok (.ifCond .eq 10, 3) := by decide +kernel
theorem dX5_latest_97 : decode cX5_latest 97 = .ok (.iload 7, 2) := by decide +kernel
theorem dX5_latest_99 : decode cX5_latest 99 = .ok (.istore 4, 2) := by decide +kernel
theorem dX5_latest_101 : decode cX5_latest 101 = .ok (.goto 7, 3) := by decide +kernel
theorem dX5_latest_104 : decode cX5_latest 104 = .ok (.iload 7, 2) := by decide +kernel
theorem dX5_latest_106 : decode cX5_latest 106 = .ok (.istore 5, 2) := by decide +kernel
theorem dX5_latest_108 : decode cX5_latest 108 = .ok (.iinc 6 1, 3) := by decide +kernel
theorem dX5_latest_111 : decode cX5_latest 111 = .ok (.goto (-61), 3) := by decide +kernel
theorem dX5_latest_114 : decode cX5_latest 114 = .ok (.aload_n 0, 1) := by decide +kernel
theorem dX5_latest_115 : decode cX5_latest 115 = .ok (.getfield 12, 3) := by decide +kernel
theorem dX5_latest_118 : decode cX5_latest 118 = .ok (.iload_n 1, 1) := by decide +kernel
theorem dX5_latest_119 : decode cX5_latest 119 = .ok (.iconst 2, 1) := by decide +kernel
theorem dX5_latest_120 : decode cX5_latest 120 = .ok (.iload_n 3, 1) := by decide +kernel
theorem dX5_latest_121 : decode cX5_latest 121 = .ok (.invokevirtual 105, 3) := by decide +kernel
theorem dX5_latest_124 : decode cX5_latest 124 = .ok (.iload 4, 2) := by decide +kernel
theorem dX5_latest_126 : decode cX5_latest 126 = .ok (.ireturn, 1) := by decide +kernel
theorem dX5_worst_0 : decode cX5_worst 0 = .ok (.aload_n 0, 1) := by decide +kernel
theorem dX5_worst_1 : decode cX5_worst 1 = .ok (.getfield 12, 3) := by decide +kernel
theorem dX5_worst_4 : decode cX5_worst 4 = .ok (.getfield 84, 3) := by decide +kernel
theorem dX5_worst_7 : decode cX5_worst 7 = .ok (.ifCond .ne 6, 3) := by decide +kernel
theorem dX5_worst_10 : decode cX5_worst 10 = .ok (.bipush (-2), 2) := by decide +kernel
theorem dX5_worst_12 : decode cX5_worst 12 = .ok (.ireturn, 1) := by decide +kernel
theorem dX5_worst_13 : decode cX5_worst 13 = .ok (.iconst 0, 1) := by decide +kernel
theorem dX5_worst_14 : decode cX5_worst 14 = .ok (.istore_n 1, 1) := by decide +kernel
theorem dX5_worst_15 : decode cX5_worst 15 = .ok (.aload_n 0, 1) := by decide +kernel
theorem dX5_worst_16 : decode cX5_worst 16 = .ok (.getfield 37, 3) := by decide +kernel
theorem dX5_worst_19 : decode cX5_worst 19 = .ok (.invokevirtual 155, 3) := by decide +kernel
theorem dX5_worst_22 : decode cX5_worst 22 = .ok (.istore_n 2, 1) := by decide +kernel
theorem dX5_worst_23 : decode cX5_worst 23 = .ok (.iconst 0, 1) := by decide +kernel
theorem dX5_worst_24 : decode cX5_worst 24 = .ok (.istore_n 3, 1) := by decide +kernel
theorem dX5_worst_25 : decode cX5_worst 25 = .ok (.iload_n 3, 1) := by decide +kernel
theorem dX5_worst_26 : decode cX5_worst 26 = .ok (.aload_n 0, 1) := by decide +kernel
theorem dX5_worst_27 : decode cX5_worst 27 = .ok (.getfield 12, 3) := by decide +kernel
theorem dX5_worst_30 : decode cX5_worst 30 = .ok (.getfield 84, 3) := by decide +kernel
theorem dX5_worst_33 : decode cX5_worst 33 = .ok (.if_icmp .ge 34, 3) := by decide +kernel
theorem dX5_worst_36 : decode cX5_worst 36 = .ok (.iload_n 2, 1) := by decide +kernel
theorem dX5_worst_37 : decode cX5_worst 37 = .ok (.bipush 41, 2) := by decide +kernel
theorem dX5_worst_39 : decode cX5_worst 39 = .ok (.if_icmp .ge 28, 3) := by decide +kernel
theorem dX5_worst_42 : decode cX5_worst 42 = .ok (.aload_n 0, 1) := by decide +kernel
theorem dX5_worst_43 : decode cX5_worst 43 = .ok (.iload_n 3, 1) := by decide +kernel
theorem dX5_worst_44 : decode cX5_worst 44 = .ok (.iload_n 2, 1) := by decide +kernel
theorem dX5_worst_45 : decode cX5_worst 45 = .ok (.invokevirtual 167, 3) := by decide +kernel
theorem dX5_worst_48 : decode cX5_worst 48 = .ok (.istore 4, 2) := by decide +kernel
theorem dX5_worst_50 : decode cX5_worst 50 = .ok (.iload 4, 2) := by decide +kernel
theorem dX5_worst_52 : decode cX5_worst 52 = .ok (.iload_n 2, 1) := by decide +kernel
theorem dX5_worst_53 : decode cX5_worst 53 = .ok (.if_icmp .le 8, 3) := by decide +kernel
theorem dX5_worst_56 : decode cX5_worst 56 = .ok (.iload 4, 2) := by decide +kernel
theorem dX5_worst_58 : decode cX5_worst 58 = .ok (.istore_n 2, 1) := by decide +kernel
theorem dX5_worst_59 : decode cX5_worst 59 = .ok (.iload_n 3, 1) := by decide +kernel
theorem dX5_worst_60 : decode cX5_worst 60 = .ok (.istore_n 1, 1) := by decide +kernel
theorem dX5_worst_61 : decode cX5_worst 61 = .ok (.iinc 3 1, 3) := by decide +kernel
theorem dX5_worst_64 : decode cX5_worst 64 = .ok (.goto (-39), 3) := by decide +kernel
theorem dX5_worst_67 : decode cX5_worst 67 = .ok (.iload_n 1, 1) := by decide +kernel
theorem dX5_worst_68 : decode cX5_worst 68 = .ok (.ireturn, 1) := by decide +kernel
theorem dX5_lacks_0 : decode cX5_lacks 0 = .ok (.iload_n 1, 1) := by decide +kernel
theorem dX5_lacks_1 : decode cX5_lacks 1 = .ok (.invokestatic 149, 3) := by decide +kernel
theorem dX5_lacks_4 : decode cX5_lacks 4 = .ok (.ifCond .eq 14, 3) := by decide +kernel
theorem dX5_lacks_7 : decode cX5_lacks 7 = .ok (.aload_n 0, 1) := by decide +kernel
theorem dX5_lacks_8 : decode cX5_lacks 8 = .ok (.getfield 12, 3) := by decide +kernel
theorem dX5_lacks_11 : decode cX5_lacks 11 = .ok (.iload_n 2, 1) := by decide +kernel
theorem dX5_lacks_12 : decode cX5_lacks 12 = .ok (.invokevirtual 129, 3) := by decide +kernel
theorem dX5_lacks_15 : decode cX5_lacks 15 = .ok (.ifCond .ne 6, 3) := by decide +kernel
