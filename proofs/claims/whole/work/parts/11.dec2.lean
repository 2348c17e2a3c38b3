theorem dX6_init_1 : decode cX6_init 1 = .ok (.invokespecial 3, 3) := by decide +kernel
theorem dX6_init_4 : decode cX6_init 4 = .ok (.aload_n 0, 1) := by decide +kernel
theorem dX6_init_5 : decode cX6_init 5 = .ok (.aload_n 1, 1) := by decide +kernel
theorem dX6_init_6 : decode cX6_init 6 = .ok (.putfield 9, 3) := by decide +kernel
theorem dX6_init_9 : decode cX6_init 9 = .ok (.aload_n 0, 1) := by decide +kernel
theorem dX6_init_10 : decode cX6_init 10 = .ok (.new 15, 3) := by decide +kernel
theorem dX6_init_13 : decode cX6_init 13 = .ok (.dup, 1) := by decide +kernel
theorem dX6_init_14 : decode cX6_init 14 = .ok (.invokespecial 17, 3) := by decide +kernel
theorem dX6_init_17 : decode cX6_init 17 = .ok (.putfield 18, 3) := by decide +kernel
theorem dX6_init_20 : decode cX6_init 20 = .ok (.aload_n 0, 1) := by decide +kernel
theorem dX6_init_21 : decode cX6_init 21 = .ok (.iconst (-1), 1) := by decide +kernel
theorem dX6_init_22 : decode cX6_init 22 = .ok (.putfield 22, 3) := by decide +kernel
theorem dX6_init_25 : decode cX6_init 25 = .ok (.return_, 1) := by decide +kernel
theorem dX6_read_0 : decode cX6_read 0 = .ok (.aload_n 0, 1) := by decide +kernel
theorem dX6_read_1 : decode cX6_read 1 = .ok (.getfield 18, 3) := by decide +kernel
theorem dX6_read_4 : decode cX6_read 4 = .ok (.invokevirtual 26, 3) := by decide +kernel
theorem dX6_read_7 : decode cX6_read 7 = .ok (.aload_n 0, 1) := by decide +kernel
theorem dX6_read_8 : decode cX6_read 8 = .ok (.getfield 9, 3) := by decide +kernel
theorem dX6_read_11 : decode cX6_read 11 = .ok (.invokevirtual 29, 3) := by decide +kernel
theorem dX6_read_14 : decode cX6_read 14 = .ok (.aload_n 0, 1) := by decide +kernel
theorem dX6_read_15 : decode cX6_read 15 = .ok (.aload_n 0, 1) := by decide +kernel
theorem dX6_read_16 : decode cX6_read 16 = .ok (.getfield 9, 3) := by decide +kernel
theorem dX6_read_19 : decode cX6_read 19 = .ok (.ldc 34, 2) := by decide +kernel
theorem dX6_read_21 : decode cX6_read 21 = .ok (.invokevirtual 36, 3) := by decide +kernel
theorem dX6_read_24 : decode cX6_read 24 = .ok (.putfield 22, 3) := by decide +kernel
theorem dX6_read_27 : decode cX6_read 27 = .ok (.aload_n 0, 1) := by decide +kernel
theorem dX6_read_28 : decode cX6_read 28 = .ok (.getfield 22, 3) := by decide +kernel
theorem dX6_read_31 : decode cX6_read 31 = .ok (.iconst (-1), 1) := by decide +kernel
theorem dX6_read_32 : decode cX6_read 32 = .ok (.if_icmp .ne 11, 3) := by decide +kernel
theorem dX6_read_35 : decode cX6_read 35 = .ok (.aload_n 0, 1) := by decide +kernel
theorem dX6_read_36 : decode cX6_read 36 = .ok (.getfield 9, 3) := by decide +kernel
theorem dX6_read_39 : decode cX6_read 39 = .ok (.invokevirtual 40, 3) := by decide +kernel
theorem dX6_read_42 : decode cX6_read 42 = .ok (.ireturn, 1) := by decide +kernel
theorem dX6_read_43 : decode cX6_read 43 = .ok (.aload_n 0, 1) := by decide +kernel
theorem dX6_read_44 : decode cX6_read 44 = .ok (.getfield 9, 3) := by decide +kernel
theorem dX6_read_47 : decode cX6_read 47 = .ok (.invokevirtual 44, 3) := by decide +kernel
theorem dX6_read_50 : decode cX6_read 50 = .ok (.aload_n 0, 1) := by decide +kernel
theorem dX6_read_51 : decode cX6_read 51 = .ok (.getfield 22, 3) := by decide +kernel
theorem dX6_read_54 : decode cX6_read 54 = .ok (.iconst 2, 1) := by decide +kernel
theorem dX6_read_55 : decode cX6_read 55 = .ok (.if_icmp .gt 11, 3) := by decide +kernel
theorem dX6_read_58 : decode cX6_read 58 = .ok (.aload_n 0, 1) := by decide +kernel
theorem dX6_read_59 : decode cX6_read 59 = .ok (.iconst 0, 1) := by decide +kernel
theorem dX6_read_60 : decode cX6_read 60 = .ok (.invokevirtual 47, 3) := by decide +kernel
theorem dX6_read_63 : decode cX6_read 63 = .ok (.goto 8, 3) := by decide +kernel
theorem dX6_read_66 : decode cX6_read 66 = .ok (.aload_n 0, 1) := by decide +kernel
theorem dX6_read_67 : decode cX6_read 67 = .ok (.iconst 0, 1) := by decide +kernel
theorem dX6_read_68 : decode cX6_read 68 = .ok (.invokevirtual 51, 3) := by decide +kernel
theorem dX6_read_71 : decode cX6_read 71 = .ok (.istore_n 1, 1) := by decide +kernel
theorem dX6_read_72 : decode cX6_read 72 = .ok (.iload_n 1, 1) := by decide +kernel
theorem dX6_read_73 : decode cX6_read 73 = .ok (.ifCond .eq 27, 3) := by decide +kernel
theorem dX6_read_76 : decode cX6_read 76 = .ok (.aload_n 0, 1) := by decide +kernel
theorem dX6_read_77 : decode cX6_read 77 = .ok (.getfield 9, 3) := by decide +kernel
theorem dX6_read_80 : decode cX6_read 80 = .ok (.getfield 54, 3) := by decide +kernel
theorem dX6_read_83 : decode cX6_read 83 = .ok (.ifCond .eq 13, 3) := by decide +kernel
theorem dX6_read_86 : decode cX6_read 86 = .ok (.aload_n 0, 1) := by decide +kernel
theorem dX6_read_87 : decode cX6_read 87 = .ok (.getfield 9, 3) := by decide +kernel
theorem dX6_read_90 : decode cX6_read 90 = .ok (.invokevirtual 40, 3) := by decide +kernel
theorem dX6_read_93 : decode cX6_read 93 = .ok (.ifCond .eq 7, 3) := by decide +kernel
theorem dX6_read_96 : decode cX6_read 96 = .ok (.iconst 1, 1) := by decide +kernel
theorem dX6_read_97 : decode cX6_read 97 = .ok (.goto 4, 3) := by decide +kernel
theorem dX6_read_100 : decode cX6_read 100 = .ok (.iconst 0, 1) := by decide +kernel
theorem dX6_read_101 : decode cX6_read 101 = .ok (.ireturn, 1) := by decide +kernel
theorem dX6_deeper_0 : decode cX6_deeper 0 = .ok (.iload_n 1, 1) := by decide +kernel
theorem dX6_deeper_1 : decode cX6_deeper 1 = .ok (.bipush 6, 2) := by decide +kernel
theorem dX6_deeper_3 : decode cX6_deeper 3 = .ok (.if_icmp .lt 21, 3) := by decide +kernel
theorem dX6_deeper_6 : decode cX6_deeper 6 = .ok (.aload_n 0, 1) := by decide +kernel
theorem dX6_deeper_7 : decode cX6_deeper 7 = .ok (.getfield 9, 3) := by decide +kernel
theorem dX6_deeper_10 : decode cX6_deeper 10 = .ok (.iconst 4, 1) := by decide +kernel
theorem dX6_deeper_11 : decode cX6_deeper 11 = .ok (.aload_n 0, 1) := by decide +kernel
theorem dX6_deeper_12 : decode cX6_deeper 12 = .ok (.getfield 9, 3) := by decide +kernel
theorem dX6_deeper_15 : decode cX6_deeper 15 = .ok (.getfield 57, 3) := by decide +kernel
theorem dX6_deeper_18 : decode cX6_deeper 18 = .ok (.invokevirtual 60, 3) := by decide +kernel
theorem dX6_deeper_21 : decode cX6_deeper 21 = .ok (.ifCond .eq 7, 3) := by decide +kernel
theorem dX6_deeper_24 : decode cX6_deeper 24 = .ok (.iconst 1, 1) := by decide +kernel
theorem dX6_deeper_25 : decode cX6_deeper 25 = .ok (.goto 4, 3) := by decide +kernel
theorem dX6_deeper_28 : decode cX6_deeper 28 = .ok (.iconst 0, 1) := by decide +kernel
theorem dX6_deeper_29 : decode cX6_deeper 29 = .ok (.ireturn, 1) := by decide +kernel
theorem dX6_takeTest_0 : decode cX6_takeTest 0 = .ok (.aload_n 0, 1) := by decide +kernel
theorem dX6_takeTest_1 : decode cX6_takeTest 1 = .ok (.iload_n 1, 1) := by decide +kernel
theorem dX6_takeTest_2 : decode cX6_takeTest 2 = .ok (.invokevirtual 64, 3) := by decide +kernel
theorem dX6_takeTest_5 : decode cX6_takeTest 5 = .ok (.ifCond .ne 5, 3) := by decide +kernel
theorem dX6_takeTest_8 : decode cX6_takeTest 8 = .ok (.iconst 0, 1) := by decide +kernel
theorem dX6_takeTest_9 : decode cX6_takeTest 9 = .ok (.ireturn, 1) := by decide +kernel
theorem dX6_takeTest_10 : decode cX6_takeTest 10 = .ok (.iconst 0, 1) := by decide +kernel
theorem dX6_takeTest_11 : decode cX6_takeTest 11 = .ok (.istore_n 2, 1) := by decide +kernel
theorem dX6_takeTest_12 : decode cX6_takeTest 12 = .ok (.iload_n 2, 1) := by decide +kernel
theorem dX6_takeTest_13 : decode cX6_takeTest 13 = .ok (.sipush 1600, 3) := by decide +kernel
theorem dX6_takeTest_16 : decode cX6_takeTest 16 = .ok (.if_icmp .ge 48, 3) := by decide +kernel
theorem dX6_takeTest_19 : decode cX6_takeTest 19 = .ok (.aload_n 0, 1) := by decide +kernel
theorem dX6_takeTest_20 : decode cX6_takeTest 20 = .ok (.getfield 9, 3) := by decide +kernel
theorem dX6_takeTest_23 : decode cX6_takeTest 23 = .ok (.ldc 67, 2) := by decide +kernel
theorem dX6_takeTest_25 : decode cX6_takeTest 25 = .ok (.invokevirtual 36, 3) := by decide +kernel
theorem dX6_takeTest_28 : decode cX6_takeTest 28 = .ok (.ifCond .ne 36, 3) := by decide +kernel
theorem dX6_takeTest_31 : decode cX6_takeTest 31 = .ok (.aload_n 0, 1) := by decide +kernel
theorem dX6_takeTest_32 : decode cX6_takeTest 32 = .ok (.getfield 9, 3) := by decide +kernel
theorem dX6_takeTest_35 : decode cX6_takeTest 35 = .ok (.invokevirtual 44, 3) := by decide +kernel
theorem dX6_takeTest_38 : decode cX6_takeTest 38 = .ok (.aload_n 0, 1) := by decide +kernel
theorem dX6_takeTest_39 : decode cX6_takeTest 39 = .ok (.iload_n 1, 1) := by decide +kernel
theorem dX6_takeTest_40 : decode cX6_takeTest 40 = .ok (.invokevirtual 64, 3) := by decide +kernel
theorem dX6_takeTest_43 : decode cX6_takeTest 43 = .ok (.ifCond .ne 5, 3) := by decide +kernel
theorem dX6_takeTest_46 : decode cX6_takeTest 46 = .ok (.iconst 0, 1) := by decide +kernel
theorem dX6_takeTest_47 : decode cX6_takeTest 47 = .ok (.ireturn, 1) := by decide +kernel
theorem dX6_takeTest_48 : decode cX6_takeTest 48 = .ok (.aload_n 0, 1) := by decide +kernel
theorem dX6_takeTest_49 : decode cX6_takeTest 49 = .ok (.getfield 18, 3) := by decide +kernel
theorem dX6_takeTest_52 : decode cX6_takeTest 52 = .ok (.bipush 18, 2) := by decide +kernel
theorem dX6_takeTest_54 : decode cX6_takeTest 54 = .ok (.iconst 0, 1) := by decide +kernel
theorem dX6_takeTest_55 : decode cX6_takeTest 55 = .ok (.invokevirtual 69, 3) := by decide +kernel
theorem dX6_takeTest_58 : decode cX6_takeTest 58 = .ok (.iinc 2 1, 3) := by decide +kernel
theorem dX6_takeTest_61 : decode cX6_takeTest 61 = .ok (.goto (-49), 3) := by decide +kernel
theorem dX6_takeTest_64 : decode cX6_takeTest 64 = .ok (.iconst 1, 1) := by decide +kernel
theorem dX6_takeTest_65 : decode cX6_takeTest 65 = .ok (.ireturn, 1) := by decide +kernel
theorem dX6_takeBoth_0 : decode cX6_takeBoth 0 = .ok (.aload_n 0, 1) := by decide +kernel
theorem dX6_takeBoth_1 : decode cX6_takeBoth 1 = .ok (.iload_n 1, 1) := by decide +kernel
theorem dX6_takeBoth_2 : decode cX6_takeBoth 2 = .ok (.invokevirtual 73, 3) := by decide +kernel
theorem dX6_takeBoth_5 : decode cX6_takeBoth 5 = .ok (.ifCond .ne 5, 3) := by decide +kernel
theorem dX6_takeBoth_8 : decode cX6_takeBoth 8 = .ok (.iconst 0, 1) := by decide +kernel
theorem dX6_takeBoth_9 : decode cX6_takeBoth 9 = .ok (.ireturn, 1) := by decide +kernel
theorem dX6_takeBoth_10 : decode cX6_takeBoth 10 = .ok (.iconst 0, 1) := by decide +kernel
theorem dX6_takeBoth_11 : decode cX6_takeBoth 11 = .ok (.istore_n 2, 1) := by decide +kernel
theorem dX6_takeBoth_12 : decode cX6_takeBoth 12 = .ok (.iload_n 2, 1) := by decide +kernel
theorem dX6_takeBoth_13 : decode cX6_takeBoth 13 = .ok (.sipush 1600, 3) := by decide +kernel
theorem dX6_takeBoth_16 : decode cX6_takeBoth 16 = .ok (.if_icmp .ge 48, 3) := by decide +kernel
theorem dX6_takeBoth_19 : decode cX6_takeBoth 19 = .ok (.aload_n 0, 1) := by decide +kernel
theorem dX6_takeBoth_20 : decode cX6_takeBoth 20 = .ok (.getfield 9, 3) := by decide +kernel
theorem dX6_takeBoth_23 : decode cX6_takeBoth 23 = .ok (.ldc 76, 2) := by decide +kernel
theorem dX6_takeBoth_25 : decode cX6_takeBoth 25 = .ok (.invokevirtual 36, 3) := by decide +kernel
theorem dX6_takeBoth_28 : decode cX6_takeBoth 28 = .ok (.ifCond .ne 36, 3) := by decide +kernel
theorem dX6_takeBoth_31 : decode cX6_takeBoth 31 = .ok (.aload_n 0, 1) := by decide +kernel
theorem dX6_takeBoth_32 : decode cX6_takeBoth 32 = .ok (.getfield 9, 3) := by decide +kernel
theorem dX6_takeBoth_35 : decode cX6_takeBoth 35 = .ok (.invokevirtual 44, 3) := by decide +kernel
theorem dX6_takeBoth_38 : decode cX6_takeBoth 38 = .ok (.aload_n 0, 1) := by decide +kernel
theorem dX6_takeBoth_39 : decode cX6_takeBoth 39 = .ok (.iload_n 1, 1) := by decide +kernel
theorem dX6_takeBoth_40 : decode cX6_takeBoth 40 = .ok (.invokevirtual 73, 3) := by decide +kernel
theorem dX6_takeBoth_43 : decode cX6_takeBoth 43 = .ok (.ifCond .ne 5, 3) := by decide +kernel
theorem dX6_takeBoth_46 : decode cX6_takeBoth 46 = .ok (.iconst 0, 1) := by decide +kernel
theorem dX6_takeBoth_47 : decode cX6_takeBoth 47 = .ok (.ireturn, 1) := by decide +kernel
theorem dX6_takeBoth_48 : decode cX6_takeBoth 48 = .ok (.aload_n 0, 1) := by decide +kernel
theorem dX6_takeBoth_49 : decode cX6_takeBoth 49 = .ok (.getfield 18, 3) := by decide +kernel
theorem dX6_takeBoth_52 : decode cX6_takeBoth 52 = .ok (.bipush 17, 2) := by decide +kernel
theorem dX6_takeBoth_54 : decode cX6_takeBoth 54 = .ok (.iconst 0, 1) := by decide +kernel
theorem dX6_takeBoth_55 : decode cX6_takeBoth 55 = .ok (.invokevirtual 69, 3) := by decide +kernel
theorem dX6_takeBoth_58 : decode cX6_takeBoth 58 = .ok (.iinc 2 1, 3) := by decide +kernel
theorem dX6_takeBoth_61 : decode cX6_takeBoth 61 = .ok (.goto (-49), 3) := by decide +kernel
theorem dX6_takeBoth_64 : decode cX6_takeBoth 64 = .ok (.iconst 1, 1) := by decide +kernel
theorem dX6_takeBoth_65 : decode cX6_takeBoth 65 = .ok (.ireturn, 1) := by decide +kernel
theorem dX6_takeFact_0 : decode cX6_takeFact 0 = .ok (.aload_n 0, 1) := by decide +kernel
theorem dX6_takeFact_1 : decode cX6_takeFact 1 = .ok (.getfield 9, 3) := by decide +kernel
theorem dX6_takeFact_4 : decode cX6_takeFact 4 = .ok (.ldc 78, 2) := by decide +kernel
theorem dX6_takeFact_6 : decode cX6_takeFact 6 = .ok (.invokevirtual 36, 3) := by decide +kernel
theorem dX6_takeFact_9 : decode cX6_takeFact 9 = .ok (.ifCond .ne 44, 3) := by decide +kernel
theorem dX6_takeFact_12 : decode cX6_takeFact 12 = .ok (.aload_n 0, 1) := by decide +kernel
theorem dX6_takeFact_13 : decode cX6_takeFact 13 = .ok (.iload_n 1, 1) := by decide +kernel
theorem dX6_takeFact_14 : decode cX6_takeFact 14 = .ok (.invokevirtual 80, 3) := by decide +kernel
theorem dX6_takeFact_17 : decode cX6_takeFact 17 = .ok (.ifCond .ne 5, 3) := by decide +kernel
theorem dX6_takeFact_20 : decode cX6_takeFact 20 = .ok (.iconst 0, 1) := by decide +kernel
theorem dX6_takeFact_21 : decode cX6_takeFact 21 = .ok (.ireturn, 1) := by decide +kernel
theorem dX6_takeFact_22 : decode cX6_takeFact 22 = .ok (.aload_n 0, 1) := by decide +kernel
theorem dX6_takeFact_23 : decode cX6_takeFact 23 = .ok (.getfield 9, 3) := by decide +kernel
theorem dX6_takeFact_26 : decode cX6_takeFact 26 = .ok (.invokevirtual 44, 3) := by decide +kernel
theorem dX6_takeFact_29 : decode cX6_takeFact 29 = .ok (.aload_n 0, 1) := by decide +kernel
theorem dX6_takeFact_30 : decode cX6_takeFact 30 = .ok (.iload_n 1, 1) := by decide +kernel
theorem dX6_takeFact_31 : decode cX6_takeFact 31 = .ok (.iconst 1, 1) := by decide +kernel
theorem dX6_takeFact_32 : decode cX6_takeFact 32 = .ok (.iadd, 1) := by decide +kernel
theorem dX6_takeFact_33 : decode cX6_takeFact 33 = .ok (.invokevirtual 73, 3) := by decide +kernel
theorem dX6_takeFact_36 : decode cX6_takeFact 36 = .ok (.ifCond .ne 5, 3) := by decide +kernel
theorem dX6_takeFact_39 : decode cX6_takeFact 39 = .ok (.iconst 0, 1) := by decide +kernel
theorem dX6_takeFact_40 : decode cX6_takeFact 40 = .ok (.ireturn, 1) := by decide +kernel
theorem dX6_takeFact_41 : decode cX6_takeFact 41 = .ok (.aload_n 0, 1) := by decide +kernel
theorem dX6_takeFact_42 : decode cX6_takeFact 42 = .ok (.getfield 18, 3) := by decide +kernel
theorem dX6_takeFact_45 : decode cX6_takeFact 45 = .ok (.bipush 19, 2) := by decide +kernel
theorem dX6_takeFact_47 : decode cX6_takeFact 47 = .ok (.iconst 0, 1) := by decide +kernel
theorem dX6_takeFact_48 : decode cX6_takeFact 48 = .ok (.invokevirtual 69, 3) := by decide +kernel
theorem dX6_takeFact_51 : decode cX6_takeFact 51 = .ok (.iconst 1, 1) := by decide +kernel
theorem dX6_takeFact_52 : decode cX6_takeFact 52 = .ok (.ireturn, 1) := by decide +kernel
theorem dX6_takeFact_53 : decode cX6_takeFact 53 = .ok (.aload_n 0, 1) := by decide +kernel
theorem dX6_takeFact_54 : decode cX6_takeFact 54 = .ok (.getfield 9, 3) := by decide +kernel
theorem dX6_takeFact_57 : decode cX6_takeFact 57 = .ok (.bipush 91, 2) := by decide +kernel
theorem dX6_takeFact_59 : decode cX6_takeFact 59 = .ok (.invokevirtual 83, 3) := by decide +kernel
theorem dX6_takeFact_62 : decode cX6_takeFact 62 = .ok (.ifCond .eq 48, 3) := by decide +kernel
theorem dX6_takeFact_65 : decode cX6_takeFact 65 = .ok (.aload_n 0, 1) := by decide +kernel
theorem dX6_takeFact_66 : decode cX6_takeFact 66 = .ok (.iload_n 1, 1) := by decide +kernel
theorem dX6_takeFact_67 : decode cX6_takeFact 67 = .ok (.invokevirtual 80, 3) := by decide +kernel
theorem dX6_takeFact_70 : decode cX6_takeFact 70 = .ok (.ifCond .ne 5, 3) := by decide +kernel
theorem dX6_takeFact_73 : decode cX6_takeFact 73 = .ok (.iconst 0, 1) := by decide +kernel
theorem dX6_takeFact_74 : decode cX6_takeFact 74 = .ok (.ireturn, 1) := by decide +kernel
theorem dX6_takeFact_75 : decode cX6_takeFact 75 = .ok (.aload_n 0, 1) := by decide +kernel
theorem dX6_takeFact_76 : decode cX6_takeFact 76 = .ok (.getfield 9, 3) := by decide +kernel
theorem dX6_takeFact_79 : decode cX6_takeFact 79 = .ok (.invokevirtual 44, 3) := by decide +kernel
theorem dX6_takeFact_82 : decode cX6_takeFact 82 = .ok (.aload_n 0, 1) := by decide +kernel
theorem dX6_takeFact_83 : decode cX6_takeFact 83 = .ok (.iload_n 1, 1) := by decide +kernel
theorem dX6_takeFact_84 : decode cX6_takeFact 84 = .ok (.iconst 1, 1) := by decide +kernel
theorem dX6_takeFact_85 : decode cX6_takeFact 85 = .ok (.iadd, 1) := by decide +kernel
theorem dX6_takeFact_86 : decode cX6_takeFact 86 = .ok (.invokevirtual 47, 3) := by decide +kernel
theorem dX6_takeFact_89 : decode cX6_takeFact 89 = .ok (.ifCond .eq 19, 3) := by decide +kernel
theorem dX6_takeFact_92 : decode cX6_takeFact 92 = .ok (.aload_n 0, 1) := by decide +kernel
theorem dX6_takeFact_93 : decode cX6_takeFact 93 = .ok (.getfield 9, 3) := by decide +kernel
theorem dX6_takeFact_96 : decode cX6_takeFact 96 = .ok (.bipush 93, 2) := by decide +kernel
theorem dX6_takeFact_98 : decode cX6_takeFact 98 = .ok (.invokevirtual 87, 3) := by decide +kernel
theorem dX6_takeFact_101 : decode cX6_takeFact 101 = .ok (.ifCond .eq 7, 3) := by decide +kernel
theorem dX6_takeFact_104 : decode cX6_takeFact 104 = .ok (.iconst 1, 1) := by decide +kernel
theorem dX6_takeFact_105 : decode cX6_takeFact 105 = .ok (.goto 4, 3) := by decide +kernel
theorem dX6_takeFact_108 : decode cX6_takeFact 108 = .ok (.iconst 0, 1) := by decide +kernel
theorem dX6_takeFact_109 : decode cX6_takeFact 109 = .ok (.ireturn, 1) := by decide +kernel
theorem dX6_takeFact_110 : decode cX6_takeFact 110 = .ok (.aload_n 0, 1) := by decide +kernel
theorem dX6_takeFact_111 : decode cX6_takeFact 111 = .ok (.getfield 9, 3) := by decide +kernel
theorem dX6_takeFact_114 : decode cX6_takeFact 114 = .ok (.ldc 90, 2) := by decide +kernel
theorem dX6_takeFact_116 : decode cX6_takeFact 116 = .ok (.invokevirtual 36, 3) := by decide +kernel
theorem dX6_takeFact_119 : decode cX6_takeFact 119 = .ok (.ifCond .ne 22, 3) := by decide +kernel
theorem dX6_takeFact_122 : decode cX6_takeFact 122 = .ok (.aload_n 0, 1) := by decide +kernel
theorem dX6_takeFact_123 : decode cX6_takeFact 123 = .ok (.getfield 9, 3) := by decide +kernel
theorem dX6_takeFact_126 : decode cX6_takeFact 126 = .ok (.invokevirtual 44, 3) := by decide +kernel
theorem dX6_takeFact_129 : decode cX6_takeFact 129 = .ok (.aload_n 0, 1) := by decide +kernel
theorem dX6_takeFact_130 : decode cX6_takeFact 130 = .ok (.getfield 18, 3) := by decide +kernel
theorem dX6_takeFact_133 : decode cX6_takeFact 133 = .ok (.bipush 20, 2) := by decide +kernel
theorem dX6_takeFact_135 : decode cX6_takeFact 135 = .ok (.iconst 1, 1) := by decide +kernel
theorem dX6_takeFact_136 : decode cX6_takeFact 136 = .ok (.invokevirtual 69, 3) := by decide +kernel
theorem dX6_takeFact_139 : decode cX6_takeFact 139 = .ok (.iconst 1, 1) := by decide +kernel
theorem dX6_takeFact_140 : decode cX6_takeFact 140 = .ok (.ireturn, 1) := by decide +kernel
theorem dX6_takeFact_141 : decode cX6_takeFact 141 = .ok (.aload_n 0, 1) := by decide +kernel
theorem dX6_takeFact_142 : decode cX6_takeFact 142 = .ok (.iload_n 1, 1) := by decide +kernel
theorem dX6_takeFact_143 : decode cX6_takeFact 143 = .ok (.invokevirtual 92, 3) := by decide +kernel
theorem dX6_takeFact_146 : decode cX6_takeFact 146 = .ok (.ireturn, 1) := by decide +kernel
theorem dX6_takeComparison_0 : decode cX6_takeComparison 0 = .ok (.aload_n 0, 1) := by decide +kernel
theorem dX6_takeComparison_1 : decode cX6_takeComparison 1 = .ok (.iload_n 1, 1) := by decide +kernel
theorem dX6_takeComparison_2 : decode cX6_takeComparison 2 = .ok (.invokevirtual 51, 3) := by decide +kernel
theorem dX6_takeComparison_5 : decode cX6_takeComparison 5 = .ok (.ifCond .ne 5, 3) := by decide +kernel
theorem dX6_takeComparison_8 : decode cX6_takeComparison 8 = .ok (.iconst 0, 1) := by decide +kernel
theorem dX6_takeComparison_9 : decode cX6_takeComparison 9 = .ok (.ireturn, 1) := by decide +kernel
theorem dX6_takeComparison_10 : decode cX6_takeComparison 10 = .ok (.aload_n 0, 1) := by decide +kernel
theorem dX6_takeComparison_11 : decode cX6_takeComparison 11 = .ok (.getfield 9, 3) := by decide +kernel
theorem dX6_takeComparison_14 : decode cX6_takeComparison 14 = .ok (.bipush 60, 2) := by decide +kernel
theorem dX6_takeComparison_16 : decode cX6_takeComparison 16 = .ok (.invokevirtual 83, 3) := by decide +kernel
theorem dX6_takeComparison_19 : decode cX6_takeComparison 19 = .ok (.ifCond .eq 8, 3) := by decide +kernel
theorem dX6_takeComparison_22 : decode cX6_takeComparison 22 = .ok (.bipush 14, 2) := by decide +kernel
theorem dX6_takeComparison_24 : decode cX6_takeComparison 24 = .ok (.goto 38, 3) := by decide +kernel
theorem dX6_takeComparison_27 : decode cX6_takeComparison 27 = .ok (.aload_n 0, 1) := by decide +kernel
theorem dX6_takeComparison_28 : decode cX6_takeComparison 28 = .ok (.getfield 9, 3) := by decide +kernel
theorem dX6_takeComparison_31 : decode cX6_takeComparison 31 = .ok (.bipush 62, 2) := by decide +kernel
theorem dX6_takeComparison_33 : decode cX6_takeComparison 33 = .ok (.invokevirtual 83, 3) := by decide +kernel
theorem dX6_takeComparison_36 : decode cX6_takeComparison 36 = .ok (.ifCond .eq 8, 3) := by decide +kernel
theorem dX6_takeComparison_39 : decode cX6_takeComparison 39 = .ok (.bipush 15, 2) := by decide +kernel
theorem dX6_takeComparison_41 : decode cX6_takeComparison 41 = .ok (.goto 21, 3) := by decide +kernel
theorem dX6_takeComparison_44 : decode cX6_takeComparison 44 = .ok (.aload_n 0, 1) := by decide +kernel
theorem dX6_takeComparison_45 : decode cX6_takeComparison 45 = .ok (.getfield 9, 3) := by decide +kernel
theorem dX6_takeComparison_48 : decode cX6_takeComparison 48 = .ok (.bipush 61, 2) := by decide +kernel
theorem dX6_takeComparison_50 : decode cX6_takeComparison 50 = .ok (.invokevirtual 83, 3) := by decide +kernel
theorem dX6_takeComparison_53 : decode cX6_takeComparison 53 = .ok (.ifCond .eq 8, 3) := by decide +kernel
theorem dX6_takeComparison_56 : decode cX6_takeComparison 56 = .ok (.bipush 16, 2) := by decide +kernel
theorem dX6_takeComparison_58 : decode cX6_takeComparison 58 = .ok (.goto 4, 3) := by decide +kernel
theorem dX6_takeComparison_61 : decode cX6_takeComparison 61 = .ok (.iconst (-1), 1) := by decide +kernel
theorem dX6_takeComparison_62 : decode cX6_takeComparison 62 = .ok (.istore_n 2, 1) := by decide +kernel
theorem dX6_takeComparison_63 : decode cX6_takeComparison 63 = .ok (.iload_n 2, 1) := by decide +kernel
theorem dX6_takeComparison_64 : decode cX6_takeComparison 64 = .ok (.iconst (-1), 1) := by decide +kernel
theorem dX6_takeComparison_65 : decode cX6_takeComparison 65 = .ok (.if_icmp .ne 11, 3) := by decide +kernel
theorem dX6_takeComparison_68 : decode cX6_takeComparison 68 = .ok (.aload_n 0, 1) := by decide +kernel
theorem dX6_takeComparison_69 : decode cX6_takeComparison 69 = .ok (.getfield 9, 3) := by decide +kernel
theorem dX6_takeComparison_72 : decode cX6_takeComparison 72 = .ok (.invokevirtual 40, 3) := by decide +kernel
theorem dX6_takeComparison_75 : decode cX6_takeComparison 75 = .ok (.ireturn, 1) := by decide +kernel
theorem dX6_takeComparison_76 : decode cX6_takeComparison 76 = .ok (.aload_n 0, 1) := by decide +kernel
theorem dX6_takeComparison_77 : decode cX6_takeComparison 77 = .ok (.getfield 9, 3) := by decide +kernel
theorem dX6_takeComparison_80 : decode cX6_takeComparison 80 = .ok (.invokevirtual 44, 3) := by decide +kernel
theorem dX6_takeComparison_83 : decode cX6_takeComparison 83 = .ok (.aload_n 0, 1) := by decide +kernel
theorem dX6_takeComparison_84 : decode cX6_takeComparison 84 = .ok (.iload_n 1, 1) := by decide +kernel
theorem dX6_takeComparison_85 : decode cX6_takeComparison 85 = .ok (.invokevirtual 51, 3) := by decide +kernel
theorem dX6_takeComparison_88 : decode cX6_takeComparison 88 = .ok (.ifCond .ne 5, 3) := by decide +kernel
theorem dX6_takeComparison_91 : decode cX6_takeComparison 91 = .ok (.iconst 0, 1) := by decide +kernel
theorem dX6_takeComparison_92 : decode cX6_takeComparison 92 = .ok (.ireturn, 1) := by decide +kernel
theorem dX6_takeComparison_93 : decode cX6_takeComparison 93 = .ok (.aload_n 0, 1) := by decide +kernel
theorem dX6_takeComparison_94 : decode cX6_takeComparison 94 = .ok (.getfield 18, 3) := by decide +kernel
theorem dX6_takeComparison_97 : decode cX6_takeComparison 97 = .ok (.iload_n 2, 1) := by decide +kernel
theorem dX6_takeComparison_98 : decode cX6_takeComparison 98 = .ok (.iconst 0, 1) := by decide +kernel
theorem dX6_takeComparison_99 : decode cX6_takeComparison 99 = .ok (.invokevirtual 69, 3) := by decide +kernel
theorem dX6_takeComparison_102 : decode cX6_takeComparison 102 = .ok (.iconst 1, 1) := by decide +kernel
theorem dX6_takeComparison_103 : decode cX6_takeComparison 103 = .ok (.ireturn, 1) := by decide +kernel
theorem dX6_takeSum_0 : decode cX6_takeSum 0 = .ok (.aload_n 0, 1) := by decide +kernel
theorem dX6_takeSum_1 : decode cX6_takeSum 1 = .ok (.iload_n 1, 1) := by decide +kernel
theorem dX6_takeSum_2 : decode cX6_takeSum 2 = .ok (.invokevirtual 95, 3) := by decide +kernel
theorem dX6_takeSum_5 : decode cX6_takeSum 5 = .ok (.ifCond .ne 5, 3) := by decide +kernel
theorem dX6_takeSum_8 : decode cX6_takeSum 8 = .ok (.iconst 0, 1) := by decide +kernel
theorem dX6_takeSum_9 : decode cX6_takeSum 9 = .ok (.ireturn, 1) := by decide +kernel
theorem dX6_takeSum_10 : decode cX6_takeSum 10 = .ok (.iconst 0, 1) := by decide +kernel
theorem dX6_takeSum_11 : decode cX6_takeSum 11 = .ok (.istore_n 2, 1) := by decide +kernel
theorem dX6_takeSum_12 : decode cX6_takeSum 12 = .ok (.iload_n 2, 1) := by decide +kernel
theorem dX6_takeSum_13 : decode cX6_takeSum 13 = .ok (.sipush 1600, 3) := by decide +kernel
theorem dX6_takeSum_16 : decode cX6_takeSum 16 = .ok (.if_icmp .ge 79, 3) := by decide +kernel
theorem dX6_takeSum_19 : decode cX6_takeSum 19 = .ok (.aload_n 0, 1) := by decide +kernel
theorem dX6_takeSum_20 : decode cX6_takeSum 20 = .ok (.getfield 9, 3) := by decide +kernel
theorem dX6_takeSum_23 : decode cX6_takeSum 23 = .ok (.bipush 43, 2) := by decide +kernel
theorem dX6_takeSum_25 : decode cX6_takeSum 25 = .ok (.invokevirtual 83, 3) := by decide +kernel
theorem dX6_takeSum_28 : decode cX6_takeSum 28 = .ok (.ifCond .ne 15, 3) := by decide +kernel
theorem dX6_takeSum_31 : decode cX6_takeSum 31 = .ok (.aload_n 0, 1) := by decide +kernel
theorem dX6_takeSum_32 : decode cX6_takeSum 32 = .ok (.getfield 9, 3) := by decide +kernel
theorem dX6_takeSum_35 : decode cX6_takeSum 35 = .ok (.bipush 45, 2) := by decide +kernel
theorem dX6_takeSum_37 : decode cX6_takeSum 37 = .ok (.invokevirtual 83, 3) := by decide +kernel
theorem dX6_takeSum_40 : decode cX6_takeSum 40 = .ok (.ifCond .eq 55, 3) := by decide +kernel
theorem dX6_takeSum_43 : decode cX6_takeSum 43 = .ok (.aload_n 0, 1) := by decide +kernel
theorem dX6_takeSum_44 : decode cX6_takeSum 44 = .ok (.getfield 9, 3) := by decide +kernel
theorem dX6_takeSum_47 : decode cX6_takeSum 47 = .ok (.bipush 43, 2) := by decide +kernel
theorem dX6_takeSum_49 : decode cX6_takeSum 49 = .ok (.invokevirtual 83, 3) := by decide +kernel
theorem dX6_takeSum_52 : decode cX6_takeSum 52 = .ok (.ifCond .eq 8, 3) := by decide +kernel
theorem dX6_takeSum_55 : decode cX6_takeSum 55 = .ok (.bipush 10, 2) := by decide +kernel
theorem dX6_takeSum_57 : decode cX6_takeSum 57 = .ok (.goto 5, 3) := by decide +kernel
theorem dX6_takeSum_60 : decode cX6_takeSum 60 = .ok (.bipush 11, 2) := by decide +kernel
theorem dX6_takeSum_62 : decode cX6_takeSum 62 = .ok (.istore_n 3, 1) := by decide +kernel
theorem dX6_takeSum_63 : decode cX6_takeSum 63 = .ok (.aload_n 0, 1) := by decide +kernel
theorem dX6_takeSum_64 : decode cX6_takeSum 64 = .ok (.getfield 9, 3) := by decide +kernel
theorem dX6_takeSum_67 : decode cX6_takeSum 67 = .ok (.invokevirtual 44, 3) := by decide +kernel
theorem dX6_takeSum_70 : decode cX6_takeSum 70 = .ok (.aload_n 0, 1) := by decide +kernel
theorem dX6_takeSum_71 : decode cX6_takeSum 71 = .ok (.iload_n 1, 1) := by decide +kernel
theorem dX6_takeSum_72 : decode cX6_takeSum 72 = .ok (.invokevirtual 95, 3) := by decide +kernel
theorem dX6_takeSum_75 : decode cX6_takeSum 75 = .ok (.ifCond .ne 5, 3) := by decide +kernel
theorem dX6_takeSum_78 : decode cX6_takeSum 78 = .ok (.iconst 0, 1) := by decide +kernel
theorem dX6_takeSum_79 : decode cX6_takeSum 79 = .ok (.ireturn, 1) := by decide +kernel
theorem dX6_takeSum_80 : decode cX6_takeSum 80 = .ok (.aload_n 0, 1) := by decide +kernel
theorem dX6_takeSum_81 : decode cX6_takeSum 81 = .ok (.getfield 18, 3) := by decide +kernel
theorem dX6_takeSum_84 : decode cX6_takeSum 84 = .ok (.iload_n 3, 1) := by decide +kernel
theorem dX6_takeSum_85 : decode cX6_takeSum 85 = .ok (.iconst 0, 1) := by decide +kernel
theorem dX6_takeSum_86 : decode cX6_takeSum 86 = .ok (.invokevirtual 69, 3) := by decide +kernel
theorem dX6_takeSum_89 : decode cX6_takeSum 89 = .ok (.iinc 2 1, 3) := by decide +kernel
theorem dX6_takeSum_92 : decode cX6_takeSum 92 = .ok (.goto (-80), 3) := by decide +kernel
theorem dX6_takeSum_95 : decode cX6_takeSum 95 = .ok (.iconst 1, 1) := by decide +kernel
theorem dX6_takeSum_96 : decode cX6_takeSum 96 = .ok (.ireturn, 1) := by decide +kernel
theorem dX6_takeProduct_0 : decode cX6_takeProduct 0 = .ok (.aload_n 0, 1) := by decide +kernel
theorem dX6_takeProduct_1 : decode cX6_takeProduct 1 = .ok (.iload_n 1, 1) := by decide +kernel
theorem dX6_takeProduct_2 : decode cX6_takeProduct 2 = .ok (.invokevirtual 98, 3) := by decide +kernel
theorem dX6_takeProduct_5 : decode cX6_takeProduct 5 = .ok (.ifCond .ne 5, 3) := by decide +kernel
theorem dX6_takeProduct_8 : decode cX6_takeProduct 8 = .ok (.iconst 0, 1) := by decide +kernel
theorem dX6_takeProduct_9 : decode cX6_takeProduct 9 = .ok (.ireturn, 1) := by decide +kernel
theorem dX6_takeProduct_10 : decode cX6_takeProduct 10 = .ok (.iconst 0, 1) := by decide +kernel
theorem dX6_takeProduct_11 : decode cX6_takeProduct 11 = .ok (.istore_n 2, 1) := by decide +kernel
theorem dX6_takeProduct_12 : decode cX6_takeProduct 12 = .ok (.iload_n 2, 1) := by decide +kernel
theorem dX6_takeProduct_13 : decode cX6_takeProduct 13 = .ok (.sipush 1600, 3) := by decide +kernel
theorem dX6_takeProduct_16 : decode cX6_takeProduct 16 = .ok (.if_icmp .ge 79, 3) := by decide +kernel
theorem dX6_takeProduct_19 : decode cX6_takeProduct 19 = .ok (.aload_n 0, 1) := by decide +kernel
theorem dX6_takeProduct_20 : decode cX6_takeProduct 20 = .ok (.getfield 9, 3) := by decide +kernel
theorem dX6_takeProduct_23 : decode cX6_takeProduct 23 = .ok (.bipush 42, 2) := by decide +kernel
theorem dX6_takeProduct_25 : decode cX6_takeProduct 25 = .ok (.invokevirtual 83, 3) := by decide +kernel
theorem dX6_takeProduct_28 : decode cX6_takeProduct 28 = .ok (.ifCond .ne 15, 3) := by decide +kernel
theorem dX6_takeProduct_31 : decode cX6_takeProduct 31 = .ok (.aload_n 0, 1) := by decide +kernel
theorem dX6_takeProduct_32 : decode cX6_takeProduct 32 = .ok (.getfield 9, 3) := by decide +kernel
theorem dX6_takeProduct_35 : decode cX6_takeProduct 35 = .ok (.bipush 47, 2) := by decide +kernel
theorem dX6_takeProduct_37 : decode cX6_takeProduct 37 = .ok (.invokevirtual 83, 3) := by decide +kernel
theorem dX6_takeProduct_40 : decode cX6_takeProduct 40 = .ok (.ifCond .eq 55, 3) := by decide +kernel
theorem dX6_takeProduct_43 : decode cX6_takeProduct 43 = .ok (.aload_n 0, 1) := by decide +kernel
theorem dX6_takeProduct_44 : decode cX6_takeProduct 44 = .ok (.getfield 9, 3) := by decide +kernel
theorem dX6_takeProduct_47 : decode cX6_takeProduct 47 = .ok (.bipush 42, 2) := by decide +kernel
theorem dX6_takeProduct_49 : decode cX6_takeProduct 49 = .ok (.invokevirtual 83, 3) := by decide +kernel
theorem dX6_takeProduct_52 : decode cX6_takeProduct 52 = .ok (.ifCond .eq 8, 3) := by decide +kernel
theorem dX6_takeProduct_55 : decode cX6_takeProduct 55 = .ok (.bipush 12, 2) := by decide +kernel
theorem dX6_takeProduct_57 : decode cX6_takeProduct 57 = .ok (.goto 5, 3) := by decide +kernel
theorem dX6_takeProduct_60 : decode cX6_takeProduct 60 = .ok (.bipush 13, 2) := by decide +kernel
theorem dX6_takeProduct_62 : decode cX6_takeProduct 62 = .ok (.istore_n 3, 1) := by decide +kernel
theorem dX6_takeProduct_63 : decode cX6_takeProduct 63 = .ok (.aload_n 0, 1) := by decide +kernel
theorem dX6_takeProduct_64 : decode cX6_takeProduct 64 = .ok (.getfield 9, 3) := by decide +kernel
theorem dX6_takeProduct_67 : decode cX6_takeProduct 67 = .ok (.invokevirtual 44, 3) := by decide +kernel
theorem dX6_takeProduct_70 : decode cX6_takeProduct 70 = .ok (.aload_n 0, 1) := by decide +kernel
theorem dX6_takeProduct_71 : decode cX6_takeProduct 71 = .ok (.iload_n 1, 1) := by decide +kernel
theorem dX6_takeProduct_72 : decode cX6_takeProduct 72 = .ok (.invokevirtual 98, 3) := by decide +kernel
theorem dX6_takeProduct_75 : decode cX6_takeProduct 75 = .ok (.ifCond .ne 5, 3) := by decide +kernel
theorem dX6_takeProduct_78 : decode cX6_takeProduct 78 = .ok (.iconst 0, 1) := by decide +kernel
theorem dX6_takeProduct_79 : decode cX6_takeProduct 79 = .ok (.ireturn, 1) := by decide +kernel
theorem dX6_takeProduct_80 : decode cX6_takeProduct 80 = .ok (.aload_n 0, 1) := by decide +kernel
theorem dX6_takeProduct_81 : decode cX6_takeProduct 81 = .ok (.getfield 18, 3) := by decide +kernel
theorem dX6_takeProduct_84 : decode cX6_takeProduct 84 = .ok (.iload_n 3, 1) := by decide +kernel
theorem dX6_takeProduct_85 : decode cX6_takeProduct 85 = .ok (.iconst 0, 1) := by decide +kernel
theorem dX6_takeProduct_86 : decode cX6_takeProduct 86 = .ok (.invokevirtual 69, 3) := by decide +kernel
theorem dX6_takeProduct_89 : decode cX6_takeProduct 89 = .ok (.iinc 2 1, 3) := by decide +kernel
theorem dX6_takeProduct_92 : decode cX6_takeProduct 92 = .ok (.goto (-80), 3) := by decide +kernel
theorem dX6_takeProduct_95 : decode cX6_takeProduct 95 = .ok (.iconst 1, 1) := by decide +kernel
theorem dX6_takeProduct_96 : decode cX6_takeProduct 96 = .ok (.ireturn, 1) := by decide +kernel
theorem dX6_takePart_0 : decode cX6_takePart 0 = .ok (.aload_n 0, 1) := by decide +kernel
theorem dX6_takePart_1 : decode cX6_takePart 1 = .ok (.getfield 9, 3) := by decide +kernel
theorem dX6_takePart_4 : decode cX6_takePart 4 = .ok (.getfield 54, 3) := by decide +kernel
theorem dX6_takePart_7 : decode cX6_takePart 7 = .ok (.iconst 2, 1) := by decide +kernel
theorem dX6_takePart_8 : decode cX6_takePart 8 = .ok (.if_icmp .ne 43, 3) := by decide +kernel
theorem dX6_takePart_11 : decode cX6_takePart 11 = .ok (.aload_n 0, 1) := by decide +kernel
theorem dX6_takePart_12 : decode cX6_takePart 12 = .ok (.getfield 9, 3) := by decide +kernel
theorem dX6_takePart_15 : decode cX6_takePart 15 = .ok (.iconst 0, 1) := by decide +kernel
theorem dX6_takePart_16 : decode cX6_takePart 16 = .ok (.sipush 9999, 3) := by decide +kernel
theorem dX6_takePart_19 : decode cX6_takePart 19 = .ok (.aload_n 0, 1) := by decide +kernel
theorem dX6_takePart_20 : decode cX6_takePart 20 = .ok (.getfield 9, 3) := by decide +kernel
theorem dX6_takePart_23 : decode cX6_takePart 23 = .ok (.getfield 57, 3) := by decide +kernel
theorem dX6_takePart_26 : decode cX6_takePart 26 = .ok (.invokevirtual 101, 3) := by decide +kernel
theorem dX6_takePart_29 : decode cX6_takePart 29 = .ok (.istore_n 2, 1) := by decide +kernel
theorem dX6_takePart_30 : decode cX6_takePart 30 = .ok (.aload_n 0, 1) := by decide +kernel
theorem dX6_takePart_31 : decode cX6_takePart 31 = .ok (.getfield 18, 3) := by decide +kernel
theorem dX6_takePart_34 : decode cX6_takePart 34 = .ok (.bipush 20, 2) := by decide +kernel
theorem dX6_takePart_36 : decode cX6_takePart 36 = .ok (.iload_n 2, 1) := by decide +kernel
theorem dX6_takePart_37 : decode cX6_takePart 37 = .ok (.invokevirtual 69, 3) := by decide +kernel
theorem dX6_takePart_40 : decode cX6_takePart 40 = .ok (.iload_n 2, 1) := by decide +kernel
theorem dX6_takePart_41 : decode cX6_takePart 41 = .ok (.iconst (-1), 1) := by decide +kernel
theorem dX6_takePart_42 : decode cX6_takePart 42 = .ok (.if_icmp .eq 7, 3) := by decide +kernel
theorem dX6_takePart_45 : decode cX6_takePart 45 = .ok (.iconst 1, 1) := by decide +kernel
theorem dX6_takePart_46 : decode cX6_takePart 46 = .ok (.goto 4, 3) := by decide +kernel
theorem dX6_takePart_49 : decode cX6_takePart 49 = .ok (.iconst 0, 1) := by decide +kernel
theorem dX6_takePart_50 : decode cX6_takePart 50 = .ok (.ireturn, 1) := by decide +kernel
theorem dX6_takePart_51 : decode cX6_takePart 51 = .ok (.aload_n 0, 1) := by decide +kernel
theorem dX6_takePart_52 : decode cX6_takePart 52 = .ok (.getfield 9, 3) := by decide +kernel
theorem dX6_takePart_55 : decode cX6_takePart 55 = .ok (.bipush 40, 2) := by decide +kernel
theorem dX6_takePart_57 : decode cX6_takePart 57 = .ok (.invokevirtual 83, 3) := by decide +kernel
theorem dX6_takePart_60 : decode cX6_takePart 60 = .ok (.ifCond .eq 39, 3) := by decide +kernel
theorem dX6_takePart_63 : decode cX6_takePart 63 = .ok (.aload_n 0, 1) := by decide +kernel
theorem dX6_takePart_64 : decode cX6_takePart 64 = .ok (.iload_n 1, 1) := by decide +kernel
theorem dX6_takePart_65 : decode cX6_takePart 65 = .ok (.invokevirtual 105, 3) := by decide +kernel
theorem dX6_takePart_68 : decode cX6_takePart 68 = .ok (.ifCond .eq 29, 3) := by decide +kernel
theorem dX6_takePart_71 : decode cX6_takePart 71 = .ok (.aload_n 0, 1) := by decide +kernel
theorem dX6_takePart_72 : decode cX6_takePart 72 = .ok (.iload_n 1, 1) := by decide +kernel
theorem dX6_takePart_73 : decode cX6_takePart 73 = .ok (.iconst 1, 1) := by decide +kernel
theorem dX6_takePart_74 : decode cX6_takePart 74 = .ok (.iadd, 1) := by decide +kernel
theorem dX6_takePart_75 : decode cX6_takePart 75 = .ok (.invokevirtual 51, 3) := by decide +kernel
theorem dX6_takePart_78 : decode cX6_takePart 78 = .ok (.ifCond .eq 19, 3) := by decide +kernel
theorem dX6_takePart_81 : decode cX6_takePart 81 = .ok (.aload_n 0, 1) := by decide +kernel
theorem dX6_takePart_82 : decode cX6_takePart 82 = .ok (.getfield 9, 3) := by decide +kernel
theorem dX6_takePart_85 : decode cX6_takePart 85 = .ok (.bipush 41, 2) := by decide +kernel
theorem dX6_takePart_87 : decode cX6_takePart 87 = .ok (.invokevirtual 87, 3) := by decide +kernel
theorem dX6_takePart_90 : decode cX6_takePart 90 = .ok (.ifCond .eq 7, 3) := by decide +kernel
theorem dX6_takePart_93 : decode cX6_takePart 93 = .ok (.iconst 1, 1) := by decide +kernel
theorem dX6_takePart_94 : decode cX6_takePart 94 = .ok (.goto 4, 3) := by decide +kernel
theorem dX6_takePart_97 : decode cX6_takePart 97 = .ok (.iconst 0, 1) := by decide +kernel
theorem dX6_takePart_98 : decode cX6_takePart 98 = .ok (.ireturn, 1) := by decide +kernel
theorem dX6_takePart_99 : decode cX6_takePart 99 = .ok (.aload_n 0, 1) := by decide +kernel
theorem dX6_takePart_100 : decode cX6_takePart 100 = .ok (.getfield 9, 3) := by decide +kernel
theorem dX6_takePart_103 : decode cX6_takePart 103 = .ok (.ldc 108, 2) := by decide +kernel
theorem dX6_takePart_105 : decode cX6_takePart 105 = .ok (.invokevirtual 36, 3) := by decide +kernel
theorem dX6_takePart_108 : decode cX6_takePart 108 = .ok (.istore_n 2, 1) := by decide +kernel
theorem dX6_takePart_109 : decode cX6_takePart 109 = .ok (.iload_n 2, 1) := by decide +kernel
theorem dX6_takePart_110 : decode cX6_takePart 110 = .ok (.iconst (-1), 1) := by decide +kernel
theorem dX6_takePart_111 : decode cX6_takePart 111 = .ok (.if_icmp .ne 11, 3) := by decide +kernel
theorem dX6_takePart_114 : decode cX6_takePart 114 = .ok (.aload_n 0, 1) := by decide +kernel
theorem dX6_takePart_115 : decode cX6_takePart 115 = .ok (.getfield 9, 3) := by decide +kernel
theorem dX6_takePart_118 : decode cX6_takePart 118 = .ok (.invokevirtual 40, 3) := by decide +kernel
theorem dX6_takePart_121 : decode cX6_takePart 121 = .ok (.ireturn, 1) := by decide +kernel
theorem dX6_takePart_122 : decode cX6_takePart 122 = .ok (.iload_n 2, 1) := by decide +kernel
theorem dX6_takePart_123 : decode cX6_takePart 123 = .ok (.bipush 6, 2) := by decide +kernel
theorem dX6_takePart_125 : decode cX6_takePart 125 = .ok (.if_icmp .eq 9, 3) := by decide +kernel
theorem dX6_takePart_128 : decode cX6_takePart 128 = .ok (.iload_n 2, 1) := by decide +kernel
theorem dX6_takePart_129 : decode cX6_takePart 129 = .ok (.bipush 7, 2) := by decide +kernel
theorem dX6_takePart_131 : decode cX6_takePart 131 = .ok (.if_icmp .ne 32, 3) := by decide +kernel
theorem dX6_takePart_134 : decode cX6_takePart 134 = .ok (.aload_n 0, 1) := by decide +kernel
theorem dX6_takePart_135 : decode cX6_takePart 135 = .ok (.iload_n 1, 1) := by decide +kernel
theorem dX6_takePart_136 : decode cX6_takePart 136 = .ok (.invokevirtual 80, 3) := by decide +kernel
theorem dX6_takePart_139 : decode cX6_takePart 139 = .ok (.ifCond .ne 5, 3) := by decide +kernel
theorem dX6_takePart_142 : decode cX6_takePart 142 = .ok (.iconst 0, 1) := by decide +kernel
theorem dX6_takePart_143 : decode cX6_takePart 143 = .ok (.ireturn, 1) := by decide +kernel
theorem dX6_takePart_144 : decode cX6_takePart 144 = .ok (.aload_n 0, 1) := by decide +kernel
theorem dX6_takePart_145 : decode cX6_takePart 145 = .ok (.getfield 9, 3) := by decide +kernel
theorem dX6_takePart_148 : decode cX6_takePart 148 = .ok (.invokevirtual 44, 3) := by decide +kernel
theorem dX6_takePart_151 : decode cX6_takePart 151 = .ok (.aload_n 0, 1) := by decide +kernel
theorem dX6_takePart_152 : decode cX6_takePart 152 = .ok (.iload_n 1, 1) := by decide +kernel
theorem dX6_takePart_153 : decode cX6_takePart 153 = .ok (.iconst 1, 1) := by decide +kernel
theorem dX6_takePart_154 : decode cX6_takePart 154 = .ok (.iadd, 1) := by decide +kernel
theorem dX6_takePart_155 : decode cX6_takePart 155 = .ok (.invokevirtual 98, 3) := by decide +kernel
theorem dX6_takePart_158 : decode cX6_takePart 158 = .ok (.ifCond .ne 28, 3) := by decide +kernel
theorem dX6_takePart_161 : decode cX6_takePart 161 = .ok (.iconst 0, 1) := by decide +kernel
theorem dX6_takePart_162 : decode cX6_takePart 162 = .ok (.ireturn, 1) := by decide +kernel
theorem dX6_takePart_163 : decode cX6_takePart 163 = .ok (.aload_n 0, 1) := by decide +kernel
theorem dX6_takePart_164 : decode cX6_takePart 164 = .ok (.getfield 9, 3) := by decide +kernel
theorem dX6_takePart_167 : decode cX6_takePart 167 = .ok (.invokevirtual 44, 3) := by decide +kernel
theorem dX6_takePart_170 : decode cX6_takePart 170 = .ok (.iload_n 2, 1) := by decide +kernel
theorem dX6_takePart_171 : decode cX6_takePart 171 = .ok (.bipush 8, 2) := by decide +kernel
theorem dX6_takePart_173 : decode cX6_takePart 173 = .ok (.if_icmp .lt 13, 3) := by decide +kernel
theorem dX6_takePart_176 : decode cX6_takePart 176 = .ok (.aload_n 0, 1) := by decide +kernel
theorem dX6_takePart_177 : decode cX6_takePart 177 = .ok (.iload_n 1, 1) := by decide +kernel
theorem dX6_takePart_178 : decode cX6_takePart 178 = .ok (.invokevirtual 110, 3) := by decide +kernel
theorem dX6_takePart_181 : decode cX6_takePart 181 = .ok (.ifCond .ne 5, 3) := by decide +kernel
theorem dX6_takePart_184 : decode cX6_takePart 184 = .ok (.iconst 0, 1) := by decide +kernel
theorem dX6_takePart_185 : decode cX6_takePart 185 = .ok (.ireturn, 1) := by decide +kernel
theorem dX6_takePart_186 : decode cX6_takePart 186 = .ok (.aload_n 0, 1) := by decide +kernel
theorem dX6_takePart_187 : decode cX6_takePart 187 = .ok (.getfield 18, 3) := by decide +kernel
theorem dX6_takePart_190 : decode cX6_takePart 190 = .ok (.iload_n 2, 1) := by decide +kernel
theorem dX6_takePart_191 : decode cX6_takePart 191 = .ok (.iconst 0, 1) := by decide +kernel
theorem dX6_takePart_192 : decode cX6_takePart 192 = .ok (.invokevirtual 69, 3) := by decide +kernel
theorem dX6_takePart_195 : decode cX6_takePart 195 = .ok (.iconst 1, 1) := by decide +kernel
theorem dX6_takePart_196 : decode cX6_takePart 196 = .ok (.ireturn, 1) := by decide +kernel
theorem dX6_takePair_0 : decode cX6_takePair 0 = .ok (.aload_n 0, 1) := by decide +kernel
theorem dX6_takePair_1 : decode cX6_takePair 1 = .ok (.iload_n 1, 1) := by decide +kernel
theorem dX6_takePair_2 : decode cX6_takePair 2 = .ok (.invokevirtual 105, 3) := by decide +kernel
theorem dX6_takePair_5 : decode cX6_takePair 5 = .ok (.ifCond .eq 51, 3) := by decide +kernel
theorem dX6_takePair_8 : decode cX6_takePair 8 = .ok (.aload_n 0, 1) := by decide +kernel
theorem dX6_takePair_9 : decode cX6_takePair 9 = .ok (.iload_n 1, 1) := by decide +kernel
theorem dX6_takePair_10 : decode cX6_takePair 10 = .ok (.iconst 1, 1) := by decide +kernel
theorem dX6_takePair_11 : decode cX6_takePair 11 = .ok (.iadd, 1) := by decide +kernel
theorem dX6_takePair_12 : decode cX6_takePair 12 = .ok (.invokevirtual 51, 3) := by decide +kernel
theorem dX6_takePair_15 : decode cX6_takePair 15 = .ok (.ifCond .eq 41, 3) := by decide +kernel
theorem dX6_takePair_18 : decode cX6_takePair 18 = .ok (.aload_n 0, 1) := by decide +kernel
theorem dX6_takePair_19 : decode cX6_takePair 19 = .ok (.getfield 9, 3) := by decide +kernel
theorem dX6_takePair_22 : decode cX6_takePair 22 = .ok (.bipush 44, 2) := by decide +kernel
theorem dX6_takePair_24 : decode cX6_takePair 24 = .ok (.invokevirtual 87, 3) := by decide +kernel
theorem dX6_takePair_27 : decode cX6_takePair 27 = .ok (.ifCond .eq 29, 3) := by decide +kernel
theorem dX6_takePair_30 : decode cX6_takePair 30 = .ok (.aload_n 0, 1) := by decide +kernel
theorem dX6_takePair_31 : decode cX6_takePair 31 = .ok (.iload_n 1, 1) := by decide +kernel
theorem dX6_takePair_32 : decode cX6_takePair 32 = .ok (.iconst 1, 1) := by decide +kernel
theorem dX6_takePair_33 : decode cX6_takePair 33 = .ok (.iadd, 1) := by decide +kernel
theorem dX6_takePair_34 : decode cX6_takePair 34 = .ok (.invokevirtual 51, 3) := by decide +kernel
theorem dX6_takePair_37 : decode cX6_takePair 37 = .ok (.ifCond .eq 19, 3) := by decide +kernel
theorem dX6_takePair_40 : decode cX6_takePair 40 = .ok (.aload_n 0, 1) := by decide +kernel
theorem dX6_takePair_41 : decode cX6_takePair 41 = .ok (.getfield 9, 3) := by decide +kernel
theorem dX6_takePair_44 : decode cX6_takePair 44 = .ok (.bipush 41, 2) := by decide +kernel
theorem dX6_takePair_46 : decode cX6_takePair 46 = .ok (.invokevirtual 87, 3) := by decide +kernel
theorem dX6_takePair_49 : decode cX6_takePair 49 = .ok (.ifCond .eq 7, 3) := by decide +kernel
theorem dX6_takePair_52 : decode cX6_takePair 52 = .ok (.iconst 1, 1) := by decide +kernel
theorem dX6_takePair_53 : decode cX6_takePair 53 = .ok (.goto 4, 3) := by decide +kernel
theorem dX6_takePair_56 : decode cX6_takePair 56 = .ok (.iconst 0, 1) := by decide +kernel
theorem dX6_takePair_57 : decode cX6_takePair 57 = .ok (.ireturn, 1) := by decide +kernel
theorem dX6_takeOpening_0 : decode cX6_takeOpening 0 = .ok (.aload_n 0, 1) := by decide +kernel
theorem dX6_takeOpening_1 : decode cX6_takeOpening 1 = .ok (.getfield 9, 3) := by decide +kernel
theorem dX6_takeOpening_4 : decode cX6_takeOpening 4 = .ok (.bipush 40, 2) := by decide +kernel
theorem dX6_takeOpening_6 : decode cX6_takeOpening 6 = .ok (.invokevirtual 83, 3) := by decide +kernel
theorem dX6_takeOpening_9 : decode cX6_takeOpening 9 = .ok (.ifCond .ne 11, 3) := by decide +kernel
theorem dX6_takeOpening_12 : decode cX6_takeOpening 12 = .ok (.aload_n 0, 1) := by decide +kernel
theorem dX6_takeOpening_13 : decode cX6_takeOpening 13 = .ok (.getfield 9, 3) := by decide +kernel
theorem dX6_takeOpening_16 : decode cX6_takeOpening 16 = .ok (.invokevirtual 40, 3) := by decide +kernel
theorem dX6_takeOpening_19 : decode cX6_takeOpening 19 = .ok (.ireturn, 1) := by decide +kernel
theorem dX6_takeOpening_20 : decode cX6_takeOpening 20 = .ok (.aload_n 0, 1) := by decide +kernel
theorem dX6_takeOpening_21 : decode cX6_takeOpening 21 = .ok (.iload_n 1, 1) := by decide +kernel
theorem dX6_takeOpening_22 : decode cX6_takeOpening 22 = .ok (.invokevirtual 80, 3) := by decide +kernel
theorem dX6_takeOpening_25 : decode cX6_takeOpening 25 = .ok (.ifCond .ne 5, 3) := by decide +kernel
theorem dX6_takeOpening_28 : decode cX6_takeOpening 28 = .ok (.iconst 0, 1) := by decide +kernel
theorem dX6_takeOpening_29 : decode cX6_takeOpening 29 = .ok (.ireturn, 1) := by decide +kernel
theorem dX6_takeOpening_30 : decode cX6_takeOpening 30 = .ok (.aload_n 0, 1) := by decide +kernel
theorem dX6_takeOpening_31 : decode cX6_takeOpening 31 = .ok (.getfield 9, 3) := by decide +kernel
theorem dX6_takeOpening_34 : decode cX6_takeOpening 34 = .ok (.invokevirtual 44, 3) := by decide +kernel
theorem dX6_takeOpening_37 : decode cX6_takeOpening 37 = .ok (.iconst 1, 1) := by decide +kernel
theorem dX6_takeOpening_38 : decode cX6_takeOpening 38 = .ok (.ireturn, 1) := by decide +kernel
theorem dX6_answer_0 : decode cX6_answer 0 = .ok (.aload_n 0, 1) := by decide +kernel
theorem dX6_answer_1 : decode cX6_answer 1 = .ok (.getfield 22, 3) := by decide +kernel
theorem dX6_answer_4 : decode cX6_answer 4 = .ok (.tableswitch 56 0 3 #[32, 38, 44, 50], 32) := by decide +kernel
theorem dX6_answer_36 : decode cX6_answer 36 = .ok (.aload_n 0, 1) := by decide +kernel
theorem dX6_answer_37 : decode cX6_answer 37 = .ok (.aload_n 1, 1) := by decide +kernel
theorem dX6_answer_38 : decode cX6_answer 38 = .ok (.invokevirtual 113, 3) := by decide +kernel
theorem dX6_answer_41 : decode cX6_answer 41 = .ok (.lreturn, 1) := by decide +kernel
theorem dX6_answer_42 : decode cX6_answer 42 = .ok (.aload_n 0, 1) := by decide +kernel
theorem dX6_answer_43 : decode cX6_answer 43 = .ok (.aload_n 1, 1) := by decide +kernel
theorem dX6_answer_44 : decode cX6_answer 44 = .ok (.invokevirtual 117, 3) := by decide +kernel
theorem dX6_answer_47 : decode cX6_answer 47 = .ok (.lreturn, 1) := by decide +kernel
theorem dX6_answer_48 : decode cX6_answer 48 = .ok (.aload_n 0, 1) := by decide +kernel
theorem dX6_answer_49 : decode cX6_answer 49 = .ok (.aload_n 1, 1) := by decide +kernel
theorem dX6_answer_50 : decode cX6_answer 50 = .ok (.invokevirtual 120, 3) := by decide +kernel
theorem dX6_answer_53 : decode cX6_answer 53 = .ok (.lreturn, 1) := by decide +kernel
theorem dX6_answer_54 : decode cX6_answer 54 = .ok (.aload_n 0, 1) := by decide +kernel
theorem dX6_answer_55 : decode cX6_answer 55 = .ok (.aload_n 1, 1) := by decide +kernel
theorem dX6_answer_56 : decode cX6_answer 56 = .ok (.invokevirtual 123, 3) := by decide +kernel
theorem dX6_answer_59 : decode cX6_answer 59 = .ok (.lreturn, 1) := by decide +kernel
theorem dX6_answer_60 : decode cX6_answer 60 = .ok (.aload_n 0, 1) := by decide +kernel
theorem dX6_answer_61 : decode cX6_answer 61 = .ok (.aload_n 1, 1) := by decide +kernel
theorem dX6_answer_62 : decode cX6_answer 62 = .ok (.aload_n 0, 1) := by decide +kernel
theorem dX6_answer_63 : decode cX6_answer 63 = .ok (.getfield 22, 3) := by decide +kernel
theorem dX6_answer_66 : decode cX6_answer 66 = .ok (.iconst 4, 1) := by decide +kernel
theorem dX6_answer_67 : decode cX6_answer 67 = .ok (.if_icmp .ne 7, 3) := by decide +kernel
theorem dX6_answer_70 : decode cX6_answer 70 = .ok (.iconst 1, 1) := by decide +kernel
theorem dX6_answer_71 : decode cX6_answer 71 = .ok (.goto 4, 3) := by decide +kernel
theorem dX6_answer_74 : decode cX6_answer 74 = .ok (.iconst 0, 1) := by decide +kernel
theorem dX6_answer_75 : decode cX6_answer 75 = .ok (.invokevirtual 126, 3) := by decide +kernel
theorem dX6_answer_78 : decode cX6_answer 78 = .ok (.lreturn, 1) := by decide +kernel
theorem dX6_firstTrue_0 : decode cX6_firstTrue 0 = .ok (.iconst 0, 1) := by decide +kernel
theorem dX6_firstTrue_1 : decode cX6_firstTrue 1 = .ok (.istore_n 2, 1) := by decide +kernel
theorem dX6_firstTrue_2 : decode cX6_firstTrue 2 = .ok (.iload_n 2, 1) := by decide +kernel
theorem dX6_firstTrue_3 : decode cX6_firstTrue 3 = .ok (.sipush 201, 3) := by decide +kernel
theorem dX6_firstTrue_6 : decode cX6_firstTrue 6 = .ok (.if_icmp .ge 24, 3) := by decide +kernel
theorem dX6_firstTrue_9 : decode cX6_firstTrue 9 = .ok (.aload_n 0, 1) := by decide +kernel
theorem dX6_firstTrue_10 : decode cX6_firstTrue 10 = .ok (.getfield 18, 3) := by decide +kernel
theorem dX6_firstTrue_13 : decode cX6_firstTrue 13 = .ok (.aload_n 1, 1) := by decide +kernel
theorem dX6_firstTrue_14 : decode cX6_firstTrue 14 = .ok (.iload_n 2, 1) := by decide +kernel
theorem dX6_firstTrue_15 : decode cX6_firstTrue 15 = .ok (.invokevirtual 130, 3) := by decide +kernel
theorem dX6_firstTrue_18 : decode cX6_firstTrue 18 = .ok (.ifCond .eq 6, 3) := by decide +kernel
theorem dX6_firstTrue_21 : decode cX6_firstTrue 21 = .ok (.iload_n 2, 1) := by decide +kernel
theorem dX6_firstTrue_22 : decode cX6_firstTrue 22 = .ok (.i2l, 1) := by decide +kernel
theorem dX6_firstTrue_23 : decode cX6_firstTrue 23 = .ok (.lreturn, 1) := by decide +kernel
theorem dX6_firstTrue_24 : decode cX6_firstTrue 24 = .ok (.iinc 2 1, 3) := by decide +kernel
theorem dX6_firstTrue_27 : decode cX6_firstTrue 27 = .ok (.goto (-25), 3) := by decide +kernel
theorem dX6_firstTrue_30 : decode cX6_firstTrue 30 = .ok (.ldc2_w 134, 3) := by decide +kernel
theorem dX6_firstTrue_33 : decode cX6_firstTrue 33 = .ok (.lreturn, 1) := by decide +kernel
theorem dX6_lastTrue_0 : decode cX6_lastTrue 0 = .ok (.sipush 200, 3) := by decide +kernel
theorem dX6_lastTrue_3 : decode cX6_lastTrue 3 = .ok (.istore_n 2, 1) := by decide +kernel
theorem dX6_lastTrue_4 : decode cX6_lastTrue 4 = .ok (.iload_n 2, 1) := by decide +kernel
theorem dX6_lastTrue_5 : decode cX6_lastTrue 5 = .ok (.ifCond .lt 24, 3) := by decide +kernel
theorem dX6_lastTrue_8 : decode cX6_lastTrue 8 = .ok (.aload_n 0, 1) := by decide +kernel
theorem dX6_lastTrue_9 : decode cX6_lastTrue 9 = .ok (.getfield 18, 3) := by decide +kernel
theorem dX6_lastTrue_12 : decode cX6_lastTrue 12 = .ok (.aload_n 1, 1) := by decide +kernel
theorem dX6_lastTrue_13 : decode cX6_lastTrue 13 = .ok (.iload_n 2, 1) := by decide +kernel
theorem dX6_lastTrue_14 : decode cX6_lastTrue 14 = .ok (.invokevirtual 130, 3) := by decide +kernel
theorem dX6_lastTrue_17 : decode cX6_lastTrue 17 = .ok (.ifCond .eq 6, 3) := by decide +kernel
theorem dX6_lastTrue_20 : decode cX6_lastTrue 20 = .ok (.iload_n 2, 1) := by decide +kernel
theorem dX6_lastTrue_21 : decode cX6_lastTrue 21 = .ok (.i2l, 1) := by decide +kernel
theorem dX6_lastTrue_22 : decode cX6_lastTrue 22 = .ok (.lreturn, 1) := by decide +kernel
theorem dX6_lastTrue_23 : decode cX6_lastTrue 23 = .ok (.iinc 2 (-1), 3) := by decide +kernel
theorem dX6_lastTrue_26 : decode cX6_lastTrue 26 = .ok (.goto (-22), 3) := by decide +kernel
theorem dX6_lastTrue_29 : decode cX6_lastTrue 29 = .ok (.ldc2_w 134, 3) := by decide +kernel
theorem dX6_lastTrue_32 : decode cX6_lastTrue 32 = .ok (.lreturn, 1) := by decide +kernel
theorem dX6_howOften_0 : decode cX6_howOften 0 = .ok (.lconst 0, 1) := by decide +kernel
theorem dX6_howOften_1 : decode cX6_howOften 1 = .ok (.lstore_n 2, 1) := by decide +kernel
theorem dX6_howOften_2 : decode cX6_howOften 2 = .ok (.iconst 0, 1) := by decide +kernel
theorem dX6_howOften_3 : decode cX6_howOften 3 = .ok (.istore 4, 2) := by decide +kernel
theorem dX6_howOften_5 : decode cX6_howOften 5 = .ok (.iload 4, 2) := by decide +kernel
theorem dX6_howOften_7 : decode cX6_howOften 7 = .ok (.sipush 201, 3) := by decide +kernel
theorem dX6_howOften_10 : decode cX6_howOften 10 = .ok (.if_icmp .ge 26, 3) := by decide +kernel
theorem dX6_howOften_13 : decode cX6_howOften 13 = .ok (.aload_n 0, 1) := by decide +kernel
theorem dX6_howOften_14 : decode cX6_howOften 14 = .ok (.getfield 18, 3) := by decide +kernel
theorem dX6_howOften_17 : decode cX6_howOften 17 = .ok (.aload_n 1, 1) := by decide +kernel
theorem dX6_howOften_18 : decode cX6_howOften 18 = .ok (.iload 4, 2) := by decide +kernel
theorem dX6_howOften_20 : decode cX6_howOften 20 = .ok (.invokevirtual 130, 3) := by decide +kernel
theorem dX6_howOften_23 : decode cX6_howOften 23 = .ok (.ifCond .eq 7, 3) := by decide +kernel
theorem dX6_howOften_26 : decode cX6_howOften 26 = .ok (.lload_n 2, 1) := by decide +kernel
theorem dX6_howOften_27 : decode cX6_howOften 27 = .ok (.lconst 1, 1) := by decide +kernel
theorem dX6_howOften_28 : decode cX6_howOften 28 = .ok (.ladd, 1) := by decide +kernel
theorem dX6_howOften_29 : decode cX6_howOften 29 = .ok (.lstore_n 2, 1) := by decide +kernel
theorem dX6_howOften_30 : decode cX6_howOften 30 = .ok (.iinc 4 1, 3) := by decide +kernel
theorem dX6_howOften_33 : decode cX6_howOften 33 = .ok (.goto (-28), 3) := by decide +kernel
theorem dX6_howOften_36 : decode cX6_howOften 36 = .ok (.lload_n 2, 1) := by decide +kernel
theorem dX6_howOften_37 : decode cX6_howOften 37 = .ok (.lreturn, 1) := by decide +kernel
theorem dX6_total_0 : decode cX6_total 0 = .ok (.lconst 0, 1) := by decide +kernel
theorem dX6_total_1 : decode cX6_total 1 = .ok (.lstore_n 2, 1) := by decide +kernel
theorem dX6_total_2 : decode cX6_total 2 = .ok (.iconst 0, 1) := by decide +kernel
theorem dX6_total_3 : decode cX6_total 3 = .ok (.istore 4, 2) := by decide +kernel
theorem dX6_total_5 : decode cX6_total 5 = .ok (.iload 4, 2) := by decide +kernel
theorem dX6_total_7 : decode cX6_total 7 = .ok (.sipush 201, 3) := by decide +kernel
theorem dX6_total_10 : decode cX6_total 10 = .ok (.if_icmp .ge 23, 3) := by decide +kernel
theorem dX6_total_13 : decode cX6_total 13 = .ok (.lload_n 2, 1) := by decide +kernel
theorem dX6_total_14 : decode cX6_total 14 = .ok (.aload_n 0, 1) := by decide +kernel
theorem dX6_total_15 : decode cX6_total 15 = .ok (.getfield 18, 3) := by decide +kernel
theorem dX6_total_18 : decode cX6_total 18 = .ok (.aload_n 1, 1) := by decide +kernel
theorem dX6_total_19 : decode cX6_total 19 = .ok (.iload 4, 2) := by decide +kernel
theorem dX6_total_21 : decode cX6_total 21 = .ok (.invokevirtual 130, 3) := by decide +kernel
theorem dX6_total_24 : decode cX6_total 24 = .ok (.i2l, 1) := by decide +kernel
theorem dX6_total_25 : decode cX6_total 25 = .ok (.ladd, 1) := by decide +kernel
theorem dX6_total_26 : decode cX6_total 26 = .ok (.lstore_n 2, 1) := by decide +kernel
theorem dX6_total_27 : decode cX6_total 27 = .ok (.iinc 4 1, 3) := by decide +kernel
theorem dX6_total_30 : decode cX6_total 30 = .ok (.goto (-25), 3) := by decide +kernel
theorem dX6_total_33 : decode cX6_total 33 = .ok (.lload_n 2, 1) := by decide +kernel
theorem dX6_total_34 : decode cX6_total 34 = .ok (.lreturn, 1) := by decide +kernel
theorem dX6_extreme_0 : decode cX6_extreme 0 = .ok (.aload_n 0, 1) := by decide +kernel
theorem dX6_extreme_1 : decode cX6_extreme 1 = .ok (.getfield 18, 3) := by decide +kernel
theorem dX6_extreme_4 : decode cX6_extreme 4 = .ok (.aload_n 1, 1) := by decide +kernel
theorem dX6_extreme_5 : decode cX6_extreme 5 = .ok (.iconst 0, 1) := by decide +kernel
theorem dX6_extreme_6 : decode cX6_extreme 6 = .ok (.invokevirtual 130, 3) := by decide +kernel
theorem dX6_extreme_9 : decode cX6_extreme 9 = .ok (.i2l, 1) := by decide +kernel
theorem dX6_extreme_10 : decode cX6_extreme 10 = .ok (.lstore_n 3, 1) := by decide +kernel
theorem dX6_extreme_11 : decode cX6_extreme 11 = .ok (.iconst 1, 1) := by decide +kernel
theorem dX6_extreme_12 : decode cX6_extreme 12 = .ok (.istore 5, 2) := by decide +kernel
theorem dX6_extreme_14 : decode cX6_extreme 14 = .ok (.iload 5, 2) := by decide +kernel
theorem dX6_extreme_16 : decode cX6_extreme 16 = .ok (.sipush 201, 3) := by decide +kernel
theorem dX6_extreme_19 : decode cX6_extreme 19 = .ok (.if_icmp .ge 42, 3) := by decide +kernel
theorem dX6_extreme_22 : decode cX6_extreme 22 = .ok (.aload_n 0, 1) := by decide +kernel
theorem dX6_extreme_23 : decode cX6_extreme 23 = .ok (.getfield 18, 3) := by decide +kernel
theorem dX6_extreme_26 : decode cX6_extreme 26 = .ok (.aload_n 1, 1) := by decide +kernel
theorem dX6_extreme_27 : decode cX6_extreme 27 = .ok (.iload 5, 2) := by decide +kernel
theorem dX6_extreme_29 : decode cX6_extreme 29 = .ok (.invokevirtual 130, 3) := by decide +kernel
theorem dX6_extreme_32 : decode cX6_extreme 32 = .ok (.i2l, 1) := by decide +kernel
theorem dX6_extreme_33 : decode cX6_extreme 33 = .ok (.lstore 6, 2) := by decide +kernel
theorem dX6_extreme_35 : decode cX6_extreme 35 = .ok (.iload_n 2, 1) := by decide +kernel
theorem dX6_extreme_36 : decode cX6_extreme 36 = .ok (.ifCond .eq 12, 3) := by decide +kernel
theorem dX6_extreme_39 : decode cX6_extreme 39 = .ok (.lload_n 3, 1) := by decide +kernel
theorem dX6_extreme_40 : decode cX6_extreme 40 = .ok (.lload 6, 2) := by decide +kernel
theorem dX6_extreme_42 : decode cX6_extreme 42 = .ok (.invokestatic 136, 3) := by decide +kernel
theorem dX6_extreme_45 : decode cX6_extreme 45 = .ok (.goto 9, 3) := by decide +kernel
theorem dX6_extreme_48 : decode cX6_extreme 48 = .ok (.lload_n 3, 1) := by decide +kernel
theorem dX6_extreme_49 : decode cX6_extreme 49 = .ok (.lload 6, 2) := by decide +kernel
theorem dX6_extreme_51 : decode cX6_extreme 51 = .ok (.invokestatic 142, 3) := by decide +kernel
theorem dX6_extreme_54 : decode cX6_extreme 54 = .ok (.lstore_n 3, 1) := by decide +kernel
theorem dX6_extreme_55 : decode cX6_extreme 55 = .ok (.iinc 5 1, 3) := by decide +kernel
theorem dX6_extreme_58 : decode cX6_extreme 58 = .ok (.goto (-44), 3) := by decide +kernel
theorem dX6_extreme_61 : decode cX6_extreme 61 = .ok (.lload_n 3, 1) := by decide +kernel
theorem dX6_extreme_62 : decode cX6_extreme 62 = .ok (.lreturn, 1) := by decide +kernel
theorem dX7_init_0 : decode cX7_init 0 = .ok (.aload_n 0, 1) := by decide +kernel
theorem dX7_init_1 : decode cX7_init 1 = .ok (.invokespecial 3, 3) := by decide +kernel
theorem dX7_init_4 : decode cX7_init 4 = .ok (.aload_n 0, 1) := by decide +kernel
theorem dX7_init_5 : decode cX7_init 5 = .ok (.sipush 1809, 3) := by decide +kernel
theorem dX7_init_8 : decode cX7_init 8 = .ok (.newarray .int, 2) := by decide +kernel
theorem dX7_init_10 : decode cX7_init 10 = .ok (.putfield 9, 3) := by decide +kernel
theorem dX7_init_13 : decode cX7_init 13 = .ok (.aload_n 0, 1) := by decide +kernel
theorem dX7_init_14 : decode cX7_init 14 = .ok (.sipush 804, 3) := by decide +kernel
theorem dX7_init_17 : decode cX7_init 17 = .ok (.newarray .int, 2) := by decide +kernel
theorem dX7_init_19 : decode cX7_init 19 = .ok (.putfield 15, 3) := by decide +kernel
theorem dX7_init_22 : decode cX7_init 22 = .ok (.aload_n 0, 1) := by decide +kernel
theorem dX7_init_23 : decode cX7_init 23 = .ok (.bipush 9, 2) := by decide +kernel
theorem dX7_init_25 : decode cX7_init 25 = .ok (.newarray .int, 2) := by decide +kernel
theorem dX7_init_27 : decode cX7_init 27 = .ok (.putfield 18, 3) := by decide +kernel
theorem dX7_init_30 : decode cX7_init 30 = .ok (.aload_n 0, 1) := by decide +kernel
theorem dX7_init_31 : decode cX7_init 31 = .ok (.bipush 9, 2) := by decide +kernel
theorem dX7_init_33 : decode cX7_init 33 = .ok (.newarray .int, 2) := by decide +kernel
theorem dX7_init_35 : decode cX7_init 35 = .ok (.putfield 21, 3) := by decide +kernel
theorem dX7_init_38 : decode cX7_init 38 = .ok (.aload_n 0, 1) := by decide +kernel
theorem dX7_init_39 : decode cX7_init 39 = .ok (.bipush 9, 2) := by decide +kernel
theorem dX7_init_41 : decode cX7_init 41 = .ok (.newarray .int, 2) := by decide +kernel
theorem dX7_init_43 : decode cX7_init 43 = .ok (.putfield 24, 3) := by decide +kernel
theorem dX7_init_46 : decode cX7_init 46 = .ok (.aload_n 0, 1) := by decide +kernel
theorem dX7_init_47 : decode cX7_init 47 = .ok (.bipush 9, 2) := by decide +kernel
theorem dX7_init_49 : decode cX7_init 49 = .ok (.newarray .int, 2) := by decide +kernel
theorem dX7_init_51 : decode cX7_init 51 = .ok (.putfield 27, 3) := by decide +kernel
theorem dX7_init_54 : decode cX7_init 54 = .ok (.aload_n 0, 1) := by decide +kernel
theorem dX7_init_55 : decode cX7_init 55 = .ok (.iconst 0, 1) := by decide +kernel
theorem dX7_init_56 : decode cX7_init 56 = .ok (.putfield 30, 3) := by decide +kernel
theorem dX7_init_59 : decode cX7_init 59 = .ok (.aload_n 0, 1) := by decide +kernel
theorem dX7_init_60 : decode cX7_init 60 = .ok (.iconst 0, 1) := by decide +kernel
theorem dX7_init_61 : decode cX7_init 61 = .ok (.putfield 34, 3) := by decide +kernel
theorem dX7_init_64 : decode cX7_init 64 = .ok (.aload_n 0, 1) := by decide +kernel
theorem dX7_init_65 : decode cX7_init 65 = .ok (.iconst 0, 1) := by decide +kernel
theorem dX7_init_66 : decode cX7_init 66 = .ok (.putfield 37, 3) := by decide +kernel
theorem dX7_init_69 : decode cX7_init 69 = .ok (.aload_n 0, 1) := by decide +kernel
theorem dX7_init_70 : decode cX7_init 70 = .ok (.iconst (-1), 1) := by decide +kernel
theorem dX7_init_71 : decode cX7_init 71 = .ok (.putfield 40, 3) := by decide +kernel
theorem dX7_init_74 : decode cX7_init 74 = .ok (.aload_n 0, 1) := by decide +kernel
theorem dX7_init_75 : decode cX7_init 75 = .ok (.iconst (-1), 1) := by decide +kernel
theorem dX7_init_76 : decode cX7_init 76 = .ok (.putfield 43, 3) := by decide +kernel
theorem dX7_init_79 : decode cX7_init 79 = .ok (.return_, 1) := by decide +kernel
theorem dX7_prepare_0 : decode cX7_prepare 0 = .ok (.iconst 0, 1) := by decide +kernel
theorem dX7_prepare_1 : decode cX7_prepare 1 = .ok (.istore_n 2, 1) := by decide +kernel
theorem dX7_prepare_2 : decode cX7_prepare 2 = .ok (.iload_n 2, 1) := by decide +kernel
theorem dX7_prepare_3 : decode cX7_prepare 3 = .ok (.aload_n 1, 1) := by decide +kernel
theorem dX7_prepare_4 : decode cX7_prepare 4 = .ok (.getfield 46, 3) := by decide +kernel
theorem dX7_prepare_7 : decode cX7_prepare 7 = .ok (.getfield 52, 3) := by decide +kernel
theorem dX7_prepare_10 : decode cX7_prepare 10 = .ok (.if_icmp .ge 15, 3) := by decide +kernel
theorem dX7_prepare_13 : decode cX7_prepare 13 = .ok (.aload_n 0, 1) := by decide +kernel
theorem dX7_prepare_14 : decode cX7_prepare 14 = .ok (.aload_n 1, 1) := by decide +kernel
theorem dX7_prepare_15 : decode cX7_prepare 15 = .ok (.iload_n 2, 1) := by decide +kernel
theorem dX7_prepare_16 : decode cX7_prepare 16 = .ok (.invokevirtual 57, 3) := by decide +kernel
theorem dX7_prepare_19 : decode cX7_prepare 19 = .ok (.iinc 2 1, 3) := by decide +kernel
theorem dX7_prepare_22 : decode cX7_prepare 22 = .ok (.goto (-20), 3) := by decide +kernel
theorem dX7_prepare_25 : decode cX7_prepare 25 = .ok (.iconst 0, 1) := by decide +kernel
theorem dX7_prepare_26 : decode cX7_prepare 26 = .ok (.istore_n 2, 1) := by decide +kernel
theorem dX7_prepare_27 : decode cX7_prepare 27 = .ok (.iload_n 2, 1) := by decide +kernel
theorem dX7_prepare_28 : decode cX7_prepare 28 = .ok (.aload_n 1, 1) := by decide +kernel
theorem dX7_prepare_29 : decode cX7_prepare 29 = .ok (.getfield 61, 3) := by decide +kernel
theorem dX7_prepare_32 : decode cX7_prepare 32 = .ok (.if_icmp .ge 18, 3) := by decide +kernel
theorem dX7_prepare_35 : decode cX7_prepare 35 = .ok (.aload_n 0, 1) := by decide +kernel
theorem dX7_prepare_36 : decode cX7_prepare 36 = .ok (.aload_n 1, 1) := by decide +kernel
theorem dX7_prepare_37 : decode cX7_prepare 37 = .ok (.iload_n 2, 1) := by decide +kernel
theorem dX7_prepare_38 : decode cX7_prepare 38 = .ok (.sipush 201, 3) := by decide +kernel
theorem dX7_prepare_41 : decode cX7_prepare 41 = .ok (.invokevirtual 64, 3) := by decide +kernel
theorem dX7_prepare_44 : decode cX7_prepare 44 = .ok (.iinc 2 1, 3) := by decide +kernel
theorem dX7_prepare_47 : decode cX7_prepare 47 = .ok (.goto (-20), 3) := by decide +kernel
theorem dX7_prepare_50 : decode cX7_prepare 50 = .ok (.return_, 1) := by decide +kernel
theorem dX7_fillWalk_0 : decode cX7_fillWalk 0 = .ok (.aload_n 1, 1) := by decide +kernel
theorem dX7_fillWalk_1 : decode cX7_fillWalk 1 = .ok (.getfield 46, 3) := by decide +kernel
theorem dX7_fillWalk_4 : decode cX7_fillWalk 4 = .ok (.getfield 68, 3) := by decide +kernel
theorem dX7_fillWalk_7 : decode cX7_fillWalk 7 = .ok (.iload_n 2, 1) := by decide +kernel
theorem dX7_fillWalk_8 : decode cX7_fillWalk 8 = .ok (.invokestatic 71, 3) := by decide +kernel
theorem dX7_fillWalk_11 : decode cX7_fillWalk 11 = .ok (.istore_n 3, 1) := by decide +kernel
theorem dX7_fillWalk_12 : decode cX7_fillWalk 12 = .ok (.aload_n 0, 1) := by decide +kernel
theorem dX7_fillWalk_13 : decode cX7_fillWalk 13 = .ok (.getfield 9, 3) := by decide +kernel
theorem dX7_fillWalk_16 : decode cX7_fillWalk 16 = .ok (.iload_n 2, 1) := by decide +kernel
theorem dX7_fillWalk_17 : decode cX7_fillWalk 17 = .ok (.sipush 201, 3) := by decide +kernel
theorem dX7_fillWalk_20 : decode cX7_fillWalk 20 = .ok (.imul, 1) := by decide +kernel
theorem dX7_fillWalk_21 : decode cX7_fillWalk 21 = .ok (.iload_n 3, 1) := by decide +kernel
theorem dX7_fillWalk_22 : decode cX7_fillWalk 22 = .ok (.invokestatic 75, 3) := by decide +kernel
theorem dX7_fillWalk_25 : decode cX7_fillWalk 25 = .ok (.iconst 1, 1) := by decide +kernel
theorem dX7_fillWalk_26 : decode cX7_fillWalk 26 = .ok (.istore 4, 2) := by decide +kernel
theorem dX7_fillWalk_28 : decode cX7_fillWalk 28 = .ok (.iload 4, 2) := by decide +kernel
theorem dX7_fillWalk_30 : decode cX7_fillWalk 30 = .ok (.sipush 201, 3) := by decide +kernel
theorem dX7_fillWalk_33 : decode cX7_fillWalk 33 = .ok (.if_icmp .ge 57, 3) := by decide +kernel
theorem dX7_fillWalk_36 : decode cX7_fillWalk 36 = .ok (.aload_n 1, 1) := by decide +kernel
theorem dX7_fillWalk_37 : decode cX7_fillWalk 37 = .ok (.iload_n 3, 1) := by decide +kernel
theorem dX7_fillWalk_38 : decode cX7_fillWalk 38 = .ok (.aload_n 1, 1) := by decide +kernel
theorem dX7_fillWalk_39 : decode cX7_fillWalk 39 = .ok (.getfield 46, 3) := by decide +kernel
theorem dX7_fillWalk_42 : decode cX7_fillWalk 42 = .ok (.iload_n 2, 1) := by decide +kernel
theorem dX7_fillWalk_43 : decode cX7_fillWalk 43 = .ok (.iload 4, 2) := by decide +kernel
theorem dX7_fillWalk_45 : decode cX7_fillWalk 45 = .ok (.iconst 1, 1) := by decide +kernel
theorem dX7_fillWalk_46 : decode cX7_fillWalk 46 = .ok (.isub, 1) := by decide +kernel
theorem dX7_fillWalk_47 : decode cX7_fillWalk 47 = .ok (.invokevirtual 79, 3) := by decide +kernel
theorem dX7_fillWalk_50 : decode cX7_fillWalk 50 = .ok (.invokevirtual 83, 3) := by decide +kernel
theorem dX7_fillWalk_53 : decode cX7_fillWalk 53 = .ok (.istore 5, 2) := by decide +kernel
theorem dX7_fillWalk_55 : decode cX7_fillWalk 55 = .ok (.iload 5, 2) := by decide +kernel
theorem dX7_fillWalk_57 : decode cX7_fillWalk 57 = .ok (.iconst (-1), 1) := by decide +kernel
theorem dX7_fillWalk_58 : decode cX7_fillWalk 58 = .ok (.if_icmp .ne 7, 3) := by decide +kernel
theorem dX7_fillWalk_61 : decode cX7_fillWalk 61 = .ok (.iload_n 3, 1) := by decide +kernel
theorem dX7_fillWalk_62 : decode cX7_fillWalk 62 = .ok (.goto 5, 3) := by decide +kernel
theorem dX7_fillWalk_65 : decode cX7_fillWalk 65 = .ok (.iload 5, 2) := by decide +kernel
theorem dX7_fillWalk_67 : decode cX7_fillWalk 67 = .ok (.istore_n 3, 1) := by decide +kernel
theorem dX7_fillWalk_68 : decode cX7_fillWalk 68 = .ok (.aload_n 0, 1) := by decide +kernel
theorem dX7_fillWalk_69 : decode cX7_fillWalk 69 = .ok (.getfield 9, 3) := by decide +kernel
theorem dX7_fillWalk_72 : decode cX7_fillWalk 72 = .ok (.iload_n 2, 1) := by decide +kernel
theorem dX7_fillWalk_73 : decode cX7_fillWalk 73 = .ok (.sipush 201, 3) := by decide +kernel
theorem dX7_fillWalk_76 : decode cX7_fillWalk 76 = .ok (.imul, 1) := by decide +kernel
theorem dX7_fillWalk_77 : decode cX7_fillWalk 77 = .ok (.iload 4, 2) := by decide +kernel
theorem dX7_fillWalk_79 : decode cX7_fillWalk 79 = .ok (.iadd, 1) := by decide +kernel
theorem dX7_fillWalk_80 : decode cX7_fillWalk 80 = .ok (.iload_n 3, 1) := by decide +kernel
theorem dX7_fillWalk_81 : decode cX7_fillWalk 81 = .ok (.invokestatic 75, 3) := by decide +kernel
theorem dX7_fillWalk_84 : decode cX7_fillWalk 84 = .ok (.iinc 4 1, 3) := by decide +kernel
theorem dX7_fillWalk_87 : decode cX7_fillWalk 87 = .ok (.goto (-59), 3) := by decide +kernel
theorem dX7_fillWalk_90 : decode cX7_fillWalk 90 = .ok (.return_, 1) := by decide +kernel
theorem dX7_fillSight_0 : decode cX7_fillSight 0 = .ok (.aload_n 1, 1) := by decide +kernel
theorem dX7_fillSight_1 : decode cX7_fillSight 1 = .ok (.aload_n 1, 1) := by decide +kernel
theorem dX7_fillSight_2 : decode cX7_fillSight 2 = .ok (.getfield 86, 3) := by decide +kernel
theorem dX7_fillSight_5 : decode cX7_fillSight 5 = .ok (.iload_n 2, 1) := by decide +kernel
theorem dX7_fillSight_6 : decode cX7_fillSight 6 = .ok (.invokestatic 71, 3) := by decide +kernel
theorem dX7_fillSight_9 : decode cX7_fillSight 9 = .ok (.aload_n 1, 1) := by decide +kernel
theorem dX7_fillSight_10 : decode cX7_fillSight 10 = .ok (.getfield 89, 3) := by decide +kernel
theorem dX7_fillSight_13 : decode cX7_fillSight 13 = .ok (.iload_n 2, 1) := by decide +kernel
theorem dX7_fillSight_14 : decode cX7_fillSight 14 = .ok (.invokestatic 71, 3) := by decide +kernel
theorem dX7_fillSight_17 : decode cX7_fillSight 17 = .ok (.invokevirtual 92, 3) := by decide +kernel
theorem dX7_fillSight_20 : decode cX7_fillSight 20 = .ok (.lstore 4, 2) := by decide +kernel
theorem dX7_fillSight_22 : decode cX7_fillSight 22 = .ok (.iconst 0, 1) := by decide +kernel
theorem dX7_fillSight_23 : decode cX7_fillSight 23 = .ok (.istore 6, 2) := by decide +kernel
theorem dX7_fillSight_25 : decode cX7_fillSight 25 = .ok (.iload 6, 2) := by decide +kernel
theorem dX7_fillSight_27 : decode cX7_fillSight 27 = .ok (.iload_n 3, 1) := by decide +kernel
theorem dX7_fillSight_28 : decode cX7_fillSight 28 = .ok (.if_icmp .ge 77, 3) := by decide +kernel
theorem dX7_fillSight_31 : decode cX7_fillSight 31 = .ok (.iconst 0, 1) := by decide +kernel
theorem dX7_fillSight_32 : decode cX7_fillSight 32 = .ok (.istore 7, 2) := by decide +kernel
theorem dX7_fillSight_34 : decode cX7_fillSight 34 = .ok (.iconst 0, 1) := by decide +kernel
theorem dX7_fillSight_35 : decode cX7_fillSight 35 = .ok (.istore 8, 2) := by decide +kernel
theorem dX7_fillSight_37 : decode cX7_fillSight 37 = .ok (.iload 8, 2) := by decide +kernel
theorem dX7_fillSight_39 : decode cX7_fillSight 39 = .ok (.aload_n 1, 1) := by decide +kernel
theorem dX7_fillSight_40 : decode cX7_fillSight 40 = .ok (.getfield 46, 3) := by decide +kernel
theorem dX7_fillSight_43 : decode cX7_fillSight 43 = .ok (.getfield 52, 3) := by decide +kernel
theorem dX7_fillSight_46 : decode cX7_fillSight 46 = .ok (.if_icmp .ge 36, 3) := by decide +kernel
theorem dX7_fillSight_49 : decode cX7_fillSight 49 = .ok (.lload 4, 2) := by decide +kernel
theorem dX7_fillSight_51 : decode cX7_fillSight 51 = .ok (.aload_n 0, 1) := by decide +kernel
theorem dX7_fillSight_52 : decode cX7_fillSight 52 = .ok (.iload 8, 2) := by decide +kernel
theorem dX7_fillSight_54 : decode cX7_fillSight 54 = .ok (.iload 6, 2) := by decide +kernel
theorem dX7_fillSight_56 : decode cX7_fillSight 56 = .ok (.invokevirtual 96, 3) := by decide +kernel
theorem dX7_fillSight_59 : decode cX7_fillSight 59 = .ok (.lshr, 1) := by decide +kernel
theorem dX7_fillSight_60 : decode cX7_fillSight 60 = .ok (.lconst 1, 1) := by decide +kernel
theorem dX7_fillSight_61 : decode cX7_fillSight 61 = .ok (.land, 1) := by decide +kernel
theorem dX7_fillSight_62 : decode cX7_fillSight 62 = .ok (.lconst 1, 1) := by decide +kernel
theorem dX7_fillSight_63 : decode cX7_fillSight 63 = .ok (.lcmp, 1) := by decide +kernel
theorem dX7_fillSight_64 : decode cX7_fillSight 64 = .ok (.ifCond .ne 12, 3) := by decide +kernel
theorem dX7_fillSight_67 : decode cX7_fillSight 67 = .ok (.iload 7, 2) := by decide +kernel
theorem dX7_fillSight_69 : decode cX7_fillSight 69 = .ok (.iconst 1, 1) := by decide +kernel
theorem dX7_fillSight_70 : decode cX7_fillSight 70 = .ok (.iload 8, 2) := by decide +kernel
theorem dX7_fillSight_72 : decode cX7_fillSight 72 = .ok (.ishl, 1) := by decide +kernel
theorem dX7_fillSight_73 : decode cX7_fillSight 73 = .ok (.ior, 1) := by decide +kernel
theorem dX7_fillSight_74 : decode cX7_fillSight 74 = .ok (.istore 7, 2) := by decide +kernel
theorem dX7_fillSight_76 : decode cX7_fillSight 76 = .ok (.iinc 8 1, 3) := by decide +kernel
theorem dX7_fillSight_79 : decode cX7_fillSight 79 = .ok (.goto (-42), 3) := by decide +kernel
theorem dX7_fillSight_82 : decode cX7_fillSight 82 = .ok (.aload_n 0, 1) := by decide +kernel
theorem dX7_fillSight_83 : decode cX7_fillSight 83 = .ok (.getfield 15, 3) := by decide +kernel
theorem dX7_fillSight_86 : decode cX7_fillSight 86 = .ok (.iload_n 2, 1) := by decide +kernel
theorem dX7_fillSight_87 : decode cX7_fillSight 87 = .ok (.sipush 201, 3) := by decide +kernel
theorem dX7_fillSight_90 : decode cX7_fillSight 90 = .ok (.imul, 1) := by decide +kernel
theorem dX7_fillSight_91 : decode cX7_fillSight 91 = .ok (.iload 6, 2) := by decide +kernel
theorem dX7_fillSight_93 : decode cX7_fillSight 93 = .ok (.iadd, 1) := by decide +kernel
theorem dX7_fillSight_94 : decode cX7_fillSight 94 = .ok (.iload 7, 2) := by decide +kernel
theorem dX7_fillSight_96 : decode cX7_fillSight 96 = .ok (.invokestatic 75, 3) := by decide +kernel
theorem dX7_fillSight_99 : decode cX7_fillSight 99 = .ok (.iinc 6 1, 3) := by decide +kernel
theorem dX7_fillSight_102 : decode cX7_fillSight 102 = .ok (.goto (-77), 3) := by decide +kernel
theorem dX7_fillSight_105 : decode cX7_fillSight 105 = .ok (.return_, 1) := by decide +kernel
theorem dX7_walkCell_0 : decode cX7_walkCell 0 = .ok (.aload_n 0, 1) := by decide +kernel
theorem dX7_walkCell_1 : decode cX7_walkCell 1 = .ok (.getfield 9, 3) := by decide +kernel
theorem dX7_walkCell_4 : decode cX7_walkCell 4 = .ok (.iload_n 1, 1) := by decide +kernel
theorem dX7_walkCell_5 : decode cX7_walkCell 5 = .ok (.sipush 201, 3) := by decide +kernel
theorem dX7_walkCell_8 : decode cX7_walkCell 8 = .ok (.imul, 1) := by decide +kernel
theorem dX7_walkCell_9 : decode cX7_walkCell 9 = .ok (.iload_n 2, 1) := by decide +kernel
theorem dX7_walkCell_10 : decode cX7_walkCell 10 = .ok (.iadd, 1) := by decide +kernel
theorem dX7_walkCell_11 : decode cX7_walkCell 11 = .ok (.invokestatic 71, 3) := by decide +kernel
theorem dX7_walkCell_14 : decode cX7_walkCell 14 = .ok (.ireturn, 1) := by decide +kernel
theorem dX7_run_0 : decode cX7_run 0 = .ok (.aload_n 0, 1) := by decide +kernel
theorem dX7_run_1 : decode cX7_run 1 = .ok (.aload_n 1, 1) := by decide +kernel
theorem dX7_run_2 : decode cX7_run 2 = .ok (.iload_n 2, 1) := by decide +kernel
theorem dX7_run_3 : decode cX7_run 3 = .ok (.invokevirtual 99, 3) := by decide +kernel
theorem dX7_run_6 : decode cX7_run 6 = .ok (.istore 4, 2) := by decide +kernel
theorem dX7_run_8 : decode cX7_run 8 = .ok (.aload_n 0, 1) := by decide +kernel
theorem dX7_run_9 : decode cX7_run 9 = .ok (.aload_n 1, 1) := by decide +kernel
theorem dX7_run_10 : decode cX7_run 10 = .ok (.iload_n 2, 1) := by decide +kernel
theorem dX7_run_11 : decode cX7_run 11 = .ok (.iload 4, 2) := by decide +kernel
theorem dX7_run_13 : decode cX7_run 13 = .ok (.invokevirtual 103, 3) := by decide +kernel
theorem dX7_run_16 : decode cX7_run 16 = .ok (.aload_n 0, 1) := by decide +kernel
theorem dX7_run_17 : decode cX7_run 17 = .ok (.aload_n 1, 1) := by decide +kernel
theorem dX7_run_18 : decode cX7_run 18 = .ok (.iload_n 2, 1) := by decide +kernel
theorem dX7_run_19 : decode cX7_run 19 = .ok (.iload 4, 2) := by decide +kernel
theorem dX7_run_21 : decode cX7_run 21 = .ok (.iload_n 3, 1) := by decide +kernel
theorem dX7_run_22 : decode cX7_run 22 = .ok (.invokevirtual 106, 3) := by decide +kernel
theorem dX7_run_25 : decode cX7_run 25 = .ok (.return_, 1) := by decide +kernel
theorem dX7_openAll_0 : decode cX7_openAll 0 = .ok (.aload_n 0, 1) := by decide +kernel
theorem dX7_openAll_1 : decode cX7_openAll 1 = .ok (.iload_n 2, 1) := by decide +kernel
theorem dX7_openAll_2 : decode cX7_openAll 2 = .ok (.putfield 30, 3) := by decide +kernel
theorem dX7_openAll_5 : decode cX7_openAll 5 = .ok (.aload_n 0, 1) := by decide +kernel
theorem dX7_openAll_6 : decode cX7_openAll 6 = .ok (.iconst 0, 1) := by decide +kernel
theorem dX7_openAll_7 : decode cX7_openAll 7 = .ok (.putfield 34, 3) := by decide +kernel
theorem dX7_openAll_10 : decode cX7_openAll 10 = .ok (.aload_n 0, 1) := by decide +kernel
theorem dX7_openAll_11 : decode cX7_openAll 11 = .ok (.iconst 0, 1) := by decide +kernel
theorem dX7_openAll_12 : decode cX7_openAll 12 = .ok (.putfield 37, 3) := by decide +kernel
theorem dX7_openAll_15 : decode cX7_openAll 15 = .ok (.iconst 0, 1) := by decide +kernel
theorem dX7_openAll_16 : decode cX7_openAll 16 = .ok (.istore 5, 2) := by decide +kernel
theorem dX7_openAll_18 : decode cX7_openAll 18 = .ok (.iload 5, 2) := by decide +kernel
theorem dX7_openAll_20 : decode cX7_openAll 20 = .ok (.bipush 9, 2) := by decide +kernel
theorem dX7_openAll_22 : decode cX7_openAll 22 = .ok (.if_icmp .ge 29, 3) := by decide +kernel
theorem dX7_openAll_25 : decode cX7_openAll 25 = .ok (.aload_n 0, 1) := by decide +kernel
theorem dX7_openAll_26 : decode cX7_openAll 26 = .ok (.getfield 21, 3) := by decide +kernel
theorem dX7_openAll_29 : decode cX7_openAll 29 = .ok (.iload 5, 2) := by decide +kernel
theorem dX7_openAll_31 : decode cX7_openAll 31 = .ok (.iconst (-1), 1) := by decide +kernel
theorem dX7_openAll_32 : decode cX7_openAll 32 = .ok (.invokestatic 75, 3) := by decide +kernel
theorem dX7_openAll_35 : decode cX7_openAll 35 = .ok (.aload_n 0, 1) := by decide +kernel
theorem dX7_openAll_36 : decode cX7_openAll 36 = .ok (.getfield 27, 3) := by decide +kernel
theorem dX7_openAll_39 : decode cX7_openAll 39 = .ok (.iload 5, 2) := by decide +kernel
theorem dX7_openAll_41 : decode cX7_openAll 41 = .ok (.iconst 0, 1) := by decide +kernel
theorem dX7_openAll_42 : decode cX7_openAll 42 = .ok (.invokestatic 75, 3) := by decide +kernel
theorem dX7_openAll_45 : decode cX7_openAll 45 = .ok (.iinc 5 1, 3) := by decide +kernel
theorem dX7_openAll_48 : decode cX7_openAll 48 = .ok (.goto (-30), 3) := by decide +kernel
theorem dX7_openAll_51 : decode cX7_openAll 51 = .ok (.aload_n 0, 1) := by decide +kernel
theorem dX7_openAll_52 : decode cX7_openAll 52 = .ok (.getfield 40, 3) := by decide +kernel
theorem dX7_openAll_55 : decode cX7_openAll 55 = .ok (.iconst (-1), 1) := by decide +kernel
theorem dX7_openAll_56 : decode cX7_openAll 56 = .ok (.if_icmp .eq 4, 3) := by decide +kernel
theorem dX7_openAll_59 : decode cX7_openAll 59 = .ok (.return_, 1) := by decide +kernel
theorem dX7_openAll_60 : decode cX7_openAll 60 = .ok (.iload_n 3, 1) := by decide +kernel
theorem dX7_openAll_61 : decode cX7_openAll 61 = .ok (.istore 5, 2) := by decide +kernel
theorem dX7_openAll_63 : decode cX7_openAll 63 = .ok (.iload 5, 2) := by decide +kernel
theorem dX7_openAll_65 : decode cX7_openAll 65 = .ok (.sipush 201, 3) := by decide +kernel
theorem dX7_openAll_68 : decode cX7_openAll 68 = .ok (.if_icmp .ge 50, 3) := by decide +kernel
theorem dX7_openAll_71 : decode cX7_openAll 71 = .ok (.aload_n 0, 1) := by decide +kernel
theorem dX7_openAll_72 : decode cX7_openAll 72 = .ok (.aload_n 1, 1) := by decide +kernel
theorem dX7_openAll_73 : decode cX7_openAll 73 = .ok (.iload 5, 2) := by decide +kernel
theorem dX7_openAll_75 : decode cX7_openAll 75 = .ok (.invokevirtual 110, 3) := by decide +kernel
theorem dX7_openAll_78 : decode cX7_openAll 78 = .ok (.iload 4, 2) := by decide +kernel
theorem dX7_openAll_80 : decode cX7_openAll 80 = .ok (.ifCond .eq 11, 3) := by decide +kernel
theorem dX7_openAll_83 : decode cX7_openAll 83 = .ok (.aload_n 0, 1) := by decide +kernel
theorem dX7_openAll_84 : decode cX7_openAll 84 = .ok (.getfield 37, 3) := by decide +kernel
theorem dX7_openAll_87 : decode cX7_openAll 87 = .ok (.ifCond .eq 4, 3) := by decide +kernel
theorem dX7_openAll_90 : decode cX7_openAll 90 = .ok (.return_, 1) := by decide +kernel
theorem dX7_openAll_91 : decode cX7_openAll 91 = .ok (.aload_n 0, 1) := by decide +kernel
theorem dX7_openAll_92 : decode cX7_openAll 92 = .ok (.getfield 34, 3) := by decide +kernel
theorem dX7_openAll_95 : decode cX7_openAll 95 = .ok (.ifCond .ne 17, 3) := by decide +kernel
theorem dX7_openAll_98 : decode cX7_openAll 98 = .ok (.iload 5, 2) := by decide +kernel
theorem dX7_openAll_100 : decode cX7_openAll 100 = .ok (.aload_n 0, 1) := by decide +kernel
theorem dX7_openAll_101 : decode cX7_openAll 101 = .ok (.aload_n 1, 1) := by decide +kernel
theorem dX7_openAll_102 : decode cX7_openAll 102 = .ok (.invokevirtual 113, 3) := by decide +kernel
theorem dX7_openAll_105 : decode cX7_openAll 105 = .ok (.iconst 1, 1) := by decide +kernel
theorem dX7_openAll_106 : decode cX7_openAll 106 = .ok (.isub, 1) := by decide +kernel
theorem dX7_openAll_107 : decode cX7_openAll 107 = .ok (.invokestatic 117, 3) := by decide +kernel
theorem dX7_openAll_110 : decode cX7_openAll 110 = .ok (.istore 5, 2) := by decide +kernel
theorem dX7_openAll_112 : decode cX7_openAll 112 = .ok (.iinc 5 1, 3) := by decide +kernel
theorem dX7_openAll_115 : decode cX7_openAll 115 = .ok (.goto (-52), 3) := by decide +kernel
theorem dX7_openAll_118 : decode cX7_openAll 118 = .ok (.return_, 1) := by decide +kernel
theorem dX7_nextStrike_0 : decode cX7_nextStrike 0 = .ok (.sipush 201, 3) := by decide +kernel
theorem dX7_nextStrike_3 : decode cX7_nextStrike 3 = .ok (.istore_n 2, 1) := by decide +kernel
theorem dX7_nextStrike_4 : decode cX7_nextStrike 4 = .ok (.iconst 0, 1) := by decide +kernel
theorem dX7_nextStrike_5 : decode cX7_nextStrike 5 = .ok (.istore_n 3, 1) := by decide +kernel
theorem dX7_nextStrike_6 : decode cX7_nextStrike 6 = .ok (.iload_n 3, 1) := by decide +kernel
theorem dX7_nextStrike_7 : decode cX7_nextStrike 7 = .ok (.aload_n 1, 1) := by decide +kernel
theorem dX7_nextStrike_8 : decode cX7_nextStrike 8 = .ok (.getfield 46, 3) := by decide +kernel
theorem dX7_nextStrike_11 : decode cX7_nextStrike 11 = .ok (.getfield 52, 3) := by decide +kernel
theorem dX7_nextStrike_14 : decode cX7_nextStrike 14 = .ok (.if_icmp .ge 33, 3) := by decide +kernel
theorem dX7_nextStrike_17 : decode cX7_nextStrike 17 = .ok (.aload_n 0, 1) := by decide +kernel
theorem dX7_nextStrike_18 : decode cX7_nextStrike 18 = .ok (.getfield 30, 3) := by decide +kernel
theorem dX7_nextStrike_21 : decode cX7_nextStrike 21 = .ok (.iload_n 3, 1) := by decide +kernel
theorem dX7_nextStrike_22 : decode cX7_nextStrike 22 = .ok (.invokestatic 122, 3) := by decide +kernel
theorem dX7_nextStrike_25 : decode cX7_nextStrike 25 = .ok (.ifCond .eq 16, 3) := by decide +kernel
theorem dX7_nextStrike_28 : decode cX7_nextStrike 28 = .ok (.iload_n 2, 1) := by decide +kernel
theorem dX7_nextStrike_29 : decode cX7_nextStrike 29 = .ok (.aload_n 0, 1) := by decide +kernel
theorem dX7_nextStrike_30 : decode cX7_nextStrike 30 = .ok (.getfield 18, 3) := by decide +kernel
theorem dX7_nextStrike_33 : decode cX7_nextStrike 33 = .ok (.iload_n 3, 1) := by decide +kernel
theorem dX7_nextStrike_34 : decode cX7_nextStrike 34 = .ok (.invokestatic 71, 3) := by decide +kernel
theorem dX7_nextStrike_37 : decode cX7_nextStrike 37 = .ok (.invokestatic 126, 3) := by decide +kernel
theorem dX7_nextStrike_40 : decode cX7_nextStrike 40 = .ok (.istore_n 2, 1) := by decide +kernel
theorem dX7_nextStrike_41 : decode cX7_nextStrike 41 = .ok (.iinc 3 1, 3) := by decide +kernel
theorem dX7_nextStrike_44 : decode cX7_nextStrike 44 = .ok (.goto (-38), 3) := by decide +kernel
theorem dX7_nextStrike_47 : decode cX7_nextStrike 47 = .ok (.iload_n 2, 1) := by decide +kernel
theorem dX7_nextStrike_48 : decode cX7_nextStrike 48 = .ok (.ireturn, 1) := by decide +kernel
theorem dX7_findFirst_0 : decode cX7_findFirst 0 = .ok (.sipush 201, 3) := by decide +kernel
theorem dX7_findFirst_3 : decode cX7_findFirst 3 = .ok (.istore_n 3, 1) := by decide +kernel
theorem dX7_findFirst_4 : decode cX7_findFirst 4 = .ok (.iconst 0, 1) := by decide +kernel
theorem dX7_findFirst_5 : decode cX7_findFirst 5 = .ok (.istore 4, 2) := by decide +kernel
theorem dX7_findFirst_7 : decode cX7_findFirst 7 = .ok (.iload 4, 2) := by decide +kernel
theorem dX7_findFirst_9 : decode cX7_findFirst 9 = .ok (.aload_n 1, 1) := by decide +kernel
theorem dX7_findFirst_10 : decode cX7_findFirst 10 = .ok (.getfield 46, 3) := by decide +kernel
theorem dX7_findFirst_13 : decode cX7_findFirst 13 = .ok (.getfield 52, 3) := by decide +kernel
theorem dX7_findFirst_16 : decode cX7_findFirst 16 = .ok (.if_icmp .ge 82, 3) := by decide +kernel
theorem dX7_findFirst_19 : decode cX7_findFirst 19 = .ok (.sipush 201, 3) := by decide +kernel
theorem dX7_findFirst_22 : decode cX7_findFirst 22 = .ok (.istore 5, 2) := by decide +kernel
theorem dX7_findFirst_24 : decode cX7_findFirst 24 = .ok (.aload_n 1, 1) := by decide +kernel
theorem dX7_findFirst_25 : decode cX7_findFirst 25 = .ok (.getfield 46, 3) := by decide +kernel
theorem dX7_findFirst_28 : decode cX7_findFirst 28 = .ok (.getfield 129, 3) := by decide +kernel
theorem dX7_findFirst_31 : decode cX7_findFirst 31 = .ok (.iload 4, 2) := by decide +kernel
theorem dX7_findFirst_33 : decode cX7_findFirst 33 = .ok (.invokestatic 122, 3) := by decide +kernel
theorem dX7_findFirst_36 : decode cX7_findFirst 36 = .ok (.ifCond .ne 29, 3) := by decide +kernel
theorem dX7_findFirst_39 : decode cX7_findFirst 39 = .ok (.iconst 1, 1) := by decide +kernel
theorem dX7_findFirst_40 : decode cX7_findFirst 40 = .ok (.aload_n 1, 1) := by decide +kernel
theorem dX7_findFirst_41 : decode cX7_findFirst 41 = .ok (.getfield 132, 3) := by decide +kernel
theorem dX7_findFirst_44 : decode cX7_findFirst 44 = .ok (.aload_n 1, 1) := by decide +kernel
theorem dX7_findFirst_45 : decode cX7_findFirst 45 = .ok (.getfield 46, 3) := by decide +kernel
theorem dX7_findFirst_48 : decode cX7_findFirst 48 = .ok (.getfield 135, 3) := by decide +kernel
theorem dX7_findFirst_51 : decode cX7_findFirst 51 = .ok (.iload 4, 2) := by decide +kernel
theorem dX7_findFirst_53 : decode cX7_findFirst 53 = .ok (.invokestatic 71, 3) := by decide +kernel
theorem dX7_findFirst_56 : decode cX7_findFirst 56 = .ok (.iadd, 1) := by decide +kernel
theorem dX7_findFirst_57 : decode cX7_findFirst 57 = .ok (.bipush 60, 2) := by decide +kernel
theorem dX7_findFirst_59 : decode cX7_findFirst 59 = .ok (.isub, 1) := by decide +kernel
theorem dX7_findFirst_60 : decode cX7_findFirst 60 = .ok (.invokestatic 117, 3) := by decide +kernel
theorem dX7_findFirst_63 : decode cX7_findFirst 63 = .ok (.istore 5, 2) := by decide +kernel
theorem dX7_findFirst_65 : decode cX7_findFirst 65 = .ok (.aload_n 0, 1) := by decide +kernel
theorem dX7_findFirst_66 : decode cX7_findFirst 66 = .ok (.getfield 18, 3) := by decide +kernel
theorem dX7_findFirst_69 : decode cX7_findFirst 69 = .ok (.iload 4, 2) := by decide +kernel
theorem dX7_findFirst_71 : decode cX7_findFirst 71 = .ok (.iload 5, 2) := by decide +kernel
theorem dX7_findFirst_73 : decode cX7_findFirst 73 = .ok (.invokestatic 75, 3) := by decide +kernel
theorem dX7_findFirst_76 : decode cX7_findFirst 76 = .ok (.iload_n 2, 1) := by decide +kernel
theorem dX7_findFirst_77 : decode cX7_findFirst 77 = .ok (.iload 4, 2) := by decide +kernel
theorem dX7_findFirst_79 : decode cX7_findFirst 79 = .ok (.invokestatic 122, 3) := by decide +kernel
theorem dX7_findFirst_82 : decode cX7_findFirst 82 = .ok (.ifCond .eq 10, 3) := by decide +kernel
theorem dX7_findFirst_85 : decode cX7_findFirst 85 = .ok (.iload_n 3, 1) := by decide +kernel
theorem dX7_findFirst_86 : decode cX7_findFirst 86 = .ok (.iload 5, 2) := by decide +kernel
theorem dX7_findFirst_88 : decode cX7_findFirst 88 = .ok (.invokestatic 126, 3) := by decide +kernel
theorem dX7_findFirst_91 : decode cX7_findFirst 91 = .ok (.istore_n 3, 1) := by decide +kernel
theorem dX7_findFirst_92 : decode cX7_findFirst 92 = .ok (.iinc 4 1, 3) := by decide +kernel
theorem dX7_findFirst_95 : decode cX7_findFirst 95 = .ok (.goto (-88), 3) := by decide +kernel
theorem dX7_findFirst_98 : decode cX7_findFirst 98 = .ok (.iload_n 3, 1) := by decide +kernel
theorem dX7_findFirst_99 : decode cX7_findFirst 99 = .ok (.ireturn, 1) := by decide +kernel
theorem dX7_findAlarm_0 : decode cX7_findAlarm 0 = .ok (.aload_n 0, 1) := by decide +kernel
theorem dX7_findAlarm_1 : decode cX7_findAlarm 1 = .ok (.iconst (-1), 1) := by decide +kernel
theorem dX7_findAlarm_2 : decode cX7_findAlarm 2 = .ok (.putfield 40, 3) := by decide +kernel
theorem dX7_findAlarm_5 : decode cX7_findAlarm 5 = .ok (.aload_n 0, 1) := by decide +kernel
theorem dX7_findAlarm_6 : decode cX7_findAlarm 6 = .ok (.iconst (-1), 1) := by decide +kernel
theorem dX7_findAlarm_7 : decode cX7_findAlarm 7 = .ok (.putfield 43, 3) := by decide +kernel
theorem dX7_findAlarm_10 : decode cX7_findAlarm 10 = .ok (.iconst 0, 1) := by decide +kernel
theorem dX7_findAlarm_11 : decode cX7_findAlarm 11 = .ok (.istore 4, 2) := by decide +kernel
theorem dX7_findAlarm_13 : decode cX7_findAlarm 13 = .ok (.iload 4, 2) := by decide +kernel
theorem dX7_findAlarm_15 : decode cX7_findAlarm 15 = .ok (.iload_n 3, 1) := by decide +kernel
theorem dX7_findAlarm_16 : decode cX7_findAlarm 16 = .ok (.if_icmp .ge 92, 3) := by decide +kernel
theorem dX7_findAlarm_19 : decode cX7_findAlarm 19 = .ok (.aload_n 0, 1) := by decide +kernel
theorem dX7_findAlarm_20 : decode cX7_findAlarm 20 = .ok (.getfield 40, 3) := by decide +kernel
theorem dX7_findAlarm_23 : decode cX7_findAlarm 23 = .ok (.iconst (-1), 1) := by decide +kernel
theorem dX7_findAlarm_24 : decode cX7_findAlarm 24 = .ok (.if_icmp .ne 84, 3) := by decide +kernel
theorem dX7_findAlarm_27 : decode cX7_findAlarm 27 = .ok (.iconst 0, 1) := by decide +kernel
theorem dX7_findAlarm_28 : decode cX7_findAlarm 28 = .ok (.istore 5, 2) := by decide +kernel
theorem dX7_findAlarm_30 : decode cX7_findAlarm 30 = .ok (.iload 5, 2) := by decide +kernel
theorem dX7_findAlarm_32 : decode cX7_findAlarm 32 = .ok (.aload_n 1, 1) := by decide +kernel
theorem dX7_findAlarm_33 : decode cX7_findAlarm 33 = .ok (.getfield 61, 3) := by decide +kernel
theorem dX7_findAlarm_36 : decode cX7_findAlarm 36 = .ok (.if_icmp .ge 66, 3) := by decide +kernel
theorem dX7_findAlarm_39 : decode cX7_findAlarm 39 = .ok (.aload_n 0, 1) := by decide +kernel
theorem dX7_findAlarm_40 : decode cX7_findAlarm 40 = .ok (.getfield 40, 3) := by decide +kernel
theorem dX7_findAlarm_43 : decode cX7_findAlarm 43 = .ok (.iconst (-1), 1) := by decide +kernel
theorem dX7_findAlarm_44 : decode cX7_findAlarm 44 = .ok (.if_icmp .ne 58, 3) := by decide +kernel
theorem dX7_findAlarm_47 : decode cX7_findAlarm 47 = .ok (.aload_n 0, 1) := by decide +kernel
theorem dX7_findAlarm_48 : decode cX7_findAlarm 48 = .ok (.getfield 15, 3) := by decide +kernel
theorem dX7_findAlarm_51 : decode cX7_findAlarm 51 = .ok (.iload 5, 2) := by decide +kernel
theorem dX7_findAlarm_53 : decode cX7_findAlarm 53 = .ok (.sipush 201, 3) := by decide +kernel
theorem dX7_findAlarm_56 : decode cX7_findAlarm 56 = .ok (.imul, 1) := by decide +kernel
theorem dX7_findAlarm_57 : decode cX7_findAlarm 57 = .ok (.iload 4, 2) := by decide +kernel
theorem dX7_findAlarm_59 : decode cX7_findAlarm 59 = .ok (.iadd, 1) := by decide +kernel
theorem dX7_findAlarm_60 : decode cX7_findAlarm 60 = .ok (.invokestatic 71, 3) := by decide +kernel
theorem dX7_findAlarm_63 : decode cX7_findAlarm 63 = .ok (.iload_n 2, 1) := by decide +kernel
theorem dX7_findAlarm_64 : decode cX7_findAlarm 64 = .ok (.iand, 1) := by decide +kernel
theorem dX7_findAlarm_65 : decode cX7_findAlarm 65 = .ok (.invokestatic 138, 3) := by decide +kernel
theorem dX7_findAlarm_68 : decode cX7_findAlarm 68 = .ok (.istore 6, 2) := by decide +kernel
theorem dX7_findAlarm_70 : decode cX7_findAlarm 70 = .ok (.iload 6, 2) := by decide +kernel
theorem dX7_findAlarm_72 : decode cX7_findAlarm 72 = .ok (.aload_n 1, 1) := by decide +kernel
theorem dX7_findAlarm_73 : decode cX7_findAlarm 73 = .ok (.getfield 144, 3) := by decide +kernel
theorem dX7_findAlarm_76 : decode cX7_findAlarm 76 = .ok (.iload 5, 2) := by decide +kernel
theorem dX7_findAlarm_78 : decode cX7_findAlarm 78 = .ok (.invokestatic 71, 3) := by decide +kernel
theorem dX7_findAlarm_81 : decode cX7_findAlarm 81 = .ok (.if_icmp .lt 15, 3) := by decide +kernel
theorem dX7_findAlarm_84 : decode cX7_findAlarm 84 = .ok (.aload_n 0, 1) := by decide +kernel
theorem dX7_findAlarm_85 : decode cX7_findAlarm 85 = .ok (.iload 4, 2) := by decide +kernel
theorem dX7_findAlarm_87 : decode cX7_findAlarm 87 = .ok (.putfield 40, 3) := by decide +kernel
theorem dX7_findAlarm_90 : decode cX7_findAlarm 90 = .ok (.aload_n 0, 1) := by decide +kernel
theorem dX7_findAlarm_91 : decode cX7_findAlarm 91 = .ok (.iload 5, 2) := by decide +kernel
theorem dX7_findAlarm_93 : decode cX7_findAlarm 93 = .ok (.putfield 43, 3) := by decide +kernel
theorem dX7_findAlarm_96 : decode cX7_findAlarm 96 = .ok (.iinc 5 1, 3) := by decide +kernel
theorem dX7_findAlarm_99 : decode cX7_findAlarm 99 = .ok (.goto (-69), 3) := by decide +kernel
theorem dX7_findAlarm_102 : decode cX7_findAlarm 102 = .ok (.iinc 4 1, 3) := by decide +kernel
theorem dX7_findAlarm_105 : decode cX7_findAlarm 105 = .ok (.goto (-92), 3) := by decide +kernel
theorem dX7_findAlarm_108 : decode cX7_findAlarm 108 = .ok (.return_, 1) := by decide +kernel
theorem dX7_goOn_0 : decode cX7_goOn 0 = .ok (.aload_n 0, 1) := by decide +kernel
theorem dX7_goOn_1 : decode cX7_goOn 1 = .ok (.getfield 34, 3) := by decide +kernel
theorem dX7_goOn_4 : decode cX7_goOn 4 = .ok (.istore_n 3, 1) := by decide +kernel
theorem dX7_goOn_5 : decode cX7_goOn 5 = .ok (.iconst 0, 1) := by decide +kernel
theorem dX7_goOn_6 : decode cX7_goOn 6 = .ok (.istore 4, 2) := by decide +kernel
theorem dX7_goOn_8 : decode cX7_goOn 8 = .ok (.iload 4, 2) := by decide +kernel
theorem dX7_goOn_10 : decode cX7_goOn 10 = .ok (.aload_n 1, 1) := by decide +kernel
theorem dX7_goOn_11 : decode cX7_goOn 11 = .ok (.getfield 46, 3) := by decide +kernel
theorem dX7_goOn_14 : decode cX7_goOn 14 = .ok (.getfield 52, 3) := by decide +kernel
theorem dX7_goOn_17 : decode cX7_goOn 17 = .ok (.if_icmp .ge 153, 3) := by decide +kernel
theorem dX7_goOn_20 : decode cX7_goOn 20 = .ok (.iconst 1, 1) := by decide +kernel
theorem dX7_goOn_21 : decode cX7_goOn 21 = .ok (.iload 4, 2) := by decide +kernel
theorem dX7_goOn_23 : decode cX7_goOn 23 = .ok (.ishl, 1) := by decide +kernel
theorem dX7_goOn_24 : decode cX7_goOn 24 = .ok (.istore 5, 2) := by decide +kernel
theorem dX7_goOn_26 : decode cX7_goOn 26 = .ok (.aload_n 0, 1) := by decide +kernel
theorem dX7_goOn_27 : decode cX7_goOn 27 = .ok (.getfield 30, 3) := by decide +kernel
theorem dX7_goOn_30 : decode cX7_goOn 30 = .ok (.iload 5, 2) := by decide +kernel
theorem dX7_goOn_32 : decode cX7_goOn 32 = .ok (.iand, 1) := by decide +kernel
theorem dX7_goOn_33 : decode cX7_goOn 33 = .ok (.ifCond .eq 93, 3) := by decide +kernel
theorem dX7_goOn_36 : decode cX7_goOn 36 = .ok (.aload_n 0, 1) := by decide +kernel
theorem dX7_goOn_37 : decode cX7_goOn 37 = .ok (.aload_n 1, 1) := by decide +kernel
theorem dX7_goOn_38 : decode cX7_goOn 38 = .ok (.iload 4, 2) := by decide +kernel
theorem dX7_goOn_40 : decode cX7_goOn 40 = .ok (.iload_n 2, 1) := by decide +kernel
theorem dX7_goOn_41 : decode cX7_goOn 41 = .ok (.iload_n 3, 1) := by decide +kernel
theorem dX7_goOn_42 : decode cX7_goOn 42 = .ok (.invokevirtual 147, 3) := by decide +kernel
theorem dX7_goOn_45 : decode cX7_goOn 45 = .ok (.istore 6, 2) := by decide +kernel
theorem dX7_goOn_47 : decode cX7_goOn 47 = .ok (.iload 6, 2) := by decide +kernel
theorem dX7_goOn_49 : decode cX7_goOn 49 = .ok (.ifCond .eq 74, 3) := by decide +kernel
theorem dX7_goOn_52 : decode cX7_goOn 52 = .ok (.aload_n 0, 1) := by decide +kernel
theorem dX7_goOn_53 : decode cX7_goOn 53 = .ok (.getfield 21, 3) := by decide +kernel
theorem dX7_goOn_56 : decode cX7_goOn 56 = .ok (.iload 4, 2) := by decide +kernel
theorem dX7_goOn_58 : decode cX7_goOn 58 = .ok (.iload_n 2, 1) := by decide +kernel
theorem dX7_goOn_59 : decode cX7_goOn 59 = .ok (.invokestatic 75, 3) := by decide +kernel
theorem dX7_goOn_62 : decode cX7_goOn 62 = .ok (.aload_n 0, 1) := by decide +kernel
theorem dX7_goOn_63 : decode cX7_goOn 63 = .ok (.getfield 24, 3) := by decide +kernel
theorem dX7_goOn_66 : decode cX7_goOn 66 = .ok (.iload 4, 2) := by decide +kernel
theorem dX7_goOn_68 : decode cX7_goOn 68 = .ok (.aload_n 0, 1) := by decide +kernel
theorem dX7_goOn_69 : decode cX7_goOn 69 = .ok (.getfield 9, 3) := by decide +kernel
theorem dX7_goOn_72 : decode cX7_goOn 72 = .ok (.iload 4, 2) := by decide +kernel
theorem dX7_goOn_74 : decode cX7_goOn 74 = .ok (.sipush 201, 3) := by decide +kernel
theorem dX7_goOn_77 : decode cX7_goOn 77 = .ok (.imul, 1) := by decide +kernel
theorem dX7_goOn_78 : decode cX7_goOn 78 = .ok (.iload_n 2, 1) := by decide +kernel
theorem dX7_goOn_79 : decode cX7_goOn 79 = .ok (.iadd, 1) := by decide +kernel
theorem dX7_goOn_80 : decode cX7_goOn 80 = .ok (.iconst 1, 1) := by decide +kernel
theorem dX7_goOn_81 : decode cX7_goOn 81 = .ok (.isub, 1) := by decide +kernel
theorem dX7_goOn_82 : decode cX7_goOn 82 = .ok (.invokestatic 71, 3) := by decide +kernel
theorem dX7_goOn_85 : decode cX7_goOn 85 = .ok (.invokestatic 75, 3) := by decide +kernel
theorem dX7_goOn_88 : decode cX7_goOn 88 = .ok (.aload_n 0, 1) := by decide +kernel
theorem dX7_goOn_89 : decode cX7_goOn 89 = .ok (.getfield 27, 3) := by decide +kernel
theorem dX7_goOn_92 : decode cX7_goOn 92 = .ok (.iload 4, 2) := by decide +kernel
theorem dX7_goOn_94 : decode cX7_goOn 94 = .ok (.iload 6, 2) := by decide +kernel
theorem dX7_goOn_96 : decode cX7_goOn 96 = .ok (.invokestatic 75, 3) := by decide +kernel
theorem dX7_goOn_99 : decode cX7_goOn 99 = .ok (.aload_n 0, 1) := by decide +kernel
theorem dX7_goOn_100 : decode cX7_goOn 100 = .ok (.dup, 1) := by decide +kernel
theorem dX7_goOn_101 : decode cX7_goOn 101 = .ok (.getfield 30, 3) := by decide +kernel
theorem dX7_goOn_104 : decode cX7_goOn 104 = .ok (.iload 5, 2) := by decide +kernel
theorem dX7_goOn_106 : decode cX7_goOn 106 = .ok (.iconst (-1), 1) := by decide +kernel
theorem dX7_goOn_107 : decode cX7_goOn 107 = .ok (.ixor, 1) := by decide +kernel
theorem dX7_goOn_108 : decode cX7_goOn 108 = .ok (.iand, 1) := by decide +kernel
theorem dX7_goOn_109 : decode cX7_goOn 109 = .ok (.putfield 30, 3) := by decide +kernel
theorem dX7_goOn_112 : decode cX7_goOn 112 = .ok (.aload_n 0, 1) := by decide +kernel
theorem dX7_goOn_113 : decode cX7_goOn 113 = .ok (.dup, 1) := by decide +kernel
theorem dX7_goOn_114 : decode cX7_goOn 114 = .ok (.getfield 34, 3) := by decide +kernel
theorem dX7_goOn_117 : decode cX7_goOn 117 = .ok (.iload 5, 2) := by decide +kernel
theorem dX7_goOn_119 : decode cX7_goOn 119 = .ok (.ior, 1) := by decide +kernel
theorem dX7_goOn_120 : decode cX7_goOn 120 = .ok (.putfield 34, 3) := by decide +kernel
theorem dX7_goOn_123 : decode cX7_goOn 123 = .ok (.goto 41, 3) := by decide +kernel
theorem dX7_goOn_126 : decode cX7_goOn 126 = .ok (.iload_n 3, 1) := by decide +kernel
theorem dX7_goOn_127 : decode cX7_goOn 127 = .ok (.iload 5, 2) := by decide +kernel
theorem dX7_goOn_129 : decode cX7_goOn 129 = .ok (.iand, 1) := by decide +kernel
theorem dX7_goOn_130 : decode cX7_goOn 130 = .ok (.ifCond .eq 34, 3) := by decide +kernel
theorem dX7_goOn_133 : decode cX7_goOn 133 = .ok (.iload_n 2, 1) := by decide +kernel
theorem dX7_goOn_134 : decode cX7_goOn 134 = .ok (.aload_n 0, 1) := by decide +kernel
theorem dX7_goOn_135 : decode cX7_goOn 135 = .ok (.getfield 21, 3) := by decide +kernel
theorem dX7_goOn_138 : decode cX7_goOn 138 = .ok (.iload 4, 2) := by decide +kernel
theorem dX7_goOn_140 : decode cX7_goOn 140 = .ok (.invokestatic 71, 3) := by decide +kernel
theorem dX7_goOn_143 : decode cX7_goOn 143 = .ok (.aload_n 1, 1) := by decide +kernel
theorem dX7_goOn_144 : decode cX7_goOn 144 = .ok (.getfield 151, 3) := by decide +kernel
theorem dX7_goOn_147 : decode cX7_goOn 147 = .ok (.iadd, 1) := by decide +kernel
theorem dX7_goOn_148 : decode cX7_goOn 148 = .ok (.if_icmp .lt 16, 3) := by decide +kernel
theorem dX7_goOn_151 : decode cX7_goOn 151 = .ok (.aload_n 0, 1) := by decide +kernel
theorem dX7_goOn_152 : decode cX7_goOn 152 = .ok (.dup, 1) := by decide +kernel
theorem dX7_goOn_153 : decode cX7_goOn 153 = .ok (.getfield 34, 3) := by decide +kernel
theorem dX7_goOn_156 : decode cX7_goOn 156 = .ok (.iload 5, 2) := by decide +kernel
theorem dX7_goOn_158 : decode cX7_goOn 158 = .ok (.iconst (-1), 1) := by decide +kernel
theorem dX7_goOn_159 : decode cX7_goOn 159 = .ok (.ixor, 1) := by decide +kernel
theorem dX7_goOn_160 : decode cX7_goOn 160 = .ok (.iand, 1) := by decide +kernel
theorem dX7_goOn_161 : decode cX7_goOn 161 = .ok (.putfield 34, 3) := by decide +kernel
theorem dX7_goOn_164 : decode cX7_goOn 164 = .ok (.iinc 4 1, 3) := by decide +kernel
theorem dX7_goOn_167 : decode cX7_goOn 167 = .ok (.goto (-159), 3) := by decide +kernel
theorem dX7_goOn_170 : decode cX7_goOn 170 = .ok (.aload_n 0, 1) := by decide +kernel
theorem dX7_goOn_171 : decode cX7_goOn 171 = .ok (.getfield 34, 3) := by decide +kernel
theorem dX7_goOn_174 : decode cX7_goOn 174 = .ok (.invokestatic 138, 3) := by decide +kernel
theorem dX7_goOn_177 : decode cX7_goOn 177 = .ok (.aload_n 1, 1) := by decide +kernel
theorem dX7_goOn_178 : decode cX7_goOn 178 = .ok (.getfield 152, 3) := by decide +kernel
theorem dX7_goOn_181 : decode cX7_goOn 181 = .ok (.if_icmp .lt 16, 3) := by decide +kernel
theorem dX7_goOn_184 : decode cX7_goOn 184 = .ok (.aload_n 0, 1) := by decide +kernel
theorem dX7_goOn_185 : decode cX7_goOn 185 = .ok (.dup, 1) := by decide +kernel
theorem dX7_goOn_186 : decode cX7_goOn 186 = .ok (.getfield 37, 3) := by decide +kernel
theorem dX7_goOn_189 : decode cX7_goOn 189 = .ok (.aload_n 0, 1) := by decide +kernel
theorem dX7_goOn_190 : decode cX7_goOn 190 = .ok (.getfield 34, 3) := by decide +kernel
theorem dX7_goOn_193 : decode cX7_goOn 193 = .ok (.ior, 1) := by decide +kernel
theorem dX7_goOn_194 : decode cX7_goOn 194 = .ok (.putfield 37, 3) := by decide +kernel
theorem dX7_goOn_197 : decode cX7_goOn 197 = .ok (.return_, 1) := by decide +kernel
theorem dX7_opensBy_0 : decode cX7_opensBy 0 = .ok (.iload_n 3, 1) := by decide +kernel
theorem dX7_opensBy_1 : decode cX7_opensBy 1 = .ok (.aload_n 0, 1) := by decide +kernel
theorem dX7_opensBy_2 : decode cX7_opensBy 2 = .ok (.getfield 18, 3) := by decide +kernel
theorem dX7_opensBy_5 : decode cX7_opensBy 5 = .ok (.iload_n 2, 1) := by decide +kernel
theorem dX7_opensBy_6 : decode cX7_opensBy 6 = .ok (.invokestatic 71, 3) := by decide +kernel
theorem dX7_opensBy_9 : decode cX7_opensBy 9 = .ok (.if_icmp .lt 5, 3) := by decide +kernel
theorem dX7_opensBy_12 : decode cX7_opensBy 12 = .ok (.iconst 1, 1) := by decide +kernel
theorem dX7_opensBy_13 : decode cX7_opensBy 13 = .ok (.ireturn, 1) := by decide +kernel
theorem dX7_opensBy_14 : decode cX7_opensBy 14 = .ok (.aload_n 1, 1) := by decide +kernel
theorem dX7_opensBy_15 : decode cX7_opensBy 15 = .ok (.getfield 46, 3) := by decide +kernel
theorem dX7_opensBy_18 : decode cX7_opensBy 18 = .ok (.getfield 155, 3) := by decide +kernel
theorem dX7_opensBy_21 : decode cX7_opensBy 21 = .ok (.iload_n 2, 1) := by decide +kernel
theorem dX7_opensBy_22 : decode cX7_opensBy 22 = .ok (.invokestatic 71, 3) := by decide +kernel
theorem dX7_opensBy_25 : decode cX7_opensBy 25 = .ok (.istore 5, 2) := by decide +kernel
theorem dX7_opensBy_27 : decode cX7_opensBy 27 = .ok (.iload 5, 2) := by decide +kernel
theorem dX7_opensBy_29 : decode cX7_opensBy 29 = .ok (.ifCond .le 13, 3) := by decide +kernel
theorem dX7_opensBy_32 : decode cX7_opensBy 32 = .ok (.iload 5, 2) := by decide +kernel
theorem dX7_opensBy_34 : decode cX7_opensBy 34 = .ok (.iload 4, 2) := by decide +kernel
theorem dX7_opensBy_36 : decode cX7_opensBy 36 = .ok (.invokestatic 138, 3) := by decide +kernel
theorem dX7_opensBy_39 : decode cX7_opensBy 39 = .ok (.if_icmp .le 5, 3) := by decide +kernel
theorem dX7_opensBy_42 : decode cX7_opensBy 42 = .ok (.iconst 0, 1) := by decide +kernel
theorem dX7_opensBy_43 : decode cX7_opensBy 43 = .ok (.ireturn, 1) := by decide +kernel
theorem dX7_opensBy_44 : decode cX7_opensBy 44 = .ok (.aload_n 0, 1) := by decide +kernel
theorem dX7_opensBy_45 : decode cX7_opensBy 45 = .ok (.getfield 9, 3) := by decide +kernel
theorem dX7_opensBy_48 : decode cX7_opensBy 48 = .ok (.iload_n 2, 1) := by decide +kernel
theorem dX7_opensBy_49 : decode cX7_opensBy 49 = .ok (.sipush 201, 3) := by decide +kernel
theorem dX7_opensBy_52 : decode cX7_opensBy 52 = .ok (.imul, 1) := by decide +kernel
theorem dX7_opensBy_53 : decode cX7_opensBy 53 = .ok (.iload_n 3, 1) := by decide +kernel
theorem dX7_opensBy_54 : decode cX7_opensBy 54 = .ok (.iadd, 1) := by decide +kernel
theorem dX7_opensBy_55 : decode cX7_opensBy 55 = .ok (.iconst 1, 1) := by decide +kernel
theorem dX7_opensBy_56 : decode cX7_opensBy 56 = .ok (.isub, 1) := by decide +kernel
theorem dX7_opensBy_57 : decode cX7_opensBy 57 = .ok (.invokestatic 71, 3) := by decide +kernel
theorem dX7_opensBy_60 : decode cX7_opensBy 60 = .ok (.istore 6, 2) := by decide +kernel
theorem dX7_opensBy_62 : decode cX7_opensBy 62 = .ok (.iconst 0, 1) := by decide +kernel
theorem dX7_opensBy_63 : decode cX7_opensBy 63 = .ok (.istore 7, 2) := by decide +kernel
theorem dX7_opensBy_65 : decode cX7_opensBy 65 = .ok (.iconst 0, 1) := by decide +kernel
theorem dX7_opensBy_66 : decode cX7_opensBy 66 = .ok (.istore 8, 2) := by decide +kernel
theorem dX7_opensBy_68 : decode cX7_opensBy 68 = .ok (.iload 8, 2) := by decide +kernel
theorem dX7_opensBy_70 : decode cX7_opensBy 70 = .ok (.aload_n 1, 1) := by decide +kernel
theorem dX7_opensBy_71 : decode cX7_opensBy 71 = .ok (.getfield 46, 3) := by decide +kernel
theorem dX7_opensBy_74 : decode cX7_opensBy 74 = .ok (.getfield 52, 3) := by decide +kernel
theorem dX7_opensBy_77 : decode cX7_opensBy 77 = .ok (.if_icmp .ge 40, 3) := by decide +kernel
theorem dX7_opensBy_80 : decode cX7_opensBy 80 = .ok (.iload 4, 2) := by decide +kernel
theorem dX7_opensBy_82 : decode cX7_opensBy 82 = .ok (.iload 8, 2) := by decide +kernel
theorem dX7_opensBy_84 : decode cX7_opensBy 84 = .ok (.invokestatic 122, 3) := by decide +kernel
theorem dX7_opensBy_87 : decode cX7_opensBy 87 = .ok (.ifCond .eq 24, 3) := by decide +kernel
theorem dX7_opensBy_90 : decode cX7_opensBy 90 = .ok (.aload_n 1, 1) := by decide +kernel
theorem dX7_opensBy_91 : decode cX7_opensBy 91 = .ok (.iload 6, 2) := by decide +kernel
theorem dX7_opensBy_93 : decode cX7_opensBy 93 = .ok (.aload_n 0, 1) := by decide +kernel
theorem dX7_opensBy_94 : decode cX7_opensBy 94 = .ok (.getfield 24, 3) := by decide +kernel
theorem dX7_opensBy_97 : decode cX7_opensBy 97 = .ok (.iload 8, 2) := by decide +kernel
theorem dX7_opensBy_99 : decode cX7_opensBy 99 = .ok (.invokestatic 71, 3) := by decide +kernel
theorem dX7_opensBy_102 : decode cX7_opensBy 102 = .ok (.invokevirtual 158, 3) := by decide +kernel
theorem dX7_opensBy_105 : decode cX7_opensBy 105 = .ok (.ifCond .eq 6, 3) := by decide +kernel
theorem dX7_opensBy_108 : decode cX7_opensBy 108 = .ok (.iinc 7 1, 3) := by decide +kernel
theorem dX7_opensBy_111 : decode cX7_opensBy 111 = .ok (.iinc 8 1, 3) := by decide +kernel
theorem dX7_opensBy_114 : decode cX7_opensBy 114 = .ok (.goto (-46), 3) := by decide +kernel
theorem dX7_opensBy_117 : decode cX7_opensBy 117 = .ok (.iload 7, 2) := by decide +kernel
theorem dX7_opensBy_119 : decode cX7_opensBy 119 = .ok (.iload 5, 2) := by decide +kernel
theorem dX7_opensBy_121 : decode cX7_opensBy 121 = .ok (.if_icmp .lt 7, 3) := by decide +kernel
theorem dX7_opensBy_124 : decode cX7_opensBy 124 = .ok (.iconst 2, 1) := by decide +kernel
theorem dX7_opensBy_125 : decode cX7_opensBy 125 = .ok (.goto 4, 3) := by decide +kernel
theorem dX7_opensBy_128 : decode cX7_opensBy 128 = .ok (.iconst 0, 1) := by decide +kernel
theorem dX7_opensBy_129 : decode cX7_opensBy 129 = .ok (.ireturn, 1) := by decide +kernel
theorem dX8_init_0 : decode cX8_init 0 = .ok (.aload_n 0, 1) := by decide +kernel
theorem dX8_init_1 : decode cX8_init 1 = .ok (.invokespecial 3, 3) := by decide +kernel
theorem dX8_init_4 : decode cX8_init 4 = .ok (.aload_n 0, 1) := by decide +kernel
theorem dX8_init_5 : decode cX8_init 5 = .ok (.sipush 1600, 3) := by decide +kernel
theorem dX8_init_8 : decode cX8_init 8 = .ok (.newarray .int, 2) := by decide +kernel
theorem dX8_init_10 : decode cX8_init 10 = .ok (.putfield 9, 3) := by decide +kernel
theorem dX8_init_13 : decode cX8_init 13 = .ok (.aload_n 0, 1) := by decide +kernel
theorem dX8_init_14 : decode cX8_init 14 = .ok (.iconst 0, 1) := by decide +kernel
theorem dX8_init_15 : decode cX8_init 15 = .ok (.putfield 15, 3) := by decide +kernel
theorem dX8_init_18 : decode cX8_init 18 = .ok (.return_, 1) := by decide +kernel
theorem dX8_hasRoom_0 : decode cX8_hasRoom 0 = .ok (.aload_n 0, 1) := by decide +kernel
theorem dX8_hasRoom_1 : decode cX8_hasRoom 1 = .ok (.getfield 15, 3) := by decide +kernel
theorem dX8_hasRoom_4 : decode cX8_hasRoom 4 = .ok (.iload_n 1, 1) := by decide +kernel
theorem dX8_hasRoom_5 : decode cX8_hasRoom 5 = .ok (.iadd, 1) := by decide +kernel
theorem dX8_hasRoom_6 : decode cX8_hasRoom 6 = .ok (.sipush 1600, 3) := by decide +kernel
theorem dX8_hasRoom_9 : decode cX8_hasRoom 9 = .ok (.if_icmp .gt 7, 3) := by decide +kernel
theorem dX8_hasRoom_12 : decode cX8_hasRoom 12 = .ok (.iconst 1, 1) := by decide +kernel
theorem dX8_hasRoom_13 : decode cX8_hasRoom 13 = .ok (.goto 4, 3) := by decide +kernel
theorem dX8_hasRoom_16 : decode cX8_hasRoom 16 = .ok (.iconst 0, 1) := by decide +kernel
theorem dX8_hasRoom_17 : decode cX8_hasRoom 17 = .ok (.ireturn, 1) := by decide +kernel
theorem dX8_addNumber_0 : decode cX8_addNumber 0 = .ok (.bipush 24, 2) := by decide +kernel
theorem dX8_addNumber_2 : decode cX8_addNumber 2 = .ok (.istore_n 2, 1) := by decide +kernel
theorem dX8_addNumber_3 : decode cX8_addNumber 3 = .ok (.iload_n 2, 1) := by decide +kernel
theorem dX8_addNumber_4 : decode cX8_addNumber 4 = .ok (.ifCond .lt 37, 3) := by decide +kernel
theorem dX8_addNumber_7 : decode cX8_addNumber 7 = .ok (.aload_n 0, 1) := by decide +kernel
theorem dX8_addNumber_8 : decode cX8_addNumber 8 = .ok (.getfield 9, 3) := by decide +kernel
theorem dX8_addNumber_11 : decode cX8_addNumber 11 = .ok (.aload_n 0, 1) := by decide +kernel
theorem dX8_addNumber_12 : decode cX8_addNumber 12 = .ok (.getfield 15, 3) := by decide +kernel
theorem dX8_addNumber_15 : decode cX8_addNumber 15 = .ok (.iload_n 1, 1) := by decide +kernel
theorem dX8_addNumber_16 : decode cX8_addNumber 16 = .ok (.iload_n 2, 1) := by decide +kernel
theorem dX8_addNumber_17 : decode cX8_addNumber 17 = .ok (.ishr, 1) := by decide +kernel
theorem dX8_addNumber_18 : decode cX8_addNumber 18 = .ok (.sipush 255, 3) := by decide +kernel
theorem dX8_addNumber_21 : decode cX8_addNumber 21 = .ok (.iand, 1) := by decide +kernel
theorem dX8_addNumber_22 : decode cX8_addNumber 22 = .ok (.invokestatic 19, 3) := by decide +kernel
theorem dX8_addNumber_25 : decode cX8_addNumber 25 = .ok (.aload_n 0, 1) := by decide +kernel
theorem dX8_addNumber_26 : decode cX8_addNumber 26 = .ok (.dup, 1) := by decide +kernel
theorem dX8_addNumber_27 : decode cX8_addNumber 27 = .ok (.getfield 15, 3) := by decide +kernel
theorem dX8_addNumber_30 : decode cX8_addNumber 30 = .ok (.iconst 1, 1) := by decide +kernel
theorem dX8_addNumber_31 : decode cX8_addNumber 31 = .ok (.iadd, 1) := by decide +kernel
theorem dX8_addNumber_32 : decode cX8_addNumber 32 = .ok (.putfield 15, 3) := by decide +kernel
theorem dX8_addNumber_35 : decode cX8_addNumber 35 = .ok (.iinc 2 (-8), 3) := by decide +kernel
theorem dX8_addNumber_38 : decode cX8_addNumber 38 = .ok (.goto (-35), 3) := by decide +kernel
theorem dX8_addNumber_41 : decode cX8_addNumber 41 = .ok (.return_, 1) := by decide +kernel
theorem dX8_cutTo_0 : decode cX8_cutTo 0 = .ok (.iload_n 1, 1) := by decide +kernel
theorem dX8_cutTo_1 : decode cX8_cutTo 1 = .ok (.ifCond .lt 11, 3) := by decide +kernel
theorem dX8_cutTo_4 : decode cX8_cutTo 4 = .ok (.iload_n 1, 1) := by decide +kernel
theorem dX8_cutTo_5 : decode cX8_cutTo 5 = .ok (.aload_n 0, 1) := by decide +kernel
theorem dX8_cutTo_6 : decode cX8_cutTo 6 = .ok (.getfield 15, 3) := by decide +kernel
theorem dX8_cutTo_9 : decode cX8_cutTo 9 = .ok (.if_icmp .le 5, 3) := by decide +kernel
theorem dX8_cutTo_12 : decode cX8_cutTo 12 = .ok (.iconst 0, 1) := by decide +kernel
theorem dX8_cutTo_13 : decode cX8_cutTo 13 = .ok (.ireturn, 1) := by decide +kernel
theorem dX8_cutTo_14 : decode cX8_cutTo 14 = .ok (.aload_n 0, 1) := by decide +kernel
theorem dX8_cutTo_15 : decode cX8_cutTo 15 = .ok (.iload_n 1, 1) := by decide +kernel
theorem dX8_cutTo_16 : decode cX8_cutTo 16 = .ok (.putfield 15, 3) := by decide +kernel
theorem dX8_cutTo_19 : decode cX8_cutTo 19 = .ok (.iconst 1, 1) := by decide +kernel
theorem dX8_cutTo_20 : decode cX8_cutTo 20 = .ok (.ireturn, 1) := by decide +kernel
theorem dX8_byteAt_0 : decode cX8_byteAt 0 = .ok (.iload_n 1, 1) := by decide +kernel
theorem dX8_byteAt_1 : decode cX8_byteAt 1 = .ok (.ifCond .lt 29, 3) := by decide +kernel
theorem dX8_byteAt_4 : decode cX8_byteAt 4 = .ok (.iload_n 1, 1) := by decide +kernel
theorem dX8_byteAt_5 : decode cX8_byteAt 5 = .ok (.aload_n 0, 1) := by decide +kernel
theorem dX8_byteAt_6 : decode cX8_byteAt 6 = .ok (.getfield 15, 3) := by decide +kernel
theorem dX8_byteAt_9 : decode cX8_byteAt 9 = .ok (.if_icmp .ge 21, 3) := by decide +kernel
theorem dX8_byteAt_12 : decode cX8_byteAt 12 = .ok (.iload_n 1, 1) := by decide +kernel
theorem dX8_byteAt_13 : decode cX8_byteAt 13 = .ok (.aload_n 0, 1) := by decide +kernel
theorem dX8_byteAt_14 : decode cX8_byteAt 14 = .ok (.getfield 9, 3) := by decide +kernel
theorem dX8_byteAt_17 : decode cX8_byteAt 17 = .ok (.arraylength, 1) := by decide +kernel
theorem dX8_byteAt_18 : decode cX8_byteAt 18 = .ok (.if_icmp .ge 12, 3) := by decide +kernel
theorem dX8_byteAt_21 : decode cX8_byteAt 21 = .ok (.aload_n 0, 1) := by decide +kernel
theorem dX8_byteAt_22 : decode cX8_byteAt 22 = .ok (.getfield 9, 3) := by decide +kernel
theorem dX8_byteAt_25 : decode cX8_byteAt 25 = .ok (.iload_n 1, 1) := by decide +kernel
theorem dX8_byteAt_26 : decode cX8_byteAt 26 = .ok (.iaload, 1) := by decide +kernel
theorem dX8_byteAt_27 : decode cX8_byteAt 27 = .ok (.goto 4, 3) := by decide +kernel
theorem dX8_byteAt_30 : decode cX8_byteAt 30 = .ok (.iconst (-1), 1) := by decide +kernel
theorem dX8_byteAt_31 : decode cX8_byteAt 31 = .ok (.ireturn, 1) := by decide +kernel
theorem dX9_init_0 : decode cX9_init 0 = .ok (.aload_n 0, 1) := by decide +kernel
theorem dX9_init_1 : decode cX9_init 1 = .ok (.invokespecial 3, 3) := by decide +kernel
theorem dX9_init_4 : decode cX9_init 4 = .ok (.aload_n 0, 1) := by decide +kernel
theorem dX9_init_5 : decode cX9_init 5 = .ok (.aload_n 1, 1) := by decide +kernel
theorem dX9_init_6 : decode cX9_init 6 = .ok (.putfield 9, 3) := by decide +kernel
theorem dX9_init_9 : decode cX9_init 9 = .ok (.aload_n 0, 1) := by decide +kernel
theorem dX9_init_10 : decode cX9_init 10 = .ok (.iconst 0, 1) := by decide +kernel
theorem dX9_init_11 : decode cX9_init 11 = .ok (.putfield 15, 3) := by decide +kernel
theorem dX9_init_14 : decode cX9_init 14 = .ok (.aload_n 0, 1) := by decide +kernel
theorem dX9_init_15 : decode cX9_init 15 = .ok (.iconst 0, 1) := by decide +kernel
theorem dX9_init_16 : decode cX9_init 16 = .ok (.putfield 19, 3) := by decide +kernel
theorem dX9_init_19 : decode cX9_init 19 = .ok (.aload_n 0, 1) := by decide +kernel
theorem dX9_init_20 : decode cX9_init 20 = .ok (.iconst 0, 1) := by decide +kernel
theorem dX9_init_21 : decode cX9_init 21 = .ok (.putfield 22, 3) := by decide +kernel
theorem dX9_init_24 : decode cX9_init 24 = .ok (.aload_n 0, 1) := by decide +kernel
theorem dX9_init_25 : decode cX9_init 25 = .ok (.iconst 0, 1) := by decide +kernel
theorem dX9_init_26 : decode cX9_init 26 = .ok (.putfield 25, 3) := by decide +kernel
theorem dX9_init_29 : decode cX9_init 29 = .ok (.aload_n 0, 1) := by decide +kernel
theorem dX9_init_30 : decode cX9_init 30 = .ok (.iconst (-1), 1) := by decide +kernel
theorem dX9_init_31 : decode cX9_init 31 = .ok (.putfield 28, 3) := by decide +kernel
theorem dX9_init_34 : decode cX9_init 34 = .ok (.return_, 1) := by decide +kernel
theorem dX9_begin_0 : decode cX9_begin 0 = .ok (.aload_n 0, 1) := by decide +kernel
theorem dX9_begin_1 : decode cX9_begin 1 = .ok (.iconst 0, 1) := by decide +kernel
theorem dX9_begin_2 : decode cX9_begin 2 = .ok (.putfield 25, 3) := by decide +kernel
theorem dX9_begin_5 : decode cX9_begin 5 = .ok (.aload_n 0, 1) := by decide +kernel
theorem dX9_begin_6 : decode cX9_begin 6 = .ok (.iconst (-1), 1) := by decide +kernel
theorem dX9_begin_7 : decode cX9_begin 7 = .ok (.putfield 28, 3) := by decide +kernel
theorem dX9_begin_10 : decode cX9_begin 10 = .ok (.aload_n 0, 1) := by decide +kernel
theorem dX9_begin_11 : decode cX9_begin 11 = .ok (.iconst 3, 1) := by decide +kernel
theorem dX9_begin_12 : decode cX9_begin 12 = .ok (.putfield 15, 3) := by decide +kernel
theorem dX9_begin_15 : decode cX9_begin 15 = .ok (.aload_n 0, 1) := by decide +kernel
theorem dX9_begin_16 : decode cX9_begin 16 = .ok (.iconst 0, 1) := by decide +kernel
theorem dX9_begin_17 : decode cX9_begin 17 = .ok (.putfield 22, 3) := by decide +kernel
theorem dX9_begin_20 : decode cX9_begin 20 = .ok (.aload_n 0, 1) := by decide +kernel
theorem dX9_begin_21 : decode cX9_begin 21 = .ok (.invokevirtual 31, 3) := by decide +kernel
theorem dX9_begin_24 : decode cX9_begin 24 = .ok (.return_, 1) := by decide +kernel
theorem dX9_next_0 : decode cX9_next 0 = .ok (.aload_n 0, 1) := by decide +kernel
theorem dX9_next_1 : decode cX9_next 1 = .ok (.getfield 15, 3) := by decide +kernel
theorem dX9_next_4 : decode cX9_next 4 = .ok (.istore_n 1, 1) := by decide +kernel
theorem dX9_next_5 : decode cX9_next 5 = .ok (.aload_n 0, 1) := by decide +kernel
theorem dX9_next_6 : decode cX9_next 6 = .ok (.getfield 22, 3) := by decide +kernel
theorem dX9_next_9 : decode cX9_next 9 = .ok (.istore_n 2, 1) := by decide +kernel
theorem dX9_next_10 : decode cX9_next 10 = .ok (.aload_n 0, 1) := by decide +kernel
theorem dX9_next_11 : decode cX9_next 11 = .ok (.iload_n 2, 1) := by decide +kernel
theorem dX9_next_12 : decode cX9_next 12 = .ok (.putfield 19, 3) := by decide +kernel
theorem dX9_next_15 : decode cX9_next 15 = .ok (.aload_n 0, 1) := by decide +kernel
theorem dX9_next_16 : decode cX9_next 16 = .ok (.getfield 19, 3) := by decide +kernel
theorem dX9_next_19 : decode cX9_next 19 = .ok (.aload_n 0, 1) := by decide +kernel
theorem dX9_next_20 : decode cX9_next 20 = .ok (.getfield 9, 3) := by decide +kernel
theorem dX9_next_23 : decode cX9_next 23 = .ok (.getfield 34, 3) := by decide +kernel
theorem dX9_next_26 : decode cX9_next 26 = .ok (.if_icmp .ge 33, 3) := by decide +kernel
theorem dX9_next_29 : decode cX9_next 29 = .ok (.aload_n 0, 1) := by decide +kernel
theorem dX9_next_30 : decode cX9_next 30 = .ok (.getfield 9, 3) := by decide +kernel
theorem dX9_next_33 : decode cX9_next 33 = .ok (.aload_n 0, 1) := by decide +kernel
theorem dX9_next_34 : decode cX9_next 34 = .ok (.getfield 19, 3) := by decide +kernel
theorem dX9_next_37 : decode cX9_next 37 = .ok (.invokevirtual 39, 3) := by decide +kernel
theorem dX9_next_40 : decode cX9_next 40 = .ok (.invokestatic 43, 3) := by decide +kernel
theorem dX9_next_43 : decode cX9_next 43 = .ok (.ifCond .eq 16, 3) := by decide +kernel
theorem dX9_next_46 : decode cX9_next 46 = .ok (.aload_n 0, 1) := by decide +kernel
theorem dX9_next_47 : decode cX9_next 47 = .ok (.dup, 1) := by decide +kernel
theorem dX9_next_48 : decode cX9_next 48 = .ok (.getfield 19, 3) := by decide +kernel
theorem dX9_next_51 : decode cX9_next 51 = .ok (.iconst 1, 1) := by decide +kernel
theorem dX9_next_52 : decode cX9_next 52 = .ok (.iadd, 1) := by decide +kernel
theorem dX9_next_53 : decode cX9_next 53 = .ok (.putfield 19, 3) := by decide +kernel
theorem dX9_next_56 : decode cX9_next 56 = .ok (.goto (-41), 3) := by decide +kernel
theorem dX9_next_59 : decode cX9_next 59 = .ok (.aload_n 0, 1) := by decide +kernel
theorem dX9_next_60 : decode cX9_next 60 = .ok (.aload_n 0, 1) := by decide +kernel
theorem dX9_next_61 : decode cX9_next 61 = .ok (.getfield 9, 3) := by decide +kernel
theorem dX9_next_64 : decode cX9_next 64 = .ok (.aload_n 0, 1) := by decide +kernel
theorem dX9_next_65 : decode cX9_next 65 = .ok (.getfield 19, 3) := by decide +kernel
theorem dX9_next_68 : decode cX9_next 68 = .ok (.invokevirtual 39, 3) := by decide +kernel
theorem dX9_next_71 : decode cX9_next 71 = .ok (.invokestatic 47, 3) := by decide +kernel
theorem dX9_next_74 : decode cX9_next 74 = .ok (.putfield 15, 3) := by decide +kernel
theorem dX9_next_77 : decode cX9_next 77 = .ok (.aload_n 0, 1) := by decide +kernel
theorem dX9_next_78 : decode cX9_next 78 = .ok (.aload_n 0, 1) := by decide +kernel
theorem dX9_next_79 : decode cX9_next 79 = .ok (.getfield 15, 3) := by decide +kernel
theorem dX9_next_82 : decode cX9_next 82 = .ok (.ifCond .ne 10, 3) := by decide +kernel
theorem dX9_next_85 : decode cX9_next 85 = .ok (.aload_n 0, 1) := by decide +kernel
theorem dX9_next_86 : decode cX9_next 86 = .ok (.getfield 19, 3) := by decide +kernel
theorem dX9_next_89 : decode cX9_next 89 = .ok (.goto 9, 3) := by decide +kernel
theorem dX9_next_92 : decode cX9_next 92 = .ok (.aload_n 0, 1) := by decide +kernel
theorem dX9_next_93 : decode cX9_next 93 = .ok (.getfield 19, 3) := by decide +kernel
theorem dX9_next_96 : decode cX9_next 96 = .ok (.iconst 1, 1) := by decide +kernel
theorem dX9_next_97 : decode cX9_next 97 = .ok (.iadd, 1) := by decide +kernel
theorem dX9_next_98 : decode cX9_next 98 = .ok (.putfield 22, 3) := by decide +kernel
theorem dX9_next_101 : decode cX9_next 101 = .ok (.aload_n 0, 1) := by decide +kernel
theorem dX9_next_102 : decode cX9_next 102 = .ok (.getfield 15, 3) := by decide +kernel
theorem dX9_next_105 : decode cX9_next 105 = .ok (.iconst 1, 1) := by decide +kernel
theorem dX9_next_106 : decode cX9_next 106 = .ok (.if_icmp .eq 11, 3) := by decide +kernel
theorem dX9_next_109 : decode cX9_next 109 = .ok (.aload_n 0, 1) := by decide +kernel
theorem dX9_next_110 : decode cX9_next 110 = .ok (.getfield 15, 3) := by decide +kernel
theorem dX9_next_113 : decode cX9_next 113 = .ok (.iconst 2, 1) := by decide +kernel
theorem dX9_next_114 : decode cX9_next 114 = .ok (.if_icmp .ne 51, 3) := by decide +kernel
theorem dX9_next_117 : decode cX9_next 117 = .ok (.aload_n 0, 1) := by decide +kernel
theorem dX9_next_118 : decode cX9_next 118 = .ok (.getfield 22, 3) := by decide +kernel
theorem dX9_next_121 : decode cX9_next 121 = .ok (.aload_n 0, 1) := by decide +kernel
theorem dX9_next_122 : decode cX9_next 122 = .ok (.getfield 9, 3) := by decide +kernel
theorem dX9_next_125 : decode cX9_next 125 = .ok (.getfield 34, 3) := by decide +kernel
theorem dX9_next_128 : decode cX9_next 128 = .ok (.if_icmp .ge 37, 3) := by decide +kernel
theorem dX9_next_131 : decode cX9_next 131 = .ok (.aload_n 0, 1) := by decide +kernel
theorem dX9_next_132 : decode cX9_next 132 = .ok (.getfield 9, 3) := by decide +kernel
theorem dX9_next_135 : decode cX9_next 135 = .ok (.aload_n 0, 1) := by decide +kernel
theorem dX9_next_136 : decode cX9_next 136 = .ok (.getfield 22, 3) := by decide +kernel
theorem dX9_next_139 : decode cX9_next 139 = .ok (.invokevirtual 39, 3) := by decide +kernel
theorem dX9_next_142 : decode cX9_next 142 = .ok (.invokestatic 47, 3) := by decide +kernel
theorem dX9_next_145 : decode cX9_next 145 = .ok (.aload_n 0, 1) := by decide +kernel
theorem dX9_next_146 : decode cX9_next 146 = .ok (.getfield 15, 3) := by decide +kernel
theorem dX9_next_149 : decode cX9_next 149 = .ok (.if_icmp .ne 16, 3) := by decide +kernel
theorem dX9_next_152 : decode cX9_next 152 = .ok (.aload_n 0, 1) := by decide +kernel
theorem dX9_next_153 : decode cX9_next 153 = .ok (.dup, 1) := by decide +kernel
theorem dX9_next_154 : decode cX9_next 154 = .ok (.getfield 22, 3) := by decide +kernel
theorem dX9_next_157 : decode cX9_next 157 = .ok (.iconst 1, 1) := by decide +kernel
theorem dX9_next_158 : decode cX9_next 158 = .ok (.iadd, 1) := by decide +kernel
theorem dX9_next_159 : decode cX9_next 159 = .ok (.putfield 22, 3) := by decide +kernel
theorem dX9_next_162 : decode cX9_next 162 = .ok (.goto (-45), 3) := by decide +kernel
theorem dX9_next_165 : decode cX9_next 165 = .ok (.aload_n 0, 1) := by decide +kernel
theorem dX9_next_166 : decode cX9_next 166 = .ok (.getfield 19, 3) := by decide +kernel
theorem dX9_next_169 : decode cX9_next 169 = .ok (.iload_n 2, 1) := by decide +kernel
theorem dX9_next_170 : decode cX9_next 170 = .ok (.if_icmp .ne 34, 3) := by decide +kernel
theorem dX9_next_173 : decode cX9_next 173 = .ok (.iload_n 1, 1) := by decide +kernel
theorem dX9_next_174 : decode cX9_next 174 = .ok (.iconst 1, 1) := by decide +kernel
theorem dX9_next_175 : decode cX9_next 175 = .ok (.if_icmp .ne 11, 3) := by decide +kernel
theorem dX9_next_178 : decode cX9_next 178 = .ok (.aload_n 0, 1) := by decide +kernel
theorem dX9_next_179 : decode cX9_next 179 = .ok (.getfield 15, 3) := by decide +kernel
theorem dX9_next_182 : decode cX9_next 182 = .ok (.iconst 2, 1) := by decide +kernel
theorem dX9_next_183 : decode cX9_next 183 = .ok (.if_icmp .eq 16, 3) := by decide +kernel
theorem dX9_next_186 : decode cX9_next 186 = .ok (.iload_n 1, 1) := by decide +kernel
theorem dX9_next_187 : decode cX9_next 187 = .ok (.iconst 2, 1) := by decide +kernel
theorem dX9_next_188 : decode cX9_next 188 = .ok (.if_icmp .ne 16, 3) := by decide +kernel
theorem dX9_next_191 : decode cX9_next 191 = .ok (.aload_n 0, 1) := by decide +kernel
theorem dX9_next_192 : decode cX9_next 192 = .ok (.getfield 15, 3) := by decide +kernel
theorem dX9_next_195 : decode cX9_next 195 = .ok (.iconst 1, 1) := by decide +kernel
theorem dX9_next_196 : decode cX9_next 196 = .ok (.if_icmp .ne 8, 3) := by decide +kernel
theorem dX9_next_199 : decode cX9_next 199 = .ok (.aload_n 0, 1) := by decide +kernel
theorem dX9_next_200 : decode cX9_next 200 = .ok (.iconst 4, 1) := by decide +kernel
theorem dX9_next_201 : decode cX9_next 201 = .ok (.putfield 15, 3) := by decide +kernel
theorem dX9_next_204 : decode cX9_next 204 = .ok (.return_, 1) := by decide +kernel
theorem dX9_isBlank_0 : decode cX9_isBlank 0 = .ok (.iload_n 0, 1) := by decide +kernel
theorem dX9_isBlank_1 : decode cX9_isBlank 1 = .ok (.bipush 10, 2) := by decide +kernel
theorem dX9_isBlank_3 : decode cX9_isBlank 3 = .ok (.if_icmp .eq 9, 3) := by decide +kernel
theorem dX9_isBlank_6 : decode cX9_isBlank 6 = .ok (.iload_n 0, 1) := by decide +kernel
theorem dX9_isBlank_7 : decode cX9_isBlank 7 = .ok (.bipush 32, 2) := by decide +kernel
theorem dX9_isBlank_9 : decode cX9_isBlank 9 = .ok (.if_icmp .ne 7, 3) := by decide +kernel
theorem dX9_isBlank_12 : decode cX9_isBlank 12 = .ok (.iconst 1, 1) := by decide +kernel
theorem dX9_isBlank_13 : decode cX9_isBlank 13 = .ok (.goto 4, 3) := by decide +kernel
theorem dX9_isBlank_16 : decode cX9_isBlank 16 = .ok (.iconst 0, 1) := by decide +kernel
theorem dX9_isBlank_17 : decode cX9_isBlank 17 = .ok (.ireturn, 1) := by decide +kernel
theorem dX9_kindOf_0 : decode cX9_kindOf 0 = .ok (.iload_n 0, 1) := by decide +kernel
theorem dX9_kindOf_1 : decode cX9_kindOf 1 = .ok (.iconst (-1), 1) := by decide +kernel
theorem dX9_kindOf_2 : decode cX9_kindOf 2 = .ok (.if_icmp .ne 5, 3) := by decide +kernel
theorem dX9_kindOf_5 : decode cX9_kindOf 5 = .ok (.iconst 0, 1) := by decide +kernel
theorem dX9_kindOf_6 : decode cX9_kindOf 6 = .ok (.ireturn, 1) := by decide +kernel
theorem dX9_kindOf_7 : decode cX9_kindOf 7 = .ok (.iload_n 0, 1) := by decide +kernel
theorem dX9_kindOf_8 : decode cX9_kindOf 8 = .ok (.bipush 97, 2) := by decide +kernel
theorem dX9_kindOf_10 : decode cX9_kindOf 10 = .ok (.if_icmp .lt 11, 3) := by decide +kernel
theorem dX9_kindOf_13 : decode cX9_kindOf 13 = .ok (.iload_n 0, 1) := by decide +kernel
theorem dX9_kindOf_14 : decode cX9_kindOf 14 = .ok (.bipush 122, 2) := by decide +kernel
theorem dX9_kindOf_16 : decode cX9_kindOf 16 = .ok (.if_icmp .gt 5, 3) := by decide +kernel
theorem dX9_kindOf_19 : decode cX9_kindOf 19 = .ok (.iconst 1, 1) := by decide +kernel
theorem dX9_kindOf_20 : decode cX9_kindOf 20 = .ok (.ireturn, 1) := by decide +kernel
theorem dX9_kindOf_21 : decode cX9_kindOf 21 = .ok (.iload_n 0, 1) := by decide +kernel
theorem dX9_kindOf_22 : decode cX9_kindOf 22 = .ok (.bipush 48, 2) := by decide +kernel
theorem dX9_kindOf_24 : decode cX9_kindOf 24 = .ok (.if_icmp .lt 13, 3) := by decide +kernel
theorem dX9_kindOf_27 : decode cX9_kindOf 27 = .ok (.iload_n 0, 1) := by decide +kernel
theorem dX9_kindOf_28 : decode cX9_kindOf 28 = .ok (.bipush 57, 2) := by decide +kernel
theorem dX9_kindOf_30 : decode cX9_kindOf 30 = .ok (.if_icmp .gt 7, 3) := by decide +kernel
theorem dX9_kindOf_33 : decode cX9_kindOf 33 = .ok (.iconst 2, 1) := by decide +kernel
theorem dX9_kindOf_34 : decode cX9_kindOf 34 = .ok (.goto 4, 3) := by decide +kernel
theorem dX9_kindOf_37 : decode cX9_kindOf 37 = .ok (.iconst 3, 1) := by decide +kernel
theorem dX9_kindOf_38 : decode cX9_kindOf 38 = .ok (.ireturn, 1) := by decide +kernel
theorem dX9_fail_0 : decode cX9_fail 0 = .ok (.aload_n 0, 1) := by decide +kernel
theorem dX9_fail_1 : decode cX9_fail 1 = .ok (.getfield 25, 3) := by decide +kernel
theorem dX9_fail_4 : decode cX9_fail 4 = .ok (.ifCond .ne 13, 3) := by decide +kernel
theorem dX9_fail_7 : decode cX9_fail 7 = .ok (.aload_n 0, 1) := by decide +kernel
theorem dX9_fail_8 : decode cX9_fail 8 = .ok (.iload_n 1, 1) := by decide +kernel
theorem dX9_fail_9 : decode cX9_fail 9 = .ok (.putfield 25, 3) := by decide +kernel
theorem dX9_fail_12 : decode cX9_fail 12 = .ok (.aload_n 0, 1) := by decide +kernel
theorem dX9_fail_13 : decode cX9_fail 13 = .ok (.iload_n 2, 1) := by decide +kernel
theorem dX9_fail_14 : decode cX9_fail 14 = .ok (.putfield 28, 3) := by decide +kernel
theorem dX9_fail_17 : decode cX9_fail 17 = .ok (.iconst 0, 1) := by decide +kernel
theorem dX9_fail_18 : decode cX9_fail 18 = .ok (.ireturn, 1) := by decide +kernel
theorem dX9_unasked_0 : decode cX9_unasked 0 = .ok (.aload_n 0, 1) := by decide +kernel
theorem dX9_unasked_1 : decode cX9_unasked 1 = .ok (.iconst 1, 1) := by decide +kernel
theorem dX9_unasked_2 : decode cX9_unasked 2 = .ok (.aload_n 0, 1) := by decide +kernel
theorem dX9_unasked_3 : decode cX9_unasked 3 = .ok (.getfield 19, 3) := by decide +kernel
theorem dX9_unasked_6 : decode cX9_unasked 6 = .ok (.invokevirtual 50, 3) := by decide +kernel
theorem dX9_unasked_9 : decode cX9_unasked 9 = .ok (.ireturn, 1) := by decide +kernel
theorem dX9_letters_0 : decode cX9_letters 0 = .ok (.aload_n 0, 1) := by decide +kernel
theorem dX9_letters_1 : decode cX9_letters 1 = .ok (.getfield 22, 3) := by decide +kernel
theorem dX9_letters_4 : decode cX9_letters 4 = .ok (.aload_n 0, 1) := by decide +kernel
theorem dX9_letters_5 : decode cX9_letters 5 = .ok (.getfield 19, 3) := by decide +kernel
theorem dX9_letters_8 : decode cX9_letters 8 = .ok (.isub, 1) := by decide +kernel
theorem dX9_letters_9 : decode cX9_letters 9 = .ok (.ireturn, 1) := by decide +kernel
theorem dX9_byteIn_0 : decode cX9_byteIn 0 = .ok (.aload_n 0, 1) := by decide +kernel
theorem dX9_byteIn_1 : decode cX9_byteIn 1 = .ok (.getfield 9, 3) := by decide +kernel
theorem dX9_byteIn_4 : decode cX9_byteIn 4 = .ok (.aload_n 0, 1) := by decide +kernel
theorem dX9_byteIn_5 : decode cX9_byteIn 5 = .ok (.getfield 19, 3) := by decide +kernel
theorem dX9_byteIn_8 : decode cX9_byteIn 8 = .ok (.iload_n 1, 1) := by decide +kernel
theorem dX9_byteIn_9 : decode cX9_byteIn 9 = .ok (.iadd, 1) := by decide +kernel
theorem dX9_byteIn_10 : decode cX9_byteIn 10 = .ok (.invokevirtual 39, 3) := by decide +kernel
theorem dX9_byteIn_13 : decode cX9_byteIn 13 = .ok (.ireturn, 1) := by decide +kernel
theorem dX9_find_0 : decode cX9_find 0 = .ok (.aload_n 0, 1) := by decide +kernel
theorem dX9_find_1 : decode cX9_find 1 = .ok (.getfield 15, 3) := by decide +kernel
theorem dX9_find_4 : decode cX9_find 4 = .ok (.iconst 1, 1) := by decide +kernel
theorem dX9_find_5 : decode cX9_find 5 = .ok (.if_icmp .eq 5, 3) := by decide +kernel
theorem dX9_find_8 : decode cX9_find 8 = .ok (.iconst (-1), 1) := by decide +kernel
theorem dX9_find_9 : decode cX9_find 9 = .ok (.ireturn, 1) := by decide +kernel
theorem dX9_find_10 : decode cX9_find 10 = .ok (.iconst 0, 1) := by decide +kernel
theorem dX9_find_11 : decode cX9_find 11 = .ok (.istore_n 2, 1) := by decide +kernel
theorem dX9_find_12 : decode cX9_find 12 = .ok (.iconst 0, 1) := by decide +kernel
theorem dX9_find_13 : decode cX9_find 13 = .ok (.istore_n 3, 1) := by decide +kernel
theorem dX9_find_14 : decode cX9_find 14 = .ok (.iconst 1, 1) := by decide +kernel
theorem dX9_find_15 : decode cX9_find 15 = .ok (.istore 4, 2) := by decide +kernel
theorem dX9_find_17 : decode cX9_find 17 = .ok (.iconst 0, 1) := by decide +kernel
theorem dX9_find_18 : decode cX9_find 18 = .ok (.istore 5, 2) := by decide +kernel
theorem dX9_find_20 : decode cX9_find 20 = .ok (.iload 5, 2) := by decide +kernel
theorem dX9_find_22 : decode cX9_find 22 = .ok (.aload_n 1, 1) := by decide +kernel
theorem dX9_find_23 : decode cX9_find 23 = .ok (.invokevirtual 54, 3) := by decide +kernel
theorem dX9_find_26 : decode cX9_find 26 = .ok (.if_icmp .ge 83, 3) := by decide +kernel
theorem dX9_find_29 : decode cX9_find 29 = .ok (.aload_n 1, 1) := by decide +kernel
theorem dX9_find_30 : decode cX9_find 30 = .ok (.iload 5, 2) := by decide +kernel
theorem dX9_find_32 : decode cX9_find 32 = .ok (.invokevirtual 59, 3) := by decide +kernel
theorem dX9_find_35 : decode cX9_find 35 = .ok (.istore 6, 2) := by decide +kernel
theorem dX9_find_37 : decode cX9_find 37 = .ok (.iload 6, 2) := by decide +kernel
theorem dX9_find_39 : decode cX9_find 39 = .ok (.bipush 32, 2) := by decide +kernel
theorem dX9_find_41 : decode cX9_find 41 = .ok (.if_icmp .ne 29, 3) := by decide +kernel
theorem dX9_find_44 : decode cX9_find 44 = .ok (.iload 4, 2) := by decide +kernel
theorem dX9_find_46 : decode cX9_find 46 = .ok (.ifCond .eq 13, 3) := by decide +kernel
theorem dX9_find_49 : decode cX9_find 49 = .ok (.iload_n 3, 1) := by decide +kernel
theorem dX9_find_50 : decode cX9_find 50 = .ok (.aload_n 0, 1) := by decide +kernel
theorem dX9_find_51 : decode cX9_find 51 = .ok (.invokevirtual 63, 3) := by decide +kernel
theorem dX9_find_54 : decode cX9_find 54 = .ok (.if_icmp .ne 5, 3) := by decide +kernel
theorem dX9_find_57 : decode cX9_find 57 = .ok (.iload_n 2, 1) := by decide +kernel
theorem dX9_find_58 : decode cX9_find 58 = .ok (.ireturn, 1) := by decide +kernel
theorem dX9_find_59 : decode cX9_find 59 = .ok (.iinc 2 1, 3) := by decide +kernel
theorem dX9_find_62 : decode cX9_find 62 = .ok (.iconst 0, 1) := by decide +kernel
theorem dX9_find_63 : decode cX9_find 63 = .ok (.istore_n 3, 1) := by decide +kernel
theorem dX9_find_64 : decode cX9_find 64 = .ok (.iconst 1, 1) := by decide +kernel
theorem dX9_find_65 : decode cX9_find 65 = .ok (.istore 4, 2) := by decide +kernel
theorem dX9_find_67 : decode cX9_find 67 = .ok (.goto 36, 3) := by decide +kernel
theorem dX9_find_70 : decode cX9_find 70 = .ok (.iload 4, 2) := by decide +kernel
theorem dX9_find_72 : decode cX9_find 72 = .ok (.ifCond .eq 25, 3) := by decide +kernel
theorem dX9_find_75 : decode cX9_find 75 = .ok (.aload_n 0, 1) := by decide +kernel
theorem dX9_find_76 : decode cX9_find 76 = .ok (.getfield 9, 3) := by decide +kernel
theorem dX9_find_79 : decode cX9_find 79 = .ok (.aload_n 0, 1) := by decide +kernel
theorem dX9_find_80 : decode cX9_find 80 = .ok (.getfield 19, 3) := by decide +kernel
theorem dX9_find_83 : decode cX9_find 83 = .ok (.iload_n 3, 1) := by decide +kernel
theorem dX9_find_84 : decode cX9_find 84 = .ok (.iadd, 1) := by decide +kernel
theorem dX9_find_85 : decode cX9_find 85 = .ok (.invokevirtual 39, 3) := by decide +kernel
theorem dX9_find_88 : decode cX9_find 88 = .ok (.iload 6, 2) := by decide +kernel
theorem dX9_find_90 : decode cX9_find 90 = .ok (.if_icmp .ne 7, 3) := by decide +kernel
theorem dX9_find_93 : decode cX9_find 93 = .ok (.iconst 1, 1) := by decide +kernel
theorem dX9_find_94 : decode cX9_find 94 = .ok (.goto 4, 3) := by decide +kernel
theorem dX9_find_97 : decode cX9_find 97 = .ok (.iconst 0, 1) := by decide +kernel
theorem dX9_find_98 : decode cX9_find 98 = .ok (.istore 4, 2) := by decide +kernel
theorem dX9_find_100 : decode cX9_find 100 = .ok (.iinc 3 1, 3) := by decide +kernel
theorem dX9_find_103 : decode cX9_find 103 = .ok (.iinc 5 1, 3) := by decide +kernel
theorem dX9_find_106 : decode cX9_find 106 = .ok (.goto (-86), 3) := by decide +kernel
theorem dX9_find_109 : decode cX9_find 109 = .ok (.iconst (-1), 1) := by decide +kernel
theorem dX9_find_110 : decode cX9_find 110 = .ok (.ireturn, 1) := by decide +kernel
theorem dX9_isSign_0 : decode cX9_isSign 0 = .ok (.aload_n 0, 1) := by decide +kernel
theorem dX9_isSign_1 : decode cX9_isSign 1 = .ok (.getfield 15, 3) := by decide +kernel
theorem dX9_isSign_4 : decode cX9_isSign 4 = .ok (.iconst 3, 1) := by decide +kernel
theorem dX9_isSign_5 : decode cX9_isSign 5 = .ok (.if_icmp .ne 22, 3) := by decide +kernel
theorem dX9_isSign_8 : decode cX9_isSign 8 = .ok (.aload_n 0, 1) := by decide +kernel
theorem dX9_isSign_9 : decode cX9_isSign 9 = .ok (.getfield 9, 3) := by decide +kernel
theorem dX9_isSign_12 : decode cX9_isSign 12 = .ok (.aload_n 0, 1) := by decide +kernel
theorem dX9_isSign_13 : decode cX9_isSign 13 = .ok (.getfield 19, 3) := by decide +kernel
theorem dX9_isSign_16 : decode cX9_isSign 16 = .ok (.invokevirtual 39, 3) := by decide +kernel
theorem dX9_isSign_19 : decode cX9_isSign 19 = .ok (.iload_n 1, 1) := by decide +kernel
theorem dX9_isSign_20 : decode cX9_isSign 20 = .ok (.if_icmp .ne 7, 3) := by decide +kernel
theorem dX9_isSign_23 : decode cX9_isSign 23 = .ok (.iconst 1, 1) := by decide +kernel
theorem dX9_isSign_24 : decode cX9_isSign 24 = .ok (.goto 4, 3) := by decide +kernel
theorem dX9_isSign_27 : decode cX9_isSign 27 = .ok (.iconst 0, 1) := by decide +kernel
theorem dX9_isSign_28 : decode cX9_isSign 28 = .ok (.ireturn, 1) := by decide +kernel
theorem dX9_takeSign_0 : decode cX9_takeSign 0 = .ok (.aload_n 0, 1) := by decide +kernel
theorem dX9_takeSign_1 : decode cX9_takeSign 1 = .ok (.iload_n 1, 1) := by decide +kernel
theorem dX9_takeSign_2 : decode cX9_takeSign 2 = .ok (.invokevirtual 66, 3) := by decide +kernel
theorem dX9_takeSign_5 : decode cX9_takeSign 5 = .ok (.ifCond .ne 8, 3) := by decide +kernel
theorem dX9_takeSign_8 : decode cX9_takeSign 8 = .ok (.aload_n 0, 1) := by decide +kernel
theorem dX9_takeSign_9 : decode cX9_takeSign 9 = .ok (.invokevirtual 70, 3) := by decide +kernel
theorem dX9_takeSign_12 : decode cX9_takeSign 12 = .ok (.ireturn, 1) := by decide +kernel
theorem dX9_takeSign_13 : decode cX9_takeSign 13 = .ok (.aload_n 0, 1) := by decide +kernel
theorem dX9_takeSign_14 : decode cX9_takeSign 14 = .ok (.invokevirtual 31, 3) := by decide +kernel
theorem dX9_takeSign_17 : decode cX9_takeSign 17 = .ok (.iconst 1, 1) := by decide +kernel
theorem dX9_takeSign_18 : decode cX9_takeSign 18 = .ok (.ireturn, 1) := by decide +kernel
theorem dX9_takeWord_0 : decode cX9_takeWord 0 = .ok (.aload_n 0, 1) := by decide +kernel
theorem dX9_takeWord_1 : decode cX9_takeWord 1 = .ok (.aload_n 1, 1) := by decide +kernel
theorem dX9_takeWord_2 : decode cX9_takeWord 2 = .ok (.invokevirtual 74, 3) := by decide +kernel
theorem dX9_takeWord_5 : decode cX9_takeWord 5 = .ok (.ifCond .eq 8, 3) := by decide +kernel
theorem dX9_takeWord_8 : decode cX9_takeWord 8 = .ok (.aload_n 0, 1) := by decide +kernel
theorem dX9_takeWord_9 : decode cX9_takeWord 9 = .ok (.invokevirtual 70, 3) := by decide +kernel
theorem dX9_takeWord_12 : decode cX9_takeWord 12 = .ok (.ireturn, 1) := by decide +kernel
theorem dX9_takeWord_13 : decode cX9_takeWord 13 = .ok (.aload_n 0, 1) := by decide +kernel
theorem dX9_takeWord_14 : decode cX9_takeWord 14 = .ok (.invokevirtual 31, 3) := by decide +kernel
theorem dX9_takeWord_17 : decode cX9_takeWord 17 = .ok (.iconst 1, 1) := by decide +kernel
theorem dX9_takeWord_18 : decode cX9_takeWord 18 = .ok (.ireturn, 1) := by decide +kernel
theorem dX9_takeNumber_0 : decode cX9_takeNumber 0 = .ok (.aload_n 0, 1) := by decide +kernel
theorem dX9_takeNumber_1 : decode cX9_takeNumber 1 = .ok (.getfield 15, 3) := by decide +kernel
theorem dX9_takeNumber_4 : decode cX9_takeNumber 4 = .ok (.iconst 2, 1) := by decide +kernel
theorem dX9_takeNumber_5 : decode cX9_takeNumber 5 = .ok (.if_icmp .eq 10, 3) := by decide +kernel
theorem dX9_takeNumber_8 : decode cX9_takeNumber 8 = .ok (.aload_n 0, 1) := by decide +kernel
theorem dX9_takeNumber_9 : decode cX9_takeNumber 9 = .ok (.invokevirtual 70, 3) := by decide +kernel
theorem dX9_takeNumber_12 : decode cX9_takeNumber 12 = .ok (.pop, 1) := by decide +kernel
theorem dX9_takeNumber_13 : decode cX9_takeNumber 13 = .ok (.iconst (-1), 1) := by decide +kernel
theorem dX9_takeNumber_14 : decode cX9_takeNumber 14 = .ok (.ireturn, 1) := by decide +kernel
theorem dX9_takeNumber_15 : decode cX9_takeNumber 15 = .ok (.aload_n 0, 1) := by decide +kernel
theorem dX9_takeNumber_16 : decode cX9_takeNumber 16 = .ok (.invokevirtual 63, 3) := by decide +kernel
theorem dX9_takeNumber_19 : decode cX9_takeNumber 19 = .ok (.iconst 4, 1) := by decide +kernel
theorem dX9_takeNumber_20 : decode cX9_takeNumber 20 = .ok (.if_icmp .le 17, 3) := by decide +kernel
theorem dX9_takeNumber_23 : decode cX9_takeNumber 23 = .ok (.aload_n 0, 1) := by decide +kernel
theorem dX9_takeNumber_24 : decode cX9_takeNumber 24 = .ok (.iconst 1, 1) := by decide +kernel
theorem dX9_takeNumber_25 : decode cX9_takeNumber 25 = .ok (.aload_n 0, 1) := by decide +kernel
theorem dX9_takeNumber_26 : decode cX9_takeNumber 26 = .ok (.getfield 19, 3) := by decide +kernel
theorem dX9_takeNumber_29 : decode cX9_takeNumber 29 = .ok (.iconst 4, 1) := by decide +kernel
theorem dX9_takeNumber_30 : decode cX9_takeNumber 30 = .ok (.iadd, 1) := by decide +kernel
theorem dX9_takeNumber_31 : decode cX9_takeNumber 31 = .ok (.invokevirtual 50, 3) := by decide +kernel
theorem dX9_takeNumber_34 : decode cX9_takeNumber 34 = .ok (.pop, 1) := by decide +kernel
theorem dX9_takeNumber_35 : decode cX9_takeNumber 35 = .ok (.iconst (-1), 1) := by decide +kernel
theorem dX9_takeNumber_36 : decode cX9_takeNumber 36 = .ok (.ireturn, 1) := by decide +kernel
theorem dX9_takeNumber_37 : decode cX9_takeNumber 37 = .ok (.iconst 0, 1) := by decide +kernel
theorem dX9_takeNumber_38 : decode cX9_takeNumber 38 = .ok (.istore 4, 2) := by decide +kernel
theorem dX9_takeNumber_40 : decode cX9_takeNumber 40 = .ok (.iconst 0, 1) := by decide +kernel
theorem dX9_takeNumber_41 : decode cX9_takeNumber 41 = .ok (.istore 5, 2) := by decide +kernel
theorem dX9_takeNumber_43 : decode cX9_takeNumber 43 = .ok (.iload 5, 2) := by decide +kernel
theorem dX9_takeNumber_45 : decode cX9_takeNumber 45 = .ok (.aload_n 0, 1) := by decide +kernel
theorem dX9_takeNumber_46 : decode cX9_takeNumber 46 = .ok (.invokevirtual 63, 3) := by decide +kernel
theorem dX9_takeNumber_49 : decode cX9_takeNumber 49 = .ok (.if_icmp .ge 34, 3) := by decide +kernel
theorem dX9_takeNumber_52 : decode cX9_takeNumber 52 = .ok (.bipush 10, 2) := by decide +kernel
theorem dX9_takeNumber_54 : decode cX9_takeNumber 54 = .ok (.iload 4, 2) := by decide +kernel
theorem dX9_takeNumber_56 : decode cX9_takeNumber 56 = .ok (.imul, 1) := by decide +kernel
theorem dX9_takeNumber_57 : decode cX9_takeNumber 57 = .ok (.aload_n 0, 1) := by decide +kernel
theorem dX9_takeNumber_58 : decode cX9_takeNumber 58 = .ok (.getfield 9, 3) := by decide +kernel
theorem dX9_takeNumber_61 : decode cX9_takeNumber 61 = .ok (.aload_n 0, 1) := by decide +kernel
theorem dX9_takeNumber_62 : decode cX9_takeNumber 62 = .ok (.getfield 19, 3) := by decide +kernel
theorem dX9_takeNumber_65 : decode cX9_takeNumber 65 = .ok (.iload 5, 2) := by decide +kernel
theorem dX9_takeNumber_67 : decode cX9_takeNumber 67 = .ok (.iadd, 1) := by decide +kernel
theorem dX9_takeNumber_68 : decode cX9_takeNumber 68 = .ok (.invokevirtual 39, 3) := by decide +kernel
theorem dX9_takeNumber_71 : decode cX9_takeNumber 71 = .ok (.iadd, 1) := by decide +kernel
theorem dX9_takeNumber_72 : decode cX9_takeNumber 72 = .ok (.bipush 48, 2) := by decide +kernel
theorem dX9_takeNumber_74 : decode cX9_takeNumber 74 = .ok (.isub, 1) := by decide +kernel
theorem dX9_takeNumber_75 : decode cX9_takeNumber 75 = .ok (.istore 4, 2) := by decide +kernel
theorem dX9_takeNumber_77 : decode cX9_takeNumber 77 = .ok (.iinc 5 1, 3) := by decide +kernel
theorem dX9_takeNumber_80 : decode cX9_takeNumber 80 = .ok (.goto (-37), 3) := by decide +kernel
theorem dX9_takeNumber_83 : decode cX9_takeNumber 83 = .ok (.iload 4, 2) := by decide +kernel
theorem dX9_takeNumber_85 : decode cX9_takeNumber 85 = .ok (.iload_n 1, 1) := by decide +kernel
theorem dX9_takeNumber_86 : decode cX9_takeNumber 86 = .ok (.if_icmp .lt 9, 3) := by decide +kernel
theorem dX9_takeNumber_89 : decode cX9_takeNumber 89 = .ok (.iload 4, 2) := by decide +kernel
theorem dX9_takeNumber_91 : decode cX9_takeNumber 91 = .ok (.iload_n 2, 1) := by decide +kernel
theorem dX9_takeNumber_92 : decode cX9_takeNumber 92 = .ok (.if_icmp .le 12, 3) := by decide +kernel
theorem dX9_takeNumber_95 : decode cX9_takeNumber 95 = .ok (.aload_n 0, 1) := by decide +kernel
theorem dX9_takeNumber_96 : decode cX9_takeNumber 96 = .ok (.iconst 2, 1) := by decide +kernel
theorem dX9_takeNumber_97 : decode cX9_takeNumber 97 = .ok (.iload_n 3, 1) := by decide +kernel
theorem dX9_takeNumber_98 : decode cX9_takeNumber 98 = .ok (.invokevirtual 50, 3) := by decide +kernel
theorem dX9_takeNumber_101 : decode cX9_takeNumber 101 = .ok (.pop, 1) := by decide +kernel
theorem dX9_takeNumber_102 : decode cX9_takeNumber 102 = .ok (.iconst (-1), 1) := by decide +kernel
theorem dX9_takeNumber_103 : decode cX9_takeNumber 103 = .ok (.ireturn, 1) := by decide +kernel
theorem dX9_takeNumber_104 : decode cX9_takeNumber 104 = .ok (.aload_n 0, 1) := by decide +kernel
theorem dX9_takeNumber_105 : decode cX9_takeNumber 105 = .ok (.invokevirtual 31, 3) := by decide +kernel
theorem dX9_takeNumber_108 : decode cX9_takeNumber 108 = .ok (.iload 4, 2) := by decide +kernel
theorem dX9_takeNumber_110 : decode cX9_takeNumber 110 = .ok (.ireturn, 1) := by decide +kernel
theorem dX10_init_0 : decode cX10_init 0 = .ok (.aload_n 0, 1) := by decide +kernel
theorem dX10_init_1 : decode cX10_init 1 = .ok (.invokespecial 3, 3) := by decide +kernel
theorem dX10_init_4 : decode cX10_init 4 = .ok (.aload_n 0, 1) := by decide +kernel
theorem dX10_init_5 : decode cX10_init 5 = .ok (.aload_n 1, 1) := by decide +kernel
theorem dX10_init_6 : decode cX10_init 6 = .ok (.putfield 9, 3) := by decide +kernel
theorem dX10_init_9 : decode cX10_init 9 = .ok (.aload_n 0, 1) := by decide +kernel
theorem dX10_init_10 : decode cX10_init 10 = .ok (.bipush 9, 2) := by decide +kernel
theorem dX10_init_12 : decode cX10_init 12 = .ok (.newarray .int, 2) := by decide +kernel
theorem dX10_init_14 : decode cX10_init 14 = .ok (.putfield 15, 3) := by decide +kernel
theorem dX10_init_17 : decode cX10_init 17 = .ok (.aload_n 0, 1) := by decide +kernel
theorem dX10_init_18 : decode cX10_init 18 = .ok (.iconst (-1), 1) := by decide +kernel
theorem dX10_init_19 : decode cX10_init 19 = .ok (.putfield 19, 3) := by decide +kernel
theorem dX10_init_22 : decode cX10_init 22 = .ok (.aload_n 0, 1) := by decide +kernel
theorem dX10_init_23 : decode cX10_init 23 = .ok (.iconst (-1), 1) := by decide +kernel
theorem dX10_init_24 : decode cX10_init 24 = .ok (.putfield 23, 3) := by decide +kernel
theorem dX10_init_27 : decode cX10_init 27 = .ok (.return_, 1) := by decide +kernel
theorem dX10_comesOff_0 : decode cX10_comesOff 0 = .ok (.iload_n 2, 1) := by decide +kernel
theorem dX10_comesOff_1 : decode cX10_comesOff 1 = .ok (.invokestatic 26, 3) := by decide +kernel
theorem dX10_comesOff_4 : decode cX10_comesOff 4 = .ok (.aload_n 1, 1) := by decide +kernel
theorem dX10_comesOff_5 : decode cX10_comesOff 5 = .ok (.getfield 32, 3) := by decide +kernel
theorem dX10_comesOff_8 : decode cX10_comesOff 8 = .ok (.if_icmp .ge 5, 3) := by decide +kernel
theorem dX10_comesOff_11 : decode cX10_comesOff 11 = .ok (.iconst 0, 1) := by decide +kernel
theorem dX10_comesOff_12 : decode cX10_comesOff 12 = .ok (.ireturn, 1) := by decide +kernel
theorem dX10_comesOff_13 : decode cX10_comesOff 13 = .ok (.aload_n 0, 1) := by decide +kernel
theorem dX10_comesOff_14 : decode cX10_comesOff 14 = .ok (.getfield 9, 3) := by decide +kernel
theorem dX10_comesOff_17 : decode cX10_comesOff 17 = .ok (.aload_n 1, 1) := by decide +kernel
theorem dX10_comesOff_18 : decode cX10_comesOff 18 = .ok (.iload_n 2, 1) := by decide +kernel
theorem dX10_comesOff_19 : decode cX10_comesOff 19 = .ok (.iconst 1, 1) := by decide +kernel
theorem dX10_comesOff_20 : decode cX10_comesOff 20 = .ok (.invokevirtual 37, 3) := by decide +kernel
theorem dX10_comesOff_23 : decode cX10_comesOff 23 = .ok (.aload_n 0, 1) := by decide +kernel
theorem dX10_comesOff_24 : decode cX10_comesOff 24 = .ok (.getfield 9, 3) := by decide +kernel
theorem dX10_comesOff_27 : decode cX10_comesOff 27 = .ok (.getfield 43, 3) := by decide +kernel
theorem dX10_comesOff_30 : decode cX10_comesOff 30 = .ok (.ifCond .eq 7, 3) := by decide +kernel
theorem dX10_comesOff_33 : decode cX10_comesOff 33 = .ok (.iconst 1, 1) := by decide +kernel
theorem dX10_comesOff_34 : decode cX10_comesOff 34 = .ok (.goto 4, 3) := by decide +kernel
theorem dX10_comesOff_37 : decode cX10_comesOff 37 = .ok (.iconst 0, 1) := by decide +kernel
theorem dX10_comesOff_38 : decode cX10_comesOff 38 = .ok (.ireturn, 1) := by decide +kernel
theorem dX10_thousandths_0 : decode cX10_thousandths 0 = .ok (.lconst 0, 1) := by decide +kernel
theorem dX10_thousandths_1 : decode cX10_thousandths 1 = .ok (.lstore_n 2, 1) := by decide +kernel
theorem dX10_thousandths_2 : decode cX10_thousandths 2 = .ok (.iconst 0, 1) := by decide +kernel
theorem dX10_thousandths_3 : decode cX10_thousandths 3 = .ok (.istore 4, 2) := by decide +kernel
theorem dX10_thousandths_5 : decode cX10_thousandths 5 = .ok (.iload 4, 2) := by decide +kernel
theorem dX10_thousandths_7 : decode cX10_thousandths 7 = .ok (.aload_n 1, 1) := by decide +kernel
theorem dX10_thousandths_8 : decode cX10_thousandths 8 = .ok (.getfield 46, 3) := by decide +kernel
theorem dX10_thousandths_11 : decode cX10_thousandths 11 = .ok (.invokevirtual 50, 3) := by decide +kernel
theorem dX10_thousandths_14 : decode cX10_thousandths 14 = .ok (.if_icmp .gt 42, 3) := by decide +kernel
theorem dX10_thousandths_17 : decode cX10_thousandths 17 = .ok (.aload_n 1, 1) := by decide +kernel
theorem dX10_thousandths_18 : decode cX10_thousandths 18 = .ok (.getfield 46, 3) := by decide +kernel
theorem dX10_thousandths_21 : decode cX10_thousandths 21 = .ok (.iload 4, 2) := by decide +kernel
theorem dX10_thousandths_23 : decode cX10_thousandths 23 = .ok (.invokestatic 56, 3) := by decide +kernel
theorem dX10_thousandths_26 : decode cX10_thousandths 26 = .ok (.lstore 5, 2) := by decide +kernel
theorem dX10_thousandths_28 : decode cX10_thousandths 28 = .ok (.lload 5, 2) := by decide +kernel
theorem dX10_thousandths_30 : decode cX10_thousandths 30 = .ok (.lconst 0, 1) := by decide +kernel
theorem dX10_thousandths_31 : decode cX10_thousandths 31 = .ok (.lcmp, 1) := by decide +kernel
theorem dX10_thousandths_32 : decode cX10_thousandths 32 = .ok (.ifCond .le 18, 3) := by decide +kernel
theorem dX10_thousandths_35 : decode cX10_thousandths 35 = .ok (.aload_n 0, 1) := by decide +kernel
theorem dX10_thousandths_36 : decode cX10_thousandths 36 = .ok (.aload_n 1, 1) := by decide +kernel
theorem dX10_thousandths_37 : decode cX10_thousandths 37 = .ok (.iload 4, 2) := by decide +kernel
theorem dX10_thousandths_39 : decode cX10_thousandths 39 = .ok (.invokevirtual 60, 3) := by decide +kernel
theorem dX10_thousandths_42 : decode cX10_thousandths 42 = .ok (.ifCond .eq 8, 3) := by decide +kernel
theorem dX10_thousandths_45 : decode cX10_thousandths 45 = .ok (.lload_n 2, 1) := by decide +kernel
theorem dX10_thousandths_46 : decode cX10_thousandths 46 = .ok (.lload 5, 2) := by decide +kernel
theorem dX10_thousandths_48 : decode cX10_thousandths 48 = .ok (.ladd, 1) := by decide +kernel
theorem dX10_thousandths_49 : decode cX10_thousandths 49 = .ok (.lstore_n 2, 1) := by decide +kernel
theorem dX10_thousandths_50 : decode cX10_thousandths 50 = .ok (.iinc 4 1, 3) := by decide +kernel
theorem dX10_thousandths_53 : decode cX10_thousandths 53 = .ok (.goto (-48), 3) := by decide +kernel
theorem dX10_thousandths_56 : decode cX10_thousandths 56 = .ok (.ldc2_w 64, 3) := by decide +kernel
theorem dX10_thousandths_59 : decode cX10_thousandths 59 = .ok (.lload_n 2, 1) := by decide +kernel
theorem dX10_thousandths_60 : decode cX10_thousandths 60 = .ok (.lmul, 1) := by decide +kernel
theorem dX10_thousandths_61 : decode cX10_thousandths 61 = .ok (.iconst 2, 1) := by decide +kernel
theorem dX10_thousandths_62 : decode cX10_thousandths 62 = .ok (.aload_n 1, 1) := by decide +kernel
theorem dX10_thousandths_63 : decode cX10_thousandths 63 = .ok (.getfield 46, 3) := by decide +kernel
theorem dX10_thousandths_66 : decode cX10_thousandths 66 = .ok (.getfield 66, 3) := by decide +kernel
theorem dX10_thousandths_69 : decode cX10_thousandths 69 = .ok (.imul, 1) := by decide +kernel
theorem dX10_thousandths_70 : decode cX10_thousandths 70 = .ok (.lshr, 1) := by decide +kernel
theorem dX10_thousandths_71 : decode cX10_thousandths 71 = .ok (.l2i, 1) := by decide +kernel
theorem dX10_thousandths_72 : decode cX10_thousandths 72 = .ok (.ireturn, 1) := by decide +kernel
theorem dX10_weightOf_0 : decode cX10_weightOf 0 = .ok (.lconst 1, 1) := by decide +kernel
theorem dX10_weightOf_1 : decode cX10_weightOf 1 = .ok (.lstore_n 2, 1) := by decide +kernel
theorem dX10_weightOf_2 : decode cX10_weightOf 2 = .ok (.iconst 0, 1) := by decide +kernel
theorem dX10_weightOf_3 : decode cX10_weightOf 3 = .ok (.istore 4, 2) := by decide +kernel
theorem dX10_weightOf_5 : decode cX10_weightOf 5 = .ok (.iload 4, 2) := by decide +kernel
theorem dX10_weightOf_7 : decode cX10_weightOf 7 = .ok (.aload_n 0, 1) := by decide +kernel
theorem dX10_weightOf_8 : decode cX10_weightOf 8 = .ok (.getfield 66, 3) := by decide +kernel
theorem dX10_weightOf_11 : decode cX10_weightOf 11 = .ok (.if_icmp .ge 43, 3) := by decide +kernel
theorem dX10_weightOf_14 : decode cX10_weightOf 14 = .ok (.aload_n 0, 1) := by decide +kernel
theorem dX10_weightOf_15 : decode cX10_weightOf 15 = .ok (.getfield 69, 3) := by decide +kernel
theorem dX10_weightOf_18 : decode cX10_weightOf 18 = .ok (.iload 4, 2) := by decide +kernel
theorem dX10_weightOf_20 : decode cX10_weightOf 20 = .ok (.invokestatic 72, 3) := by decide +kernel
theorem dX10_weightOf_23 : decode cX10_weightOf 23 = .ok (.istore 5, 2) := by decide +kernel
theorem dX10_weightOf_25 : decode cX10_weightOf 25 = .ok (.lload_n 2, 1) := by decide +kernel
theorem dX10_weightOf_26 : decode cX10_weightOf 26 = .ok (.iload_n 1, 1) := by decide +kernel
theorem dX10_weightOf_27 : decode cX10_weightOf 27 = .ok (.iload 4, 2) := by decide +kernel
theorem dX10_weightOf_29 : decode cX10_weightOf 29 = .ok (.invokestatic 76, 3) := by decide +kernel
theorem dX10_weightOf_32 : decode cX10_weightOf 32 = .ok (.ifCond .eq 9, 3) := by decide +kernel
theorem dX10_weightOf_35 : decode cX10_weightOf 35 = .ok (.iload 5, 2) := by decide +kernel
theorem dX10_weightOf_37 : decode cX10_weightOf 37 = .ok (.i2l, 1) := by decide +kernel
theorem dX10_weightOf_38 : decode cX10_weightOf 38 = .ok (.goto 8, 3) := by decide +kernel
theorem dX10_weightOf_41 : decode cX10_weightOf 41 = .ok (.iconst 4, 1) := by decide +kernel
theorem dX10_weightOf_42 : decode cX10_weightOf 42 = .ok (.iload 5, 2) := by decide +kernel
theorem dX10_weightOf_44 : decode cX10_weightOf 44 = .ok (.isub, 1) := by decide +kernel
theorem dX10_weightOf_45 : decode cX10_weightOf 45 = .ok (.i2l, 1) := by decide +kernel
theorem dX10_weightOf_46 : decode cX10_weightOf 46 = .ok (.lmul, 1) := by decide +kernel
theorem dX10_weightOf_47 : decode cX10_weightOf 47 = .ok (.lstore_n 2, 1) := by decide +kernel
theorem dX10_weightOf_48 : decode cX10_weightOf 48 = .ok (.iinc 4 1, 3) := by decide +kernel
theorem dX10_weightOf_51 : decode cX10_weightOf 51 = .ok (.goto (-46), 3) := by decide +kernel
theorem dX10_weightOf_54 : decode cX10_weightOf 54 = .ok (.lload_n 2, 1) := by decide +kernel
theorem dX10_weightOf_55 : decode cX10_weightOf 55 = .ok (.lreturn, 1) := by decide +kernel
theorem dX10_sparked_0 : decode cX10_sparked 0 = .ok (.aload_n 1, 1) := by decide +kernel
theorem dX10_sparked_1 : decode cX10_sparked 1 = .ok (.getfield 46, 3) := by decide +kernel
theorem dX10_sparked_4 : decode cX10_sparked 4 = .ok (.getfield 80, 3) := by decide +kernel
theorem dX10_sparked_7 : decode cX10_sparked 7 = .ok (.iload_n 3, 1) := by decide +kernel
theorem dX10_sparked_8 : decode cX10_sparked 8 = .ok (.invokestatic 72, 3) := by decide +kernel
theorem dX10_sparked_11 : decode cX10_sparked 11 = .ok (.istore 4, 2) := by decide +kernel
theorem dX10_sparked_13 : decode cX10_sparked 13 = .ok (.aload_n 1, 1) := by decide +kernel
theorem dX10_sparked_14 : decode cX10_sparked 14 = .ok (.getfield 46, 3) := by decide +kernel
theorem dX10_sparked_17 : decode cX10_sparked 17 = .ok (.getfield 80, 3) := by decide +kernel
theorem dX10_sparked_20 : decode cX10_sparked 20 = .ok (.iload_n 3, 1) := by decide +kernel
theorem dX10_sparked_21 : decode cX10_sparked 21 = .ok (.iconst 0, 1) := by decide +kernel
theorem dX10_sparked_22 : decode cX10_sparked 22 = .ok (.invokestatic 83, 3) := by decide +kernel
theorem dX10_sparked_25 : decode cX10_sparked 25 = .ok (.aload_n 0, 1) := by decide +kernel
theorem dX10_sparked_26 : decode cX10_sparked 26 = .ok (.getfield 9, 3) := by decide +kernel
theorem dX10_sparked_29 : decode cX10_sparked 29 = .ok (.aload_n 1, 1) := by decide +kernel
theorem dX10_sparked_30 : decode cX10_sparked 30 = .ok (.iload_n 2, 1) := by decide +kernel
theorem dX10_sparked_31 : decode cX10_sparked 31 = .ok (.iconst 0, 1) := by decide +kernel
theorem dX10_sparked_32 : decode cX10_sparked 32 = .ok (.invokevirtual 37, 3) := by decide +kernel
theorem dX10_sparked_35 : decode cX10_sparked 35 = .ok (.aload_n 1, 1) := by decide +kernel
theorem dX10_sparked_36 : decode cX10_sparked 36 = .ok (.getfield 46, 3) := by decide +kernel
theorem dX10_sparked_39 : decode cX10_sparked 39 = .ok (.getfield 80, 3) := by decide +kernel
theorem dX10_sparked_42 : decode cX10_sparked 42 = .ok (.iload_n 3, 1) := by decide +kernel
theorem dX10_sparked_43 : decode cX10_sparked 43 = .ok (.iload 4, 2) := by decide +kernel
theorem dX10_sparked_45 : decode cX10_sparked 45 = .ok (.invokestatic 83, 3) := by decide +kernel
theorem dX10_sparked_48 : decode cX10_sparked 48 = .ok (.iconst 0, 1) := by decide +kernel
theorem dX10_sparked_49 : decode cX10_sparked 49 = .ok (.istore 5, 2) := by decide +kernel
theorem dX10_sparked_51 : decode cX10_sparked 51 = .ok (.iconst 0, 1) := by decide +kernel
theorem dX10_sparked_52 : decode cX10_sparked 52 = .ok (.istore 6, 2) := by decide +kernel
theorem dX10_sparked_54 : decode cX10_sparked 54 = .ok (.iload 6, 2) := by decide +kernel
theorem dX10_sparked_56 : decode cX10_sparked 56 = .ok (.aload_n 1, 1) := by decide +kernel
theorem dX10_sparked_57 : decode cX10_sparked 57 = .ok (.getfield 46, 3) := by decide +kernel
theorem dX10_sparked_60 : decode cX10_sparked 60 = .ok (.getfield 66, 3) := by decide +kernel
theorem dX10_sparked_63 : decode cX10_sparked 63 = .ok (.if_icmp .ge 41, 3) := by decide +kernel
theorem dX10_sparked_66 : decode cX10_sparked 66 = .ok (.aload_n 0, 1) := by decide +kernel
theorem dX10_sparked_67 : decode cX10_sparked 67 = .ok (.getfield 9, 3) := by decide +kernel
theorem dX10_sparked_70 : decode cX10_sparked 70 = .ok (.getfield 87, 3) := by decide +kernel
theorem dX10_sparked_73 : decode cX10_sparked 73 = .ok (.iload 6, 2) := by decide +kernel
theorem dX10_sparked_75 : decode cX10_sparked 75 = .ok (.invokestatic 72, 3) := by decide +kernel
theorem dX10_sparked_78 : decode cX10_sparked 78 = .ok (.istore 7, 2) := by decide +kernel
theorem dX10_sparked_80 : decode cX10_sparked 80 = .ok (.iload 7, 2) := by decide +kernel
theorem dX10_sparked_82 : decode cX10_sparked 82 = .ok (.iconst (-1), 1) := by decide +kernel
theorem dX10_sparked_83 : decode cX10_sparked 83 = .ok (.if_icmp .eq 15, 3) := by decide +kernel
theorem dX10_sparked_86 : decode cX10_sparked 86 = .ok (.iload 7, 2) := by decide +kernel
theorem dX10_sparked_88 : decode cX10_sparked 88 = .ok (.aload_n 1, 1) := by decide +kernel
theorem dX10_sparked_89 : decode cX10_sparked 89 = .ok (.getfield 90, 3) := by decide +kernel
theorem dX10_sparked_92 : decode cX10_sparked 92 = .ok (.if_icmp .ge 6, 3) := by decide +kernel
theorem dX10_sparked_95 : decode cX10_sparked 95 = .ok (.iinc 5 1, 3) := by decide +kernel
theorem dX10_sparked_98 : decode cX10_sparked 98 = .ok (.iinc 6 1, 3) := by decide +kernel
theorem dX10_sparked_101 : decode cX10_sparked 101 = .ok (.goto (-47), 3) := by decide +kernel
theorem dX10_sparked_104 : decode cX10_sparked 104 = .ok (.iload 5, 2) := by decide +kernel
theorem dX10_sparked_106 : decode cX10_sparked 106 = .ok (.ireturn, 1) := by decide +kernel
theorem dX10_fewestDaring_0 : decode cX10_fewestDaring 0 = .ok (.aload_n 0, 1) := by decide +kernel
theorem dX10_fewestDaring_1 : decode cX10_fewestDaring 1 = .ok (.getfield 9, 3) := by decide +kernel
theorem dX10_fewestDaring_4 : decode cX10_fewestDaring 4 = .ok (.aload_n 1, 1) := by decide +kernel
theorem dX10_fewestDaring_5 : decode cX10_fewestDaring 5 = .ok (.iload_n 2, 1) := by decide +kernel
theorem dX10_fewestDaring_6 : decode cX10_fewestDaring 6 = .ok (.invokevirtual 93, 3) := by decide +kernel
theorem dX10_fewestDaring_9 : decode cX10_fewestDaring 9 = .ok (.istore_n 3, 1) := by decide +kernel
theorem dX10_fewestDaring_10 : decode cX10_fewestDaring 10 = .ok (.aload_n 0, 1) := by decide +kernel
theorem dX10_fewestDaring_11 : decode cX10_fewestDaring 11 = .ok (.getfield 9, 3) := by decide +kernel
theorem dX10_fewestDaring_14 : decode cX10_fewestDaring 14 = .ok (.aload_n 1, 1) := by decide +kernel
theorem dX10_fewestDaring_15 : decode cX10_fewestDaring 15 = .ok (.iload_n 2, 1) := by decide +kernel
theorem dX10_fewestDaring_16 : decode cX10_fewestDaring 16 = .ok (.iload_n 3, 1) := by decide +kernel
theorem dX10_fewestDaring_17 : decode cX10_fewestDaring 17 = .ok (.invokevirtual 97, 3) := by decide +kernel
theorem dX10_fewestDaring_20 : decode cX10_fewestDaring 20 = .ok (.aload_n 0, 1) := by decide +kernel
theorem dX10_fewestDaring_21 : decode cX10_fewestDaring 21 = .ok (.getfield 9, 3) := by decide +kernel
theorem dX10_fewestDaring_24 : decode cX10_fewestDaring 24 = .ok (.getfield 101, 3) := by decide +kernel
theorem dX10_fewestDaring_27 : decode cX10_fewestDaring 27 = .ok (.iconst (-1), 1) := by decide +kernel
theorem dX10_fewestDaring_28 : decode cX10_fewestDaring 28 = .ok (.if_icmp .ne 14, 3) := by decide +kernel
theorem dX10_fewestDaring_31 : decode cX10_fewestDaring 31 = .ok (.iload_n 2, 1) := by decide +kernel
theorem dX10_fewestDaring_32 : decode cX10_fewestDaring 32 = .ok (.invokestatic 26, 3) := by decide +kernel
theorem dX10_fewestDaring_35 : decode cX10_fewestDaring 35 = .ok (.aload_n 1, 1) := by decide +kernel
theorem dX10_fewestDaring_36 : decode cX10_fewestDaring 36 = .ok (.getfield 32, 3) := by decide +kernel
theorem dX10_fewestDaring_39 : decode cX10_fewestDaring 39 = .ok (.if_icmp .ge 5, 3) := by decide +kernel
theorem dX10_fewestDaring_42 : decode cX10_fewestDaring 42 = .ok (.iconst (-1), 1) := by decide +kernel
theorem dX10_fewestDaring_43 : decode cX10_fewestDaring 43 = .ok (.ireturn, 1) := by decide +kernel
theorem dX10_fewestDaring_44 : decode cX10_fewestDaring 44 = .ok (.iconst 0, 1) := by decide +kernel
theorem dX10_fewestDaring_45 : decode cX10_fewestDaring 45 = .ok (.istore 4, 2) := by decide +kernel
theorem dX10_fewestDaring_47 : decode cX10_fewestDaring 47 = .ok (.iload 4, 2) := by decide +kernel
theorem dX10_fewestDaring_49 : decode cX10_fewestDaring 49 = .ok (.aload_n 1, 1) := by decide +kernel
theorem dX10_fewestDaring_50 : decode cX10_fewestDaring 50 = .ok (.getfield 46, 3) := by decide +kernel
theorem dX10_fewestDaring_53 : decode cX10_fewestDaring 53 = .ok (.getfield 66, 3) := by decide +kernel
theorem dX10_fewestDaring_56 : decode cX10_fewestDaring 56 = .ok (.if_icmp .gt 76, 3) := by decide +kernel
theorem dX10_fewestDaring_59 : decode cX10_fewestDaring 59 = .ok (.iconst 0, 1) := by decide +kernel
theorem dX10_fewestDaring_60 : decode cX10_fewestDaring 60 = .ok (.istore 5, 2) := by decide +kernel
theorem dX10_fewestDaring_62 : decode cX10_fewestDaring 62 = .ok (.iload 5, 2) := by decide +kernel
theorem dX10_fewestDaring_64 : decode cX10_fewestDaring 64 = .ok (.aload_n 1, 1) := by decide +kernel
theorem dX10_fewestDaring_65 : decode cX10_fewestDaring 65 = .ok (.getfield 46, 3) := by decide +kernel
theorem dX10_fewestDaring_68 : decode cX10_fewestDaring 68 = .ok (.invokevirtual 50, 3) := by decide +kernel
theorem dX10_fewestDaring_71 : decode cX10_fewestDaring 71 = .ok (.if_icmp .gt 55, 3) := by decide +kernel
theorem dX10_fewestDaring_74 : decode cX10_fewestDaring 74 = .ok (.iload 5, 2) := by decide +kernel
theorem dX10_fewestDaring_76 : decode cX10_fewestDaring 76 = .ok (.invokestatic 26, 3) := by decide +kernel
theorem dX10_fewestDaring_79 : decode cX10_fewestDaring 79 = .ok (.iload 4, 2) := by decide +kernel
theorem dX10_fewestDaring_81 : decode cX10_fewestDaring 81 = .ok (.if_icmp .ne 16, 3) := by decide +kernel
theorem dX10_fewestDaring_84 : decode cX10_fewestDaring 84 = .ok (.iload 5, 2) := by decide +kernel
theorem dX10_fewestDaring_86 : decode cX10_fewestDaring 86 = .ok (.iload_n 2, 1) := by decide +kernel
theorem dX10_fewestDaring_87 : decode cX10_fewestDaring 87 = .ok (.iconst (-1), 1) := by decide +kernel
theorem dX10_fewestDaring_88 : decode cX10_fewestDaring 88 = .ok (.ixor, 1) := by decide +kernel
theorem dX10_fewestDaring_89 : decode cX10_fewestDaring 89 = .ok (.iand, 1) := by decide +kernel
theorem dX10_fewestDaring_90 : decode cX10_fewestDaring 90 = .ok (.ifCond .ne 7, 3) := by decide +kernel
theorem dX10_fewestDaring_93 : decode cX10_fewestDaring 93 = .ok (.iconst 1, 1) := by decide +kernel
theorem dX10_fewestDaring_94 : decode cX10_fewestDaring 94 = .ok (.goto 4, 3) := by decide +kernel
theorem dX10_fewestDaring_97 : decode cX10_fewestDaring 97 = .ok (.iconst 0, 1) := by decide +kernel
theorem dX10_fewestDaring_98 : decode cX10_fewestDaring 98 = .ok (.istore 6, 2) := by decide +kernel
theorem dX10_fewestDaring_100 : decode cX10_fewestDaring 100 = .ok (.iload 6, 2) := by decide +kernel
theorem dX10_fewestDaring_102 : decode cX10_fewestDaring 102 = .ok (.ifCond .eq 18, 3) := by decide +kernel
theorem dX10_fewestDaring_105 : decode cX10_fewestDaring 105 = .ok (.aload_n 0, 1) := by decide +kernel
theorem dX10_fewestDaring_106 : decode cX10_fewestDaring 106 = .ok (.aload_n 1, 1) := by decide +kernel
theorem dX10_fewestDaring_107 : decode cX10_fewestDaring 107 = .ok (.iload_n 2, 1) := by decide +kernel
theorem dX10_fewestDaring_108 : decode cX10_fewestDaring 108 = .ok (.iload 5, 2) := by decide +kernel
theorem dX10_fewestDaring_110 : decode cX10_fewestDaring 110 = .ok (.iload_n 3, 1) := by decide +kernel
theorem dX10_fewestDaring_111 : decode cX10_fewestDaring 111 = .ok (.invokevirtual 104, 3) := by decide +kernel
theorem dX10_fewestDaring_114 : decode cX10_fewestDaring 114 = .ok (.ifCond .eq 6, 3) := by decide +kernel
theorem dX10_fewestDaring_117 : decode cX10_fewestDaring 117 = .ok (.iload 5, 2) := by decide +kernel
theorem dX10_fewestDaring_119 : decode cX10_fewestDaring 119 = .ok (.ireturn, 1) := by decide +kernel
theorem dX10_fewestDaring_120 : decode cX10_fewestDaring 120 = .ok (.iinc 5 1, 3) := by decide +kernel
theorem dX10_fewestDaring_123 : decode cX10_fewestDaring 123 = .ok (.goto (-61), 3) := by decide +kernel
theorem dX10_fewestDaring_126 : decode cX10_fewestDaring 126 = .ok (.iinc 4 1, 3) := by decide +kernel
theorem dX10_fewestDaring_129 : decode cX10_fewestDaring 129 = .ok (.goto (-82), 3) := by decide +kernel
theorem dX10_fewestDaring_132 : decode cX10_fewestDaring 132 = .ok (.iconst (-1), 1) := by decide +kernel
theorem dX10_fewestDaring_133 : decode cX10_fewestDaring 133 = .ok (.ireturn, 1) := by decide +kernel
theorem dX10_comesOffDaring_0 : decode cX10_comesOffDaring 0 = .ok (.aload_n 1, 1) := by decide +kernel
theorem dX10_comesOffDaring_1 : decode cX10_comesOffDaring 1 = .ok (.getfield 46, 3) := by decide +kernel
theorem dX10_comesOffDaring_4 : decode cX10_comesOffDaring 4 = .ok (.getfield 108, 3) := by decide +kernel
theorem dX10_comesOffDaring_7 : decode cX10_comesOffDaring 7 = .ok (.astore 5, 2) := by decide +kernel
theorem dX10_comesOffDaring_9 : decode cX10_comesOffDaring 9 = .ok (.aload 5, 2) := by decide +kernel
theorem dX10_comesOffDaring_11 : decode cX10_comesOffDaring 11 = .ok (.iconst 0, 1) := by decide +kernel
theorem dX10_comesOffDaring_12 : decode cX10_comesOffDaring 12 = .ok (.aload_n 0, 1) := by decide +kernel
theorem dX10_comesOffDaring_13 : decode cX10_comesOffDaring 13 = .ok (.getfield 15, 3) := by decide +kernel
theorem dX10_comesOffDaring_16 : decode cX10_comesOffDaring 16 = .ok (.iconst 0, 1) := by decide +kernel
theorem dX10_comesOffDaring_17 : decode cX10_comesOffDaring 17 = .ok (.bipush 9, 2) := by decide +kernel
theorem dX10_comesOffDaring_19 : decode cX10_comesOffDaring 19 = .ok (.invokestatic 111, 3) := by decide +kernel
theorem dX10_comesOffDaring_22 : decode cX10_comesOffDaring 22 = .ok (.iconst 0, 1) := by decide +kernel
theorem dX10_comesOffDaring_23 : decode cX10_comesOffDaring 23 = .ok (.istore 6, 2) := by decide +kernel
theorem dX10_comesOffDaring_25 : decode cX10_comesOffDaring 25 = .ok (.iload 6, 2) := by decide +kernel
theorem dX10_comesOffDaring_27 : decode cX10_comesOffDaring 27 = .ok (.aload_n 1, 1) := by decide +kernel
theorem dX10_comesOffDaring_28 : decode cX10_comesOffDaring 28 = .ok (.getfield 46, 3) := by decide +kernel
theorem dX10_comesOffDaring_31 : decode cX10_comesOffDaring 31 = .ok (.getfield 66, 3) := by decide +kernel
theorem dX10_comesOffDaring_34 : decode cX10_comesOffDaring 34 = .ok (.if_icmp .ge 26, 3) := by decide +kernel
theorem dX10_comesOffDaring_37 : decode cX10_comesOffDaring 37 = .ok (.iload_n 3, 1) := by decide +kernel
theorem dX10_comesOffDaring_38 : decode cX10_comesOffDaring 38 = .ok (.iload 6, 2) := by decide +kernel
theorem dX10_comesOffDaring_40 : decode cX10_comesOffDaring 40 = .ok (.invokestatic 76, 3) := by decide +kernel
theorem dX10_comesOffDaring_43 : decode cX10_comesOffDaring 43 = .ok (.ifCond .eq 11, 3) := by decide +kernel
theorem dX10_comesOffDaring_46 : decode cX10_comesOffDaring 46 = .ok (.aload 5, 2) := by decide +kernel
theorem dX10_comesOffDaring_48 : decode cX10_comesOffDaring 48 = .ok (.iload 6, 2) := by decide +kernel
theorem dX10_comesOffDaring_50 : decode cX10_comesOffDaring 50 = .ok (.iconst 1, 1) := by decide +kernel
theorem dX10_comesOffDaring_51 : decode cX10_comesOffDaring 51 = .ok (.invokestatic 83, 3) := by decide +kernel
theorem dX10_comesOffDaring_54 : decode cX10_comesOffDaring 54 = .ok (.iinc 6 1, 3) := by decide +kernel
theorem dX10_comesOffDaring_57 : decode cX10_comesOffDaring 57 = .ok (.goto (-32), 3) := by decide +kernel
theorem dX10_comesOffDaring_60 : decode cX10_comesOffDaring 60 = .ok (.aload_n 0, 1) := by decide +kernel
theorem dX10_comesOffDaring_61 : decode cX10_comesOffDaring 61 = .ok (.getfield 9, 3) := by decide +kernel
theorem dX10_comesOffDaring_64 : decode cX10_comesOffDaring 64 = .ok (.aload_n 1, 1) := by decide +kernel
theorem dX10_comesOffDaring_65 : decode cX10_comesOffDaring 65 = .ok (.iload_n 2, 1) := by decide +kernel
theorem dX10_comesOffDaring_66 : decode cX10_comesOffDaring 66 = .ok (.iload 4, 2) := by decide +kernel
theorem dX10_comesOffDaring_68 : decode cX10_comesOffDaring 68 = .ok (.iconst 1, 1) := by decide +kernel
theorem dX10_comesOffDaring_69 : decode cX10_comesOffDaring 69 = .ok (.invokevirtual 117, 3) := by decide +kernel
theorem dX10_comesOffDaring_72 : decode cX10_comesOffDaring 72 = .ok (.aload_n 0, 1) := by decide +kernel
theorem dX10_comesOffDaring_73 : decode cX10_comesOffDaring 73 = .ok (.getfield 15, 3) := by decide +kernel
theorem dX10_comesOffDaring_76 : decode cX10_comesOffDaring 76 = .ok (.iconst 0, 1) := by decide +kernel
theorem dX10_comesOffDaring_77 : decode cX10_comesOffDaring 77 = .ok (.aload 5, 2) := by decide +kernel
theorem dX10_comesOffDaring_79 : decode cX10_comesOffDaring 79 = .ok (.iconst 0, 1) := by decide +kernel
theorem dX10_comesOffDaring_80 : decode cX10_comesOffDaring 80 = .ok (.bipush 9, 2) := by decide +kernel
theorem dX10_comesOffDaring_82 : decode cX10_comesOffDaring 82 = .ok (.invokestatic 111, 3) := by decide +kernel
theorem dX10_comesOffDaring_85 : decode cX10_comesOffDaring 85 = .ok (.aload_n 0, 1) := by decide +kernel
theorem dX10_comesOffDaring_86 : decode cX10_comesOffDaring 86 = .ok (.getfield 9, 3) := by decide +kernel
theorem dX10_comesOffDaring_89 : decode cX10_comesOffDaring 89 = .ok (.getfield 43, 3) := by decide +kernel
theorem dX10_comesOffDaring_92 : decode cX10_comesOffDaring 92 = .ok (.ifCond .eq 7, 3) := by decide +kernel
theorem dX10_comesOffDaring_95 : decode cX10_comesOffDaring 95 = .ok (.iconst 1, 1) := by decide +kernel
theorem dX10_comesOffDaring_96 : decode cX10_comesOffDaring 96 = .ok (.goto 4, 3) := by decide +kernel
theorem dX10_comesOffDaring_99 : decode cX10_comesOffDaring 99 = .ok (.iconst 0, 1) := by decide +kernel
theorem dX10_comesOffDaring_100 : decode cX10_comesOffDaring 100 = .ok (.ireturn, 1) := by decide +kernel
theorem dX10_latest_0 : decode cX10_latest 0 = .ok (.aload_n 1, 1) := by decide +kernel
theorem dX10_latest_1 : decode cX10_latest 1 = .ok (.getfield 46, 3) := by decide +kernel
theorem dX10_latest_4 : decode cX10_latest 4 = .ok (.getfield 80, 3) := by decide +kernel
theorem dX10_latest_7 : decode cX10_latest 7 = .ok (.iload_n 3, 1) := by decide +kernel
theorem dX10_latest_8 : decode cX10_latest 8 = .ok (.invokestatic 72, 3) := by decide +kernel
theorem dX10_latest_11 : decode cX10_latest 11 = .ok (.istore 4, 2) := by decide +kernel
theorem dX10_latest_13 : decode cX10_latest 13 = .ok (.iconst (-1), 1) := by decide +kernel
theorem dX10_latest_14 : decode cX10_latest 14 = .ok (.istore 5, 2) := by decide +kernel
theorem dX10_latest_16 : decode cX10_latest 16 = .ok (.bipush 120, 2) := by decide +kernel
theorem dX10_latest_18 : decode cX10_latest 18 = .ok (.istore 6, 2) := by decide +kernel
theorem dX10_latest_20 : decode cX10_latest 20 = .ok (.iload 6, 2) := by decide +kernel
theorem dX10_latest_22 : decode cX10_latest 22 = .ok (.ifCond .lt 60, 3) := by decide +kernel
theorem dX10_latest_25 : decode cX10_latest 25 = .ok (.iload 5, 2) := by decide +kernel
theorem dX10_latest_27 : decode cX10_latest 27 = .ok (.iconst (-1), 1) := by decide +kernel
theorem dX10_latest_28 : decode cX10_latest 28 = .ok (.if_icmp .ne 54, 3) := by decide +kernel
theorem dX10_latest_31 : decode cX10_latest 31 = .ok (.aload_n 1, 1) := by decide +kernel
theorem dX10_latest_32 : decode cX10_latest 32 = .ok (.getfield 46, 3) := by decide +kernel
theorem dX10_latest_35 : decode cX10_latest 35 = .ok (.getfield 80, 3) := by decide +kernel
theorem dX10_latest_38 : decode cX10_latest 38 = .ok (.iload_n 3, 1) := by decide +kernel
theorem dX10_latest_39 : decode cX10_latest 39 = .ok (.iload 6, 2) := by decide +kernel
theorem dX10_latest_41 : decode cX10_latest 41 = .ok (.invokestatic 83, 3) := by decide +kernel
theorem dX10_latest_44 : decode cX10_latest 44 = .ok (.aload_n 0, 1) := by decide +kernel
theorem dX10_latest_45 : decode cX10_latest 45 = .ok (.getfield 9, 3) := by decide +kernel
theorem dX10_latest_48 : decode cX10_latest 48 = .ok (.aload_n 1, 1) := by decide +kernel
theorem dX10_latest_49 : decode cX10_latest 49 = .ok (.iload_n 2, 1) := by decide +kernel
theorem dX10_latest_50 : decode cX10_latest 50 = .ok (.iconst 0, 1) := by decide +kernel
theorem dX10_latest_51 : decode cX10_latest 51 = .ok (.invokevirtual 37, 3) := by decide +kernel
theorem dX10_latest_54 : decode cX10_latest 54 = .ok (.aload_n 0, 1) := by decide +kernel
theorem dX10_latest_55 : decode cX10_latest 55 = .ok (.getfield 9, 3) := by decide +kernel
theorem dX10_latest_58 : decode cX10_latest 58 = .ok (.getfield 43, 3) := by decide +kernel
theorem dX10_latest_61 : decode cX10_latest 61 = .ok (.iload_n 3, 1) := by decide +kernel
theorem dX10_latest_62 : decode cX10_latest 62 = .ok (.invokestatic 76, 3) := by decide +kernel
theorem dX10_latest_65 : decode cX10_latest 65 = .ok (.ifCond .eq 8, 3) := by decide +kernel
theorem dX10_latest_68 : decode cX10_latest 68 = .ok (.iload 6, 2) := by decide +kernel
theorem dX10_latest_70 : decode cX10_latest 70 = .ok (.goto 4, 3) := by decide +kernel
theorem dX10_latest_73 : decode cX10_latest 73 = .ok (.iconst (-1), 1) := by decide +kernel
theorem dX10_latest_74 : decode cX10_latest 74 = .ok (.istore 5, 2) := by decide +kernel
theorem dX10_latest_76 : decode cX10_latest 76 = .ok (.iinc 6 (-1), 3) := by decide +kernel
theorem dX10_latest_79 : decode cX10_latest 79 = .ok (.goto (-59), 3) := by decide +kernel
theorem dX10_latest_82 : decode cX10_latest 82 = .ok (.aload_n 1, 1) := by decide +kernel
theorem dX10_latest_83 : decode cX10_latest 83 = .ok (.getfield 46, 3) := by decide +kernel
theorem dX10_latest_86 : decode cX10_latest 86 = .ok (.getfield 80, 3) := by decide +kernel
theorem dX10_latest_89 : decode cX10_latest 89 = .ok (.iload_n 3, 1) := by decide +kernel
theorem dX10_latest_90 : decode cX10_latest 90 = .ok (.iload 4, 2) := by decide +kernel
theorem dX10_latest_92 : decode cX10_latest 92 = .ok (.invokestatic 83, 3) := by decide +kernel
theorem dX10_latest_95 : decode cX10_latest 95 = .ok (.iload 5, 2) := by decide +kernel
theorem dX10_latest_97 : decode cX10_latest 97 = .ok (.ireturn, 1) := by decide +kernel
theorem dX10_findPost_0 : decode cX10_findPost 0 = .ok (.aload_n 1, 1) := by decide +kernel
theorem dX10_findPost_1 : decode cX10_findPost 1 = .ok (.getfield 121, 3) := by decide +kernel
theorem dX10_findPost_4 : decode cX10_findPost 4 = .ok (.iload_n 3, 1) := by decide +kernel
theorem dX10_findPost_5 : decode cX10_findPost 5 = .ok (.invokestatic 72, 3) := by decide +kernel
theorem dX10_findPost_8 : decode cX10_findPost 8 = .ok (.istore 4, 2) := by decide +kernel
theorem dX10_findPost_10 : decode cX10_findPost 10 = .ok (.aload_n 0, 1) := by decide +kernel
theorem dX10_findPost_11 : decode cX10_findPost 11 = .ok (.getfield 9, 3) := by decide +kernel
theorem dX10_findPost_14 : decode cX10_findPost 14 = .ok (.aload_n 1, 1) := by decide +kernel
theorem dX10_findPost_15 : decode cX10_findPost 15 = .ok (.iload_n 2, 1) := by decide +kernel
theorem dX10_findPost_16 : decode cX10_findPost 16 = .ok (.invokevirtual 93, 3) := by decide +kernel
theorem dX10_findPost_19 : decode cX10_findPost 19 = .ok (.istore 5, 2) := by decide +kernel
theorem dX10_findPost_21 : decode cX10_findPost 21 = .ok (.aload_n 0, 1) := by decide +kernel
theorem dX10_findPost_22 : decode cX10_findPost 22 = .ok (.iconst (-1), 1) := by decide +kernel
theorem dX10_findPost_23 : decode cX10_findPost 23 = .ok (.putfield 19, 3) := by decide +kernel
theorem dX10_findPost_26 : decode cX10_findPost 26 = .ok (.aload_n 0, 1) := by decide +kernel
theorem dX10_findPost_27 : decode cX10_findPost 27 = .ok (.iconst (-1), 1) := by decide +kernel
theorem dX10_findPost_28 : decode cX10_findPost 28 = .ok (.putfield 23, 3) := by decide +kernel
theorem dX10_findPost_31 : decode cX10_findPost 31 = .ok (.iconst 0, 1) := by decide +kernel
theorem dX10_findPost_32 : decode cX10_findPost 32 = .ok (.istore 6, 2) := by decide +kernel
theorem dX10_findPost_34 : decode cX10_findPost 34 = .ok (.iload 6, 2) := by decide +kernel
theorem dX10_findPost_36 : decode cX10_findPost 36 = .ok (.aload_n 1, 1) := by decide +kernel
theorem dX10_findPost_37 : decode cX10_findPost 37 = .ok (.invokevirtual 124, 3) := by decide +kernel
theorem dX10_findPost_40 : decode cX10_findPost 40 = .ok (.if_icmp .ge 101, 3) := by decide +kernel
theorem dX10_findPost_43 : decode cX10_findPost 43 = .ok (.aload_n 1, 1) := by decide +kernel
theorem dX10_findPost_44 : decode cX10_findPost 44 = .ok (.iload 6, 2) := by decide +kernel
theorem dX10_findPost_46 : decode cX10_findPost 46 = .ok (.invokevirtual 127, 3) := by decide +kernel
theorem dX10_findPost_49 : decode cX10_findPost 49 = .ok (.ifCond .eq 86, 3) := by decide +kernel
theorem dX10_findPost_52 : decode cX10_findPost 52 = .ok (.aload_n 1, 1) := by decide +kernel
theorem dX10_findPost_53 : decode cX10_findPost 53 = .ok (.getfield 121, 3) := by decide +kernel
theorem dX10_findPost_56 : decode cX10_findPost 56 = .ok (.iload_n 3, 1) := by decide +kernel
theorem dX10_findPost_57 : decode cX10_findPost 57 = .ok (.iload 6, 2) := by decide +kernel
theorem dX10_findPost_59 : decode cX10_findPost 59 = .ok (.invokestatic 83, 3) := by decide +kernel
theorem dX10_findPost_62 : decode cX10_findPost 62 = .ok (.aload_n 0, 1) := by decide +kernel
theorem dX10_findPost_63 : decode cX10_findPost 63 = .ok (.getfield 9, 3) := by decide +kernel
theorem dX10_findPost_66 : decode cX10_findPost 66 = .ok (.aload_n 1, 1) := by decide +kernel
theorem dX10_findPost_67 : decode cX10_findPost 67 = .ok (.iload_n 3, 1) := by decide +kernel
theorem dX10_findPost_68 : decode cX10_findPost 68 = .ok (.iload 5, 2) := by decide +kernel
theorem dX10_findPost_70 : decode cX10_findPost 70 = .ok (.invokevirtual 131, 3) := by decide +kernel
theorem dX10_findPost_73 : decode cX10_findPost 73 = .ok (.aload_n 0, 1) := by decide +kernel
theorem dX10_findPost_74 : decode cX10_findPost 74 = .ok (.getfield 9, 3) := by decide +kernel
theorem dX10_findPost_77 : decode cX10_findPost 77 = .ok (.aload_n 1, 1) := by decide +kernel
theorem dX10_findPost_78 : decode cX10_findPost 78 = .ok (.iload_n 2, 1) := by decide +kernel
theorem dX10_findPost_79 : decode cX10_findPost 79 = .ok (.iload 5, 2) := by decide +kernel
theorem dX10_findPost_81 : decode cX10_findPost 81 = .ok (.invokevirtual 97, 3) := by decide +kernel
theorem dX10_findPost_84 : decode cX10_findPost 84 = .ok (.aload_n 0, 1) := by decide +kernel
theorem dX10_findPost_85 : decode cX10_findPost 85 = .ok (.getfield 9, 3) := by decide +kernel
theorem dX10_findPost_88 : decode cX10_findPost 88 = .ok (.getfield 101, 3) := by decide +kernel
theorem dX10_findPost_91 : decode cX10_findPost 91 = .ok (.iconst (-1), 1) := by decide +kernel
theorem dX10_findPost_92 : decode cX10_findPost 92 = .ok (.if_icmp .eq 29, 3) := by decide +kernel
theorem dX10_findPost_95 : decode cX10_findPost 95 = .ok (.aload_n 0, 1) := by decide +kernel
theorem dX10_findPost_96 : decode cX10_findPost 96 = .ok (.iload 6, 2) := by decide +kernel
theorem dX10_findPost_98 : decode cX10_findPost 98 = .ok (.putfield 19, 3) := by decide +kernel
theorem dX10_findPost_101 : decode cX10_findPost 101 = .ok (.aload_n 0, 1) := by decide +kernel
theorem dX10_findPost_102 : decode cX10_findPost 102 = .ok (.aload_n 0, 1) := by decide +kernel
theorem dX10_findPost_103 : decode cX10_findPost 103 = .ok (.getfield 9, 3) := by decide +kernel
theorem dX10_findPost_106 : decode cX10_findPost 106 = .ok (.getfield 101, 3) := by decide +kernel
theorem dX10_findPost_109 : decode cX10_findPost 109 = .ok (.putfield 23, 3) := by decide +kernel
theorem dX10_findPost_112 : decode cX10_findPost 112 = .ok (.aload_n 0, 1) := by decide +kernel
theorem dX10_findPost_113 : decode cX10_findPost 113 = .ok (.getfield 23, 3) := by decide +kernel
theorem dX10_findPost_116 : decode cX10_findPost 116 = .ok (.istore 5, 2) := by decide +kernel
theorem dX10_findPost_118 : decode cX10_findPost 118 = .ok (.goto 17, 3) := by decide +kernel
theorem dX10_findPost_121 : decode cX10_findPost 121 = .ok (.aload_n 0, 1) := by decide +kernel
theorem dX10_findPost_122 : decode cX10_findPost 122 = .ok (.getfield 19, 3) := by decide +kernel
theorem dX10_findPost_125 : decode cX10_findPost 125 = .ok (.iconst (-1), 1) := by decide +kernel
theorem dX10_findPost_126 : decode cX10_findPost 126 = .ok (.if_icmp .ne 9, 3) := by decide +kernel
theorem dX10_findPost_129 : decode cX10_findPost 129 = .ok (.aload_n 0, 1) := by decide +kernel
theorem dX10_findPost_130 : decode cX10_findPost 130 = .ok (.iload 6, 2) := by decide +kernel
theorem dX10_findPost_132 : decode cX10_findPost 132 = .ok (.putfield 19, 3) := by decide +kernel
theorem dX10_findPost_135 : decode cX10_findPost 135 = .ok (.iinc 6 1, 3) := by decide +kernel
theorem dX10_findPost_138 : decode cX10_findPost 138 = .ok (.goto (-104), 3) := by decide +kernel
theorem dX10_findPost_141 : decode cX10_findPost 141 = .ok (.aload_n 1, 1) := by decide +kernel
theorem dX10_findPost_142 : decode cX10_findPost 142 = .ok (.getfield 121, 3) := by decide +kernel
theorem dX10_findPost_145 : decode cX10_findPost 145 = .ok (.iload_n 3, 1) := by decide +kernel
theorem dX10_findPost_146 : decode cX10_findPost 146 = .ok (.iload 4, 2) := by decide +kernel
theorem dX10_findPost_148 : decode cX10_findPost 148 = .ok (.invokestatic 83, 3) := by decide +kernel
theorem dX10_findPost_151 : decode cX10_findPost 151 = .ok (.aload_n 0, 1) := by decide +kernel
theorem dX10_findPost_152 : decode cX10_findPost 152 = .ok (.getfield 9, 3) := by decide +kernel
theorem dX10_findPost_155 : decode cX10_findPost 155 = .ok (.aload_n 1, 1) := by decide +kernel
theorem dX10_findPost_156 : decode cX10_findPost 156 = .ok (.iload_n 3, 1) := by decide +kernel
theorem dX10_findPost_157 : decode cX10_findPost 157 = .ok (.sipush 201, 3) := by decide +kernel
theorem dX10_findPost_160 : decode cX10_findPost 160 = .ok (.invokevirtual 131, 3) := by decide +kernel
theorem dX10_findPost_163 : decode cX10_findPost 163 = .ok (.return_, 1) := by decide +kernel
theorem dX11_init_0 : decode cX11_init 0 = .ok (.aload_n 0, 1) := by decide +kernel
theorem dX11_init_1 : decode cX11_init 1 = .ok (.invokespecial 3, 3) := by decide +kernel
theorem dX11_init_4 : decode cX11_init 4 = .ok (.aload_n 0, 1) := by decide +kernel
theorem dX11_init_5 : decode cX11_init 5 = .ok (.new 9, 3) := by decide +kernel
theorem dX11_init_8 : decode cX11_init 8 = .ok (.dup, 1) := by decide +kernel
theorem dX11_init_9 : decode cX11_init 9 = .ok (.invokespecial 11, 3) := by decide +kernel
theorem dX11_init_12 : decode cX11_init 12 = .ok (.putfield 12, 3) := by decide +kernel
theorem dX11_init_15 : decode cX11_init 15 = .ok (.aload_n 0, 1) := by decide +kernel
theorem dX11_init_16 : decode cX11_init 16 = .ok (.new 16, 3) := by decide +kernel
theorem dX11_init_19 : decode cX11_init 19 = .ok (.dup, 1) := by decide +kernel
theorem dX11_init_20 : decode cX11_init 20 = .ok (.aload_n 0, 1) := by decide +kernel
theorem dX11_init_21 : decode cX11_init 21 = .ok (.getfield 12, 3) := by decide +kernel
theorem dX11_init_24 : decode cX11_init 24 = .ok (.invokespecial 18, 3) := by decide +kernel
theorem dX11_init_27 : decode cX11_init 27 = .ok (.putfield 21, 3) := by decide +kernel
theorem dX11_init_30 : decode cX11_init 30 = .ok (.aload_n 0, 1) := by decide +kernel
theorem dX11_init_31 : decode cX11_init 31 = .ok (.new 25, 3) := by decide +kernel
theorem dX11_init_34 : decode cX11_init 34 = .ok (.dup, 1) := by decide +kernel
theorem dX11_init_35 : decode cX11_init 35 = .ok (.aload_n 0, 1) := by decide +kernel
theorem dX11_init_36 : decode cX11_init 36 = .ok (.getfield 21, 3) := by decide +kernel
theorem dX11_init_39 : decode cX11_init 39 = .ok (.invokespecial 27, 3) := by decide +kernel
theorem dX11_init_42 : decode cX11_init 42 = .ok (.putfield 30, 3) := by decide +kernel
theorem dX11_init_45 : decode cX11_init 45 = .ok (.aload_n 0, 1) := by decide +kernel
theorem dX11_init_46 : decode cX11_init 46 = .ok (.new 34, 3) := by decide +kernel
theorem dX11_init_49 : decode cX11_init 49 = .ok (.dup, 1) := by decide +kernel
theorem dX11_init_50 : decode cX11_init 50 = .ok (.aload_n 0, 1) := by decide +kernel
theorem dX11_init_51 : decode cX11_init 51 = .ok (.getfield 21, 3) := by decide +kernel
theorem dX11_init_54 : decode cX11_init 54 = .ok (.invokespecial 36, 3) := by decide +kernel
theorem dX11_init_57 : decode cX11_init 57 = .ok (.putfield 37, 3) := by decide +kernel
theorem dX11_init_60 : decode cX11_init 60 = .ok (.aload_n 0, 1) := by decide +kernel
theorem dX11_init_61 : decode cX11_init 61 = .ok (.new 41, 3) := by decide +kernel
theorem dX11_init_64 : decode cX11_init 64 = .ok (.dup, 1) := by decide +kernel
theorem dX11_init_65 : decode cX11_init 65 = .ok (.invokespecial 43, 3) := by decide +kernel
theorem dX11_init_68 : decode cX11_init 68 = .ok (.putfield 44, 3) := by decide +kernel
theorem dX11_init_71 : decode cX11_init 71 = .ok (.aload_n 0, 1) := by decide +kernel
theorem dX11_init_72 : decode cX11_init 72 = .ok (.new 48, 3) := by decide +kernel
theorem dX11_init_75 : decode cX11_init 75 = .ok (.dup, 1) := by decide +kernel
theorem dX11_init_76 : decode cX11_init 76 = .ok (.invokespecial 50, 3) := by decide +kernel
theorem dX11_init_79 : decode cX11_init 79 = .ok (.putfield 51, 3) := by decide +kernel
theorem dX11_init_82 : decode cX11_init 82 = .ok (.aload_n 0, 1) := by decide +kernel
theorem dX11_init_83 : decode cX11_init 83 = .ok (.new 55, 3) := by decide +kernel
theorem dX11_init_86 : decode cX11_init 86 = .ok (.dup, 1) := by decide +kernel
theorem dX11_init_87 : decode cX11_init 87 = .ok (.aload_n 0, 1) := by decide +kernel
theorem dX11_init_88 : decode cX11_init 88 = .ok (.getfield 44, 3) := by decide +kernel
theorem dX11_init_91 : decode cX11_init 91 = .ok (.invokespecial 57, 3) := by decide +kernel
theorem dX11_init_94 : decode cX11_init 94 = .ok (.putfield 60, 3) := by decide +kernel
theorem dX11_init_97 : decode cX11_init 97 = .ok (.aload_n 0, 1) := by decide +kernel
theorem dX11_init_98 : decode cX11_init 98 = .ok (.new 64, 3) := by decide +kernel
theorem dX11_init_101 : decode cX11_init 101 = .ok (.dup, 1) := by decide +kernel
theorem dX11_init_102 : decode cX11_init 102 = .ok (.invokespecial 66, 3) := by decide +kernel
theorem dX11_init_105 : decode cX11_init 105 = .ok (.putfield 67, 3) := by decide +kernel
theorem dX11_init_108 : decode cX11_init 108 = .ok (.aload_n 0, 1) := by decide +kernel
theorem dX11_init_109 : decode cX11_init 109 = .ok (.bipush 34, 2) := by decide +kernel
theorem dX11_init_111 : decode cX11_init 111 = .ok (.newarray .int, 2) := by decide +kernel
theorem dX11_init_113 : decode cX11_init 113 = .ok (.putfield 71, 3) := by decide +kernel
theorem dX11_init_116 : decode cX11_init 116 = .ok (.aload_n 0, 1) := by decide +kernel
theorem dX11_init_117 : decode cX11_init 117 = .ok (.iconst 0, 1) := by decide +kernel
theorem dX11_init_118 : decode cX11_init 118 = .ok (.putfield 75, 3) := by decide +kernel
theorem dX11_init_121 : decode cX11_init 121 = .ok (.aload_n 0, 1) := by decide +kernel
theorem dX11_init_122 : decode cX11_init 122 = .ok (.new 79, 3) := by decide +kernel
theorem dX11_init_125 : decode cX11_init 125 = .ok (.dup, 1) := by decide +kernel
theorem dX11_init_126 : decode cX11_init 126 = .ok (.invokespecial 81, 3) := by decide +kernel
theorem dX11_init_129 : decode cX11_init 129 = .ok (.putfield 82, 3) := by decide +kernel
theorem dX11_init_132 : decode cX11_init 132 = .ok (.aload_n 0, 1) := by decide +kernel
theorem dX11_init_133 : decode cX11_init 133 = .ok (.new 79, 3) := by decide +kernel
theorem dX11_init_136 : decode cX11_init 136 = .ok (.dup, 1) := by decide +kernel
theorem dX11_init_137 : decode cX11_init 137 = .ok (.invokespecial 81, 3) := by decide +kernel
theorem dX11_init_140 : decode cX11_init 140 = .ok (.putfield 86, 3) := by decide +kernel
theorem dX11_init_143 : decode cX11_init 143 = .ok (.aload_n 0, 1) := by decide +kernel
theorem dX11_init_144 : decode cX11_init 144 = .ok (.iconst 0, 1) := by decide +kernel
theorem dX11_init_145 : decode cX11_init 145 = .ok (.putfield 89, 3) := by decide +kernel
theorem dX11_init_148 : decode cX11_init 148 = .ok (.aload_n 0, 1) := by decide +kernel
theorem dX11_init_149 : decode cX11_init 149 = .ok (.iconst 1, 1) := by decide +kernel
theorem dX11_init_150 : decode cX11_init 150 = .ok (.putfield 92, 3) := by decide +kernel
theorem dX11_init_153 : decode cX11_init 153 = .ok (.aload_n 0, 1) := by decide +kernel
theorem dX11_init_154 : decode cX11_init 154 = .ok (.iconst 0, 1) := by decide +kernel
theorem dX11_init_155 : decode cX11_init 155 = .ok (.putfield 95, 3) := by decide +kernel
theorem dX11_init_158 : decode cX11_init 158 = .ok (.aload_n 0, 1) := by decide +kernel
theorem dX11_init_159 : decode cX11_init 159 = .ok (.iconst (-1), 1) := by decide +kernel
theorem dX11_init_160 : decode cX11_init 160 = .ok (.putfield 98, 3) := by decide +kernel
theorem dX11_init_163 : decode cX11_init 163 = .ok (.aload_n 0, 1) := by decide +kernel
theorem dX11_init_164 : decode cX11_init 164 = .ok (.iconst 1, 1) := by decide +kernel
theorem dX11_init_165 : decode cX11_init 165 = .ok (.putfield 101, 3) := by decide +kernel
theorem dX11_init_168 : decode cX11_init 168 = .ok (.aload_n 0, 1) := by decide +kernel
theorem dX11_init_169 : decode cX11_init 169 = .ok (.iconst 1, 1) := by decide +kernel
theorem dX11_init_170 : decode cX11_init 170 = .ok (.putfield 105, 3) := by decide +kernel
theorem dX11_init_173 : decode cX11_init 173 = .ok (.return_, 1) := by decide +kernel
theorem dX11_feed_0 : decode cX11_feed 0 = .ok (.aload_n 0, 1) := by decide +kernel
theorem dX11_feed_1 : decode cX11_feed 1 = .ok (.getfield 12, 3) := by decide +kernel
theorem dX11_feed_4 : decode cX11_feed 4 = .ok (.bipush 20, 2) := by decide +kernel
theorem dX11_feed_6 : decode cX11_feed 6 = .ok (.invokevirtual 108, 3) := by decide +kernel
theorem dX11_feed_9 : decode cX11_feed 9 = .ok (.ifCond .ne 5, 3) := by decide +kernel
theorem dX11_feed_12 : decode cX11_feed 12 = .ok (.iconst (-1), 1) := by decide +kernel
theorem dX11_feed_13 : decode cX11_feed 13 = .ok (.ireturn, 1) := by decide +kernel
theorem dX11_feed_14 : decode cX11_feed 14 = .ok (.aload_n 0, 1) := by decide +kernel
theorem dX11_feed_15 : decode cX11_feed 15 = .ok (.getfield 12, 3) := by decide +kernel
theorem dX11_feed_18 : decode cX11_feed 18 = .ok (.iload_n 1, 1) := by decide +kernel
theorem dX11_feed_19 : decode cX11_feed 19 = .ok (.invokevirtual 112, 3) := by decide +kernel
theorem dX11_feed_22 : decode cX11_feed 22 = .ok (.aload_n 0, 1) := by decide +kernel
theorem dX11_feed_23 : decode cX11_feed 23 = .ok (.getfield 12, 3) := by decide +kernel
theorem dX11_feed_26 : decode cX11_feed 26 = .ok (.iload_n 2, 1) := by decide +kernel
theorem dX11_feed_27 : decode cX11_feed 27 = .ok (.invokevirtual 112, 3) := by decide +kernel
theorem dX11_feed_30 : decode cX11_feed 30 = .ok (.aload_n 0, 1) := by decide +kernel
theorem dX11_feed_31 : decode cX11_feed 31 = .ok (.getfield 12, 3) := by decide +kernel
theorem dX11_feed_34 : decode cX11_feed 34 = .ok (.iload_n 3, 1) := by decide +kernel
theorem dX11_feed_35 : decode cX11_feed 35 = .ok (.invokevirtual 112, 3) := by decide +kernel
theorem dX11_feed_38 : decode cX11_feed 38 = .ok (.aload_n 0, 1) := by decide +kernel
theorem dX11_feed_39 : decode cX11_feed 39 = .ok (.getfield 12, 3) := by decide +kernel
theorem dX11_feed_42 : decode cX11_feed 42 = .ok (.iload 4, 2) := by decide +kernel
theorem dX11_feed_44 : decode cX11_feed 44 = .ok (.invokevirtual 112, 3) := by decide +kernel
theorem dX11_feed_47 : decode cX11_feed 47 = .ok (.aload_n 0, 1) := by decide +kernel
theorem dX11_feed_48 : decode cX11_feed 48 = .ok (.getfield 12, 3) := by decide +kernel
theorem dX11_feed_51 : decode cX11_feed 51 = .ok (.iload 5, 2) := by decide +kernel
theorem dX11_feed_53 : decode cX11_feed 53 = .ok (.invokevirtual 112, 3) := by decide +kernel
theorem dX11_feed_56 : decode cX11_feed 56 = .ok (.aload_n 0, 1) := by decide +kernel
theorem dX11_feed_57 : decode cX11_feed 57 = .ok (.getfield 12, 3) := by decide +kernel
theorem dX11_feed_60 : decode cX11_feed 60 = .ok (.getfield 116, 3) := by decide +kernel
theorem dX11_feed_63 : decode cX11_feed 63 = .ok (.ireturn, 1) := by decide +kernel
theorem dX11_end_0 : decode cX11_end 0 = .ok (.aload_n 0, 1) := by decide +kernel
theorem dX11_end_1 : decode cX11_end 1 = .ok (.getfield 12, 3) := by decide +kernel
theorem dX11_end_4 : decode cX11_end 4 = .ok (.iload_n 1, 1) := by decide +kernel
theorem dX11_end_5 : decode cX11_end 5 = .ok (.invokevirtual 119, 3) := by decide +kernel
theorem dX11_end_8 : decode cX11_end 8 = .ok (.ireturn, 1) := by decide +kernel
theorem dX11_text_0 : decode cX11_text 0 = .ok (.aload_n 0, 1) := by decide +kernel
theorem dX11_text_1 : decode cX11_text 1 = .ok (.getfield 30, 3) := by decide +kernel
theorem dX11_text_4 : decode cX11_text 4 = .ok (.aload_n 0, 1) := by decide +kernel
theorem dX11_text_5 : decode cX11_text 5 = .ok (.getfield 86, 3) := by decide +kernel
theorem dX11_text_8 : decode cX11_text 8 = .ok (.invokevirtual 122, 3) := by decide +kernel
theorem dX11_text_11 : decode cX11_text 11 = .ok (.istore_n 1, 1) := by decide +kernel
theorem dX11_text_12 : decode cX11_text 12 = .ok (.aload_n 0, 1) := by decide +kernel
theorem dX11_text_13 : decode cX11_text 13 = .ok (.invokevirtual 126, 3) := by decide +kernel
theorem dX11_text_16 : decode cX11_text 16 = .ok (.aload_n 0, 1) := by decide +kernel
theorem dX11_text_17 : decode cX11_text 17 = .ok (.getfield 12, 3) := by decide +kernel
theorem dX11_text_20 : decode cX11_text 20 = .ok (.iconst 0, 1) := by decide +kernel
theorem dX11_text_21 : decode cX11_text 21 = .ok (.invokevirtual 119, 3) := by decide +kernel
theorem dX11_text_24 : decode cX11_text 24 = .ok (.pop, 1) := by decide +kernel
theorem dX11_text_25 : decode cX11_text 25 = .ok (.iload_n 1, 1) := by decide +kernel
theorem dX11_text_26 : decode cX11_text 26 = .ok (.ifCond .ne 5, 3) := by decide +kernel
theorem dX11_text_29 : decode cX11_text 29 = .ok (.iconst (-1), 1) := by decide +kernel
theorem dX11_text_30 : decode cX11_text 30 = .ok (.ireturn, 1) := by decide +kernel
theorem dX11_text_31 : decode cX11_text 31 = .ok (.aload_n 0, 1) := by decide +kernel
theorem dX11_text_32 : decode cX11_text 32 = .ok (.getfield 82, 3) := by decide +kernel
theorem dX11_text_35 : decode cX11_text 35 = .ok (.astore_n 2, 1) := by decide +kernel
theorem dX11_text_36 : decode cX11_text 36 = .ok (.aload_n 0, 1) := by decide +kernel
theorem dX11_text_37 : decode cX11_text 37 = .ok (.aload_n 0, 1) := by decide +kernel
theorem dX11_text_38 : decode cX11_text 38 = .ok (.getfield 86, 3) := by decide +kernel
theorem dX11_text_41 : decode cX11_text 41 = .ok (.putfield 82, 3) := by decide +kernel
theorem dX11_text_44 : decode cX11_text 44 = .ok (.aload_n 0, 1) := by decide +kernel
theorem dX11_text_45 : decode cX11_text 45 = .ok (.aload_n 2, 1) := by decide +kernel
theorem dX11_text_46 : decode cX11_text 46 = .ok (.putfield 86, 3) := by decide +kernel
theorem dX11_text_49 : decode cX11_text 49 = .ok (.aload_n 0, 1) := by decide +kernel
theorem dX11_text_50 : decode cX11_text 50 = .ok (.aload_n 0, 1) := by decide +kernel
theorem dX11_text_51 : decode cX11_text 51 = .ok (.getfield 82, 3) := by decide +kernel
theorem dX11_text_54 : decode cX11_text 54 = .ok (.getfield 129, 3) := by decide +kernel
theorem dX11_text_57 : decode cX11_text 57 = .ok (.invokevirtual 133, 3) := by decide +kernel
theorem dX11_text_60 : decode cX11_text 60 = .ok (.putfield 89, 3) := by decide +kernel
theorem dX11_text_63 : decode cX11_text 63 = .ok (.aload_n 0, 1) := by decide +kernel
theorem dX11_text_64 : decode cX11_text 64 = .ok (.getfield 67, 3) := by decide +kernel
theorem dX11_text_67 : decode cX11_text 67 = .ok (.invokevirtual 139, 3) := by decide +kernel
theorem dX11_text_70 : decode cX11_text 70 = .ok (.aload_n 0, 1) := by decide +kernel
theorem dX11_text_71 : decode cX11_text 71 = .ok (.iconst 1, 1) := by decide +kernel
theorem dX11_text_72 : decode cX11_text 72 = .ok (.invokevirtual 142, 3) := by decide +kernel
theorem dX11_text_75 : decode cX11_text 75 = .ok (.aload_n 0, 1) := by decide +kernel
theorem dX11_text_76 : decode cX11_text 76 = .ok (.getfield 30, 3) := by decide +kernel
theorem dX11_text_79 : decode cX11_text 79 = .ok (.getfield 146, 3) := by decide +kernel
theorem dX11_text_82 : decode cX11_text 82 = .ok (.ireturn, 1) := by decide +kernel
theorem dX11_fault_0 : decode cX11_fault 0 = .ok (.iload_n 1, 1) := by decide +kernel
theorem dX11_fault_1 : decode cX11_fault 1 = .ok (.lookupswitch 37 #[(0, 27), (1, 32)], 27) := by decide +kernel
theorem dX11_fault_28 : decode cX11_fault 28 = .ok (.aload_n 0, 1) := by decide +kernel
theorem dX11_fault_29 : decode cX11_fault 29 = .ok (.getfield 95, 3) := by decide +kernel
theorem dX11_fault_32 : decode cX11_fault 32 = .ok (.ireturn, 1) := by decide +kernel
theorem dX11_fault_33 : decode cX11_fault 33 = .ok (.aload_n 0, 1) := by decide +kernel
theorem dX11_fault_34 : decode cX11_fault 34 = .ok (.getfield 98, 3) := by decide +kernel
theorem dX11_fault_37 : decode cX11_fault 37 = .ok (.ireturn, 1) := by decide +kernel
theorem dX11_fault_38 : decode cX11_fault 38 = .ok (.iconst (-1), 1) := by decide +kernel
theorem dX11_fault_39 : decode cX11_fault 39 = .ok (.ireturn, 1) := by decide +kernel
theorem dX11_hall_0 : decode cX11_hall 0 = .ok (.iload_n 1, 1) := by decide +kernel
theorem dX11_hall_1 : decode cX11_hall 1 = .ok (.tableswitch 171 0 12 #[67, 75, 83, 91, 99, 107, 118, 126, 134, 142, 150, 158, 163], 67) := by decide +kernel
theorem dX11_hall_68 : decode cX11_hall 68 = .ok (.aload_n 0, 1) := by decide +kernel
theorem dX11_hall_69 : decode cX11_hall 69 = .ok (.getfield 82, 3) := by decide +kernel
theorem dX11_hall_72 : decode cX11_hall 72 = .ok (.getfield 149, 3) := by decide +kernel
theorem dX11_hall_75 : decode cX11_hall 75 = .ok (.ireturn, 1) := by decide +kernel
theorem dX11_hall_76 : decode cX11_hall 76 = .ok (.aload_n 0, 1) := by decide +kernel
theorem dX11_hall_77 : decode cX11_hall 77 = .ok (.getfield 82, 3) := by decide +kernel
theorem dX11_hall_80 : decode cX11_hall 80 = .ok (.getfield 152, 3) := by decide +kernel
theorem dX11_hall_83 : decode cX11_hall 83 = .ok (.ireturn, 1) := by decide +kernel
theorem dX11_hall_84 : decode cX11_hall 84 = .ok (.aload_n 0, 1) := by decide +kernel
theorem dX11_hall_85 : decode cX11_hall 85 = .ok (.getfield 82, 3) := by decide +kernel
theorem dX11_hall_88 : decode cX11_hall 88 = .ok (.invokevirtual 155, 3) := by decide +kernel
theorem dX11_hall_91 : decode cX11_hall 91 = .ok (.ireturn, 1) := by decide +kernel
theorem dX11_hall_92 : decode cX11_hall 92 = .ok (.aload_n 0, 1) := by decide +kernel
theorem dX11_hall_93 : decode cX11_hall 93 = .ok (.getfield 82, 3) := by decide +kernel
theorem dX11_hall_96 : decode cX11_hall 96 = .ok (.getfield 158, 3) := by decide +kernel
theorem dX11_hall_99 : decode cX11_hall 99 = .ok (.ireturn, 1) := by decide +kernel
theorem dX11_hall_100 : decode cX11_hall 100 = .ok (.aload_n 0, 1) := by decide +kernel
theorem dX11_hall_101 : decode cX11_hall 101 = .ok (.getfield 82, 3) := by decide +kernel
theorem dX11_hall_104 : decode cX11_hall 104 = .ok (.invokevirtual 161, 3) := by decide +kernel
theorem dX11_hall_107 : decode cX11_hall 107 = .ok (.ireturn, 1) := by decide +kernel
theorem dX11_hall_108 : decode cX11_hall 108 = .ok (.aload_n 0, 1) := by decide +kernel
theorem dX11_hall_109 : decode cX11_hall 109 = .ok (.getfield 82, 3) := by decide +kernel
theorem dX11_hall_112 : decode cX11_hall 112 = .ok (.getfield 129, 3) := by decide +kernel
theorem dX11_hall_115 : decode cX11_hall 115 = .ok (.getfield 164, 3) := by decide +kernel
theorem dX11_hall_118 : decode cX11_hall 118 = .ok (.ireturn, 1) := by decide +kernel
theorem dX11_hall_119 : decode cX11_hall 119 = .ok (.aload_n 0, 1) := by decide +kernel
theorem dX11_hall_120 : decode cX11_hall 120 = .ok (.getfield 82, 3) := by decide +kernel
theorem dX11_hall_123 : decode cX11_hall 123 = .ok (.getfield 167, 3) := by decide +kernel
theorem dX11_hall_126 : decode cX11_hall 126 = .ok (.ireturn, 1) := by decide +kernel
theorem dX11_hall_127 : decode cX11_hall 127 = .ok (.aload_n 0, 1) := by decide +kernel
theorem dX11_hall_128 : decode cX11_hall 128 = .ok (.getfield 82, 3) := by decide +kernel
theorem dX11_hall_131 : decode cX11_hall 131 = .ok (.getfield 170, 3) := by decide +kernel
theorem dX11_hall_134 : decode cX11_hall 134 = .ok (.ireturn, 1) := by decide +kernel
theorem dX11_hall_135 : decode cX11_hall 135 = .ok (.aload_n 0, 1) := by decide +kernel
theorem dX11_hall_136 : decode cX11_hall 136 = .ok (.getfield 82, 3) := by decide +kernel
theorem dX11_hall_139 : decode cX11_hall 139 = .ok (.getfield 173, 3) := by decide +kernel
theorem dX11_hall_142 : decode cX11_hall 142 = .ok (.ireturn, 1) := by decide +kernel
theorem dX11_hall_143 : decode cX11_hall 143 = .ok (.aload_n 0, 1) := by decide +kernel
theorem dX11_hall_144 : decode cX11_hall 144 = .ok (.getfield 82, 3) := by decide +kernel
theorem dX11_hall_147 : decode cX11_hall 147 = .ok (.getfield 176, 3) := by decide +kernel
theorem dX11_hall_150 : decode cX11_hall 150 = .ok (.ireturn, 1) := by decide +kernel
theorem dX11_hall_151 : decode cX11_hall 151 = .ok (.aload_n 0, 1) := by decide +kernel
theorem dX11_hall_152 : decode cX11_hall 152 = .ok (.getfield 82, 3) := by decide +kernel
theorem dX11_hall_155 : decode cX11_hall 155 = .ok (.getfield 179, 3) := by decide +kernel
theorem dX11_hall_158 : decode cX11_hall 158 = .ok (.ireturn, 1) := by decide +kernel
theorem dX11_hall_159 : decode cX11_hall 159 = .ok (.aload_n 0, 1) := by decide +kernel
theorem dX11_hall_160 : decode cX11_hall 160 = .ok (.getfield 89, 3) := by decide +kernel
theorem dX11_hall_163 : decode cX11_hall 163 = .ok (.ireturn, 1) := by decide +kernel
theorem dX11_hall_164 : decode cX11_hall 164 = .ok (.aload_n 0, 1) := by decide +kernel
theorem dX11_hall_165 : decode cX11_hall 165 = .ok (.getfield 67, 3) := by decide +kernel
theorem dX11_hall_168 : decode cX11_hall 168 = .ok (.getfield 182, 3) := by decide +kernel
theorem dX11_hall_171 : decode cX11_hall 171 = .ok (.ireturn, 1) := by decide +kernel
theorem dX11_hall_172 : decode cX11_hall 172 = .ok (.iconst (-1), 1) := by decide +kernel
theorem dX11_hall_173 : decode cX11_hall 173 = .ok (.ireturn, 1) := by decide +kernel
theorem dX11_letter_0 : decode cX11_letter 0 = .ok (.iload_n 3, 1) := by decide +kernel
theorem dX11_letter_1 : decode cX11_letter 1 = .ok (.ifCond .lt 9, 3) := by decide +kernel
theorem dX11_letter_4 : decode cX11_letter 4 = .ok (.iload_n 3, 1) := by decide +kernel
theorem dX11_letter_5 : decode cX11_letter 5 = .ok (.bipush 6, 2) := by decide +kernel
theorem dX11_letter_7 : decode cX11_letter 7 = .ok (.if_icmp .lt 5, 3) := by decide +kernel
theorem dX11_letter_10 : decode cX11_letter 10 = .ok (.iconst (-1), 1) := by decide +kernel
theorem dX11_letter_11 : decode cX11_letter 11 = .ok (.ireturn, 1) := by decide +kernel
theorem dX11_letter_12 : decode cX11_letter 12 = .ok (.iload_n 1, 1) := by decide +kernel
theorem dX11_letter_13 : decode cX11_letter 13 = .ok (.ifCond .ne 36, 3) := by decide +kernel
theorem dX11_letter_16 : decode cX11_letter 16 = .ok (.aload_n 0, 1) := by decide +kernel
theorem dX11_letter_17 : decode cX11_letter 17 = .ok (.getfield 82, 3) := by decide +kernel
theorem dX11_letter_20 : decode cX11_letter 20 = .ok (.getfield 129, 3) := by decide +kernel
theorem dX11_letter_23 : decode cX11_letter 23 = .ok (.iload_n 2, 1) := by decide +kernel
theorem dX11_letter_24 : decode cX11_letter 24 = .ok (.invokevirtual 183, 3) := by decide +kernel
theorem dX11_letter_27 : decode cX11_letter 27 = .ok (.ifCond .eq 22, 3) := by decide +kernel
theorem dX11_letter_30 : decode cX11_letter 30 = .ok (.aload_n 0, 1) := by decide +kernel
theorem dX11_letter_31 : decode cX11_letter 31 = .ok (.getfield 82, 3) := by decide +kernel
theorem dX11_letter_34 : decode cX11_letter 34 = .ok (.getfield 129, 3) := by decide +kernel
theorem dX11_letter_37 : decode cX11_letter 37 = .ok (.getfield 186, 3) := by decide +kernel
theorem dX11_letter_40 : decode cX11_letter 40 = .ok (.iload_n 2, 1) := by decide +kernel
theorem dX11_letter_41 : decode cX11_letter 41 = .ok (.invokestatic 189, 3) := by decide +kernel
theorem dX11_letter_44 : decode cX11_letter 44 = .ok (.iload_n 3, 1) := by decide +kernel
theorem dX11_letter_45 : decode cX11_letter 45 = .ok (.invokestatic 193, 3) := by decide +kernel
theorem dX11_letter_48 : decode cX11_letter 48 = .ok (.ireturn, 1) := by decide +kernel
theorem dX11_letter_49 : decode cX11_letter 49 = .ok (.iload_n 1, 1) := by decide +kernel
theorem dX11_letter_50 : decode cX11_letter 50 = .ok (.iconst 1, 1) := by decide +kernel
theorem dX11_letter_51 : decode cX11_letter 51 = .ok (.if_icmp .ne 30, 3) := by decide +kernel
theorem dX11_letter_54 : decode cX11_letter 54 = .ok (.aload_n 0, 1) := by decide +kernel
theorem dX11_letter_55 : decode cX11_letter 55 = .ok (.getfield 82, 3) := by decide +kernel
theorem dX11_letter_58 : decode cX11_letter 58 = .ok (.iload_n 2, 1) := by decide +kernel
theorem dX11_letter_59 : decode cX11_letter 59 = .ok (.invokevirtual 197, 3) := by decide +kernel
theorem dX11_letter_62 : decode cX11_letter 62 = .ok (.ifCond .eq 19, 3) := by decide +kernel
theorem dX11_letter_65 : decode cX11_letter 65 = .ok (.aload_n 0, 1) := by decide +kernel
theorem dX11_letter_66 : decode cX11_letter 66 = .ok (.getfield 82, 3) := by decide +kernel
theorem dX11_letter_69 : decode cX11_letter 69 = .ok (.getfield 200, 3) := by decide +kernel
theorem dX11_letter_72 : decode cX11_letter 72 = .ok (.iload_n 2, 1) := by decide +kernel
theorem dX11_letter_73 : decode cX11_letter 73 = .ok (.invokestatic 189, 3) := by decide +kernel
theorem dX11_letter_76 : decode cX11_letter 76 = .ok (.iload_n 3, 1) := by decide +kernel
theorem dX11_letter_77 : decode cX11_letter 77 = .ok (.invokestatic 193, 3) := by decide +kernel
theorem dX11_letter_80 : decode cX11_letter 80 = .ok (.ireturn, 1) := by decide +kernel
theorem dX11_letter_81 : decode cX11_letter 81 = .ok (.iconst (-1), 1) := by decide +kernel
theorem dX11_letter_82 : decode cX11_letter 82 = .ok (.ireturn, 1) := by decide +kernel
theorem dX11_person_0 : decode cX11_person 0 = .ok (.aload_n 0, 1) := by decide +kernel
theorem dX11_person_1 : decode cX11_person 1 = .ok (.getfield 82, 3) := by decide +kernel
theorem dX11_person_4 : decode cX11_person 4 = .ok (.getfield 129, 3) := by decide +kernel
theorem dX11_person_7 : decode cX11_person 7 = .ok (.astore_n 3, 1) := by decide +kernel
theorem dX11_person_8 : decode cX11_person 8 = .ok (.aload_n 3, 1) := by decide +kernel
theorem dX11_person_9 : decode cX11_person 9 = .ok (.iload_n 1, 1) := by decide +kernel
theorem dX11_person_10 : decode cX11_person 10 = .ok (.invokevirtual 183, 3) := by decide +kernel
theorem dX11_person_13 : decode cX11_person 13 = .ok (.ifCond .ne 5, 3) := by decide +kernel
theorem dX11_person_16 : decode cX11_person 16 = .ok (.iconst (-1), 1) := by decide +kernel
theorem dX11_person_17 : decode cX11_person 17 = .ok (.ireturn, 1) := by decide +kernel
theorem dX11_person_18 : decode cX11_person 18 = .ok (.iload_n 2, 1) := by decide +kernel
theorem dX11_person_19 : decode cX11_person 19 = .ok (.tableswitch 99 0 5 #[37, 46, 55, 64, 73, 90], 37) := by decide +kernel
theorem dX11_person_56 : decode cX11_person 56 = .ok (.aload_n 3, 1) := by decide +kernel
theorem dX11_person_57 : decode cX11_person 57 = .ok (.getfield 203, 3) := by decide +kernel
theorem dX11_person_60 : decode cX11_person 60 = .ok (.iload_n 1, 1) := by decide +kernel
theorem dX11_person_61 : decode cX11_person 61 = .ok (.invokestatic 189, 3) := by decide +kernel
theorem dX11_person_64 : decode cX11_person 64 = .ok (.ireturn, 1) := by decide +kernel
theorem dX11_person_65 : decode cX11_person 65 = .ok (.aload_n 3, 1) := by decide +kernel
theorem dX11_person_66 : decode cX11_person 66 = .ok (.getfield 206, 3) := by decide +kernel
theorem dX11_person_69 : decode cX11_person 69 = .ok (.iload_n 1, 1) := by decide +kernel
theorem dX11_person_70 : decode cX11_person 70 = .ok (.invokestatic 189, 3) := by decide +kernel
theorem dX11_person_73 : decode cX11_person 73 = .ok (.ireturn, 1) := by decide +kernel
theorem dX11_person_74 : decode cX11_person 74 = .ok (.aload_n 3, 1) := by decide +kernel
theorem dX11_person_75 : decode cX11_person 75 = .ok (.getfield 209, 3) := by decide +kernel
theorem dX11_person_78 : decode cX11_person 78 = .ok (.iload_n 1, 1) := by decide +kernel
theorem dX11_person_79 : decode cX11_person 79 = .ok (.invokestatic 189, 3) := by decide +kernel
theorem dX11_person_82 : decode cX11_person 82 = .ok (.ireturn, 1) := by decide +kernel
theorem dX11_person_83 : decode cX11_person 83 = .ok (.aload_n 3, 1) := by decide +kernel
theorem dX11_person_84 : decode cX11_person 84 = .ok (.getfield 212, 3) := by decide +kernel
theorem dX11_person_87 : decode cX11_person 87 = .ok (.iload_n 1, 1) := by decide +kernel
theorem dX11_person_88 : decode cX11_person 88 = .ok (.invokestatic 189, 3) := by decide +kernel
theorem dX11_person_91 : decode cX11_person 91 = .ok (.ireturn, 1) := by decide +kernel
theorem dX11_person_92 : decode cX11_person 92 = .ok (.aload_n 3, 1) := by decide +kernel
theorem dX11_person_93 : decode cX11_person 93 = .ok (.getfield 215, 3) := by decide +kernel
theorem dX11_person_96 : decode cX11_person 96 = .ok (.iload_n 1, 1) := by decide +kernel
theorem dX11_person_97 : decode cX11_person 97 = .ok (.invokestatic 218, 3) := by decide +kernel
theorem dX11_person_100 : decode cX11_person 100 = .ok (.ifCond .eq 7, 3) := by decide +kernel
theorem dX11_person_103 : decode cX11_person 103 = .ok (.iconst 1, 1) := by decide +kernel
theorem dX11_person_104 : decode cX11_person 104 = .ok (.goto 4, 3) := by decide +kernel
theorem dX11_person_107 : decode cX11_person 107 = .ok (.iconst 0, 1) := by decide +kernel
theorem dX11_person_108 : decode cX11_person 108 = .ok (.ireturn, 1) := by decide +kernel
theorem dX11_person_109 : decode cX11_person 109 = .ok (.aload_n 3, 1) := by decide +kernel
theorem dX11_person_110 : decode cX11_person 110 = .ok (.getfield 222, 3) := by decide +kernel
theorem dX11_person_113 : decode cX11_person 113 = .ok (.iload_n 1, 1) := by decide +kernel
theorem dX11_person_114 : decode cX11_person 114 = .ok (.invokestatic 189, 3) := by decide +kernel
theorem dX11_person_117 : decode cX11_person 117 = .ok (.ireturn, 1) := by decide +kernel
theorem dX11_person_118 : decode cX11_person 118 = .ok (.iconst (-1), 1) := by decide +kernel
theorem dX11_person_119 : decode cX11_person 119 = .ok (.ireturn, 1) := by decide +kernel
theorem dX11_guard_0 : decode cX11_guard 0 = .ok (.aload_n 0, 1) := by decide +kernel
theorem dX11_guard_1 : decode cX11_guard 1 = .ok (.getfield 82, 3) := by decide +kernel
theorem dX11_guard_4 : decode cX11_guard 4 = .ok (.iload_n 1, 1) := by decide +kernel
theorem dX11_guard_5 : decode cX11_guard 5 = .ok (.invokevirtual 197, 3) := by decide +kernel
theorem dX11_guard_8 : decode cX11_guard 8 = .ok (.ifCond .ne 5, 3) := by decide +kernel
theorem dX11_guard_11 : decode cX11_guard 11 = .ok (.iconst (-1), 1) := by decide +kernel
theorem dX11_guard_12 : decode cX11_guard 12 = .ok (.ireturn, 1) := by decide +kernel
theorem dX11_guard_13 : decode cX11_guard 13 = .ok (.iload_n 2, 1) := by decide +kernel
theorem dX11_guard_14 : decode cX11_guard 14 = .ok (.tableswitch 62 0 2 #[26, 38, 50], 26) := by decide +kernel
theorem dX11_guard_40 : decode cX11_guard 40 = .ok (.aload_n 0, 1) := by decide +kernel
theorem dX11_guard_41 : decode cX11_guard 41 = .ok (.getfield 82, 3) := by decide +kernel
theorem dX11_guard_44 : decode cX11_guard 44 = .ok (.getfield 225, 3) := by decide +kernel
theorem dX11_guard_47 : decode cX11_guard 47 = .ok (.iload_n 1, 1) := by decide +kernel
theorem dX11_guard_48 : decode cX11_guard 48 = .ok (.invokestatic 189, 3) := by decide +kernel
theorem dX11_guard_51 : decode cX11_guard 51 = .ok (.ireturn, 1) := by decide +kernel
theorem dX11_guard_52 : decode cX11_guard 52 = .ok (.aload_n 0, 1) := by decide +kernel
theorem dX11_guard_53 : decode cX11_guard 53 = .ok (.getfield 82, 3) := by decide +kernel
theorem dX11_guard_56 : decode cX11_guard 56 = .ok (.getfield 228, 3) := by decide +kernel
theorem dX11_guard_59 : decode cX11_guard 59 = .ok (.iload_n 1, 1) := by decide +kernel
theorem dX11_guard_60 : decode cX11_guard 60 = .ok (.invokestatic 189, 3) := by decide +kernel
theorem dX11_guard_63 : decode cX11_guard 63 = .ok (.ireturn, 1) := by decide +kernel
theorem dX11_guard_64 : decode cX11_guard 64 = .ok (.aload_n 0, 1) := by decide +kernel
theorem dX11_guard_65 : decode cX11_guard 65 = .ok (.getfield 82, 3) := by decide +kernel
theorem dX11_guard_68 : decode cX11_guard 68 = .ok (.getfield 231, 3) := by decide +kernel
theorem dX11_guard_71 : decode cX11_guard 71 = .ok (.iload_n 1, 1) := by decide +kernel
theorem dX11_guard_72 : decode cX11_guard 72 = .ok (.invokestatic 189, 3) := by decide +kernel
theorem dX11_guard_75 : decode cX11_guard 75 = .ok (.ireturn, 1) := by decide +kernel
theorem dX11_guard_76 : decode cX11_guard 76 = .ok (.iconst (-1), 1) := by decide +kernel
theorem dX11_guard_77 : decode cX11_guard 77 = .ok (.ireturn, 1) := by decide +kernel
theorem dX11_door_0 : decode cX11_door 0 = .ok (.aload_n 0, 1) := by decide +kernel
theorem dX11_door_1 : decode cX11_door 1 = .ok (.getfield 82, 3) := by decide +kernel
theorem dX11_door_4 : decode cX11_door 4 = .ok (.iload_n 1, 1) := by decide +kernel
theorem dX11_door_5 : decode cX11_door 5 = .ok (.invokevirtual 234, 3) := by decide +kernel
theorem dX11_door_8 : decode cX11_door 8 = .ok (.ifCond .ne 5, 3) := by decide +kernel
theorem dX11_door_11 : decode cX11_door 11 = .ok (.iconst (-1), 1) := by decide +kernel
theorem dX11_door_12 : decode cX11_door 12 = .ok (.ireturn, 1) := by decide +kernel
theorem dX11_door_13 : decode cX11_door 13 = .ok (.iload_n 2, 1) := by decide +kernel
theorem dX11_door_14 : decode cX11_door 14 = .ok (.tableswitch 72 0 3 #[30, 42, 54, 63], 30) := by decide +kernel
theorem dX11_door_44 : decode cX11_door 44 = .ok (.aload_n 0, 1) := by decide +kernel
theorem dX11_door_45 : decode cX11_door 45 = .ok (.getfield 82, 3) := by decide +kernel
theorem dX11_door_48 : decode cX11_door 48 = .ok (.getfield 237, 3) := by decide +kernel
theorem dX11_door_51 : decode cX11_door 51 = .ok (.iload_n 1, 1) := by decide +kernel
theorem dX11_door_52 : decode cX11_door 52 = .ok (.invokestatic 189, 3) := by decide +kernel
theorem dX11_door_55 : decode cX11_door 55 = .ok (.ireturn, 1) := by decide +kernel
theorem dX11_door_56 : decode cX11_door 56 = .ok (.aload_n 0, 1) := by decide +kernel
theorem dX11_door_57 : decode cX11_door 57 = .ok (.getfield 82, 3) := by decide +kernel
theorem dX11_door_60 : decode cX11_door 60 = .ok (.getfield 240, 3) := by decide +kernel
theorem dX11_door_63 : decode cX11_door 63 = .ok (.iload_n 1, 1) := by decide +kernel
theorem dX11_door_64 : decode cX11_door 64 = .ok (.invokestatic 189, 3) := by decide +kernel
theorem dX11_door_67 : decode cX11_door 67 = .ok (.ireturn, 1) := by decide +kernel
theorem dX11_door_68 : decode cX11_door 68 = .ok (.aload_n 0, 1) := by decide +kernel
theorem dX11_door_69 : decode cX11_door 69 = .ok (.invokevirtual 243, 3) := by decide +kernel
theorem dX11_door_72 : decode cX11_door 72 = .ok (.iload_n 1, 1) := by decide +kernel
theorem dX11_door_73 : decode cX11_door 73 = .ok (.invokevirtual 247, 3) := by decide +kernel
theorem dX11_door_76 : decode cX11_door 76 = .ok (.ireturn, 1) := by decide +kernel
theorem dX11_door_77 : decode cX11_door 77 = .ok (.aload_n 0, 1) := by decide +kernel
theorem dX11_door_78 : decode cX11_door 78 = .ok (.invokevirtual 243, 3) := by decide +kernel
theorem dX11_door_81 : decode cX11_door 81 = .ok (.iload_n 1, 1) := by decide +kernel
theorem dX11_door_82 : decode cX11_door 82 = .ok (.invokevirtual 251, 3) := by decide +kernel
theorem dX11_door_85 : decode cX11_door 85 = .ok (.ireturn, 1) := by decide +kernel
theorem dX11_door_86 : decode cX11_door 86 = .ok (.iconst (-1), 1) := by decide +kernel
theorem dX11_door_87 : decode cX11_door 87 = .ok (.ireturn, 1) := by decide +kernel
theorem dX11_where_0 : decode cX11_where 0 = .ok (.iload_n 2, 1) := by decide +kernel
theorem dX11_where_1 : decode cX11_where 1 = .ok (.invokestatic 254, 3) := by decide +kernel
theorem dX11_where_4 : decode cX11_where 4 = .ok (.ifCond .eq 11, 3) := by decide +kernel
theorem dX11_where_7 : decode cX11_where 7 = .ok (.aload_n 0, 1) := by decide +kernel
theorem dX11_where_8 : decode cX11_where 8 = .ok (.iload_n 1, 1) := by decide +kernel
theorem dX11_where_9 : decode cX11_where 9 = .ok (.invokevirtual 257, 3) := by decide +kernel
theorem dX11_where_12 : decode cX11_where 12 = .ok (.ifCond .ne 5, 3) := by decide +kernel
theorem dX11_where_15 : decode cX11_where 15 = .ok (.iconst (-1), 1) := by decide +kernel
theorem dX11_where_16 : decode cX11_where 16 = .ok (.ireturn, 1) := by decide +kernel
theorem dX11_where_17 : decode cX11_where 17 = .ok (.aload_n 0, 1) := by decide +kernel
theorem dX11_where_18 : decode cX11_where 18 = .ok (.invokevirtual 243, 3) := by decide +kernel
theorem dX11_where_21 : decode cX11_where 21 = .ok (.iload_n 1, 1) := by decide +kernel
theorem dX11_where_22 : decode cX11_where 22 = .ok (.iload_n 2, 1) := by decide +kernel
theorem dX11_where_23 : decode cX11_where 23 = .ok (.invokevirtual 260, 3) := by decide +kernel
theorem dX11_where_26 : decode cX11_where 26 = .ok (.ireturn, 1) := by decide +kernel
theorem dX11_does_0 : decode cX11_does 0 = .ok (.aload_n 0, 1) := by decide +kernel
theorem dX11_does_1 : decode cX11_does 1 = .ok (.iload_n 1, 1) := by decide +kernel
theorem dX11_does_2 : decode cX11_does 2 = .ok (.invokevirtual 257, 3) := by decide +kernel
theorem dX11_does_5 : decode cX11_does 5 = .ok (.ifCond .ne 5, 3) := by decide +kernel
theorem dX11_does_8 : decode cX11_does 8 = .ok (.iconst (-1), 1) := by decide +kernel
theorem dX11_does_9 : decode cX11_does 9 = .ok (.ireturn, 1) := by decide +kernel
theorem dX11_does_10 : decode cX11_does 10 = .ok (.aload_n 0, 1) := by decide +kernel
theorem dX11_does_11 : decode cX11_does 11 = .ok (.invokevirtual 243, 3) := by decide +kernel
theorem dX11_does_14 : decode cX11_does 14 = .ok (.astore_n 3, 1) := by decide +kernel
theorem dX11_does_15 : decode cX11_does 15 = .ok (.iload_n 2, 1) := by decide +kernel
theorem dX11_does_16 : decode cX11_does 16 = .ok (.tableswitch 68 0 3 #[32, 41, 50, 59], 32) := by decide +kernel
theorem dX11_does_48 : decode cX11_does 48 = .ok (.aload_n 3, 1) := by decide +kernel
theorem dX11_does_49 : decode cX11_does 49 = .ok (.getfield 263, 3) := by decide +kernel
theorem dX11_does_52 : decode cX11_does 52 = .ok (.iload_n 1, 1) := by decide +kernel
theorem dX11_does_53 : decode cX11_does 53 = .ok (.invokestatic 189, 3) := by decide +kernel
theorem dX11_does_56 : decode cX11_does 56 = .ok (.ireturn, 1) := by decide +kernel
theorem dX11_does_57 : decode cX11_does 57 = .ok (.aload_n 3, 1) := by decide +kernel
theorem dX11_does_58 : decode cX11_does 58 = .ok (.getfield 266, 3) := by decide +kernel
theorem dX11_does_61 : decode cX11_does 61 = .ok (.iload_n 1, 1) := by decide +kernel
theorem dX11_does_62 : decode cX11_does 62 = .ok (.invokestatic 189, 3) := by decide +kernel
theorem dX11_does_65 : decode cX11_does 65 = .ok (.ireturn, 1) := by decide +kernel
theorem dX11_does_66 : decode cX11_does 66 = .ok (.aload_n 3, 1) := by decide +kernel
theorem dX11_does_67 : decode cX11_does 67 = .ok (.getfield 269, 3) := by decide +kernel
theorem dX11_does_70 : decode cX11_does 70 = .ok (.iload_n 1, 1) := by decide +kernel
theorem dX11_does_71 : decode cX11_does 71 = .ok (.invokestatic 189, 3) := by decide +kernel
theorem dX11_does_74 : decode cX11_does 74 = .ok (.ireturn, 1) := by decide +kernel
theorem dX11_does_75 : decode cX11_does 75 = .ok (.aload_n 3, 1) := by decide +kernel
theorem dX11_does_76 : decode cX11_does 76 = .ok (.getfield 272, 3) := by decide +kernel
theorem dX11_does_79 : decode cX11_does 79 = .ok (.iload_n 1, 1) := by decide +kernel
theorem dX11_does_80 : decode cX11_does 80 = .ok (.invokestatic 189, 3) := by decide +kernel
theorem dX11_does_83 : decode cX11_does 83 = .ok (.ireturn, 1) := by decide +kernel
theorem dX11_does_84 : decode cX11_does 84 = .ok (.iconst (-1), 1) := by decide +kernel
theorem dX11_does_85 : decode cX11_does 85 = .ok (.ireturn, 1) := by decide +kernel
theorem dX11_count_0 : decode cX11_count 0 = .ok (.iload_n 1, 1) := by decide +kernel
theorem dX11_count_1 : decode cX11_count 1 = .ok (.invokestatic 254, 3) := by decide +kernel
theorem dX11_count_4 : decode cX11_count 4 = .ok (.ifCond .eq 12, 3) := by decide +kernel
theorem dX11_count_7 : decode cX11_count 7 = .ok (.iload_n 2, 1) := by decide +kernel
theorem dX11_count_8 : decode cX11_count 8 = .ok (.ifCond .lt 8, 3) := by decide +kernel
theorem dX11_count_11 : decode cX11_count 11 = .ok (.iload_n 2, 1) := by decide +kernel
theorem dX11_count_12 : decode cX11_count 12 = .ok (.iconst 3, 1) := by decide +kernel
theorem dX11_count_13 : decode cX11_count 13 = .ok (.if_icmp .le 5, 3) := by decide +kernel
theorem dX11_count_16 : decode cX11_count 16 = .ok (.iconst (-1), 1) := by decide +kernel
theorem dX11_count_17 : decode cX11_count 17 = .ok (.ireturn, 1) := by decide +kernel
theorem dX11_count_18 : decode cX11_count 18 = .ok (.aload_n 0, 1) := by decide +kernel
theorem dX11_count_19 : decode cX11_count 19 = .ok (.invokevirtual 243, 3) := by decide +kernel
theorem dX11_count_22 : decode cX11_count 22 = .ok (.iload_n 1, 1) := by decide +kernel
theorem dX11_count_23 : decode cX11_count 23 = .ok (.iconst 0, 1) := by decide +kernel
theorem dX11_count_24 : decode cX11_count 24 = .ok (.iload_n 2, 1) := by decide +kernel
theorem dX11_count_25 : decode cX11_count 25 = .ok (.iadd, 1) := by decide +kernel
theorem dX11_count_26 : decode cX11_count 26 = .ok (.invokevirtual 275, 3) := by decide +kernel
theorem dX11_count_29 : decode cX11_count 29 = .ok (.ireturn, 1) := by decide +kernel
theorem dX11_whole_0 : decode cX11_whole 0 = .ok (.aload_n 0, 1) := by decide +kernel
theorem dX11_whole_1 : decode cX11_whole 1 = .ok (.getfield 82, 3) := by decide +kernel
theorem dX11_whole_4 : decode cX11_whole 4 = .ok (.invokevirtual 278, 3) := by decide +kernel
theorem dX11_whole_7 : decode cX11_whole 7 = .ok (.ifCond .ne 5, 3) := by decide +kernel
theorem dX11_whole_10 : decode cX11_whole 10 = .ok (.iconst (-1), 1) := by decide +kernel
theorem dX11_whole_11 : decode cX11_whole 11 = .ok (.ireturn, 1) := by decide +kernel
theorem dX11_whole_12 : decode cX11_whole 12 = .ok (.aload_n 0, 1) := by decide +kernel
theorem dX11_whole_13 : decode cX11_whole 13 = .ok (.invokevirtual 243, 3) := by decide +kernel
theorem dX11_whole_16 : decode cX11_whole 16 = .ok (.astore_n 2, 1) := by decide +kernel
theorem dX11_whole_17 : decode cX11_whole 17 = .ok (.iload_n 1, 1) := by decide +kernel
theorem dX11_whole_18 : decode cX11_whole 18 = .ok (.tableswitch 140 0 8 #[50, 55, 60, 65, 75, 96, 108, 123, 128], 50) := by decide +kernel
theorem dX11_whole_68 : decode cX11_whole 68 = .ok (.aload_n 2, 1) := by decide +kernel
theorem dX11_whole_69 : decode cX11_whole 69 = .ok (.getfield 282, 3) := by decide +kernel
theorem dX11_whole_72 : decode cX11_whole 72 = .ok (.ireturn, 1) := by decide +kernel
theorem dX11_whole_73 : decode cX11_whole 73 = .ok (.aload_n 2, 1) := by decide +kernel
theorem dX11_whole_74 : decode cX11_whole 74 = .ok (.getfield 285, 3) := by decide +kernel
theorem dX11_whole_77 : decode cX11_whole 77 = .ok (.ireturn, 1) := by decide +kernel
theorem dX11_whole_78 : decode cX11_whole 78 = .ok (.aload_n 2, 1) := by decide +kernel
theorem dX11_whole_79 : decode cX11_whole 79 = .ok (.invokevirtual 288, 3) := by decide +kernel
theorem dX11_whole_82 : decode cX11_whole 82 = .ok (.ireturn, 1) := by decide +kernel
theorem dX11_whole_83 : decode cX11_whole 83 = .ok (.aload_n 2, 1) := by decide +kernel
theorem dX11_whole_84 : decode cX11_whole 84 = .ok (.aload_n 2, 1) := by decide +kernel
theorem dX11_whole_85 : decode cX11_whole 85 = .ok (.invokevirtual 288, 3) := by decide +kernel
theorem dX11_whole_88 : decode cX11_whole 88 = .ok (.iconst 0, 1) := by decide +kernel
theorem dX11_whole_89 : decode cX11_whole 89 = .ok (.invokevirtual 275, 3) := by decide +kernel
theorem dX11_whole_92 : decode cX11_whole 92 = .ok (.ireturn, 1) := by decide +kernel
theorem dX11_whole_93 : decode cX11_whole 93 = .ok (.aload_n 2, 1) := by decide +kernel
theorem dX11_whole_94 : decode cX11_whole 94 = .ok (.aload_n 0, 1) := by decide +kernel
theorem dX11_whole_95 : decode cX11_whole 95 = .ok (.getfield 82, 3) := by decide +kernel
theorem dX11_whole_98 : decode cX11_whole 98 = .ok (.getfield 179, 3) := by decide +kernel
theorem dX11_whole_101 : decode cX11_whole 101 = .ok (.invokevirtual 291, 3) := by decide +kernel
theorem dX11_whole_104 : decode cX11_whole 104 = .ok (.iconst (-1), 1) := by decide +kernel
theorem dX11_whole_105 : decode cX11_whole 105 = .ok (.if_icmp .ne 7, 3) := by decide +kernel
theorem dX11_whole_108 : decode cX11_whole 108 = .ok (.iconst 0, 1) := by decide +kernel
theorem dX11_whole_109 : decode cX11_whole 109 = .ok (.goto 4, 3) := by decide +kernel
theorem dX11_whole_112 : decode cX11_whole 112 = .ok (.iconst 1, 1) := by decide +kernel
theorem dX11_whole_113 : decode cX11_whole 113 = .ok (.ireturn, 1) := by decide +kernel
theorem dX11_whole_114 : decode cX11_whole 114 = .ok (.aload_n 2, 1) := by decide +kernel
theorem dX11_whole_115 : decode cX11_whole 115 = .ok (.aload_n 0, 1) := by decide +kernel
theorem dX11_whole_116 : decode cX11_whole 116 = .ok (.getfield 82, 3) := by decide +kernel
theorem dX11_whole_119 : decode cX11_whole 119 = .ok (.getfield 179, 3) := by decide +kernel
theorem dX11_whole_122 : decode cX11_whole 122 = .ok (.invokevirtual 291, 3) := by decide +kernel
theorem dX11_whole_125 : decode cX11_whole 125 = .ok (.ireturn, 1) := by decide +kernel
theorem dX11_whole_126 : decode cX11_whole 126 = .ok (.aload_n 2, 1) := by decide +kernel
theorem dX11_whole_127 : decode cX11_whole 127 = .ok (.aload_n 0, 1) := by decide +kernel
theorem dX11_whole_128 : decode cX11_whole 128 = .ok (.getfield 82, 3) := by decide +kernel
theorem dX11_whole_131 : decode cX11_whole 131 = .ok (.getfield 129, 3) := by decide +kernel
theorem dX11_whole_134 : decode cX11_whole 134 = .ok (.getfield 215, 3) := by decide +kernel
theorem dX11_whole_137 : decode cX11_whole 137 = .ok (.invokevirtual 294, 3) := by decide +kernel
theorem dX11_whole_140 : decode cX11_whole 140 = .ok (.ireturn, 1) := by decide +kernel
theorem dX11_whole_141 : decode cX11_whole 141 = .ok (.aload_n 2, 1) := by decide +kernel
theorem dX11_whole_142 : decode cX11_whole 142 = .ok (.invokevirtual 297, 3) := by decide +kernel
theorem dX11_whole_145 : decode cX11_whole 145 = .ok (.ireturn, 1) := by decide +kernel
theorem dX11_whole_146 : decode cX11_whole 146 = .ok (.aload_n 2, 1) := by decide +kernel
theorem dX11_whole_147 : decode cX11_whole 147 = .ok (.aload_n 0, 1) := by decide +kernel
theorem dX11_whole_148 : decode cX11_whole 148 = .ok (.getfield 82, 3) := by decide +kernel
theorem dX11_whole_151 : decode cX11_whole 151 = .ok (.getfield 170, 3) := by decide +kernel
theorem dX11_whole_154 : decode cX11_whole 154 = .ok (.invokevirtual 300, 3) := by decide +kernel
theorem dX11_whole_157 : decode cX11_whole 157 = .ok (.ireturn, 1) := by decide +kernel
theorem dX11_whole_158 : decode cX11_whole 158 = .ok (.iconst (-1), 1) := by decide +kernel
theorem dX11_whole_159 : decode cX11_whole 159 = .ok (.ireturn, 1) := by decide +kernel
theorem dX11_set_0 : decode cX11_set 0 = .ok (.aload_n 0, 1) := by decide +kernel
