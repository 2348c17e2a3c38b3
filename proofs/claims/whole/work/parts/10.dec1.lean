theorem dX0_init_0 : decode cX0_init 0 = .ok (.aload_n 0, 1) := by decide +kernel
theorem dX0_init_1 : decode cX0_init 1 = .ok (.invokespecial 3, 3) := by decide +kernel
theorem dX0_init_4 : decode cX0_init 4 = .ok (.aload_n 0, 1) := by decide +kernel
theorem dX0_init_5 : decode cX0_init 5 = .ok (.bipush 20, 2) := by decide +kernel
theorem dX0_init_7 : decode cX0_init 7 = .ok (.newarray .int, 2) := by decide +kernel
theorem dX0_init_9 : decode cX0_init 9 = .ok (.putfield 9, 3) := by decide +kernel
theorem dX0_init_12 : decode cX0_init 12 = .ok (.aload_n 0, 1) := by decide +kernel
theorem dX0_init_13 : decode cX0_init 13 = .ok (.bipush 20, 2) := by decide +kernel
theorem dX0_init_15 : decode cX0_init 15 = .ok (.newarray .int, 2) := by decide +kernel
theorem dX0_init_17 : decode cX0_init 17 = .ok (.putfield 15, 3) := by decide +kernel
theorem dX0_init_20 : decode cX0_init 20 = .ok (.aload_n 0, 1) := by decide +kernel
theorem dX0_init_21 : decode cX0_init 21 = .ok (.bipush 20, 2) := by decide +kernel
theorem dX0_init_23 : decode cX0_init 23 = .ok (.newarray .int, 2) := by decide +kernel
theorem dX0_init_25 : decode cX0_init 25 = .ok (.putfield 18, 3) := by decide +kernel
theorem dX0_init_28 : decode cX0_init 28 = .ok (.aload_n 0, 1) := by decide +kernel
theorem dX0_init_29 : decode cX0_init 29 = .ok (.iconst 0, 1) := by decide +kernel
theorem dX0_init_30 : decode cX0_init 30 = .ok (.putfield 21, 3) := by decide +kernel
theorem dX0_init_33 : decode cX0_init 33 = .ok (.return_, 1) := by decide +kernel
theorem dX0_forget_0 : decode cX0_forget 0 = .ok (.aload_n 0, 1) := by decide +kernel
theorem dX0_forget_1 : decode cX0_forget 1 = .ok (.iconst 0, 1) := by decide +kernel
theorem dX0_forget_2 : decode cX0_forget 2 = .ok (.putfield 21, 3) := by decide +kernel
theorem dX0_forget_5 : decode cX0_forget 5 = .ok (.return_, 1) := by decide +kernel
theorem dX0_add_0 : decode cX0_add 0 = .ok (.aload_n 0, 1) := by decide +kernel
theorem dX0_add_1 : decode cX0_add 1 = .ok (.getfield 21, 3) := by decide +kernel
theorem dX0_add_4 : decode cX0_add 4 = .ok (.bipush 20, 2) := by decide +kernel
theorem dX0_add_6 : decode cX0_add 6 = .ok (.if_icmp .ne 58, 3) := by decide +kernel
theorem dX0_add_9 : decode cX0_add 9 = .ok (.aload_n 0, 1) := by decide +kernel
theorem dX0_add_10 : decode cX0_add 10 = .ok (.getfield 9, 3) := by decide +kernel
theorem dX0_add_13 : decode cX0_add 13 = .ok (.iconst 1, 1) := by decide +kernel
theorem dX0_add_14 : decode cX0_add 14 = .ok (.aload_n 0, 1) := by decide +kernel
theorem dX0_add_15 : decode cX0_add 15 = .ok (.getfield 9, 3) := by decide +kernel
theorem dX0_add_18 : decode cX0_add 18 = .ok (.iconst 0, 1) := by decide +kernel
theorem dX0_add_19 : decode cX0_add 19 = .ok (.bipush 19, 2) := by decide +kernel
theorem dX0_add_21 : decode cX0_add 21 = .ok (.invokestatic 25, 3) := by decide +kernel
theorem dX0_add_24 : decode cX0_add 24 = .ok (.aload_n 0, 1) := by decide +kernel
theorem dX0_add_25 : decode cX0_add 25 = .ok (.getfield 15, 3) := by decide +kernel
theorem dX0_add_28 : decode cX0_add 28 = .ok (.iconst 1, 1) := by decide +kernel
theorem dX0_add_29 : decode cX0_add 29 = .ok (.aload_n 0, 1) := by decide +kernel
theorem dX0_add_30 : decode cX0_add 30 = .ok (.getfield 15, 3) := by decide +kernel
theorem dX0_add_33 : decode cX0_add 33 = .ok (.iconst 0, 1) := by decide +kernel
theorem dX0_add_34 : decode cX0_add 34 = .ok (.bipush 19, 2) := by decide +kernel
theorem dX0_add_36 : decode cX0_add 36 = .ok (.invokestatic 25, 3) := by decide +kernel
theorem dX0_add_39 : decode cX0_add 39 = .ok (.aload_n 0, 1) := by decide +kernel
theorem dX0_add_40 : decode cX0_add 40 = .ok (.getfield 18, 3) := by decide +kernel
theorem dX0_add_43 : decode cX0_add 43 = .ok (.iconst 1, 1) := by decide +kernel
theorem dX0_add_44 : decode cX0_add 44 = .ok (.aload_n 0, 1) := by decide +kernel
theorem dX0_add_45 : decode cX0_add 45 = .ok (.getfield 18, 3) := by decide +kernel
theorem dX0_add_48 : decode cX0_add 48 = .ok (.iconst 0, 1) := by decide +kernel
theorem dX0_add_49 : decode cX0_add 49 = .ok (.bipush 19, 2) := by decide +kernel
theorem dX0_add_51 : decode cX0_add 51 = .ok (.invokestatic 25, 3) := by decide +kernel
theorem dX0_add_54 : decode cX0_add 54 = .ok (.aload_n 0, 1) := by decide +kernel
theorem dX0_add_55 : decode cX0_add 55 = .ok (.dup, 1) := by decide +kernel
theorem dX0_add_56 : decode cX0_add 56 = .ok (.getfield 21, 3) := by decide +kernel
theorem dX0_add_59 : decode cX0_add 59 = .ok (.iconst 1, 1) := by decide +kernel
theorem dX0_add_60 : decode cX0_add 60 = .ok (.isub, 1) := by decide +kernel
theorem dX0_add_61 : decode cX0_add 61 = .ok (.putfield 21, 3) := by decide +kernel
theorem dX0_add_64 : decode cX0_add 64 = .ok (.aload_n 0, 1) := by decide +kernel
theorem dX0_add_65 : decode cX0_add 65 = .ok (.getfield 9, 3) := by decide +kernel
theorem dX0_add_68 : decode cX0_add 68 = .ok (.aload_n 0, 1) := by decide +kernel
theorem dX0_add_69 : decode cX0_add 69 = .ok (.getfield 21, 3) := by decide +kernel
theorem dX0_add_72 : decode cX0_add 72 = .ok (.iload_n 1, 1) := by decide +kernel
theorem dX0_add_73 : decode cX0_add 73 = .ok (.invokestatic 31, 3) := by decide +kernel
theorem dX0_add_76 : decode cX0_add 76 = .ok (.aload_n 0, 1) := by decide +kernel
theorem dX0_add_77 : decode cX0_add 77 = .ok (.getfield 15, 3) := by decide +kernel
theorem dX0_add_80 : decode cX0_add 80 = .ok (.aload_n 0, 1) := by decide +kernel
theorem dX0_add_81 : decode cX0_add 81 = .ok (.getfield 21, 3) := by decide +kernel
theorem dX0_add_84 : decode cX0_add 84 = .ok (.iload_n 2, 1) := by decide +kernel
theorem dX0_add_85 : decode cX0_add 85 = .ok (.invokestatic 31, 3) := by decide +kernel
theorem dX0_add_88 : decode cX0_add 88 = .ok (.aload_n 0, 1) := by decide +kernel
theorem dX0_add_89 : decode cX0_add 89 = .ok (.getfield 18, 3) := by decide +kernel
theorem dX0_add_92 : decode cX0_add 92 = .ok (.aload_n 0, 1) := by decide +kernel
theorem dX0_add_93 : decode cX0_add 93 = .ok (.getfield 21, 3) := by decide +kernel
theorem dX0_add_96 : decode cX0_add 96 = .ok (.iload_n 3, 1) := by decide +kernel
theorem dX0_add_97 : decode cX0_add 97 = .ok (.invokestatic 31, 3) := by decide +kernel
theorem dX0_add_100 : decode cX0_add 100 = .ok (.aload_n 0, 1) := by decide +kernel
theorem dX0_add_101 : decode cX0_add 101 = .ok (.dup, 1) := by decide +kernel
theorem dX0_add_102 : decode cX0_add 102 = .ok (.getfield 21, 3) := by decide +kernel
theorem dX0_add_105 : decode cX0_add 105 = .ok (.iconst 1, 1) := by decide +kernel
theorem dX0_add_106 : decode cX0_add 106 = .ok (.iadd, 1) := by decide +kernel
theorem dX0_add_107 : decode cX0_add 107 = .ok (.putfield 21, 3) := by decide +kernel
theorem dX0_add_110 : decode cX0_add 110 = .ok (.return_, 1) := by decide +kernel
theorem dX0_takeBack_0 : decode cX0_takeBack 0 = .ok (.aload_n 0, 1) := by decide +kernel
theorem dX0_takeBack_1 : decode cX0_takeBack 1 = .ok (.dup, 1) := by decide +kernel
theorem dX0_takeBack_2 : decode cX0_takeBack 2 = .ok (.getfield 21, 3) := by decide +kernel
theorem dX0_takeBack_5 : decode cX0_takeBack 5 = .ok (.iconst 1, 1) := by decide +kernel
theorem dX0_takeBack_6 : decode cX0_takeBack 6 = .ok (.isub, 1) := by decide +kernel
theorem dX0_takeBack_7 : decode cX0_takeBack 7 = .ok (.putfield 21, 3) := by decide +kernel
theorem dX0_takeBack_10 : decode cX0_takeBack 10 = .ok (.aload_n 0, 1) := by decide +kernel
theorem dX0_takeBack_11 : decode cX0_takeBack 11 = .ok (.getfield 9, 3) := by decide +kernel
theorem dX0_takeBack_14 : decode cX0_takeBack 14 = .ok (.aload_n 0, 1) := by decide +kernel
theorem dX0_takeBack_15 : decode cX0_takeBack 15 = .ok (.getfield 21, 3) := by decide +kernel
theorem dX0_takeBack_18 : decode cX0_takeBack 18 = .ok (.invokestatic 35, 3) := by decide +kernel
theorem dX0_takeBack_21 : decode cX0_takeBack 21 = .ok (.istore_n 2, 1) := by decide +kernel
theorem dX0_takeBack_22 : decode cX0_takeBack 22 = .ok (.iload_n 2, 1) := by decide +kernel
theorem dX0_takeBack_23 : decode cX0_takeBack 23 = .ok (.iconst 3, 1) := by decide +kernel
theorem dX0_takeBack_24 : decode cX0_takeBack 24 = .ok (.if_icmp .ne 35, 3) := by decide +kernel
theorem dX0_takeBack_27 : decode cX0_takeBack 27 = .ok (.aload_n 1, 1) := by decide +kernel
theorem dX0_takeBack_28 : decode cX0_takeBack 28 = .ok (.getfield 39, 3) := by decide +kernel
theorem dX0_takeBack_31 : decode cX0_takeBack 31 = .ok (.aload_n 0, 1) := by decide +kernel
theorem dX0_takeBack_32 : decode cX0_takeBack 32 = .ok (.getfield 15, 3) := by decide +kernel
theorem dX0_takeBack_35 : decode cX0_takeBack 35 = .ok (.aload_n 0, 1) := by decide +kernel
theorem dX0_takeBack_36 : decode cX0_takeBack 36 = .ok (.getfield 21, 3) := by decide +kernel
theorem dX0_takeBack_39 : decode cX0_takeBack 39 = .ok (.invokestatic 35, 3) := by decide +kernel
theorem dX0_takeBack_42 : decode cX0_takeBack 42 = .ok (.aload_n 0, 1) := by decide +kernel
theorem dX0_takeBack_43 : decode cX0_takeBack 43 = .ok (.getfield 18, 3) := by decide +kernel
theorem dX0_takeBack_46 : decode cX0_takeBack 46 = .ok (.aload_n 0, 1) := by decide +kernel
theorem dX0_takeBack_47 : decode cX0_takeBack 47 = .ok (.getfield 21, 3) := by decide +kernel
theorem dX0_takeBack_50 : decode cX0_takeBack 50 = .ok (.invokestatic 35, 3) := by decide +kernel
theorem dX0_takeBack_53 : decode cX0_takeBack 53 = .ok (.invokestatic 31, 3) := by decide +kernel
theorem dX0_takeBack_56 : decode cX0_takeBack 56 = .ok (.goto 33, 3) := by decide +kernel
theorem dX0_takeBack_59 : decode cX0_takeBack 59 = .ok (.aload_n 1, 1) := by decide +kernel
theorem dX0_takeBack_60 : decode cX0_takeBack 60 = .ok (.getfield 44, 3) := by decide +kernel
theorem dX0_takeBack_63 : decode cX0_takeBack 63 = .ok (.aload_n 0, 1) := by decide +kernel
theorem dX0_takeBack_64 : decode cX0_takeBack 64 = .ok (.getfield 15, 3) := by decide +kernel
theorem dX0_takeBack_67 : decode cX0_takeBack 67 = .ok (.aload_n 0, 1) := by decide +kernel
theorem dX0_takeBack_68 : decode cX0_takeBack 68 = .ok (.getfield 21, 3) := by decide +kernel
theorem dX0_takeBack_71 : decode cX0_takeBack 71 = .ok (.invokestatic 35, 3) := by decide +kernel
theorem dX0_takeBack_74 : decode cX0_takeBack 74 = .ok (.iload_n 2, 1) := by decide +kernel
theorem dX0_takeBack_75 : decode cX0_takeBack 75 = .ok (.aload_n 0, 1) := by decide +kernel
theorem dX0_takeBack_76 : decode cX0_takeBack 76 = .ok (.getfield 18, 3) := by decide +kernel
theorem dX0_takeBack_79 : decode cX0_takeBack 79 = .ok (.aload_n 0, 1) := by decide +kernel
theorem dX0_takeBack_80 : decode cX0_takeBack 80 = .ok (.getfield 21, 3) := by decide +kernel
theorem dX0_takeBack_83 : decode cX0_takeBack 83 = .ok (.invokestatic 35, 3) := by decide +kernel
theorem dX0_takeBack_86 : decode cX0_takeBack 86 = .ok (.invokevirtual 48, 3) := by decide +kernel
theorem dX0_takeBack_89 : decode cX0_takeBack 89 = .ok (.return_, 1) := by decide +kernel
theorem dX1_init_0 : decode cX1_init 0 = .ok (.aload_n 0, 1) := by decide +kernel
theorem dX1_init_1 : decode cX1_init 1 = .ok (.invokespecial 3, 3) := by decide +kernel
theorem dX1_init_4 : decode cX1_init 4 = .ok (.aload_n 0, 1) := by decide +kernel
theorem dX1_init_5 : decode cX1_init 5 = .ok (.new 9, 3) := by decide +kernel
theorem dX1_init_8 : decode cX1_init 8 = .ok (.dup, 1) := by decide +kernel
theorem dX1_init_9 : decode cX1_init 9 = .ok (.invokespecial 11, 3) := by decide +kernel
theorem dX1_init_12 : decode cX1_init 12 = .ok (.putfield 12, 3) := by decide +kernel
theorem dX1_init_15 : decode cX1_init 15 = .ok (.aload_n 0, 1) := by decide +kernel
theorem dX1_init_16 : decode cX1_init 16 = .ok (.bipush 54, 2) := by decide +kernel
theorem dX1_init_18 : decode cX1_init 18 = .ok (.newarray .int, 2) := by decide +kernel
theorem dX1_init_20 : decode cX1_init 20 = .ok (.putfield 18, 3) := by decide +kernel
theorem dX1_init_23 : decode cX1_init 23 = .ok (.aload_n 0, 1) := by decide +kernel
theorem dX1_init_24 : decode cX1_init 24 = .ok (.bipush 6, 2) := by decide +kernel
theorem dX1_init_26 : decode cX1_init 26 = .ok (.newarray .int, 2) := by decide +kernel
theorem dX1_init_28 : decode cX1_init 28 = .ok (.putfield 22, 3) := by decide +kernel
theorem dX1_init_31 : decode cX1_init 31 = .ok (.aload_n 0, 1) := by decide +kernel
theorem dX1_init_32 : decode cX1_init 32 = .ok (.bipush 6, 2) := by decide +kernel
theorem dX1_init_34 : decode cX1_init 34 = .ok (.newarray .int, 2) := by decide +kernel
theorem dX1_init_36 : decode cX1_init 36 = .ok (.putfield 25, 3) := by decide +kernel
theorem dX1_init_39 : decode cX1_init 39 = .ok (.aload_n 0, 1) := by decide +kernel
theorem dX1_init_40 : decode cX1_init 40 = .ok (.iconst 4, 1) := by decide +kernel
theorem dX1_init_41 : decode cX1_init 41 = .ok (.newarray .int, 2) := by decide +kernel
theorem dX1_init_43 : decode cX1_init 43 = .ok (.putfield 28, 3) := by decide +kernel
theorem dX1_init_46 : decode cX1_init 46 = .ok (.aload_n 0, 1) := by decide +kernel
theorem dX1_init_47 : decode cX1_init 47 = .ok (.iconst 4, 1) := by decide +kernel
theorem dX1_init_48 : decode cX1_init 48 = .ok (.newarray .int, 2) := by decide +kernel
theorem dX1_init_50 : decode cX1_init 50 = .ok (.putfield 31, 3) := by decide +kernel
theorem dX1_init_53 : decode cX1_init 53 = .ok (.aload_n 0, 1) := by decide +kernel
theorem dX1_init_54 : decode cX1_init 54 = .ok (.iconst 4, 1) := by decide +kernel
theorem dX1_init_55 : decode cX1_init 55 = .ok (.newarray .int, 2) := by decide +kernel
theorem dX1_init_57 : decode cX1_init 57 = .ok (.putfield 34, 3) := by decide +kernel
theorem dX1_init_60 : decode cX1_init 60 = .ok (.aload_n 0, 1) := by decide +kernel
theorem dX1_init_61 : decode cX1_init 61 = .ok (.iconst 4, 1) := by decide +kernel
theorem dX1_init_62 : decode cX1_init 62 = .ok (.newarray .int, 2) := by decide +kernel
theorem dX1_init_64 : decode cX1_init 64 = .ok (.putfield 37, 3) := by decide +kernel
theorem dX1_init_67 : decode cX1_init 67 = .ok (.aload_n 0, 1) := by decide +kernel
theorem dX1_init_68 : decode cX1_init 68 = .ok (.bipush 54, 2) := by decide +kernel
theorem dX1_init_70 : decode cX1_init 70 = .ok (.newarray .long, 2) := by decide +kernel
theorem dX1_init_72 : decode cX1_init 72 = .ok (.putfield 40, 3) := by decide +kernel
theorem dX1_init_75 : decode cX1_init 75 = .ok (.aload_n 0, 1) := by decide +kernel
theorem dX1_init_76 : decode cX1_init 76 = .ok (.invokevirtual 44, 3) := by decide +kernel
theorem dX1_init_79 : decode cX1_init 79 = .ok (.return_, 1) := by decide +kernel
theorem dX1_clear_0 : decode cX1_clear 0 = .ok (.aload_n 0, 1) := by decide +kernel
theorem dX1_clear_1 : decode cX1_clear 1 = .ok (.getfield 12, 3) := by decide +kernel
theorem dX1_clear_4 : decode cX1_clear 4 = .ok (.iconst 0, 1) := by decide +kernel
theorem dX1_clear_5 : decode cX1_clear 5 = .ok (.putfield 47, 3) := by decide +kernel
theorem dX1_clear_8 : decode cX1_clear 8 = .ok (.aload_n 0, 1) := by decide +kernel
theorem dX1_clear_9 : decode cX1_clear 9 = .ok (.getfield 12, 3) := by decide +kernel
theorem dX1_clear_12 : decode cX1_clear 12 = .ok (.iconst 0, 1) := by decide +kernel
theorem dX1_clear_13 : decode cX1_clear 13 = .ok (.putfield 51, 3) := by decide +kernel
theorem dX1_clear_16 : decode cX1_clear 16 = .ok (.iconst 0, 1) := by decide +kernel
theorem dX1_clear_17 : decode cX1_clear 17 = .ok (.istore_n 1, 1) := by decide +kernel
theorem dX1_clear_18 : decode cX1_clear 18 = .ok (.iload_n 1, 1) := by decide +kernel
theorem dX1_clear_19 : decode cX1_clear 19 = .ok (.bipush 54, 2) := by decide +kernel
theorem dX1_clear_21 : decode cX1_clear 21 = .ok (.if_icmp .ge 18, 3) := by decide +kernel
theorem dX1_clear_24 : decode cX1_clear 24 = .ok (.aload_n 0, 1) := by decide +kernel
theorem dX1_clear_25 : decode cX1_clear 25 = .ok (.getfield 18, 3) := by decide +kernel
theorem dX1_clear_28 : decode cX1_clear 28 = .ok (.iload_n 1, 1) := by decide +kernel
theorem dX1_clear_29 : decode cX1_clear 29 = .ok (.iconst 0, 1) := by decide +kernel
theorem dX1_clear_30 : decode cX1_clear 30 = .ok (.invokestatic 54, 3) := by decide +kernel
theorem dX1_clear_33 : decode cX1_clear 33 = .ok (.iinc 1 1, 3) := by decide +kernel
theorem dX1_clear_36 : decode cX1_clear 36 = .ok (.goto (-18), 3) := by decide +kernel
theorem dX1_clear_39 : decode cX1_clear 39 = .ok (.aload_n 0, 1) := by decide +kernel
theorem dX1_clear_40 : decode cX1_clear 40 = .ok (.iconst 0, 1) := by decide +kernel
theorem dX1_clear_41 : decode cX1_clear 41 = .ok (.putfield 58, 3) := by decide +kernel
theorem dX1_clear_44 : decode cX1_clear 44 = .ok (.aload_n 0, 1) := by decide +kernel
theorem dX1_clear_45 : decode cX1_clear 45 = .ok (.iconst 0, 1) := by decide +kernel
theorem dX1_clear_46 : decode cX1_clear 46 = .ok (.putfield 61, 3) := by decide +kernel
theorem dX1_clear_49 : decode cX1_clear 49 = .ok (.aload_n 0, 1) := by decide +kernel
theorem dX1_clear_50 : decode cX1_clear 50 = .ok (.iconst 0, 1) := by decide +kernel
theorem dX1_clear_51 : decode cX1_clear 51 = .ok (.putfield 64, 3) := by decide +kernel
theorem dX1_clear_54 : decode cX1_clear 54 = .ok (.aload_n 0, 1) := by decide +kernel
theorem dX1_clear_55 : decode cX1_clear 55 = .ok (.iconst 0, 1) := by decide +kernel
theorem dX1_clear_56 : decode cX1_clear 56 = .ok (.putfield 67, 3) := by decide +kernel
theorem dX1_clear_59 : decode cX1_clear 59 = .ok (.aload_n 0, 1) := by decide +kernel
theorem dX1_clear_60 : decode cX1_clear 60 = .ok (.iconst 0, 1) := by decide +kernel
theorem dX1_clear_61 : decode cX1_clear 61 = .ok (.putfield 70, 3) := by decide +kernel
theorem dX1_clear_64 : decode cX1_clear 64 = .ok (.aload_n 0, 1) := by decide +kernel
theorem dX1_clear_65 : decode cX1_clear 65 = .ok (.bipush 60, 2) := by decide +kernel
theorem dX1_clear_67 : decode cX1_clear 67 = .ok (.putfield 73, 3) := by decide +kernel
theorem dX1_clear_70 : decode cX1_clear 70 = .ok (.aload_n 0, 1) := by decide +kernel
theorem dX1_clear_71 : decode cX1_clear 71 = .ok (.bipush 20, 2) := by decide +kernel
theorem dX1_clear_73 : decode cX1_clear 73 = .ok (.putfield 76, 3) := by decide +kernel
theorem dX1_clear_76 : decode cX1_clear 76 = .ok (.aload_n 0, 1) := by decide +kernel
theorem dX1_clear_77 : decode cX1_clear 77 = .ok (.iconst 1, 1) := by decide +kernel
theorem dX1_clear_78 : decode cX1_clear 78 = .ok (.putfield 79, 3) := by decide +kernel
theorem dX1_clear_81 : decode cX1_clear 81 = .ok (.aload_n 0, 1) := by decide +kernel
theorem dX1_clear_82 : decode cX1_clear 82 = .ok (.iconst 3, 1) := by decide +kernel
theorem dX1_clear_83 : decode cX1_clear 83 = .ok (.putfield 82, 3) := by decide +kernel
theorem dX1_clear_86 : decode cX1_clear 86 = .ok (.return_, 1) := by decide +kernel
theorem dX1_isTold_0 : decode cX1_isTold 0 = .ok (.aload_n 0, 1) := by decide +kernel
theorem dX1_isTold_1 : decode cX1_isTold 1 = .ok (.getfield 58, 3) := by decide +kernel
theorem dX1_isTold_4 : decode cX1_isTold 4 = .ok (.ifCond .le 7, 3) := by decide +kernel
theorem dX1_isTold_7 : decode cX1_isTold 7 = .ok (.iconst 1, 1) := by decide +kernel
theorem dX1_isTold_8 : decode cX1_isTold 8 = .ok (.goto 4, 3) := by decide +kernel
theorem dX1_isTold_11 : decode cX1_isTold 11 = .ok (.iconst 0, 1) := by decide +kernel
theorem dX1_isTold_12 : decode cX1_isTold 12 = .ok (.ireturn, 1) := by decide +kernel
theorem dX1_cells_0 : decode cX1_cells 0 = .ok (.aload_n 0, 1) := by decide +kernel
theorem dX1_cells_1 : decode cX1_cells 1 = .ok (.getfield 58, 3) := by decide +kernel
theorem dX1_cells_4 : decode cX1_cells 4 = .ok (.aload_n 0, 1) := by decide +kernel
theorem dX1_cells_5 : decode cX1_cells 5 = .ok (.getfield 61, 3) := by decide +kernel
theorem dX1_cells_8 : decode cX1_cells 8 = .ok (.imul, 1) := by decide +kernel
theorem dX1_cells_9 : decode cX1_cells 9 = .ok (.ireturn, 1) := by decide +kernel
theorem dX1_isFree_0 : decode cX1_isFree 0 = .ok (.iload_n 1, 1) := by decide +kernel
theorem dX1_isFree_1 : decode cX1_isFree 1 = .ok (.ifCond .lt 26, 3) := by decide +kernel
theorem dX1_isFree_4 : decode cX1_isFree 4 = .ok (.iload_n 1, 1) := by decide +kernel
theorem dX1_isFree_5 : decode cX1_isFree 5 = .ok (.aload_n 0, 1) := by decide +kernel
theorem dX1_isFree_6 : decode cX1_isFree 6 = .ok (.invokevirtual 85, 3) := by decide +kernel
theorem dX1_isFree_9 : decode cX1_isFree 9 = .ok (.if_icmp .ge 18, 3) := by decide +kernel
theorem dX1_isFree_12 : decode cX1_isFree 12 = .ok (.aload_n 0, 1) := by decide +kernel
theorem dX1_isFree_13 : decode cX1_isFree 13 = .ok (.getfield 18, 3) := by decide +kernel
theorem dX1_isFree_16 : decode cX1_isFree 16 = .ok (.iload_n 1, 1) := by decide +kernel
theorem dX1_isFree_17 : decode cX1_isFree 17 = .ok (.invokestatic 89, 3) := by decide +kernel
theorem dX1_isFree_20 : decode cX1_isFree 20 = .ok (.ifCond .ne 7, 3) := by decide +kernel
theorem dX1_isFree_23 : decode cX1_isFree 23 = .ok (.iconst 1, 1) := by decide +kernel
theorem dX1_isFree_24 : decode cX1_isFree 24 = .ok (.goto 4, 3) := by decide +kernel
theorem dX1_isFree_27 : decode cX1_isFree 27 = .ok (.iconst 0, 1) := by decide +kernel
theorem dX1_isFree_28 : decode cX1_isFree 28 = .ok (.ireturn, 1) := by decide +kernel
theorem dX1_hasGuard_0 : decode cX1_hasGuard 0 = .ok (.iload_n 1, 1) := by decide +kernel
theorem dX1_hasGuard_1 : decode cX1_hasGuard 1 = .ok (.ifCond .lt 15, 3) := by decide +kernel
theorem dX1_hasGuard_4 : decode cX1_hasGuard 4 = .ok (.iload_n 1, 1) := by decide +kernel
theorem dX1_hasGuard_5 : decode cX1_hasGuard 5 = .ok (.aload_n 0, 1) := by decide +kernel
theorem dX1_hasGuard_6 : decode cX1_hasGuard 6 = .ok (.getfield 70, 3) := by decide +kernel
theorem dX1_hasGuard_9 : decode cX1_hasGuard 9 = .ok (.if_icmp .ge 7, 3) := by decide +kernel
theorem dX1_hasGuard_12 : decode cX1_hasGuard 12 = .ok (.iconst 1, 1) := by decide +kernel
theorem dX1_hasGuard_13 : decode cX1_hasGuard 13 = .ok (.goto 4, 3) := by decide +kernel
theorem dX1_hasGuard_16 : decode cX1_hasGuard 16 = .ok (.iconst 0, 1) := by decide +kernel
theorem dX1_hasGuard_17 : decode cX1_hasGuard 17 = .ok (.ireturn, 1) := by decide +kernel
theorem dX1_hasDoor_0 : decode cX1_hasDoor 0 = .ok (.iload_n 1, 1) := by decide +kernel
theorem dX1_hasDoor_1 : decode cX1_hasDoor 1 = .ok (.ifCond .lt 15, 3) := by decide +kernel
theorem dX1_hasDoor_4 : decode cX1_hasDoor 4 = .ok (.iload_n 1, 1) := by decide +kernel
theorem dX1_hasDoor_5 : decode cX1_hasDoor 5 = .ok (.aload_n 0, 1) := by decide +kernel
theorem dX1_hasDoor_6 : decode cX1_hasDoor 6 = .ok (.getfield 67, 3) := by decide +kernel
theorem dX1_hasDoor_9 : decode cX1_hasDoor 9 = .ok (.if_icmp .ge 7, 3) := by decide +kernel
theorem dX1_hasDoor_12 : decode cX1_hasDoor 12 = .ok (.iconst 1, 1) := by decide +kernel
theorem dX1_hasDoor_13 : decode cX1_hasDoor 13 = .ok (.goto 4, 3) := by decide +kernel
theorem dX1_hasDoor_16 : decode cX1_hasDoor 16 = .ok (.iconst 0, 1) := by decide +kernel
theorem dX1_hasDoor_17 : decode cX1_hasDoor 17 = .ok (.ireturn, 1) := by decide +kernel
theorem dX1_wallCells_0 : decode cX1_wallCells 0 = .ok (.iconst 0, 1) := by decide +kernel
theorem dX1_wallCells_1 : decode cX1_wallCells 1 = .ok (.istore_n 1, 1) := by decide +kernel
theorem dX1_wallCells_2 : decode cX1_wallCells 2 = .ok (.iconst 0, 1) := by decide +kernel
theorem dX1_wallCells_3 : decode cX1_wallCells 3 = .ok (.istore_n 2, 1) := by decide +kernel
theorem dX1_wallCells_4 : decode cX1_wallCells 4 = .ok (.iload_n 2, 1) := by decide +kernel
theorem dX1_wallCells_5 : decode cX1_wallCells 5 = .ok (.aload_n 0, 1) := by decide +kernel
theorem dX1_wallCells_6 : decode cX1_wallCells 6 = .ok (.invokevirtual 85, 3) := by decide +kernel
theorem dX1_wallCells_9 : decode cX1_wallCells 9 = .ok (.if_icmp .ge 20, 3) := by decide +kernel
theorem dX1_wallCells_12 : decode cX1_wallCells 12 = .ok (.iload_n 1, 1) := by decide +kernel
theorem dX1_wallCells_13 : decode cX1_wallCells 13 = .ok (.aload_n 0, 1) := by decide +kernel
theorem dX1_wallCells_14 : decode cX1_wallCells 14 = .ok (.getfield 18, 3) := by decide +kernel
theorem dX1_wallCells_17 : decode cX1_wallCells 17 = .ok (.iload_n 2, 1) := by decide +kernel
theorem dX1_wallCells_18 : decode cX1_wallCells 18 = .ok (.invokestatic 89, 3) := by decide +kernel
theorem dX1_wallCells_21 : decode cX1_wallCells 21 = .ok (.iadd, 1) := by decide +kernel
theorem dX1_wallCells_22 : decode cX1_wallCells 22 = .ok (.istore_n 1, 1) := by decide +kernel
theorem dX1_wallCells_23 : decode cX1_wallCells 23 = .ok (.iinc 2 1, 3) := by decide +kernel
theorem dX1_wallCells_26 : decode cX1_wallCells 26 = .ok (.goto (-22), 3) := by decide +kernel
theorem dX1_wallCells_29 : decode cX1_wallCells 29 = .ok (.iload_n 1, 1) := by decide +kernel
theorem dX1_wallCells_30 : decode cX1_wallCells 30 = .ok (.ireturn, 1) := by decide +kernel
theorem dX1_closedDoors_0 : decode cX1_closedDoors 0 = .ok (.iconst 0, 1) := by decide +kernel
theorem dX1_closedDoors_1 : decode cX1_closedDoors 1 = .ok (.istore_n 1, 1) := by decide +kernel
theorem dX1_closedDoors_2 : decode cX1_closedDoors 2 = .ok (.iconst 0, 1) := by decide +kernel
theorem dX1_closedDoors_3 : decode cX1_closedDoors 3 = .ok (.istore_n 2, 1) := by decide +kernel
theorem dX1_closedDoors_4 : decode cX1_closedDoors 4 = .ok (.iload_n 2, 1) := by decide +kernel
theorem dX1_closedDoors_5 : decode cX1_closedDoors 5 = .ok (.aload_n 0, 1) := by decide +kernel
theorem dX1_closedDoors_6 : decode cX1_closedDoors 6 = .ok (.getfield 67, 3) := by decide +kernel
theorem dX1_closedDoors_9 : decode cX1_closedDoors 9 = .ok (.if_icmp .ge 20, 3) := by decide +kernel
theorem dX1_closedDoors_12 : decode cX1_closedDoors 12 = .ok (.iload_n 1, 1) := by decide +kernel
theorem dX1_closedDoors_13 : decode cX1_closedDoors 13 = .ok (.aload_n 0, 1) := by decide +kernel
theorem dX1_closedDoors_14 : decode cX1_closedDoors 14 = .ok (.getfield 25, 3) := by decide +kernel
theorem dX1_closedDoors_17 : decode cX1_closedDoors 17 = .ok (.iload_n 2, 1) := by decide +kernel
theorem dX1_closedDoors_18 : decode cX1_closedDoors 18 = .ok (.invokestatic 89, 3) := by decide +kernel
theorem dX1_closedDoors_21 : decode cX1_closedDoors 21 = .ok (.iadd, 1) := by decide +kernel
theorem dX1_closedDoors_22 : decode cX1_closedDoors 22 = .ok (.istore_n 1, 1) := by decide +kernel
theorem dX1_closedDoors_23 : decode cX1_closedDoors 23 = .ok (.iinc 2 1, 3) := by decide +kernel
theorem dX1_closedDoors_26 : decode cX1_closedDoors 26 = .ok (.goto (-22), 3) := by decide +kernel
theorem dX1_closedDoors_29 : decode cX1_closedDoors 29 = .ok (.iload_n 1, 1) := by decide +kernel
theorem dX1_closedDoors_30 : decode cX1_closedDoors 30 = .ok (.ireturn, 1) := by decide +kernel
theorem dX1_doorIn_0 : decode cX1_doorIn 0 = .ok (.iconst 0, 1) := by decide +kernel
theorem dX1_doorIn_1 : decode cX1_doorIn 1 = .ok (.istore_n 2, 1) := by decide +kernel
theorem dX1_doorIn_2 : decode cX1_doorIn 2 = .ok (.iload_n 2, 1) := by decide +kernel
theorem dX1_doorIn_3 : decode cX1_doorIn 3 = .ok (.aload_n 0, 1) := by decide +kernel
theorem dX1_doorIn_4 : decode cX1_doorIn 4 = .ok (.getfield 67, 3) := by decide +kernel
theorem dX1_doorIn_7 : decode cX1_doorIn 7 = .ok (.if_icmp .ge 23, 3) := by decide +kernel
theorem dX1_doorIn_10 : decode cX1_doorIn 10 = .ok (.aload_n 0, 1) := by decide +kernel
theorem dX1_doorIn_11 : decode cX1_doorIn 11 = .ok (.getfield 22, 3) := by decide +kernel
theorem dX1_doorIn_14 : decode cX1_doorIn 14 = .ok (.iload_n 2, 1) := by decide +kernel
theorem dX1_doorIn_15 : decode cX1_doorIn 15 = .ok (.invokestatic 89, 3) := by decide +kernel
theorem dX1_doorIn_18 : decode cX1_doorIn 18 = .ok (.iload_n 1, 1) := by decide +kernel
theorem dX1_doorIn_19 : decode cX1_doorIn 19 = .ok (.if_icmp .ne 5, 3) := by decide +kernel
theorem dX1_doorIn_22 : decode cX1_doorIn 22 = .ok (.iload_n 2, 1) := by decide +kernel
theorem dX1_doorIn_23 : decode cX1_doorIn 23 = .ok (.ireturn, 1) := by decide +kernel
theorem dX1_doorIn_24 : decode cX1_doorIn 24 = .ok (.iinc 2 1, 3) := by decide +kernel
theorem dX1_doorIn_27 : decode cX1_doorIn 27 = .ok (.goto (-25), 3) := by decide +kernel
theorem dX1_doorIn_30 : decode cX1_doorIn 30 = .ok (.iconst (-1), 1) := by decide +kernel
theorem dX1_doorIn_31 : decode cX1_doorIn 31 = .ok (.ireturn, 1) := by decide +kernel
theorem dX1_openDoorIn_0 : decode cX1_openDoorIn 0 = .ok (.aload_n 0, 1) := by decide +kernel
theorem dX1_openDoorIn_1 : decode cX1_openDoorIn 1 = .ok (.iload_n 1, 1) := by decide +kernel
theorem dX1_openDoorIn_2 : decode cX1_openDoorIn 2 = .ok (.invokevirtual 93, 3) := by decide +kernel
theorem dX1_openDoorIn_5 : decode cX1_openDoorIn 5 = .ok (.istore_n 2, 1) := by decide +kernel
theorem dX1_openDoorIn_6 : decode cX1_openDoorIn 6 = .ok (.iload_n 2, 1) := by decide +kernel
theorem dX1_openDoorIn_7 : decode cX1_openDoorIn 7 = .ok (.iconst (-1), 1) := by decide +kernel
theorem dX1_openDoorIn_8 : decode cX1_openDoorIn 8 = .ok (.if_icmp .eq 18, 3) := by decide +kernel
theorem dX1_openDoorIn_11 : decode cX1_openDoorIn 11 = .ok (.aload_n 0, 1) := by decide +kernel
theorem dX1_openDoorIn_12 : decode cX1_openDoorIn 12 = .ok (.getfield 25, 3) := by decide +kernel
theorem dX1_openDoorIn_15 : decode cX1_openDoorIn 15 = .ok (.iload_n 2, 1) := by decide +kernel
theorem dX1_openDoorIn_16 : decode cX1_openDoorIn 16 = .ok (.invokestatic 89, 3) := by decide +kernel
theorem dX1_openDoorIn_19 : decode cX1_openDoorIn 19 = .ok (.ifCond .ne 7, 3) := by decide +kernel
theorem dX1_openDoorIn_22 : decode cX1_openDoorIn 22 = .ok (.iload_n 2, 1) := by decide +kernel
theorem dX1_openDoorIn_23 : decode cX1_openDoorIn 23 = .ok (.goto 4, 3) := by decide +kernel
theorem dX1_openDoorIn_26 : decode cX1_openDoorIn 26 = .ok (.iconst (-1), 1) := by decide +kernel
theorem dX1_openDoorIn_27 : decode cX1_openDoorIn 27 = .ok (.ireturn, 1) := by decide +kernel
theorem dX1_isTaken_0 : decode cX1_isTaken 0 = .ok (.iconst 0, 1) := by decide +kernel
theorem dX1_isTaken_1 : decode cX1_isTaken 1 = .ok (.istore_n 2, 1) := by decide +kernel
theorem dX1_isTaken_2 : decode cX1_isTaken 2 = .ok (.iload_n 2, 1) := by decide +kernel
theorem dX1_isTaken_3 : decode cX1_isTaken 3 = .ok (.aload_n 0, 1) := by decide +kernel
theorem dX1_isTaken_4 : decode cX1_isTaken 4 = .ok (.getfield 12, 3) := by decide +kernel
theorem dX1_isTaken_7 : decode cX1_isTaken 7 = .ok (.getfield 47, 3) := by decide +kernel
theorem dX1_isTaken_10 : decode cX1_isTaken 10 = .ok (.if_icmp .ge 26, 3) := by decide +kernel
theorem dX1_isTaken_13 : decode cX1_isTaken 13 = .ok (.aload_n 0, 1) := by decide +kernel
theorem dX1_isTaken_14 : decode cX1_isTaken 14 = .ok (.getfield 12, 3) := by decide +kernel
theorem dX1_isTaken_17 : decode cX1_isTaken 17 = .ok (.getfield 97, 3) := by decide +kernel
theorem dX1_isTaken_20 : decode cX1_isTaken 20 = .ok (.iload_n 2, 1) := by decide +kernel
theorem dX1_isTaken_21 : decode cX1_isTaken 21 = .ok (.invokestatic 89, 3) := by decide +kernel
theorem dX1_isTaken_24 : decode cX1_isTaken 24 = .ok (.iload_n 1, 1) := by decide +kernel
theorem dX1_isTaken_25 : decode cX1_isTaken 25 = .ok (.if_icmp .ne 5, 3) := by decide +kernel
theorem dX1_isTaken_28 : decode cX1_isTaken 28 = .ok (.iconst 1, 1) := by decide +kernel
theorem dX1_isTaken_29 : decode cX1_isTaken 29 = .ok (.ireturn, 1) := by decide +kernel
theorem dX1_isTaken_30 : decode cX1_isTaken 30 = .ok (.iinc 2 1, 3) := by decide +kernel
theorem dX1_isTaken_33 : decode cX1_isTaken 33 = .ok (.goto (-31), 3) := by decide +kernel
theorem dX1_isTaken_36 : decode cX1_isTaken 36 = .ok (.iconst 0, 1) := by decide +kernel
theorem dX1_isTaken_37 : decode cX1_isTaken 37 = .ok (.istore_n 2, 1) := by decide +kernel
theorem dX1_isTaken_38 : decode cX1_isTaken 38 = .ok (.iload_n 2, 1) := by decide +kernel
theorem dX1_isTaken_39 : decode cX1_isTaken 39 = .ok (.aload_n 0, 1) := by decide +kernel
theorem dX1_isTaken_40 : decode cX1_isTaken 40 = .ok (.getfield 70, 3) := by decide +kernel
theorem dX1_isTaken_43 : decode cX1_isTaken 43 = .ok (.if_icmp .ge 23, 3) := by decide +kernel
theorem dX1_isTaken_46 : decode cX1_isTaken 46 = .ok (.aload_n 0, 1) := by decide +kernel
theorem dX1_isTaken_47 : decode cX1_isTaken 47 = .ok (.getfield 31, 3) := by decide +kernel
theorem dX1_isTaken_50 : decode cX1_isTaken 50 = .ok (.iload_n 2, 1) := by decide +kernel
theorem dX1_isTaken_51 : decode cX1_isTaken 51 = .ok (.invokestatic 89, 3) := by decide +kernel
theorem dX1_isTaken_54 : decode cX1_isTaken 54 = .ok (.iload_n 1, 1) := by decide +kernel
theorem dX1_isTaken_55 : decode cX1_isTaken 55 = .ok (.if_icmp .ne 5, 3) := by decide +kernel
theorem dX1_isTaken_58 : decode cX1_isTaken 58 = .ok (.iconst 1, 1) := by decide +kernel
theorem dX1_isTaken_59 : decode cX1_isTaken 59 = .ok (.ireturn, 1) := by decide +kernel
theorem dX1_isTaken_60 : decode cX1_isTaken 60 = .ok (.iinc 2 1, 3) := by decide +kernel
theorem dX1_isTaken_63 : decode cX1_isTaken 63 = .ok (.goto (-25), 3) := by decide +kernel
theorem dX1_isTaken_66 : decode cX1_isTaken 66 = .ok (.iconst 0, 1) := by decide +kernel
theorem dX1_isTaken_67 : decode cX1_isTaken 67 = .ok (.ireturn, 1) := by decide +kernel
theorem dX1_hasName_0 : decode cX1_hasName 0 = .ok (.iconst 0, 1) := by decide +kernel
theorem dX1_hasName_1 : decode cX1_hasName 1 = .ok (.istore_n 2, 1) := by decide +kernel
theorem dX1_hasName_2 : decode cX1_hasName 2 = .ok (.iload_n 2, 1) := by decide +kernel
theorem dX1_hasName_3 : decode cX1_hasName 3 = .ok (.aload_n 0, 1) := by decide +kernel
theorem dX1_hasName_4 : decode cX1_hasName 4 = .ok (.getfield 12, 3) := by decide +kernel
theorem dX1_hasName_7 : decode cX1_hasName 7 = .ok (.getfield 47, 3) := by decide +kernel
theorem dX1_hasName_10 : decode cX1_hasName 10 = .ok (.if_icmp .ge 26, 3) := by decide +kernel
theorem dX1_hasName_13 : decode cX1_hasName 13 = .ok (.aload_n 0, 1) := by decide +kernel
theorem dX1_hasName_14 : decode cX1_hasName 14 = .ok (.getfield 12, 3) := by decide +kernel
theorem dX1_hasName_17 : decode cX1_hasName 17 = .ok (.getfield 100, 3) := by decide +kernel
theorem dX1_hasName_20 : decode cX1_hasName 20 = .ok (.iload_n 2, 1) := by decide +kernel
theorem dX1_hasName_21 : decode cX1_hasName 21 = .ok (.invokestatic 89, 3) := by decide +kernel
theorem dX1_hasName_24 : decode cX1_hasName 24 = .ok (.iload_n 1, 1) := by decide +kernel
theorem dX1_hasName_25 : decode cX1_hasName 25 = .ok (.if_icmp .ne 5, 3) := by decide +kernel
theorem dX1_hasName_28 : decode cX1_hasName 28 = .ok (.iconst 1, 1) := by decide +kernel
theorem dX1_hasName_29 : decode cX1_hasName 29 = .ok (.ireturn, 1) := by decide +kernel
theorem dX1_hasName_30 : decode cX1_hasName 30 = .ok (.iinc 2 1, 3) := by decide +kernel
theorem dX1_hasName_33 : decode cX1_hasName 33 = .ok (.goto (-31), 3) := by decide +kernel
theorem dX1_hasName_36 : decode cX1_hasName 36 = .ok (.iconst 0, 1) := by decide +kernel
theorem dX1_hasName_37 : decode cX1_hasName 37 = .ok (.istore_n 2, 1) := by decide +kernel
theorem dX1_hasName_38 : decode cX1_hasName 38 = .ok (.iload_n 2, 1) := by decide +kernel
theorem dX1_hasName_39 : decode cX1_hasName 39 = .ok (.aload_n 0, 1) := by decide +kernel
theorem dX1_hasName_40 : decode cX1_hasName 40 = .ok (.getfield 70, 3) := by decide +kernel
theorem dX1_hasName_43 : decode cX1_hasName 43 = .ok (.if_icmp .ge 23, 3) := by decide +kernel
theorem dX1_hasName_46 : decode cX1_hasName 46 = .ok (.aload_n 0, 1) := by decide +kernel
theorem dX1_hasName_47 : decode cX1_hasName 47 = .ok (.getfield 28, 3) := by decide +kernel
theorem dX1_hasName_50 : decode cX1_hasName 50 = .ok (.iload_n 2, 1) := by decide +kernel
theorem dX1_hasName_51 : decode cX1_hasName 51 = .ok (.invokestatic 89, 3) := by decide +kernel
theorem dX1_hasName_54 : decode cX1_hasName 54 = .ok (.iload_n 1, 1) := by decide +kernel
theorem dX1_hasName_55 : decode cX1_hasName 55 = .ok (.if_icmp .ne 5, 3) := by decide +kernel
theorem dX1_hasName_58 : decode cX1_hasName 58 = .ok (.iconst 1, 1) := by decide +kernel
theorem dX1_hasName_59 : decode cX1_hasName 59 = .ok (.ireturn, 1) := by decide +kernel
theorem dX1_hasName_60 : decode cX1_hasName 60 = .ok (.iinc 2 1, 3) := by decide +kernel
theorem dX1_hasName_63 : decode cX1_hasName 63 = .ok (.goto (-25), 3) := by decide +kernel
theorem dX1_hasName_66 : decode cX1_hasName 66 = .ok (.iconst 0, 1) := by decide +kernel
theorem dX1_hasName_67 : decode cX1_hasName 67 = .ok (.ireturn, 1) := by decide +kernel
theorem dX1_across_0 : decode cX1_across 0 = .ok (.aload_n 0, 1) := by decide +kernel
theorem dX1_across_1 : decode cX1_across 1 = .ok (.getfield 58, 3) := by decide +kernel
theorem dX1_across_4 : decode cX1_across 4 = .ok (.ifCond .le 12, 3) := by decide +kernel
theorem dX1_across_7 : decode cX1_across 7 = .ok (.iload_n 1, 1) := by decide +kernel
theorem dX1_across_8 : decode cX1_across 8 = .ok (.aload_n 0, 1) := by decide +kernel
theorem dX1_across_9 : decode cX1_across 9 = .ok (.getfield 58, 3) := by decide +kernel
theorem dX1_across_12 : decode cX1_across 12 = .ok (.irem, 1) := by decide +kernel
theorem dX1_across_13 : decode cX1_across 13 = .ok (.goto 4, 3) := by decide +kernel
theorem dX1_across_16 : decode cX1_across 16 = .ok (.iconst 0, 1) := by decide +kernel
theorem dX1_across_17 : decode cX1_across 17 = .ok (.ireturn, 1) := by decide +kernel
theorem dX1_down_0 : decode cX1_down 0 = .ok (.aload_n 0, 1) := by decide +kernel
theorem dX1_down_1 : decode cX1_down 1 = .ok (.getfield 58, 3) := by decide +kernel
theorem dX1_down_4 : decode cX1_down 4 = .ok (.ifCond .le 12, 3) := by decide +kernel
theorem dX1_down_7 : decode cX1_down 7 = .ok (.iload_n 1, 1) := by decide +kernel
theorem dX1_down_8 : decode cX1_down 8 = .ok (.aload_n 0, 1) := by decide +kernel
theorem dX1_down_9 : decode cX1_down 9 = .ok (.getfield 58, 3) := by decide +kernel
theorem dX1_down_12 : decode cX1_down 12 = .ok (.idiv, 1) := by decide +kernel
theorem dX1_down_13 : decode cX1_down 13 = .ok (.goto 4, 3) := by decide +kernel
theorem dX1_down_16 : decode cX1_down 16 = .ok (.iconst 0, 1) := by decide +kernel
theorem dX1_down_17 : decode cX1_down 17 = .ok (.ireturn, 1) := by decide +kernel
theorem dX1_distance_0 : decode cX1_distance 0 = .ok (.aload_n 0, 1) := by decide +kernel
theorem dX1_distance_1 : decode cX1_distance 1 = .ok (.iload_n 1, 1) := by decide +kernel
theorem dX1_distance_2 : decode cX1_distance 2 = .ok (.invokevirtual 103, 3) := by decide +kernel
theorem dX1_distance_5 : decode cX1_distance 5 = .ok (.aload_n 0, 1) := by decide +kernel
theorem dX1_distance_6 : decode cX1_distance 6 = .ok (.iload_n 2, 1) := by decide +kernel
theorem dX1_distance_7 : decode cX1_distance 7 = .ok (.invokevirtual 103, 3) := by decide +kernel
theorem dX1_distance_10 : decode cX1_distance 10 = .ok (.isub, 1) := by decide +kernel
theorem dX1_distance_11 : decode cX1_distance 11 = .ok (.invokestatic 106, 3) := by decide +kernel
theorem dX1_distance_14 : decode cX1_distance 14 = .ok (.aload_n 0, 1) := by decide +kernel
theorem dX1_distance_15 : decode cX1_distance 15 = .ok (.iload_n 1, 1) := by decide +kernel
theorem dX1_distance_16 : decode cX1_distance 16 = .ok (.invokevirtual 111, 3) := by decide +kernel
theorem dX1_distance_19 : decode cX1_distance 19 = .ok (.aload_n 0, 1) := by decide +kernel
theorem dX1_distance_20 : decode cX1_distance 20 = .ok (.iload_n 2, 1) := by decide +kernel
theorem dX1_distance_21 : decode cX1_distance 21 = .ok (.invokevirtual 111, 3) := by decide +kernel
theorem dX1_distance_24 : decode cX1_distance 24 = .ok (.isub, 1) := by decide +kernel
theorem dX1_distance_25 : decode cX1_distance 25 = .ok (.invokestatic 106, 3) := by decide +kernel
theorem dX1_distance_28 : decode cX1_distance 28 = .ok (.iadd, 1) := by decide +kernel
theorem dX1_distance_29 : decode cX1_distance 29 = .ok (.ireturn, 1) := by decide +kernel
theorem dX1_stepFrom_0 : decode cX1_stepFrom 0 = .ok (.aload_n 0, 1) := by decide +kernel
theorem dX1_stepFrom_1 : decode cX1_stepFrom 1 = .ok (.iload_n 1, 1) := by decide +kernel
theorem dX1_stepFrom_2 : decode cX1_stepFrom 2 = .ok (.invokevirtual 103, 3) := by decide +kernel
theorem dX1_stepFrom_5 : decode cX1_stepFrom 5 = .ok (.iload_n 2, 1) := by decide +kernel
theorem dX1_stepFrom_6 : decode cX1_stepFrom 6 = .ok (.iconst 1, 1) := by decide +kernel
theorem dX1_stepFrom_7 : decode cX1_stepFrom 7 = .ok (.if_icmp .ne 7, 3) := by decide +kernel
theorem dX1_stepFrom_10 : decode cX1_stepFrom 10 = .ok (.iconst 1, 1) := by decide +kernel
theorem dX1_stepFrom_11 : decode cX1_stepFrom 11 = .ok (.goto 13, 3) := by decide +kernel
theorem dX1_stepFrom_14 : decode cX1_stepFrom 14 = .ok (.iload_n 2, 1) := by decide +kernel
theorem dX1_stepFrom_15 : decode cX1_stepFrom 15 = .ok (.iconst 3, 1) := by decide +kernel
theorem dX1_stepFrom_16 : decode cX1_stepFrom 16 = .ok (.if_icmp .ne 7, 3) := by decide +kernel
theorem dX1_stepFrom_19 : decode cX1_stepFrom 19 = .ok (.iconst (-1), 1) := by decide +kernel
theorem dX1_stepFrom_20 : decode cX1_stepFrom 20 = .ok (.goto 4, 3) := by decide +kernel
theorem dX1_stepFrom_23 : decode cX1_stepFrom 23 = .ok (.iconst 0, 1) := by decide +kernel
theorem dX1_stepFrom_24 : decode cX1_stepFrom 24 = .ok (.iadd, 1) := by decide +kernel
theorem dX1_stepFrom_25 : decode cX1_stepFrom 25 = .ok (.istore_n 3, 1) := by decide +kernel
theorem dX1_stepFrom_26 : decode cX1_stepFrom 26 = .ok (.aload_n 0, 1) := by decide +kernel
theorem dX1_stepFrom_27 : decode cX1_stepFrom 27 = .ok (.iload_n 1, 1) := by decide +kernel
theorem dX1_stepFrom_28 : decode cX1_stepFrom 28 = .ok (.invokevirtual 111, 3) := by decide +kernel
theorem dX1_stepFrom_31 : decode cX1_stepFrom 31 = .ok (.iload_n 2, 1) := by decide +kernel
theorem dX1_stepFrom_32 : decode cX1_stepFrom 32 = .ok (.iconst 2, 1) := by decide +kernel
theorem dX1_stepFrom_33 : decode cX1_stepFrom 33 = .ok (.if_icmp .ne 7, 3) := by decide +kernel
theorem dX1_stepFrom_36 : decode cX1_stepFrom 36 = .ok (.iconst 1, 1) := by decide +kernel
theorem dX1_stepFrom_37 : decode cX1_stepFrom 37 = .ok (.goto 12, 3) := by decide +kernel
theorem dX1_stepFrom_40 : decode cX1_stepFrom 40 = .ok (.iload_n 2, 1) := by decide +kernel
theorem dX1_stepFrom_41 : decode cX1_stepFrom 41 = .ok (.ifCond .ne 7, 3) := by decide +kernel
theorem dX1_stepFrom_44 : decode cX1_stepFrom 44 = .ok (.iconst (-1), 1) := by decide +kernel
theorem dX1_stepFrom_45 : decode cX1_stepFrom 45 = .ok (.goto 4, 3) := by decide +kernel
theorem dX1_stepFrom_48 : decode cX1_stepFrom 48 = .ok (.iconst 0, 1) := by decide +kernel
theorem dX1_stepFrom_49 : decode cX1_stepFrom 49 = .ok (.iadd, 1) := by decide +kernel
theorem dX1_stepFrom_50 : decode cX1_stepFrom 50 = .ok (.istore 4, 2) := by decide +kernel
theorem dX1_stepFrom_52 : decode cX1_stepFrom 52 = .ok (.iload_n 3, 1) := by decide +kernel
theorem dX1_stepFrom_53 : decode cX1_stepFrom 53 = .ok (.ifCond .lt 25, 3) := by decide +kernel
theorem dX1_stepFrom_56 : decode cX1_stepFrom 56 = .ok (.iload_n 3, 1) := by decide +kernel
theorem dX1_stepFrom_57 : decode cX1_stepFrom 57 = .ok (.aload_n 0, 1) := by decide +kernel
theorem dX1_stepFrom_58 : decode cX1_stepFrom 58 = .ok (.getfield 58, 3) := by decide +kernel
theorem dX1_stepFrom_61 : decode cX1_stepFrom 61 = .ok (.if_icmp .ge 17, 3) := by decide +kernel
theorem dX1_stepFrom_64 : decode cX1_stepFrom 64 = .ok (.iload 4, 2) := by decide +kernel
theorem dX1_stepFrom_66 : decode cX1_stepFrom 66 = .ok (.ifCond .lt 12, 3) := by decide +kernel
theorem dX1_stepFrom_69 : decode cX1_stepFrom 69 = .ok (.iload 4, 2) := by decide +kernel
theorem dX1_stepFrom_71 : decode cX1_stepFrom 71 = .ok (.aload_n 0, 1) := by decide +kernel
theorem dX1_stepFrom_72 : decode cX1_stepFrom 72 = .ok (.getfield 61, 3) := by decide +kernel
theorem dX1_stepFrom_75 : decode cX1_stepFrom 75 = .ok (.if_icmp .lt 5, 3) := by decide +kernel
theorem dX1_stepFrom_78 : decode cX1_stepFrom 78 = .ok (.iconst (-1), 1) := by decide +kernel
theorem dX1_stepFrom_79 : decode cX1_stepFrom 79 = .ok (.ireturn, 1) := by decide +kernel
theorem dX1_stepFrom_80 : decode cX1_stepFrom 80 = .ok (.aload_n 0, 1) := by decide +kernel
theorem dX1_stepFrom_81 : decode cX1_stepFrom 81 = .ok (.iload 4, 2) := by decide +kernel
theorem dX1_stepFrom_83 : decode cX1_stepFrom 83 = .ok (.aload_n 0, 1) := by decide +kernel
theorem dX1_stepFrom_84 : decode cX1_stepFrom 84 = .ok (.getfield 58, 3) := by decide +kernel
theorem dX1_stepFrom_87 : decode cX1_stepFrom 87 = .ok (.imul, 1) := by decide +kernel
theorem dX1_stepFrom_88 : decode cX1_stepFrom 88 = .ok (.iload_n 3, 1) := by decide +kernel
theorem dX1_stepFrom_89 : decode cX1_stepFrom 89 = .ok (.iadd, 1) := by decide +kernel
theorem dX1_stepFrom_90 : decode cX1_stepFrom 90 = .ok (.invokevirtual 114, 3) := by decide +kernel
theorem dX1_stepFrom_93 : decode cX1_stepFrom 93 = .ok (.ifCond .eq 15, 3) := by decide +kernel
theorem dX1_stepFrom_96 : decode cX1_stepFrom 96 = .ok (.iload 4, 2) := by decide +kernel
theorem dX1_stepFrom_98 : decode cX1_stepFrom 98 = .ok (.aload_n 0, 1) := by decide +kernel
theorem dX1_stepFrom_99 : decode cX1_stepFrom 99 = .ok (.getfield 58, 3) := by decide +kernel
theorem dX1_stepFrom_102 : decode cX1_stepFrom 102 = .ok (.imul, 1) := by decide +kernel
theorem dX1_stepFrom_103 : decode cX1_stepFrom 103 = .ok (.iload_n 3, 1) := by decide +kernel
theorem dX1_stepFrom_104 : decode cX1_stepFrom 104 = .ok (.iadd, 1) := by decide +kernel
theorem dX1_stepFrom_105 : decode cX1_stepFrom 105 = .ok (.goto 4, 3) := by decide +kernel
theorem dX1_stepFrom_108 : decode cX1_stepFrom 108 = .ok (.iconst (-1), 1) := by decide +kernel
theorem dX1_stepFrom_109 : decode cX1_stepFrom 109 = .ok (.ireturn, 1) := by decide +kernel
theorem dX1_cellsAround_0 : decode cX1_cellsAround 0 = .ok (.lconst 0, 1) := by decide +kernel
theorem dX1_cellsAround_1 : decode cX1_cellsAround 1 = .ok (.lstore_n 3, 1) := by decide +kernel
theorem dX1_cellsAround_2 : decode cX1_cellsAround 2 = .ok (.iconst 0, 1) := by decide +kernel
theorem dX1_cellsAround_3 : decode cX1_cellsAround 3 = .ok (.istore 5, 2) := by decide +kernel
theorem dX1_cellsAround_5 : decode cX1_cellsAround 5 = .ok (.iload 5, 2) := by decide +kernel
theorem dX1_cellsAround_7 : decode cX1_cellsAround 7 = .ok (.aload_n 0, 1) := by decide +kernel
theorem dX1_cellsAround_8 : decode cX1_cellsAround 8 = .ok (.invokevirtual 85, 3) := by decide +kernel
theorem dX1_cellsAround_11 : decode cX1_cellsAround 11 = .ok (.if_icmp .ge 27, 3) := by decide +kernel
theorem dX1_cellsAround_14 : decode cX1_cellsAround 14 = .ok (.aload_n 0, 1) := by decide +kernel
theorem dX1_cellsAround_15 : decode cX1_cellsAround 15 = .ok (.iload_n 1, 1) := by decide +kernel
theorem dX1_cellsAround_16 : decode cX1_cellsAround 16 = .ok (.iload 5, 2) := by decide +kernel
theorem dX1_cellsAround_18 : decode cX1_cellsAround 18 = .ok (.invokevirtual 118, 3) := by decide +kernel
theorem dX1_cellsAround_21 : decode cX1_cellsAround 21 = .ok (.iload_n 2, 1) := by decide +kernel
theorem dX1_cellsAround_22 : decode cX1_cellsAround 22 = .ok (.if_icmp .gt 10, 3) := by decide +kernel
theorem dX1_cellsAround_25 : decode cX1_cellsAround 25 = .ok (.lload_n 3, 1) := by decide +kernel
theorem dX1_cellsAround_26 : decode cX1_cellsAround 26 = .ok (.lconst 1, 1) := by decide +kernel
theorem dX1_cellsAround_27 : decode cX1_cellsAround 27 = .ok (.iload 5, 2) := by decide +kernel
theorem dX1_cellsAround_29 : decode cX1_cellsAround 29 = .ok (.lshl, 1) := by decide +kernel
theorem dX1_cellsAround_30 : decode cX1_cellsAround 30 = .ok (.lor, 1) := by decide +kernel
theorem dX1_cellsAround_31 : decode cX1_cellsAround 31 = .ok (.lstore_n 3, 1) := by decide +kernel
theorem dX1_cellsAround_32 : decode cX1_cellsAround 32 = .ok (.iinc 5 1, 3) := by decide +kernel
theorem dX1_cellsAround_35 : decode cX1_cellsAround 35 = .ok (.goto (-30), 3) := by decide +kernel
theorem dX1_cellsAround_38 : decode cX1_cellsAround 38 = .ok (.lload_n 3, 1) := by decide +kernel
theorem dX1_cellsAround_39 : decode cX1_cellsAround 39 = .ok (.lreturn, 1) := by decide +kernel
theorem dX1_findNearCells_0 : decode cX1_findNearCells 0 = .ok (.iconst 0, 1) := by decide +kernel
theorem dX1_findNearCells_1 : decode cX1_findNearCells 1 = .ok (.istore_n 1, 1) := by decide +kernel
theorem dX1_findNearCells_2 : decode cX1_findNearCells 2 = .ok (.iload_n 1, 1) := by decide +kernel
theorem dX1_findNearCells_3 : decode cX1_findNearCells 3 = .ok (.aload_n 0, 1) := by decide +kernel
theorem dX1_findNearCells_4 : decode cX1_findNearCells 4 = .ok (.invokevirtual 85, 3) := by decide +kernel
theorem dX1_findNearCells_7 : decode cX1_findNearCells 7 = .ok (.if_icmp .ge 33, 3) := by decide +kernel
theorem dX1_findNearCells_10 : decode cX1_findNearCells 10 = .ok (.iload_n 1, 1) := by decide +kernel
theorem dX1_findNearCells_11 : decode cX1_findNearCells 11 = .ok (.aload_n 0, 1) := by decide +kernel
theorem dX1_findNearCells_12 : decode cX1_findNearCells 12 = .ok (.getfield 40, 3) := by decide +kernel
theorem dX1_findNearCells_15 : decode cX1_findNearCells 15 = .ok (.arraylength, 1) := by decide +kernel
theorem dX1_findNearCells_16 : decode cX1_findNearCells 16 = .ok (.if_icmp .ge 24, 3) := by decide +kernel
theorem dX1_findNearCells_19 : decode cX1_findNearCells 19 = .ok (.aload_n 0, 1) := by decide +kernel
theorem dX1_findNearCells_20 : decode cX1_findNearCells 20 = .ok (.getfield 40, 3) := by decide +kernel
theorem dX1_findNearCells_23 : decode cX1_findNearCells 23 = .ok (.iload_n 1, 1) := by decide +kernel
theorem dX1_findNearCells_24 : decode cX1_findNearCells 24 = .ok (.aload_n 0, 1) := by decide +kernel
theorem dX1_findNearCells_25 : decode cX1_findNearCells 25 = .ok (.iload_n 1, 1) := by decide +kernel
theorem dX1_findNearCells_26 : decode cX1_findNearCells 26 = .ok (.aload_n 0, 1) := by decide +kernel
theorem dX1_findNearCells_27 : decode cX1_findNearCells 27 = .ok (.getfield 79, 3) := by decide +kernel
theorem dX1_findNearCells_30 : decode cX1_findNearCells 30 = .ok (.invokevirtual 122, 3) := by decide +kernel
theorem dX1_findNearCells_33 : decode cX1_findNearCells 33 = .ok (.lastore, 1) := by decide +kernel
theorem dX1_findNearCells_34 : decode cX1_findNearCells 34 = .ok (.iinc 1 1, 3) := by decide +kernel
theorem dX1_findNearCells_37 : decode cX1_findNearCells 37 = .ok (.goto (-35), 3) := by decide +kernel
theorem dX1_findNearCells_40 : decode cX1_findNearCells 40 = .ok (.return_, 1) := by decide +kernel
theorem dX1_isNear_0 : decode cX1_isNear 0 = .ok (.iload_n 1, 1) := by decide +kernel
theorem dX1_isNear_1 : decode cX1_isNear 1 = .ok (.ifCond .lt 31, 3) := by decide +kernel
theorem dX1_isNear_4 : decode cX1_isNear 4 = .ok (.iload_n 1, 1) := by decide +kernel
theorem dX1_isNear_5 : decode cX1_isNear 5 = .ok (.aload_n 0, 1) := by decide +kernel
theorem dX1_isNear_6 : decode cX1_isNear 6 = .ok (.getfield 40, 3) := by decide +kernel
theorem dX1_isNear_9 : decode cX1_isNear 9 = .ok (.arraylength, 1) := by decide +kernel
theorem dX1_isNear_10 : decode cX1_isNear 10 = .ok (.if_icmp .ge 22, 3) := by decide +kernel
theorem dX1_isNear_13 : decode cX1_isNear 13 = .ok (.aload_n 0, 1) := by decide +kernel
theorem dX1_isNear_14 : decode cX1_isNear 14 = .ok (.getfield 40, 3) := by decide +kernel
theorem dX1_isNear_17 : decode cX1_isNear 17 = .ok (.iload_n 1, 1) := by decide +kernel
theorem dX1_isNear_18 : decode cX1_isNear 18 = .ok (.laload, 1) := by decide +kernel
theorem dX1_isNear_19 : decode cX1_isNear 19 = .ok (.iload_n 2, 1) := by decide +kernel
theorem dX1_isNear_20 : decode cX1_isNear 20 = .ok (.lshr, 1) := by decide +kernel
theorem dX1_isNear_21 : decode cX1_isNear 21 = .ok (.lconst 1, 1) := by decide +kernel
theorem dX1_isNear_22 : decode cX1_isNear 22 = .ok (.land, 1) := by decide +kernel
theorem dX1_isNear_23 : decode cX1_isNear 23 = .ok (.lconst 1, 1) := by decide +kernel
theorem dX1_isNear_24 : decode cX1_isNear 24 = .ok (.lcmp, 1) := by decide +kernel
theorem dX1_isNear_25 : decode cX1_isNear 25 = .ok (.ifCond .ne 7, 3) := by decide +kernel
theorem dX1_isNear_28 : decode cX1_isNear 28 = .ok (.iconst 1, 1) := by decide +kernel
theorem dX1_isNear_29 : decode cX1_isNear 29 = .ok (.goto 4, 3) := by decide +kernel
theorem dX1_isNear_32 : decode cX1_isNear 32 = .ok (.iconst 0, 1) := by decide +kernel
theorem dX1_isNear_33 : decode cX1_isNear 33 = .ok (.ireturn, 1) := by decide +kernel
theorem dX1_mayBe_0 : decode cX1_mayBe 0 = .ok (.iload_n 1, 1) := by decide +kernel
theorem dX1_mayBe_1 : decode cX1_mayBe 1 = .ok (.tableswitch 65 0 2 #[27, 43, 59], 27) := by decide +kernel
theorem dX1_mayBe_28 : decode cX1_mayBe 28 = .ok (.iload_n 2, 1) := by decide +kernel
theorem dX1_mayBe_29 : decode cX1_mayBe 29 = .ok (.ifCond .lt 13, 3) := by decide +kernel
theorem dX1_mayBe_32 : decode cX1_mayBe 32 = .ok (.iload_n 2, 1) := by decide +kernel
theorem dX1_mayBe_33 : decode cX1_mayBe 33 = .ok (.bipush 120, 2) := by decide +kernel
theorem dX1_mayBe_35 : decode cX1_mayBe 35 = .ok (.if_icmp .gt 7, 3) := by decide +kernel
theorem dX1_mayBe_38 : decode cX1_mayBe 38 = .ok (.iconst 1, 1) := by decide +kernel
theorem dX1_mayBe_39 : decode cX1_mayBe 39 = .ok (.goto 4, 3) := by decide +kernel
theorem dX1_mayBe_42 : decode cX1_mayBe 42 = .ok (.iconst 0, 1) := by decide +kernel
theorem dX1_mayBe_43 : decode cX1_mayBe 43 = .ok (.ireturn, 1) := by decide +kernel
theorem dX1_mayBe_44 : decode cX1_mayBe 44 = .ok (.iload_n 2, 1) := by decide +kernel
theorem dX1_mayBe_45 : decode cX1_mayBe 45 = .ok (.ifCond .lt 13, 3) := by decide +kernel
theorem dX1_mayBe_48 : decode cX1_mayBe 48 = .ok (.iload_n 2, 1) := by decide +kernel
theorem dX1_mayBe_49 : decode cX1_mayBe 49 = .ok (.bipush 9, 2) := by decide +kernel
theorem dX1_mayBe_51 : decode cX1_mayBe 51 = .ok (.if_icmp .gt 7, 3) := by decide +kernel
theorem dX1_mayBe_54 : decode cX1_mayBe 54 = .ok (.iconst 1, 1) := by decide +kernel
theorem dX1_mayBe_55 : decode cX1_mayBe 55 = .ok (.goto 4, 3) := by decide +kernel
theorem dX1_mayBe_58 : decode cX1_mayBe 58 = .ok (.iconst 0, 1) := by decide +kernel
theorem dX1_mayBe_59 : decode cX1_mayBe 59 = .ok (.ireturn, 1) := by decide +kernel
theorem dX1_mayBe_60 : decode cX1_mayBe 60 = .ok (.aload_n 0, 1) := by decide +kernel
theorem dX1_mayBe_61 : decode cX1_mayBe 61 = .ok (.iload_n 2, 1) := by decide +kernel
theorem dX1_mayBe_62 : decode cX1_mayBe 62 = .ok (.invokevirtual 114, 3) := by decide +kernel
theorem dX1_mayBe_65 : decode cX1_mayBe 65 = .ok (.ireturn, 1) := by decide +kernel
theorem dX1_mayBe_66 : decode cX1_mayBe 66 = .ok (.iconst 0, 1) := by decide +kernel
theorem dX1_mayBe_67 : decode cX1_mayBe 67 = .ok (.ireturn, 1) := by decide +kernel
theorem dX1_imageLength_0 : decode cX1_imageLength 0 = .ok (.iconst 3, 1) := by decide +kernel
theorem dX1_imageLength_1 : decode cX1_imageLength 1 = .ok (.aload_n 0, 1) := by decide +kernel
theorem dX1_imageLength_2 : decode cX1_imageLength 2 = .ok (.getfield 12, 3) := by decide +kernel
theorem dX1_imageLength_5 : decode cX1_imageLength 5 = .ok (.getfield 47, 3) := by decide +kernel
theorem dX1_imageLength_8 : decode cX1_imageLength 8 = .ok (.imul, 1) := by decide +kernel
theorem dX1_imageLength_9 : decode cX1_imageLength 9 = .ok (.aload_n 0, 1) := by decide +kernel
theorem dX1_imageLength_10 : decode cX1_imageLength 10 = .ok (.getfield 67, 3) := by decide +kernel
theorem dX1_imageLength_13 : decode cX1_imageLength 13 = .ok (.iadd, 1) := by decide +kernel
theorem dX1_imageLength_14 : decode cX1_imageLength 14 = .ok (.iconst 1, 1) := by decide +kernel
theorem dX1_imageLength_15 : decode cX1_imageLength 15 = .ok (.iadd, 1) := by decide +kernel
theorem dX1_imageLength_16 : decode cX1_imageLength 16 = .ok (.ireturn, 1) := by decide +kernel
theorem dX1_checkWith_0 : decode cX1_checkWith 0 = .ok (.iconst 3, 1) := by decide +kernel
theorem dX1_checkWith_1 : decode cX1_checkWith 1 = .ok (.iload_n 0, 1) := by decide +kernel
theorem dX1_checkWith_2 : decode cX1_checkWith 2 = .ok (.imul, 1) := by decide +kernel
theorem dX1_checkWith_3 : decode cX1_checkWith 3 = .ok (.iload_n 1, 1) := by decide +kernel
theorem dX1_checkWith_4 : decode cX1_checkWith 4 = .ok (.iadd, 1) := by decide +kernel
theorem dX1_checkWith_5 : decode cX1_checkWith 5 = .ok (.sipush 253, 3) := by decide +kernel
theorem dX1_checkWith_8 : decode cX1_checkWith 8 = .ok (.irem, 1) := by decide +kernel
theorem dX1_checkWith_9 : decode cX1_checkWith 9 = .ok (.ireturn, 1) := by decide +kernel
theorem dX1_writeImage_0 : decode cX1_writeImage 0 = .ok (.aload_n 0, 1) := by decide +kernel
theorem dX1_writeImage_1 : decode cX1_writeImage 1 = .ok (.invokevirtual 126, 3) := by decide +kernel
theorem dX1_writeImage_4 : decode cX1_writeImage 4 = .ok (.iconst 1, 1) := by decide +kernel
theorem dX1_writeImage_5 : decode cX1_writeImage 5 = .ok (.isub, 1) := by decide +kernel
theorem dX1_writeImage_6 : decode cX1_writeImage 6 = .ok (.istore_n 2, 1) := by decide +kernel
theorem dX1_writeImage_7 : decode cX1_writeImage 7 = .ok (.sipush 151, 3) := by decide +kernel
theorem dX1_writeImage_10 : decode cX1_writeImage 10 = .ok (.istore_n 3, 1) := by decide +kernel
theorem dX1_writeImage_11 : decode cX1_writeImage 11 = .ok (.iconst 0, 1) := by decide +kernel
theorem dX1_writeImage_12 : decode cX1_writeImage 12 = .ok (.istore 4, 2) := by decide +kernel
theorem dX1_writeImage_14 : decode cX1_writeImage 14 = .ok (.iload 4, 2) := by decide +kernel
theorem dX1_writeImage_16 : decode cX1_writeImage 16 = .ok (.iload_n 2, 1) := by decide +kernel
theorem dX1_writeImage_17 : decode cX1_writeImage 17 = .ok (.if_icmp .ge 79, 3) := by decide +kernel
theorem dX1_writeImage_20 : decode cX1_writeImage 20 = .ok (.iload 4, 2) := by decide +kernel
theorem dX1_writeImage_22 : decode cX1_writeImage 22 = .ok (.iconst 3, 1) := by decide +kernel
theorem dX1_writeImage_23 : decode cX1_writeImage 23 = .ok (.idiv, 1) := by decide +kernel
theorem dX1_writeImage_24 : decode cX1_writeImage 24 = .ok (.istore 5, 2) := by decide +kernel
theorem dX1_writeImage_26 : decode cX1_writeImage 26 = .ok (.iload 5, 2) := by decide +kernel
theorem dX1_writeImage_28 : decode cX1_writeImage 28 = .ok (.aload_n 0, 1) := by decide +kernel
theorem dX1_writeImage_29 : decode cX1_writeImage 29 = .ok (.getfield 12, 3) := by decide +kernel
theorem dX1_writeImage_32 : decode cX1_writeImage 32 = .ok (.getfield 47, 3) := by decide +kernel
theorem dX1_writeImage_35 : decode cX1_writeImage 35 = .ok (.if_icmp .ge 19, 3) := by decide +kernel
theorem dX1_writeImage_38 : decode cX1_writeImage 38 = .ok (.aload_n 0, 1) := by decide +kernel
theorem dX1_writeImage_39 : decode cX1_writeImage 39 = .ok (.getfield 12, 3) := by decide +kernel
theorem dX1_writeImage_42 : decode cX1_writeImage 42 = .ok (.iload 5, 2) := by decide +kernel
theorem dX1_writeImage_44 : decode cX1_writeImage 44 = .ok (.iload 4, 2) := by decide +kernel
theorem dX1_writeImage_46 : decode cX1_writeImage 46 = .ok (.iconst 3, 1) := by decide +kernel
theorem dX1_writeImage_47 : decode cX1_writeImage 47 = .ok (.irem, 1) := by decide +kernel
theorem dX1_writeImage_48 : decode cX1_writeImage 48 = .ok (.invokevirtual 129, 3) := by decide +kernel
theorem dX1_writeImage_51 : decode cX1_writeImage 51 = .ok (.goto 22, 3) := by decide +kernel
theorem dX1_writeImage_54 : decode cX1_writeImage 54 = .ok (.aload_n 0, 1) := by decide +kernel
theorem dX1_writeImage_55 : decode cX1_writeImage 55 = .ok (.getfield 25, 3) := by decide +kernel
theorem dX1_writeImage_58 : decode cX1_writeImage 58 = .ok (.iload 4, 2) := by decide +kernel
theorem dX1_writeImage_60 : decode cX1_writeImage 60 = .ok (.iconst 3, 1) := by decide +kernel
theorem dX1_writeImage_61 : decode cX1_writeImage 61 = .ok (.aload_n 0, 1) := by decide +kernel
theorem dX1_writeImage_62 : decode cX1_writeImage 62 = .ok (.getfield 12, 3) := by decide +kernel
theorem dX1_writeImage_65 : decode cX1_writeImage 65 = .ok (.getfield 47, 3) := by decide +kernel
theorem dX1_writeImage_68 : decode cX1_writeImage 68 = .ok (.imul, 1) := by decide +kernel
theorem dX1_writeImage_69 : decode cX1_writeImage 69 = .ok (.isub, 1) := by decide +kernel
theorem dX1_writeImage_70 : decode cX1_writeImage 70 = .ok (.invokestatic 89, 3) := by decide +kernel
theorem dX1_writeImage_73 : decode cX1_writeImage 73 = .ok (.istore 6, 2) := by decide +kernel
theorem dX1_writeImage_75 : decode cX1_writeImage 75 = .ok (.aload_n 1, 1) := by decide +kernel
theorem dX1_writeImage_76 : decode cX1_writeImage 76 = .ok (.iload 4, 2) := by decide +kernel
theorem dX1_writeImage_78 : decode cX1_writeImage 78 = .ok (.iload 6, 2) := by decide +kernel
theorem dX1_writeImage_80 : decode cX1_writeImage 80 = .ok (.invokestatic 54, 3) := by decide +kernel
theorem dX1_writeImage_83 : decode cX1_writeImage 83 = .ok (.iload_n 3, 1) := by decide +kernel
theorem dX1_writeImage_84 : decode cX1_writeImage 84 = .ok (.iload 6, 2) := by decide +kernel
theorem dX1_writeImage_86 : decode cX1_writeImage 86 = .ok (.invokestatic 132, 3) := by decide +kernel
theorem dX1_writeImage_89 : decode cX1_writeImage 89 = .ok (.istore_n 3, 1) := by decide +kernel
theorem dX1_writeImage_90 : decode cX1_writeImage 90 = .ok (.iinc 4 1, 3) := by decide +kernel
theorem dX1_writeImage_93 : decode cX1_writeImage 93 = .ok (.goto (-79), 3) := by decide +kernel
theorem dX1_writeImage_96 : decode cX1_writeImage 96 = .ok (.aload_n 1, 1) := by decide +kernel
theorem dX1_writeImage_97 : decode cX1_writeImage 97 = .ok (.iload_n 2, 1) := by decide +kernel
theorem dX1_writeImage_98 : decode cX1_writeImage 98 = .ok (.iload_n 3, 1) := by decide +kernel
theorem dX1_writeImage_99 : decode cX1_writeImage 99 = .ok (.invokestatic 54, 3) := by decide +kernel
theorem dX1_writeImage_102 : decode cX1_writeImage 102 = .ok (.return_, 1) := by decide +kernel
theorem dX1_isImage_0 : decode cX1_isImage 0 = .ok (.aload_n 0, 1) := by decide +kernel
theorem dX1_isImage_1 : decode cX1_isImage 1 = .ok (.invokevirtual 126, 3) := by decide +kernel
theorem dX1_isImage_4 : decode cX1_isImage 4 = .ok (.iconst 1, 1) := by decide +kernel
theorem dX1_isImage_5 : decode cX1_isImage 5 = .ok (.isub, 1) := by decide +kernel
theorem dX1_isImage_6 : decode cX1_isImage 6 = .ok (.istore_n 2, 1) := by decide +kernel
theorem dX1_isImage_7 : decode cX1_isImage 7 = .ok (.aload_n 1, 1) := by decide +kernel
theorem dX1_isImage_8 : decode cX1_isImage 8 = .ok (.getfield 135, 3) := by decide +kernel
theorem dX1_isImage_11 : decode cX1_isImage 11 = .ok (.iload_n 2, 1) := by decide +kernel
theorem dX1_isImage_12 : decode cX1_isImage 12 = .ok (.iconst 1, 1) := by decide +kernel
theorem dX1_isImage_13 : decode cX1_isImage 13 = .ok (.iadd, 1) := by decide +kernel
theorem dX1_isImage_14 : decode cX1_isImage 14 = .ok (.if_icmp .eq 5, 3) := by decide +kernel
theorem dX1_isImage_17 : decode cX1_isImage 17 = .ok (.iconst 0, 1) := by decide +kernel
theorem dX1_isImage_18 : decode cX1_isImage 18 = .ok (.ireturn, 1) := by decide +kernel
theorem dX1_isImage_19 : decode cX1_isImage 19 = .ok (.sipush 151, 3) := by decide +kernel
theorem dX1_isImage_22 : decode cX1_isImage 22 = .ok (.istore_n 3, 1) := by decide +kernel
theorem dX1_isImage_23 : decode cX1_isImage 23 = .ok (.iconst 0, 1) := by decide +kernel
theorem dX1_isImage_24 : decode cX1_isImage 24 = .ok (.istore 4, 2) := by decide +kernel
theorem dX1_isImage_26 : decode cX1_isImage 26 = .ok (.iload 4, 2) := by decide +kernel
theorem dX1_isImage_28 : decode cX1_isImage 28 = .ok (.iload_n 2, 1) := by decide +kernel
theorem dX1_isImage_29 : decode cX1_isImage 29 = .ok (.if_icmp .ge 76, 3) := by decide +kernel
theorem dX1_isImage_32 : decode cX1_isImage 32 = .ok (.aload_n 1, 1) := by decide +kernel
theorem dX1_isImage_33 : decode cX1_isImage 33 = .ok (.iload 4, 2) := by decide +kernel
theorem dX1_isImage_35 : decode cX1_isImage 35 = .ok (.invokevirtual 140, 3) := by decide +kernel
theorem dX1_isImage_38 : decode cX1_isImage 38 = .ok (.istore 5, 2) := by decide +kernel
theorem dX1_isImage_40 : decode cX1_isImage 40 = .ok (.iload 4, 2) := by decide +kernel
theorem dX1_isImage_42 : decode cX1_isImage 42 = .ok (.iconst 3, 1) := by decide +kernel
theorem dX1_isImage_43 : decode cX1_isImage 43 = .ok (.idiv, 1) := by decide +kernel
theorem dX1_isImage_44 : decode cX1_isImage 44 = .ok (.aload_n 0, 1) := by decide +kernel
theorem dX1_isImage_45 : decode cX1_isImage 45 = .ok (.getfield 12, 3) := by decide +kernel
theorem dX1_isImage_48 : decode cX1_isImage 48 = .ok (.getfield 47, 3) := by decide +kernel
theorem dX1_isImage_51 : decode cX1_isImage 51 = .ok (.if_icmp .ge 16, 3) := by decide +kernel
theorem dX1_isImage_54 : decode cX1_isImage 54 = .ok (.aload_n 0, 1) := by decide +kernel
theorem dX1_isImage_55 : decode cX1_isImage 55 = .ok (.iload 4, 2) := by decide +kernel
theorem dX1_isImage_57 : decode cX1_isImage 57 = .ok (.iconst 3, 1) := by decide +kernel
theorem dX1_isImage_58 : decode cX1_isImage 58 = .ok (.irem, 1) := by decide +kernel
theorem dX1_isImage_59 : decode cX1_isImage 59 = .ok (.iload 5, 2) := by decide +kernel
theorem dX1_isImage_61 : decode cX1_isImage 61 = .ok (.invokevirtual 143, 3) := by decide +kernel
theorem dX1_isImage_64 : decode cX1_isImage 64 = .ok (.goto 19, 3) := by decide +kernel
theorem dX1_isImage_67 : decode cX1_isImage 67 = .ok (.iload 5, 2) := by decide +kernel
theorem dX1_isImage_69 : decode cX1_isImage 69 = .ok (.ifCond .eq 9, 3) := by decide +kernel
theorem dX1_isImage_72 : decode cX1_isImage 72 = .ok (.iload 5, 2) := by decide +kernel
theorem dX1_isImage_74 : decode cX1_isImage 74 = .ok (.iconst 1, 1) := by decide +kernel
theorem dX1_isImage_75 : decode cX1_isImage 75 = .ok (.if_icmp .ne 7, 3) := by decide +kernel
theorem dX1_isImage_78 : decode cX1_isImage 78 = .ok (.iconst 1, 1) := by decide +kernel
theorem dX1_isImage_79 : decode cX1_isImage 79 = .ok (.goto 4, 3) := by decide +kernel
theorem dX1_isImage_82 : decode cX1_isImage 82 = .ok (.iconst 0, 1) := by decide +kernel
theorem dX1_isImage_83 : decode cX1_isImage 83 = .ok (.istore 6, 2) := by decide +kernel
theorem dX1_isImage_85 : decode cX1_isImage 85 = .ok (.iload 6, 2) := by decide +kernel
theorem dX1_isImage_87 : decode cX1_isImage 87 = .ok (.ifCond .ne 5, 3) := by decide +kernel
theorem dX1_isImage_90 : decode cX1_isImage 90 = .ok (.iconst 0, 1) := by decide +kernel
theorem dX1_isImage_91 : decode cX1_isImage 91 = .ok (.ireturn, 1) := by decide +kernel
theorem dX1_isImage_92 : decode cX1_isImage 92 = .ok (.iload_n 3, 1) := by decide +kernel
theorem dX1_isImage_93 : decode cX1_isImage 93 = .ok (.iload 5, 2) := by decide +kernel
theorem dX1_isImage_95 : decode cX1_isImage 95 = .ok (.invokestatic 132, 3) := by decide +kernel
theorem dX1_isImage_98 : decode cX1_isImage 98 = .ok (.istore_n 3, 1) := by decide +kernel
theorem dX1_isImage_99 : decode cX1_isImage 99 = .ok (.iinc 4 1, 3) := by decide +kernel
theorem dX1_isImage_102 : decode cX1_isImage 102 = .ok (.goto (-76), 3) := by decide +kernel
theorem dX1_isImage_105 : decode cX1_isImage 105 = .ok (.aload_n 1, 1) := by decide +kernel
theorem dX1_isImage_106 : decode cX1_isImage 106 = .ok (.iload_n 2, 1) := by decide +kernel
theorem dX1_isImage_107 : decode cX1_isImage 107 = .ok (.invokevirtual 140, 3) := by decide +kernel
theorem dX1_isImage_110 : decode cX1_isImage 110 = .ok (.iload_n 3, 1) := by decide +kernel
theorem dX1_isImage_111 : decode cX1_isImage 111 = .ok (.if_icmp .ne 7, 3) := by decide +kernel
theorem dX1_isImage_114 : decode cX1_isImage 114 = .ok (.iconst 1, 1) := by decide +kernel
theorem dX1_isImage_115 : decode cX1_isImage 115 = .ok (.goto 4, 3) := by decide +kernel
theorem dX1_isImage_118 : decode cX1_isImage 118 = .ok (.iconst 0, 1) := by decide +kernel
theorem dX1_isImage_119 : decode cX1_isImage 119 = .ok (.ireturn, 1) := by decide +kernel
theorem dX1_takeImage_0 : decode cX1_takeImage 0 = .ok (.iconst 0, 1) := by decide +kernel
theorem dX1_takeImage_1 : decode cX1_takeImage 1 = .ok (.istore_n 2, 1) := by decide +kernel
theorem dX1_takeImage_2 : decode cX1_takeImage 2 = .ok (.iload_n 2, 1) := by decide +kernel
theorem dX1_takeImage_3 : decode cX1_takeImage 3 = .ok (.aload_n 0, 1) := by decide +kernel
theorem dX1_takeImage_4 : decode cX1_takeImage 4 = .ok (.invokevirtual 126, 3) := by decide +kernel
theorem dX1_takeImage_7 : decode cX1_takeImage 7 = .ok (.iconst 1, 1) := by decide +kernel
theorem dX1_takeImage_8 : decode cX1_takeImage 8 = .ok (.isub, 1) := by decide +kernel
theorem dX1_takeImage_9 : decode cX1_takeImage 9 = .ok (.if_icmp .ge 66, 3) := by decide +kernel
theorem dX1_takeImage_12 : decode cX1_takeImage 12 = .ok (.iload_n 2, 1) := by decide +kernel
theorem dX1_takeImage_13 : decode cX1_takeImage 13 = .ok (.iconst 3, 1) := by decide +kernel
theorem dX1_takeImage_14 : decode cX1_takeImage 14 = .ok (.idiv, 1) := by decide +kernel
theorem dX1_takeImage_15 : decode cX1_takeImage 15 = .ok (.istore_n 3, 1) := by decide +kernel
theorem dX1_takeImage_16 : decode cX1_takeImage 16 = .ok (.iload_n 3, 1) := by decide +kernel
theorem dX1_takeImage_17 : decode cX1_takeImage 17 = .ok (.aload_n 0, 1) := by decide +kernel
theorem dX1_takeImage_18 : decode cX1_takeImage 18 = .ok (.getfield 12, 3) := by decide +kernel
theorem dX1_takeImage_21 : decode cX1_takeImage 21 = .ok (.getfield 47, 3) := by decide +kernel
theorem dX1_takeImage_24 : decode cX1_takeImage 24 = .ok (.if_icmp .ge 22, 3) := by decide +kernel
theorem dX1_takeImage_27 : decode cX1_takeImage 27 = .ok (.aload_n 0, 1) := by decide +kernel
theorem dX1_takeImage_28 : decode cX1_takeImage 28 = .ok (.getfield 12, 3) := by decide +kernel
theorem dX1_takeImage_31 : decode cX1_takeImage 31 = .ok (.iload_n 3, 1) := by decide +kernel
theorem dX1_takeImage_32 : decode cX1_takeImage 32 = .ok (.iload_n 2, 1) := by decide +kernel
theorem dX1_takeImage_33 : decode cX1_takeImage 33 = .ok (.iconst 3, 1) := by decide +kernel
theorem dX1_takeImage_34 : decode cX1_takeImage 34 = .ok (.irem, 1) := by decide +kernel
theorem dX1_takeImage_35 : decode cX1_takeImage 35 = .ok (.aload_n 1, 1) := by decide +kernel
theorem dX1_takeImage_36 : decode cX1_takeImage 36 = .ok (.iload_n 2, 1) := by decide +kernel
theorem dX1_takeImage_37 : decode cX1_takeImage 37 = .ok (.invokevirtual 140, 3) := by decide +kernel
theorem dX1_takeImage_40 : decode cX1_takeImage 40 = .ok (.invokevirtual 147, 3) := by decide +kernel
theorem dX1_takeImage_43 : decode cX1_takeImage 43 = .ok (.goto 26, 3) := by decide +kernel
theorem dX1_takeImage_46 : decode cX1_takeImage 46 = .ok (.aload_n 0, 1) := by decide +kernel
theorem dX1_takeImage_47 : decode cX1_takeImage 47 = .ok (.getfield 25, 3) := by decide +kernel
theorem dX1_takeImage_50 : decode cX1_takeImage 50 = .ok (.iload_n 2, 1) := by decide +kernel
theorem dX1_takeImage_51 : decode cX1_takeImage 51 = .ok (.iconst 3, 1) := by decide +kernel
theorem dX1_takeImage_52 : decode cX1_takeImage 52 = .ok (.aload_n 0, 1) := by decide +kernel
theorem dX1_takeImage_53 : decode cX1_takeImage 53 = .ok (.getfield 12, 3) := by decide +kernel
theorem dX1_takeImage_56 : decode cX1_takeImage 56 = .ok (.getfield 47, 3) := by decide +kernel
theorem dX1_takeImage_59 : decode cX1_takeImage 59 = .ok (.imul, 1) := by decide +kernel
theorem dX1_takeImage_60 : decode cX1_takeImage 60 = .ok (.isub, 1) := by decide +kernel
theorem dX1_takeImage_61 : decode cX1_takeImage 61 = .ok (.aload_n 1, 1) := by decide +kernel
theorem dX1_takeImage_62 : decode cX1_takeImage 62 = .ok (.iload_n 2, 1) := by decide +kernel
theorem dX1_takeImage_63 : decode cX1_takeImage 63 = .ok (.invokevirtual 140, 3) := by decide +kernel
theorem dX1_takeImage_66 : decode cX1_takeImage 66 = .ok (.invokestatic 54, 3) := by decide +kernel
theorem dX1_takeImage_69 : decode cX1_takeImage 69 = .ok (.iinc 2 1, 3) := by decide +kernel
theorem dX1_takeImage_72 : decode cX1_takeImage 72 = .ok (.goto (-70), 3) := by decide +kernel
theorem dX1_takeImage_75 : decode cX1_takeImage 75 = .ok (.return_, 1) := by decide +kernel
theorem dX2_init_0 : decode cX2_init 0 = .ok (.aload_n 0, 1) := by decide +kernel
theorem dX2_init_1 : decode cX2_init 1 = .ok (.invokespecial 3, 3) := by decide +kernel
theorem dX2_init_4 : decode cX2_init 4 = .ok (.aload_n 0, 1) := by decide +kernel
theorem dX2_init_5 : decode cX2_init 5 = .ok (.aload_n 1, 1) := by decide +kernel
theorem dX2_init_6 : decode cX2_init 6 = .ok (.putfield 9, 3) := by decide +kernel
theorem dX2_init_9 : decode cX2_init 9 = .ok (.aload_n 0, 1) := by decide +kernel
theorem dX2_init_10 : decode cX2_init 10 = .ok (.iconst 0, 1) := by decide +kernel
theorem dX2_init_11 : decode cX2_init 11 = .ok (.putfield 15, 3) := by decide +kernel
theorem dX2_init_14 : decode cX2_init 14 = .ok (.return_, 1) := by decide +kernel
theorem dX2_read_0 : decode cX2_read 0 = .ok (.aload_n 1, 1) := by decide +kernel
theorem dX2_read_1 : decode cX2_read 1 = .ok (.invokevirtual 19, 3) := by decide +kernel
theorem dX2_read_4 : decode cX2_read 4 = .ok (.aload_n 0, 1) := by decide +kernel
theorem dX2_read_5 : decode cX2_read 5 = .ok (.iconst 0, 1) := by decide +kernel
theorem dX2_read_6 : decode cX2_read 6 = .ok (.putfield 15, 3) := by decide +kernel
theorem dX2_read_9 : decode cX2_read 9 = .ok (.aload_n 0, 1) := by decide +kernel
theorem dX2_read_10 : decode cX2_read 10 = .ok (.getfield 9, 3) := by decide +kernel
theorem dX2_read_13 : decode cX2_read 13 = .ok (.invokevirtual 24, 3) := by decide +kernel
theorem dX2_read_16 : decode cX2_read 16 = .ok (.aload_n 0, 1) := by decide +kernel
theorem dX2_read_17 : decode cX2_read 17 = .ok (.getfield 15, 3) := by decide +kernel
theorem dX2_read_20 : decode cX2_read 20 = .ok (.bipush 70, 2) := by decide +kernel
theorem dX2_read_22 : decode cX2_read 22 = .ok (.if_icmp .ge 36, 3) := by decide +kernel
theorem dX2_read_25 : decode cX2_read 25 = .ok (.aload_n 0, 1) := by decide +kernel
theorem dX2_read_26 : decode cX2_read 26 = .ok (.getfield 9, 3) := by decide +kernel
theorem dX2_read_29 : decode cX2_read 29 = .ok (.getfield 29, 3) := by decide +kernel
theorem dX2_read_32 : decode cX2_read 32 = .ok (.ifCond .eq 26, 3) := by decide +kernel
theorem dX2_read_35 : decode cX2_read 35 = .ok (.aload_n 0, 1) := by decide +kernel
theorem dX2_read_36 : decode cX2_read 36 = .ok (.aload_n 1, 1) := by decide +kernel
theorem dX2_read_37 : decode cX2_read 37 = .ok (.invokevirtual 32, 3) := by decide +kernel
theorem dX2_read_40 : decode cX2_read 40 = .ok (.ifCond .ne 5, 3) := by decide +kernel
theorem dX2_read_43 : decode cX2_read 43 = .ok (.iconst 0, 1) := by decide +kernel
theorem dX2_read_44 : decode cX2_read 44 = .ok (.ireturn, 1) := by decide +kernel
theorem dX2_read_45 : decode cX2_read 45 = .ok (.aload_n 0, 1) := by decide +kernel
theorem dX2_read_46 : decode cX2_read 46 = .ok (.dup, 1) := by decide +kernel
theorem dX2_read_47 : decode cX2_read 47 = .ok (.getfield 15, 3) := by decide +kernel
theorem dX2_read_50 : decode cX2_read 50 = .ok (.iconst 1, 1) := by decide +kernel
theorem dX2_read_51 : decode cX2_read 51 = .ok (.iadd, 1) := by decide +kernel
theorem dX2_read_52 : decode cX2_read 52 = .ok (.putfield 15, 3) := by decide +kernel
theorem dX2_read_55 : decode cX2_read 55 = .ok (.goto (-39), 3) := by decide +kernel
theorem dX2_read_58 : decode cX2_read 58 = .ok (.aload_n 0, 1) := by decide +kernel
theorem dX2_read_59 : decode cX2_read 59 = .ok (.getfield 9, 3) := by decide +kernel
theorem dX2_read_62 : decode cX2_read 62 = .ok (.getfield 29, 3) := by decide +kernel
theorem dX2_read_65 : decode cX2_read 65 = .ok (.ifCond .eq 19, 3) := by decide +kernel
theorem dX2_read_68 : decode cX2_read 68 = .ok (.aload_n 0, 1) := by decide +kernel
theorem dX2_read_69 : decode cX2_read 69 = .ok (.getfield 9, 3) := by decide +kernel
theorem dX2_read_72 : decode cX2_read 72 = .ok (.iconst 5, 1) := by decide +kernel
theorem dX2_read_73 : decode cX2_read 73 = .ok (.aload_n 0, 1) := by decide +kernel
theorem dX2_read_74 : decode cX2_read 74 = .ok (.getfield 9, 3) := by decide +kernel
theorem dX2_read_77 : decode cX2_read 77 = .ok (.getfield 36, 3) := by decide +kernel
theorem dX2_read_80 : decode cX2_read 80 = .ok (.invokevirtual 39, 3) := by decide +kernel
theorem dX2_read_83 : decode cX2_read 83 = .ok (.ireturn, 1) := by decide +kernel
theorem dX2_read_84 : decode cX2_read 84 = .ok (.aload_n 0, 1) := by decide +kernel
theorem dX2_read_85 : decode cX2_read 85 = .ok (.getfield 15, 3) := by decide +kernel
theorem dX2_read_88 : decode cX2_read 88 = .ok (.ifCond .ne 11, 3) := by decide +kernel
theorem dX2_read_91 : decode cX2_read 91 = .ok (.aload_n 0, 1) := by decide +kernel
theorem dX2_read_92 : decode cX2_read 92 = .ok (.getfield 9, 3) := by decide +kernel
theorem dX2_read_95 : decode cX2_read 95 = .ok (.invokevirtual 43, 3) := by decide +kernel
theorem dX2_read_98 : decode cX2_read 98 = .ok (.ireturn, 1) := by decide +kernel
theorem dX2_read_99 : decode cX2_read 99 = .ok (.aload_n 1, 1) := by decide +kernel
theorem dX2_read_100 : decode cX2_read 100 = .ok (.invokevirtual 47, 3) := by decide +kernel
theorem dX2_read_103 : decode cX2_read 103 = .ok (.iconst 1, 1) := by decide +kernel
theorem dX2_read_104 : decode cX2_read 104 = .ok (.ireturn, 1) := by decide +kernel
theorem dX2_takeStatement_0 : decode cX2_takeStatement 0 = .ok (.aload_n 0, 1) := by decide +kernel
theorem dX2_takeStatement_1 : decode cX2_takeStatement 1 = .ok (.getfield 9, 3) := by decide +kernel
theorem dX2_takeStatement_4 : decode cX2_takeStatement 4 = .ok (.ldc 50, 2) := by decide +kernel
theorem dX2_takeStatement_6 : decode cX2_takeStatement 6 = .ok (.invokevirtual 52, 3) := by decide +kernel
theorem dX2_takeStatement_9 : decode cX2_takeStatement 9 = .ok (.istore_n 2, 1) := by decide +kernel
theorem dX2_takeStatement_10 : decode cX2_takeStatement 10 = .ok (.iload_n 2, 1) := by decide +kernel
theorem dX2_takeStatement_11 : decode cX2_takeStatement 11 = .ok (.ifCond .lt 33, 3) := by decide +kernel
theorem dX2_takeStatement_14 : decode cX2_takeStatement 14 = .ok (.iload_n 2, 1) := by decide +kernel
theorem dX2_takeStatement_15 : decode cX2_takeStatement 15 = .ok (.bipush 8, 2) := by decide +kernel
theorem dX2_takeStatement_17 : decode cX2_takeStatement 17 = .ok (.if_icmp .gt 27, 3) := by decide +kernel
theorem dX2_takeStatement_20 : decode cX2_takeStatement 20 = .ok (.iload_n 2, 1) := by decide +kernel
theorem dX2_takeStatement_21 : decode cX2_takeStatement 21 = .ok (.ifCond .ne 7, 3) := by decide +kernel
theorem dX2_takeStatement_24 : decode cX2_takeStatement 24 = .ok (.iconst 1, 1) := by decide +kernel
theorem dX2_takeStatement_25 : decode cX2_takeStatement 25 = .ok (.goto 4, 3) := by decide +kernel
theorem dX2_takeStatement_28 : decode cX2_takeStatement 28 = .ok (.iconst 0, 1) := by decide +kernel
theorem dX2_takeStatement_29 : decode cX2_takeStatement 29 = .ok (.aload_n 0, 1) := by decide +kernel
theorem dX2_takeStatement_30 : decode cX2_takeStatement 30 = .ok (.getfield 15, 3) := by decide +kernel
theorem dX2_takeStatement_33 : decode cX2_takeStatement 33 = .ok (.ifCond .ne 7, 3) := by decide +kernel
theorem dX2_takeStatement_36 : decode cX2_takeStatement 36 = .ok (.iconst 1, 1) := by decide +kernel
theorem dX2_takeStatement_37 : decode cX2_takeStatement 37 = .ok (.goto 4, 3) := by decide +kernel
theorem dX2_takeStatement_40 : decode cX2_takeStatement 40 = .ok (.iconst 0, 1) := by decide +kernel
theorem dX2_takeStatement_41 : decode cX2_takeStatement 41 = .ok (.if_icmp .eq 11, 3) := by decide +kernel
theorem dX2_takeStatement_44 : decode cX2_takeStatement 44 = .ok (.aload_n 0, 1) := by decide +kernel
theorem dX2_takeStatement_45 : decode cX2_takeStatement 45 = .ok (.getfield 9, 3) := by decide +kernel
theorem dX2_takeStatement_48 : decode cX2_takeStatement 48 = .ok (.invokevirtual 43, 3) := by decide +kernel
theorem dX2_takeStatement_51 : decode cX2_takeStatement 51 = .ok (.ireturn, 1) := by decide +kernel
theorem dX2_takeStatement_52 : decode cX2_takeStatement 52 = .ok (.aload_n 1, 1) := by decide +kernel
theorem dX2_takeStatement_53 : decode cX2_takeStatement 53 = .ok (.iload_n 2, 1) := by decide +kernel
theorem dX2_takeStatement_54 : decode cX2_takeStatement 54 = .ok (.invokestatic 56, 3) := by decide +kernel
theorem dX2_takeStatement_57 : decode cX2_takeStatement 57 = .ok (.ifCond .eq 19, 3) := by decide +kernel
theorem dX2_takeStatement_60 : decode cX2_takeStatement 60 = .ok (.aload_n 0, 1) := by decide +kernel
theorem dX2_takeStatement_61 : decode cX2_takeStatement 61 = .ok (.getfield 9, 3) := by decide +kernel
theorem dX2_takeStatement_64 : decode cX2_takeStatement 64 = .ok (.iconst 5, 1) := by decide +kernel
theorem dX2_takeStatement_65 : decode cX2_takeStatement 65 = .ok (.aload_n 0, 1) := by decide +kernel
theorem dX2_takeStatement_66 : decode cX2_takeStatement 66 = .ok (.getfield 9, 3) := by decide +kernel
theorem dX2_takeStatement_69 : decode cX2_takeStatement 69 = .ok (.getfield 36, 3) := by decide +kernel
theorem dX2_takeStatement_72 : decode cX2_takeStatement 72 = .ok (.invokevirtual 39, 3) := by decide +kernel
theorem dX2_takeStatement_75 : decode cX2_takeStatement 75 = .ok (.ireturn, 1) := by decide +kernel
theorem dX2_takeStatement_76 : decode cX2_takeStatement 76 = .ok (.aload_n 0, 1) := by decide +kernel
theorem dX2_takeStatement_77 : decode cX2_takeStatement 77 = .ok (.getfield 9, 3) := by decide +kernel
theorem dX2_takeStatement_80 : decode cX2_takeStatement 80 = .ok (.invokevirtual 60, 3) := by decide +kernel
theorem dX2_takeStatement_83 : decode cX2_takeStatement 83 = .ok (.iload_n 2, 1) := by decide +kernel
theorem dX2_takeStatement_84 : decode cX2_takeStatement 84 = .ok (.tableswitch 81 0 4 #[36, 45, 54, 63, 72], 36) := by decide +kernel
theorem dX2_takeStatement_120 : decode cX2_takeStatement 120 = .ok (.aload_n 0, 1) := by decide +kernel
theorem dX2_takeStatement_121 : decode cX2_takeStatement 121 = .ok (.aload_n 1, 1) := by decide +kernel
theorem dX2_takeStatement_122 : decode cX2_takeStatement 122 = .ok (.invokevirtual 63, 3) := by decide +kernel
theorem dX2_takeStatement_125 : decode cX2_takeStatement 125 = .ok (.istore_n 3, 1) := by decide +kernel
theorem dX2_takeStatement_126 : decode cX2_takeStatement 126 = .ok (.goto 46, 3) := by decide +kernel
theorem dX2_takeStatement_129 : decode cX2_takeStatement 129 = .ok (.aload_n 0, 1) := by decide +kernel
theorem dX2_takeStatement_130 : decode cX2_takeStatement 130 = .ok (.aload_n 1, 1) := by decide +kernel
theorem dX2_takeStatement_131 : decode cX2_takeStatement 131 = .ok (.invokevirtual 66, 3) := by decide +kernel
theorem dX2_takeStatement_134 : decode cX2_takeStatement 134 = .ok (.istore_n 3, 1) := by decide +kernel
theorem dX2_takeStatement_135 : decode cX2_takeStatement 135 = .ok (.goto 37, 3) := by decide +kernel
theorem dX2_takeStatement_138 : decode cX2_takeStatement 138 = .ok (.aload_n 0, 1) := by decide +kernel
theorem dX2_takeStatement_139 : decode cX2_takeStatement 139 = .ok (.aload_n 1, 1) := by decide +kernel
theorem dX2_takeStatement_140 : decode cX2_takeStatement 140 = .ok (.invokevirtual 69, 3) := by decide +kernel
theorem dX2_takeStatement_143 : decode cX2_takeStatement 143 = .ok (.istore_n 3, 1) := by decide +kernel
theorem dX2_takeStatement_144 : decode cX2_takeStatement 144 = .ok (.goto 28, 3) := by decide +kernel
theorem dX2_takeStatement_147 : decode cX2_takeStatement 147 = .ok (.aload_n 0, 1) := by decide +kernel
theorem dX2_takeStatement_148 : decode cX2_takeStatement 148 = .ok (.aload_n 1, 1) := by decide +kernel
theorem dX2_takeStatement_149 : decode cX2_takeStatement 149 = .ok (.invokevirtual 72, 3) := by decide +kernel
theorem dX2_takeStatement_152 : decode cX2_takeStatement 152 = .ok (.istore_n 3, 1) := by decide +kernel
theorem dX2_takeStatement_153 : decode cX2_takeStatement 153 = .ok (.goto 19, 3) := by decide +kernel
theorem dX2_takeStatement_156 : decode cX2_takeStatement 156 = .ok (.aload_n 0, 1) := by decide +kernel
theorem dX2_takeStatement_157 : decode cX2_takeStatement 157 = .ok (.aload_n 1, 1) := by decide +kernel
theorem dX2_takeStatement_158 : decode cX2_takeStatement 158 = .ok (.invokevirtual 75, 3) := by decide +kernel
theorem dX2_takeStatement_161 : decode cX2_takeStatement 161 = .ok (.istore_n 3, 1) := by decide +kernel
theorem dX2_takeStatement_162 : decode cX2_takeStatement 162 = .ok (.goto 10, 3) := by decide +kernel
theorem dX2_takeStatement_165 : decode cX2_takeStatement 165 = .ok (.aload_n 0, 1) := by decide +kernel
theorem dX2_takeStatement_166 : decode cX2_takeStatement 166 = .ok (.aload_n 1, 1) := by decide +kernel
theorem dX2_takeStatement_167 : decode cX2_takeStatement 167 = .ok (.iload_n 2, 1) := by decide +kernel
theorem dX2_takeStatement_168 : decode cX2_takeStatement 168 = .ok (.invokevirtual 78, 3) := by decide +kernel
theorem dX2_takeStatement_171 : decode cX2_takeStatement 171 = .ok (.istore_n 3, 1) := by decide +kernel
theorem dX2_takeStatement_172 : decode cX2_takeStatement 172 = .ok (.iload_n 3, 1) := by decide +kernel
theorem dX2_takeStatement_173 : decode cX2_takeStatement 173 = .ok (.ifCond .eq 19, 3) := by decide +kernel
theorem dX2_takeStatement_176 : decode cX2_takeStatement 176 = .ok (.aload_n 0, 1) := by decide +kernel
theorem dX2_takeStatement_177 : decode cX2_takeStatement 177 = .ok (.getfield 9, 3) := by decide +kernel
theorem dX2_takeStatement_180 : decode cX2_takeStatement 180 = .ok (.bipush 59, 2) := by decide +kernel
theorem dX2_takeStatement_182 : decode cX2_takeStatement 182 = .ok (.invokevirtual 81, 3) := by decide +kernel
theorem dX2_takeStatement_185 : decode cX2_takeStatement 185 = .ok (.ifCond .eq 7, 3) := by decide +kernel
theorem dX2_takeStatement_188 : decode cX2_takeStatement 188 = .ok (.iconst 1, 1) := by decide +kernel
theorem dX2_takeStatement_189 : decode cX2_takeStatement 189 = .ok (.goto 4, 3) := by decide +kernel
theorem dX2_takeStatement_192 : decode cX2_takeStatement 192 = .ok (.iconst 0, 1) := by decide +kernel
theorem dX2_takeStatement_193 : decode cX2_takeStatement 193 = .ok (.ireturn, 1) := by decide +kernel
theorem dX2_isFull_0 : decode cX2_isFull 0 = .ok (.iload_n 1, 1) := by decide +kernel
theorem dX2_isFull_1 : decode cX2_isFull 1 = .ok (.tableswitch 93 1 4 #[31, 46, 61, 79], 31) := by decide +kernel
theorem dX2_isFull_32 : decode cX2_isFull 32 = .ok (.aload_n 0, 1) := by decide +kernel
theorem dX2_isFull_33 : decode cX2_isFull 33 = .ok (.getfield 85, 3) := by decide +kernel
theorem dX2_isFull_36 : decode cX2_isFull 36 = .ok (.bipush 15, 2) := by decide +kernel
theorem dX2_isFull_38 : decode cX2_isFull 38 = .ok (.if_icmp .lt 7, 3) := by decide +kernel
theorem dX2_isFull_41 : decode cX2_isFull 41 = .ok (.iconst 1, 1) := by decide +kernel
theorem dX2_isFull_42 : decode cX2_isFull 42 = .ok (.goto 4, 3) := by decide +kernel
theorem dX2_isFull_45 : decode cX2_isFull 45 = .ok (.iconst 0, 1) := by decide +kernel
theorem dX2_isFull_46 : decode cX2_isFull 46 = .ok (.ireturn, 1) := by decide +kernel
theorem dX2_isFull_47 : decode cX2_isFull 47 = .ok (.aload_n 0, 1) := by decide +kernel
theorem dX2_isFull_48 : decode cX2_isFull 48 = .ok (.getfield 88, 3) := by decide +kernel
theorem dX2_isFull_51 : decode cX2_isFull 51 = .ok (.bipush 6, 2) := by decide +kernel
theorem dX2_isFull_53 : decode cX2_isFull 53 = .ok (.if_icmp .lt 7, 3) := by decide +kernel
theorem dX2_isFull_56 : decode cX2_isFull 56 = .ok (.iconst 1, 1) := by decide +kernel
theorem dX2_isFull_57 : decode cX2_isFull 57 = .ok (.goto 4, 3) := by decide +kernel
theorem dX2_isFull_60 : decode cX2_isFull 60 = .ok (.iconst 0, 1) := by decide +kernel
theorem dX2_isFull_61 : decode cX2_isFull 61 = .ok (.ireturn, 1) := by decide +kernel
theorem dX2_isFull_62 : decode cX2_isFull 62 = .ok (.aload_n 0, 1) := by decide +kernel
theorem dX2_isFull_63 : decode cX2_isFull 63 = .ok (.getfield 91, 3) := by decide +kernel
theorem dX2_isFull_66 : decode cX2_isFull 66 = .ok (.getfield 95, 3) := by decide +kernel
theorem dX2_isFull_69 : decode cX2_isFull 69 = .ok (.bipush 9, 2) := by decide +kernel
theorem dX2_isFull_71 : decode cX2_isFull 71 = .ok (.if_icmp .lt 7, 3) := by decide +kernel
theorem dX2_isFull_74 : decode cX2_isFull 74 = .ok (.iconst 1, 1) := by decide +kernel
theorem dX2_isFull_75 : decode cX2_isFull 75 = .ok (.goto 4, 3) := by decide +kernel
theorem dX2_isFull_78 : decode cX2_isFull 78 = .ok (.iconst 0, 1) := by decide +kernel
theorem dX2_isFull_79 : decode cX2_isFull 79 = .ok (.ireturn, 1) := by decide +kernel
theorem dX2_isFull_80 : decode cX2_isFull 80 = .ok (.aload_n 0, 1) := by decide +kernel
theorem dX2_isFull_81 : decode cX2_isFull 81 = .ok (.getfield 100, 3) := by decide +kernel
theorem dX2_isFull_84 : decode cX2_isFull 84 = .ok (.iconst 4, 1) := by decide +kernel
theorem dX2_isFull_85 : decode cX2_isFull 85 = .ok (.if_icmp .lt 7, 3) := by decide +kernel
theorem dX2_isFull_88 : decode cX2_isFull 88 = .ok (.iconst 1, 1) := by decide +kernel
theorem dX2_isFull_89 : decode cX2_isFull 89 = .ok (.goto 4, 3) := by decide +kernel
theorem dX2_isFull_92 : decode cX2_isFull 92 = .ok (.iconst 0, 1) := by decide +kernel
theorem dX2_isFull_93 : decode cX2_isFull 93 = .ok (.ireturn, 1) := by decide +kernel
theorem dX2_isFull_94 : decode cX2_isFull 94 = .ok (.iconst 0, 1) := by decide +kernel
theorem dX2_isFull_95 : decode cX2_isFull 95 = .ok (.ireturn, 1) := by decide +kernel
theorem dX2_numberBehind_0 : decode cX2_numberBehind 0 = .ok (.aload_n 0, 1) := by decide +kernel
theorem dX2_numberBehind_1 : decode cX2_numberBehind 1 = .ok (.getfield 9, 3) := by decide +kernel
theorem dX2_numberBehind_4 : decode cX2_numberBehind 4 = .ok (.aload_n 1, 1) := by decide +kernel
theorem dX2_numberBehind_5 : decode cX2_numberBehind 5 = .ok (.invokevirtual 103, 3) := by decide +kernel
theorem dX2_numberBehind_8 : decode cX2_numberBehind 8 = .ok (.ifCond .eq 22, 3) := by decide +kernel
theorem dX2_numberBehind_11 : decode cX2_numberBehind 11 = .ok (.aload_n 0, 1) := by decide +kernel
theorem dX2_numberBehind_12 : decode cX2_numberBehind 12 = .ok (.getfield 9, 3) := by decide +kernel
theorem dX2_numberBehind_15 : decode cX2_numberBehind 15 = .ok (.iload_n 2, 1) := by decide +kernel
theorem dX2_numberBehind_16 : decode cX2_numberBehind 16 = .ok (.iload_n 3, 1) := by decide +kernel
theorem dX2_numberBehind_17 : decode cX2_numberBehind 17 = .ok (.aload_n 0, 1) := by decide +kernel
theorem dX2_numberBehind_18 : decode cX2_numberBehind 18 = .ok (.getfield 9, 3) := by decide +kernel
theorem dX2_numberBehind_21 : decode cX2_numberBehind 21 = .ok (.getfield 36, 3) := by decide +kernel
theorem dX2_numberBehind_24 : decode cX2_numberBehind 24 = .ok (.invokevirtual 107, 3) := by decide +kernel
theorem dX2_numberBehind_27 : decode cX2_numberBehind 27 = .ok (.goto 4, 3) := by decide +kernel
theorem dX2_numberBehind_30 : decode cX2_numberBehind 30 = .ok (.iconst (-1), 1) := by decide +kernel
theorem dX2_numberBehind_31 : decode cX2_numberBehind 31 = .ok (.ireturn, 1) := by decide +kernel
theorem dX2_takeSize_0 : decode cX2_takeSize 0 = .ok (.aload_n 1, 1) := by decide +kernel
theorem dX2_takeSize_1 : decode cX2_takeSize 1 = .ok (.aload_n 0, 1) := by decide +kernel
theorem dX2_takeSize_2 : decode cX2_takeSize 2 = .ok (.getfield 9, 3) := by decide +kernel
theorem dX2_takeSize_5 : decode cX2_takeSize 5 = .ok (.iconst 2, 1) := by decide +kernel
theorem dX2_takeSize_6 : decode cX2_takeSize 6 = .ok (.bipush 9, 2) := by decide +kernel
theorem dX2_takeSize_8 : decode cX2_takeSize 8 = .ok (.aload_n 0, 1) := by decide +kernel
theorem dX2_takeSize_9 : decode cX2_takeSize 9 = .ok (.getfield 9, 3) := by decide +kernel
theorem dX2_takeSize_12 : decode cX2_takeSize 12 = .ok (.getfield 36, 3) := by decide +kernel
theorem dX2_takeSize_15 : decode cX2_takeSize 15 = .ok (.invokevirtual 107, 3) := by decide +kernel
theorem dX2_takeSize_18 : decode cX2_takeSize 18 = .ok (.putfield 111, 3) := by decide +kernel
theorem dX2_takeSize_21 : decode cX2_takeSize 21 = .ok (.aload_n 1, 1) := by decide +kernel
theorem dX2_takeSize_22 : decode cX2_takeSize 22 = .ok (.getfield 111, 3) := by decide +kernel
theorem dX2_takeSize_25 : decode cX2_takeSize 25 = .ok (.iconst (-1), 1) := by decide +kernel
theorem dX2_takeSize_26 : decode cX2_takeSize 26 = .ok (.if_icmp .ne 5, 3) := by decide +kernel
theorem dX2_takeSize_29 : decode cX2_takeSize 29 = .ok (.iconst 0, 1) := by decide +kernel
theorem dX2_takeSize_30 : decode cX2_takeSize 30 = .ok (.ireturn, 1) := by decide +kernel
theorem dX2_takeSize_31 : decode cX2_takeSize 31 = .ok (.aload_n 1, 1) := by decide +kernel
theorem dX2_takeSize_32 : decode cX2_takeSize 32 = .ok (.aload_n 0, 1) := by decide +kernel
theorem dX2_takeSize_33 : decode cX2_takeSize 33 = .ok (.getfield 9, 3) := by decide +kernel
theorem dX2_takeSize_36 : decode cX2_takeSize 36 = .ok (.iconst 2, 1) := by decide +kernel
theorem dX2_takeSize_37 : decode cX2_takeSize 37 = .ok (.bipush 6, 2) := by decide +kernel
theorem dX2_takeSize_39 : decode cX2_takeSize 39 = .ok (.aload_n 0, 1) := by decide +kernel
theorem dX2_takeSize_40 : decode cX2_takeSize 40 = .ok (.getfield 9, 3) := by decide +kernel
theorem dX2_takeSize_43 : decode cX2_takeSize 43 = .ok (.getfield 36, 3) := by decide +kernel
theorem dX2_takeSize_46 : decode cX2_takeSize 46 = .ok (.invokevirtual 107, 3) := by decide +kernel
theorem dX2_takeSize_49 : decode cX2_takeSize 49 = .ok (.putfield 114, 3) := by decide +kernel
theorem dX2_takeSize_52 : decode cX2_takeSize 52 = .ok (.aload_n 1, 1) := by decide +kernel
theorem dX2_takeSize_53 : decode cX2_takeSize 53 = .ok (.getfield 114, 3) := by decide +kernel
theorem dX2_takeSize_56 : decode cX2_takeSize 56 = .ok (.iconst (-1), 1) := by decide +kernel
theorem dX2_takeSize_57 : decode cX2_takeSize 57 = .ok (.if_icmp .eq 7, 3) := by decide +kernel
theorem dX2_takeSize_60 : decode cX2_takeSize 60 = .ok (.iconst 1, 1) := by decide +kernel
theorem dX2_takeSize_61 : decode cX2_takeSize 61 = .ok (.goto 4, 3) := by decide +kernel
theorem dX2_takeSize_64 : decode cX2_takeSize 64 = .ok (.iconst 0, 1) := by decide +kernel
theorem dX2_takeSize_65 : decode cX2_takeSize 65 = .ok (.ireturn, 1) := by decide +kernel
theorem dX2_takeRule_0 : decode cX2_takeRule 0 = .ok (.iload_n 2, 1) := by decide +kernel
theorem dX2_takeRule_1 : decode cX2_takeRule 1 = .ok (.tableswitch 131 5 7 #[27, 62, 97], 27) := by decide +kernel
theorem dX2_takeRule_28 : decode cX2_takeRule 28 = .ok (.aload_n 1, 1) := by decide +kernel
theorem dX2_takeRule_29 : decode cX2_takeRule 29 = .ok (.aload_n 0, 1) := by decide +kernel
theorem dX2_takeRule_30 : decode cX2_takeRule 30 = .ok (.getfield 9, 3) := by decide +kernel
theorem dX2_takeRule_33 : decode cX2_takeRule 33 = .ok (.iconst 1, 1) := by decide +kernel
theorem dX2_takeRule_34 : decode cX2_takeRule 34 = .ok (.bipush 99, 2) := by decide +kernel
theorem dX2_takeRule_36 : decode cX2_takeRule 36 = .ok (.aload_n 0, 1) := by decide +kernel
theorem dX2_takeRule_37 : decode cX2_takeRule 37 = .ok (.getfield 9, 3) := by decide +kernel
theorem dX2_takeRule_40 : decode cX2_takeRule 40 = .ok (.getfield 36, 3) := by decide +kernel
theorem dX2_takeRule_43 : decode cX2_takeRule 43 = .ok (.invokevirtual 107, 3) := by decide +kernel
theorem dX2_takeRule_46 : decode cX2_takeRule 46 = .ok (.putfield 117, 3) := by decide +kernel
theorem dX2_takeRule_49 : decode cX2_takeRule 49 = .ok (.aload_n 1, 1) := by decide +kernel
theorem dX2_takeRule_50 : decode cX2_takeRule 50 = .ok (.getfield 117, 3) := by decide +kernel
theorem dX2_takeRule_53 : decode cX2_takeRule 53 = .ok (.iconst (-1), 1) := by decide +kernel
theorem dX2_takeRule_54 : decode cX2_takeRule 54 = .ok (.if_icmp .eq 7, 3) := by decide +kernel
theorem dX2_takeRule_57 : decode cX2_takeRule 57 = .ok (.iconst 1, 1) := by decide +kernel
theorem dX2_takeRule_58 : decode cX2_takeRule 58 = .ok (.goto 4, 3) := by decide +kernel
theorem dX2_takeRule_61 : decode cX2_takeRule 61 = .ok (.iconst 0, 1) := by decide +kernel
theorem dX2_takeRule_62 : decode cX2_takeRule 62 = .ok (.ireturn, 1) := by decide +kernel
theorem dX2_takeRule_63 : decode cX2_takeRule 63 = .ok (.aload_n 1, 1) := by decide +kernel
theorem dX2_takeRule_64 : decode cX2_takeRule 64 = .ok (.aload_n 0, 1) := by decide +kernel
theorem dX2_takeRule_65 : decode cX2_takeRule 65 = .ok (.getfield 9, 3) := by decide +kernel
theorem dX2_takeRule_68 : decode cX2_takeRule 68 = .ok (.iconst 1, 1) := by decide +kernel
theorem dX2_takeRule_69 : decode cX2_takeRule 69 = .ok (.bipush 30, 2) := by decide +kernel
theorem dX2_takeRule_71 : decode cX2_takeRule 71 = .ok (.aload_n 0, 1) := by decide +kernel
theorem dX2_takeRule_72 : decode cX2_takeRule 72 = .ok (.getfield 9, 3) := by decide +kernel
theorem dX2_takeRule_75 : decode cX2_takeRule 75 = .ok (.getfield 36, 3) := by decide +kernel
theorem dX2_takeRule_78 : decode cX2_takeRule 78 = .ok (.invokevirtual 107, 3) := by decide +kernel
theorem dX2_takeRule_81 : decode cX2_takeRule 81 = .ok (.putfield 120, 3) := by decide +kernel
theorem dX2_takeRule_84 : decode cX2_takeRule 84 = .ok (.aload_n 1, 1) := by decide +kernel
theorem dX2_takeRule_85 : decode cX2_takeRule 85 = .ok (.getfield 120, 3) := by decide +kernel
theorem dX2_takeRule_88 : decode cX2_takeRule 88 = .ok (.iconst (-1), 1) := by decide +kernel
theorem dX2_takeRule_89 : decode cX2_takeRule 89 = .ok (.if_icmp .eq 7, 3) := by decide +kernel
theorem dX2_takeRule_92 : decode cX2_takeRule 92 = .ok (.iconst 1, 1) := by decide +kernel
theorem dX2_takeRule_93 : decode cX2_takeRule 93 = .ok (.goto 4, 3) := by decide +kernel
theorem dX2_takeRule_96 : decode cX2_takeRule 96 = .ok (.iconst 0, 1) := by decide +kernel
theorem dX2_takeRule_97 : decode cX2_takeRule 97 = .ok (.ireturn, 1) := by decide +kernel
theorem dX2_takeRule_98 : decode cX2_takeRule 98 = .ok (.aload_n 1, 1) := by decide +kernel
theorem dX2_takeRule_99 : decode cX2_takeRule 99 = .ok (.aload_n 0, 1) := by decide +kernel
theorem dX2_takeRule_100 : decode cX2_takeRule 100 = .ok (.getfield 9, 3) := by decide +kernel
theorem dX2_takeRule_103 : decode cX2_takeRule 103 = .ok (.iconst 1, 1) := by decide +kernel
theorem dX2_takeRule_104 : decode cX2_takeRule 104 = .ok (.iconst 5, 1) := by decide +kernel
theorem dX2_takeRule_105 : decode cX2_takeRule 105 = .ok (.aload_n 0, 1) := by decide +kernel
theorem dX2_takeRule_106 : decode cX2_takeRule 106 = .ok (.getfield 9, 3) := by decide +kernel
theorem dX2_takeRule_109 : decode cX2_takeRule 109 = .ok (.getfield 36, 3) := by decide +kernel
theorem dX2_takeRule_112 : decode cX2_takeRule 112 = .ok (.invokevirtual 107, 3) := by decide +kernel
theorem dX2_takeRule_115 : decode cX2_takeRule 115 = .ok (.putfield 123, 3) := by decide +kernel
theorem dX2_takeRule_118 : decode cX2_takeRule 118 = .ok (.aload_n 1, 1) := by decide +kernel
theorem dX2_takeRule_119 : decode cX2_takeRule 119 = .ok (.getfield 123, 3) := by decide +kernel
theorem dX2_takeRule_122 : decode cX2_takeRule 122 = .ok (.iconst (-1), 1) := by decide +kernel
theorem dX2_takeRule_123 : decode cX2_takeRule 123 = .ok (.if_icmp .eq 7, 3) := by decide +kernel
theorem dX2_takeRule_126 : decode cX2_takeRule 126 = .ok (.iconst 1, 1) := by decide +kernel
theorem dX2_takeRule_127 : decode cX2_takeRule 127 = .ok (.goto 4, 3) := by decide +kernel
theorem dX2_takeRule_130 : decode cX2_takeRule 130 = .ok (.iconst 0, 1) := by decide +kernel
theorem dX2_takeRule_131 : decode cX2_takeRule 131 = .ok (.ireturn, 1) := by decide +kernel
theorem dX2_takeRule_132 : decode cX2_takeRule 132 = .ok (.aload_n 1, 1) := by decide +kernel
theorem dX2_takeRule_133 : decode cX2_takeRule 133 = .ok (.aload_n 0, 1) := by decide +kernel
theorem dX2_takeRule_134 : decode cX2_takeRule 134 = .ok (.getfield 9, 3) := by decide +kernel
theorem dX2_takeRule_137 : decode cX2_takeRule 137 = .ok (.iconst 1, 1) := by decide +kernel
theorem dX2_takeRule_138 : decode cX2_takeRule 138 = .ok (.bipush 9, 2) := by decide +kernel
theorem dX2_takeRule_140 : decode cX2_takeRule 140 = .ok (.aload_n 0, 1) := by decide +kernel
theorem dX2_takeRule_141 : decode cX2_takeRule 141 = .ok (.getfield 9, 3) := by decide +kernel
theorem dX2_takeRule_144 : decode cX2_takeRule 144 = .ok (.getfield 36, 3) := by decide +kernel
theorem dX2_takeRule_147 : decode cX2_takeRule 147 = .ok (.invokevirtual 107, 3) := by decide +kernel
theorem dX2_takeRule_150 : decode cX2_takeRule 150 = .ok (.putfield 126, 3) := by decide +kernel
theorem dX2_takeRule_153 : decode cX2_takeRule 153 = .ok (.aload_n 1, 1) := by decide +kernel
theorem dX2_takeRule_154 : decode cX2_takeRule 154 = .ok (.getfield 126, 3) := by decide +kernel
theorem dX2_takeRule_157 : decode cX2_takeRule 157 = .ok (.iconst (-1), 1) := by decide +kernel
theorem dX2_takeRule_158 : decode cX2_takeRule 158 = .ok (.if_icmp .eq 7, 3) := by decide +kernel
theorem dX2_takeRule_161 : decode cX2_takeRule 161 = .ok (.iconst 1, 1) := by decide +kernel
theorem dX2_takeRule_162 : decode cX2_takeRule 162 = .ok (.goto 4, 3) := by decide +kernel
theorem dX2_takeRule_165 : decode cX2_takeRule 165 = .ok (.iconst 0, 1) := by decide +kernel
theorem dX2_takeRule_166 : decode cX2_takeRule 166 = .ok (.ireturn, 1) := by decide +kernel
theorem dX2_takeCell_0 : decode cX2_takeCell 0 = .ok (.aload_n 0, 1) := by decide +kernel
theorem dX2_takeCell_1 : decode cX2_takeCell 1 = .ok (.getfield 9, 3) := by decide +kernel
theorem dX2_takeCell_4 : decode cX2_takeCell 4 = .ok (.iconst 0, 1) := by decide +kernel
theorem dX2_takeCell_5 : decode cX2_takeCell 5 = .ok (.aload_n 1, 1) := by decide +kernel
theorem dX2_takeCell_6 : decode cX2_takeCell 6 = .ok (.getfield 111, 3) := by decide +kernel
theorem dX2_takeCell_9 : decode cX2_takeCell 9 = .ok (.iconst 1, 1) := by decide +kernel
theorem dX2_takeCell_10 : decode cX2_takeCell 10 = .ok (.isub, 1) := by decide +kernel
theorem dX2_takeCell_11 : decode cX2_takeCell 11 = .ok (.aload_n 0, 1) := by decide +kernel
theorem dX2_takeCell_12 : decode cX2_takeCell 12 = .ok (.getfield 9, 3) := by decide +kernel
theorem dX2_takeCell_15 : decode cX2_takeCell 15 = .ok (.getfield 36, 3) := by decide +kernel
theorem dX2_takeCell_18 : decode cX2_takeCell 18 = .ok (.invokevirtual 107, 3) := by decide +kernel
theorem dX2_takeCell_21 : decode cX2_takeCell 21 = .ok (.istore_n 3, 1) := by decide +kernel
theorem dX2_takeCell_22 : decode cX2_takeCell 22 = .ok (.iload_n 3, 1) := by decide +kernel
theorem dX2_takeCell_23 : decode cX2_takeCell 23 = .ok (.iconst (-1), 1) := by decide +kernel
theorem dX2_takeCell_24 : decode cX2_takeCell 24 = .ok (.if_icmp .ne 5, 3) := by decide +kernel
theorem dX2_takeCell_27 : decode cX2_takeCell 27 = .ok (.iconst (-1), 1) := by decide +kernel
theorem dX2_takeCell_28 : decode cX2_takeCell 28 = .ok (.ireturn, 1) := by decide +kernel
theorem dX2_takeCell_29 : decode cX2_takeCell 29 = .ok (.aload_n 0, 1) := by decide +kernel
theorem dX2_takeCell_30 : decode cX2_takeCell 30 = .ok (.getfield 9, 3) := by decide +kernel
theorem dX2_takeCell_33 : decode cX2_takeCell 33 = .ok (.getfield 36, 3) := by decide +kernel
theorem dX2_takeCell_36 : decode cX2_takeCell 36 = .ok (.istore 4, 2) := by decide +kernel
theorem dX2_takeCell_38 : decode cX2_takeCell 38 = .ok (.aload_n 0, 1) := by decide +kernel
theorem dX2_takeCell_39 : decode cX2_takeCell 39 = .ok (.getfield 9, 3) := by decide +kernel
theorem dX2_takeCell_42 : decode cX2_takeCell 42 = .ok (.iconst 0, 1) := by decide +kernel
theorem dX2_takeCell_43 : decode cX2_takeCell 43 = .ok (.aload_n 1, 1) := by decide +kernel
theorem dX2_takeCell_44 : decode cX2_takeCell 44 = .ok (.getfield 114, 3) := by decide +kernel
theorem dX2_takeCell_47 : decode cX2_takeCell 47 = .ok (.iconst 1, 1) := by decide +kernel
theorem dX2_takeCell_48 : decode cX2_takeCell 48 = .ok (.isub, 1) := by decide +kernel
theorem dX2_takeCell_49 : decode cX2_takeCell 49 = .ok (.iload 4, 2) := by decide +kernel
theorem dX2_takeCell_51 : decode cX2_takeCell 51 = .ok (.invokevirtual 107, 3) := by decide +kernel
theorem dX2_takeCell_54 : decode cX2_takeCell 54 = .ok (.istore 5, 2) := by decide +kernel
theorem dX2_takeCell_56 : decode cX2_takeCell 56 = .ok (.iload 5, 2) := by decide +kernel
theorem dX2_takeCell_58 : decode cX2_takeCell 58 = .ok (.iconst (-1), 1) := by decide +kernel
theorem dX2_takeCell_59 : decode cX2_takeCell 59 = .ok (.if_icmp .ne 5, 3) := by decide +kernel
theorem dX2_takeCell_62 : decode cX2_takeCell 62 = .ok (.iconst (-1), 1) := by decide +kernel
theorem dX2_takeCell_63 : decode cX2_takeCell 63 = .ok (.ireturn, 1) := by decide +kernel
theorem dX2_takeCell_64 : decode cX2_takeCell 64 = .ok (.iload 5, 2) := by decide +kernel
theorem dX2_takeCell_66 : decode cX2_takeCell 66 = .ok (.aload_n 1, 1) := by decide +kernel
theorem dX2_takeCell_67 : decode cX2_takeCell 67 = .ok (.getfield 111, 3) := by decide +kernel
theorem dX2_takeCell_70 : decode cX2_takeCell 70 = .ok (.imul, 1) := by decide +kernel
theorem dX2_takeCell_71 : decode cX2_takeCell 71 = .ok (.iload_n 3, 1) := by decide +kernel
theorem dX2_takeCell_72 : decode cX2_takeCell 72 = .ok (.iadd, 1) := by decide +kernel
theorem dX2_takeCell_73 : decode cX2_takeCell 73 = .ok (.istore 6, 2) := by decide +kernel
theorem dX2_takeCell_75 : decode cX2_takeCell 75 = .ok (.aload_n 1, 1) := by decide +kernel
theorem dX2_takeCell_76 : decode cX2_takeCell 76 = .ok (.iload_n 2, 1) := by decide +kernel
theorem dX2_takeCell_77 : decode cX2_takeCell 77 = .ok (.iload 6, 2) := by decide +kernel
theorem dX2_takeCell_79 : decode cX2_takeCell 79 = .ok (.invokestatic 129, 3) := by decide +kernel
theorem dX2_takeCell_82 : decode cX2_takeCell 82 = .ok (.ifCond .ne 16, 3) := by decide +kernel
theorem dX2_takeCell_85 : decode cX2_takeCell 85 = .ok (.aload_n 0, 1) := by decide +kernel
theorem dX2_takeCell_86 : decode cX2_takeCell 86 = .ok (.getfield 9, 3) := by decide +kernel
theorem dX2_takeCell_89 : decode cX2_takeCell 89 = .ok (.iconst 2, 1) := by decide +kernel
theorem dX2_takeCell_90 : decode cX2_takeCell 90 = .ok (.iload 4, 2) := by decide +kernel
theorem dX2_takeCell_92 : decode cX2_takeCell 92 = .ok (.invokevirtual 39, 3) := by decide +kernel
theorem dX2_takeCell_95 : decode cX2_takeCell 95 = .ok (.pop, 1) := by decide +kernel
theorem dX2_takeCell_96 : decode cX2_takeCell 96 = .ok (.iconst (-1), 1) := by decide +kernel
theorem dX2_takeCell_97 : decode cX2_takeCell 97 = .ok (.ireturn, 1) := by decide +kernel
theorem dX2_takeCell_98 : decode cX2_takeCell 98 = .ok (.iload 6, 2) := by decide +kernel
theorem dX2_takeCell_100 : decode cX2_takeCell 100 = .ok (.ireturn, 1) := by decide +kernel
theorem dX2_mayStand_0 : decode cX2_mayStand 0 = .ok (.iload_n 1, 1) := by decide +kernel
theorem dX2_mayStand_1 : decode cX2_mayStand 1 = .ok (.lookupswitch 73 #[(1, 27), (2, 50)], 27) := by decide +kernel
theorem dX2_mayStand_28 : decode cX2_mayStand 28 = .ok (.aload_n 0, 1) := by decide +kernel
theorem dX2_mayStand_29 : decode cX2_mayStand 29 = .ok (.iload_n 2, 1) := by decide +kernel
theorem dX2_mayStand_30 : decode cX2_mayStand 30 = .ok (.invokevirtual 133, 3) := by decide +kernel
theorem dX2_mayStand_33 : decode cX2_mayStand 33 = .ok (.iconst (-1), 1) := by decide +kernel
theorem dX2_mayStand_34 : decode cX2_mayStand 34 = .ok (.if_icmp .ne 15, 3) := by decide +kernel
theorem dX2_mayStand_37 : decode cX2_mayStand 37 = .ok (.aload_n 0, 1) := by decide +kernel
theorem dX2_mayStand_38 : decode cX2_mayStand 38 = .ok (.iload_n 2, 1) := by decide +kernel
theorem dX2_mayStand_39 : decode cX2_mayStand 39 = .ok (.invokevirtual 137, 3) := by decide +kernel
theorem dX2_mayStand_42 : decode cX2_mayStand 42 = .ok (.ifCond .ne 7, 3) := by decide +kernel
theorem dX2_mayStand_45 : decode cX2_mayStand 45 = .ok (.iconst 1, 1) := by decide +kernel
theorem dX2_mayStand_46 : decode cX2_mayStand 46 = .ok (.goto 4, 3) := by decide +kernel
theorem dX2_mayStand_49 : decode cX2_mayStand 49 = .ok (.iconst 0, 1) := by decide +kernel
theorem dX2_mayStand_50 : decode cX2_mayStand 50 = .ok (.ireturn, 1) := by decide +kernel
theorem dX2_mayStand_51 : decode cX2_mayStand 51 = .ok (.aload_n 0, 1) := by decide +kernel
theorem dX2_mayStand_52 : decode cX2_mayStand 52 = .ok (.iload_n 2, 1) := by decide +kernel
theorem dX2_mayStand_53 : decode cX2_mayStand 53 = .ok (.invokevirtual 133, 3) := by decide +kernel
theorem dX2_mayStand_56 : decode cX2_mayStand 56 = .ok (.iconst (-1), 1) := by decide +kernel
theorem dX2_mayStand_57 : decode cX2_mayStand 57 = .ok (.if_icmp .ne 15, 3) := by decide +kernel
theorem dX2_mayStand_60 : decode cX2_mayStand 60 = .ok (.aload_n 0, 1) := by decide +kernel
theorem dX2_mayStand_61 : decode cX2_mayStand 61 = .ok (.iload_n 2, 1) := by decide +kernel
theorem dX2_mayStand_62 : decode cX2_mayStand 62 = .ok (.invokevirtual 141, 3) := by decide +kernel
theorem dX2_mayStand_65 : decode cX2_mayStand 65 = .ok (.ifCond .eq 7, 3) := by decide +kernel
theorem dX2_mayStand_68 : decode cX2_mayStand 68 = .ok (.iconst 1, 1) := by decide +kernel
theorem dX2_mayStand_69 : decode cX2_mayStand 69 = .ok (.goto 4, 3) := by decide +kernel
theorem dX2_mayStand_72 : decode cX2_mayStand 72 = .ok (.iconst 0, 1) := by decide +kernel
theorem dX2_mayStand_73 : decode cX2_mayStand 73 = .ok (.ireturn, 1) := by decide +kernel
theorem dX2_mayStand_74 : decode cX2_mayStand 74 = .ok (.aload_n 0, 1) := by decide +kernel
theorem dX2_mayStand_75 : decode cX2_mayStand 75 = .ok (.iload_n 2, 1) := by decide +kernel
theorem dX2_mayStand_76 : decode cX2_mayStand 76 = .ok (.invokevirtual 141, 3) := by decide +kernel
theorem dX2_mayStand_79 : decode cX2_mayStand 79 = .ok (.ireturn, 1) := by decide +kernel
theorem dX2_takeWall_0 : decode cX2_takeWall 0 = .ok (.aload_n 0, 1) := by decide +kernel
theorem dX2_takeWall_1 : decode cX2_takeWall 1 = .ok (.aload_n 1, 1) := by decide +kernel
theorem dX2_takeWall_2 : decode cX2_takeWall 2 = .ok (.iconst 1, 1) := by decide +kernel
theorem dX2_takeWall_3 : decode cX2_takeWall 3 = .ok (.invokevirtual 144, 3) := by decide +kernel
theorem dX2_takeWall_6 : decode cX2_takeWall 6 = .ok (.istore_n 2, 1) := by decide +kernel
theorem dX2_takeWall_7 : decode cX2_takeWall 7 = .ok (.iload_n 2, 1) := by decide +kernel
theorem dX2_takeWall_8 : decode cX2_takeWall 8 = .ok (.iconst (-1), 1) := by decide +kernel
theorem dX2_takeWall_9 : decode cX2_takeWall 9 = .ok (.if_icmp .ne 5, 3) := by decide +kernel
theorem dX2_takeWall_12 : decode cX2_takeWall 12 = .ok (.iconst 0, 1) := by decide +kernel
theorem dX2_takeWall_13 : decode cX2_takeWall 13 = .ok (.ireturn, 1) := by decide +kernel
theorem dX2_takeWall_14 : decode cX2_takeWall 14 = .ok (.aload_n 1, 1) := by decide +kernel
theorem dX2_takeWall_15 : decode cX2_takeWall 15 = .ok (.getfield 148, 3) := by decide +kernel
theorem dX2_takeWall_18 : decode cX2_takeWall 18 = .ok (.iload_n 2, 1) := by decide +kernel
theorem dX2_takeWall_19 : decode cX2_takeWall 19 = .ok (.iconst 1, 1) := by decide +kernel
theorem dX2_takeWall_20 : decode cX2_takeWall 20 = .ok (.invokestatic 152, 3) := by decide +kernel
theorem dX2_takeWall_23 : decode cX2_takeWall 23 = .ok (.aload_n 1, 1) := by decide +kernel
theorem dX2_takeWall_24 : decode cX2_takeWall 24 = .ok (.dup, 1) := by decide +kernel
theorem dX2_takeWall_25 : decode cX2_takeWall 25 = .ok (.getfield 85, 3) := by decide +kernel
theorem dX2_takeWall_28 : decode cX2_takeWall 28 = .ok (.iconst 1, 1) := by decide +kernel
theorem dX2_takeWall_29 : decode cX2_takeWall 29 = .ok (.iadd, 1) := by decide +kernel
theorem dX2_takeWall_30 : decode cX2_takeWall 30 = .ok (.putfield 85, 3) := by decide +kernel
theorem dX2_takeWall_33 : decode cX2_takeWall 33 = .ok (.iconst 1, 1) := by decide +kernel
theorem dX2_takeWall_34 : decode cX2_takeWall 34 = .ok (.ireturn, 1) := by decide +kernel
theorem dX2_takeDoor_0 : decode cX2_takeDoor 0 = .ok (.aload_n 0, 1) := by decide +kernel
theorem dX2_takeDoor_1 : decode cX2_takeDoor 1 = .ok (.aload_n 1, 1) := by decide +kernel
theorem dX2_takeDoor_2 : decode cX2_takeDoor 2 = .ok (.iconst 2, 1) := by decide +kernel
theorem dX2_takeDoor_3 : decode cX2_takeDoor 3 = .ok (.invokevirtual 144, 3) := by decide +kernel
theorem dX2_takeDoor_6 : decode cX2_takeDoor 6 = .ok (.istore_n 2, 1) := by decide +kernel
theorem dX2_takeDoor_7 : decode cX2_takeDoor 7 = .ok (.iload_n 2, 1) := by decide +kernel
theorem dX2_takeDoor_8 : decode cX2_takeDoor 8 = .ok (.iconst (-1), 1) := by decide +kernel
theorem dX2_takeDoor_9 : decode cX2_takeDoor 9 = .ok (.if_icmp .ne 5, 3) := by decide +kernel
theorem dX2_takeDoor_12 : decode cX2_takeDoor 12 = .ok (.iconst 0, 1) := by decide +kernel
theorem dX2_takeDoor_13 : decode cX2_takeDoor 13 = .ok (.ireturn, 1) := by decide +kernel
theorem dX2_takeDoor_14 : decode cX2_takeDoor 14 = .ok (.aload_n 1, 1) := by decide +kernel
theorem dX2_takeDoor_15 : decode cX2_takeDoor 15 = .ok (.getfield 156, 3) := by decide +kernel
theorem dX2_takeDoor_18 : decode cX2_takeDoor 18 = .ok (.aload_n 1, 1) := by decide +kernel
theorem dX2_takeDoor_19 : decode cX2_takeDoor 19 = .ok (.getfield 88, 3) := by decide +kernel
theorem dX2_takeDoor_22 : decode cX2_takeDoor 22 = .ok (.iload_n 2, 1) := by decide +kernel
theorem dX2_takeDoor_23 : decode cX2_takeDoor 23 = .ok (.invokestatic 152, 3) := by decide +kernel
theorem dX2_takeDoor_26 : decode cX2_takeDoor 26 = .ok (.aload_n 1, 1) := by decide +kernel
theorem dX2_takeDoor_27 : decode cX2_takeDoor 27 = .ok (.getfield 159, 3) := by decide +kernel
theorem dX2_takeDoor_30 : decode cX2_takeDoor 30 = .ok (.aload_n 1, 1) := by decide +kernel
theorem dX2_takeDoor_31 : decode cX2_takeDoor 31 = .ok (.getfield 88, 3) := by decide +kernel
theorem dX2_takeDoor_34 : decode cX2_takeDoor 34 = .ok (.iconst 0, 1) := by decide +kernel
theorem dX2_takeDoor_35 : decode cX2_takeDoor 35 = .ok (.invokestatic 152, 3) := by decide +kernel
theorem dX2_takeDoor_38 : decode cX2_takeDoor 38 = .ok (.aload_n 1, 1) := by decide +kernel
theorem dX2_takeDoor_39 : decode cX2_takeDoor 39 = .ok (.dup, 1) := by decide +kernel
theorem dX2_takeDoor_40 : decode cX2_takeDoor 40 = .ok (.getfield 88, 3) := by decide +kernel
theorem dX2_takeDoor_43 : decode cX2_takeDoor 43 = .ok (.iconst 1, 1) := by decide +kernel
theorem dX2_takeDoor_44 : decode cX2_takeDoor 44 = .ok (.iadd, 1) := by decide +kernel
theorem dX2_takeDoor_45 : decode cX2_takeDoor 45 = .ok (.putfield 88, 3) := by decide +kernel
theorem dX2_takeDoor_48 : decode cX2_takeDoor 48 = .ok (.iconst 1, 1) := by decide +kernel
theorem dX2_takeDoor_49 : decode cX2_takeDoor 49 = .ok (.ireturn, 1) := by decide +kernel
theorem dX2_takeName_0 : decode cX2_takeName 0 = .ok (.aload_n 0, 1) := by decide +kernel
theorem dX2_takeName_1 : decode cX2_takeName 1 = .ok (.getfield 9, 3) := by decide +kernel
theorem dX2_takeName_4 : decode cX2_takeName 4 = .ok (.getfield 29, 3) := by decide +kernel
theorem dX2_takeName_7 : decode cX2_takeName 7 = .ok (.iconst 1, 1) := by decide +kernel
theorem dX2_takeName_8 : decode cX2_takeName 8 = .ok (.if_icmp .ne 16, 3) := by decide +kernel
theorem dX2_takeName_11 : decode cX2_takeName 11 = .ok (.aload_n 0, 1) := by decide +kernel
theorem dX2_takeName_12 : decode cX2_takeName 12 = .ok (.getfield 9, 3) := by decide +kernel
theorem dX2_takeName_15 : decode cX2_takeName 15 = .ok (.ldc 50, 2) := by decide +kernel
theorem dX2_takeName_17 : decode cX2_takeName 17 = .ok (.invokevirtual 52, 3) := by decide +kernel
theorem dX2_takeName_20 : decode cX2_takeName 20 = .ok (.iconst (-1), 1) := by decide +kernel
theorem dX2_takeName_21 : decode cX2_takeName 21 = .ok (.if_icmp .eq 13, 3) := by decide +kernel
theorem dX2_takeName_24 : decode cX2_takeName 24 = .ok (.aload_n 0, 1) := by decide +kernel
theorem dX2_takeName_25 : decode cX2_takeName 25 = .ok (.getfield 9, 3) := by decide +kernel
theorem dX2_takeName_28 : decode cX2_takeName 28 = .ok (.invokevirtual 43, 3) := by decide +kernel
theorem dX2_takeName_31 : decode cX2_takeName 31 = .ok (.pop, 1) := by decide +kernel
theorem dX2_takeName_32 : decode cX2_takeName 32 = .ok (.iconst (-1), 1) := by decide +kernel
theorem dX2_takeName_33 : decode cX2_takeName 33 = .ok (.ireturn, 1) := by decide +kernel
theorem dX2_takeName_34 : decode cX2_takeName 34 = .ok (.aload_n 0, 1) := by decide +kernel
theorem dX2_takeName_35 : decode cX2_takeName 35 = .ok (.getfield 9, 3) := by decide +kernel
theorem dX2_takeName_38 : decode cX2_takeName 38 = .ok (.invokevirtual 162, 3) := by decide +kernel
theorem dX2_takeName_41 : decode cX2_takeName 41 = .ok (.bipush 6, 2) := by decide +kernel
theorem dX2_takeName_43 : decode cX2_takeName 43 = .ok (.if_icmp .le 24, 3) := by decide +kernel
theorem dX2_takeName_46 : decode cX2_takeName 46 = .ok (.aload_n 0, 1) := by decide +kernel
theorem dX2_takeName_47 : decode cX2_takeName 47 = .ok (.getfield 9, 3) := by decide +kernel
theorem dX2_takeName_50 : decode cX2_takeName 50 = .ok (.iconst 1, 1) := by decide +kernel
theorem dX2_takeName_51 : decode cX2_takeName 51 = .ok (.aload_n 0, 1) := by decide +kernel
theorem dX2_takeName_52 : decode cX2_takeName 52 = .ok (.getfield 9, 3) := by decide +kernel
theorem dX2_takeName_55 : decode cX2_takeName 55 = .ok (.getfield 36, 3) := by decide +kernel
theorem dX2_takeName_58 : decode cX2_takeName 58 = .ok (.bipush 6, 2) := by decide +kernel
theorem dX2_takeName_60 : decode cX2_takeName 60 = .ok (.iadd, 1) := by decide +kernel
theorem dX2_takeName_61 : decode cX2_takeName 61 = .ok (.invokevirtual 39, 3) := by decide +kernel
theorem dX2_takeName_64 : decode cX2_takeName 64 = .ok (.pop, 1) := by decide +kernel
theorem dX2_takeName_65 : decode cX2_takeName 65 = .ok (.iconst (-1), 1) := by decide +kernel
theorem dX2_takeName_66 : decode cX2_takeName 66 = .ok (.ireturn, 1) := by decide +kernel
theorem dX2_takeName_67 : decode cX2_takeName 67 = .ok (.iconst 0, 1) := by decide +kernel
theorem dX2_takeName_68 : decode cX2_takeName 68 = .ok (.istore_n 2, 1) := by decide +kernel
theorem dX2_takeName_69 : decode cX2_takeName 69 = .ok (.iconst 0, 1) := by decide +kernel
theorem dX2_takeName_70 : decode cX2_takeName 70 = .ok (.istore_n 3, 1) := by decide +kernel
theorem dX2_takeName_71 : decode cX2_takeName 71 = .ok (.iload_n 3, 1) := by decide +kernel
theorem dX2_takeName_72 : decode cX2_takeName 72 = .ok (.bipush 6, 2) := by decide +kernel
theorem dX2_takeName_74 : decode cX2_takeName 74 = .ok (.if_icmp .ge 43, 3) := by decide +kernel
theorem dX2_takeName_77 : decode cX2_takeName 77 = .ok (.bipush 32, 2) := by decide +kernel
theorem dX2_takeName_79 : decode cX2_takeName 79 = .ok (.iload_n 2, 1) := by decide +kernel
theorem dX2_takeName_80 : decode cX2_takeName 80 = .ok (.imul, 1) := by decide +kernel
theorem dX2_takeName_81 : decode cX2_takeName 81 = .ok (.iload_n 3, 1) := by decide +kernel
theorem dX2_takeName_82 : decode cX2_takeName 82 = .ok (.aload_n 0, 1) := by decide +kernel
theorem dX2_takeName_83 : decode cX2_takeName 83 = .ok (.getfield 9, 3) := by decide +kernel
theorem dX2_takeName_86 : decode cX2_takeName 86 = .ok (.invokevirtual 162, 3) := by decide +kernel
theorem dX2_takeName_89 : decode cX2_takeName 89 = .ok (.if_icmp .ge 19, 3) := by decide +kernel
theorem dX2_takeName_92 : decode cX2_takeName 92 = .ok (.aload_n 0, 1) := by decide +kernel
theorem dX2_takeName_93 : decode cX2_takeName 93 = .ok (.getfield 9, 3) := by decide +kernel
theorem dX2_takeName_96 : decode cX2_takeName 96 = .ok (.iload_n 3, 1) := by decide +kernel
theorem dX2_takeName_97 : decode cX2_takeName 97 = .ok (.invokevirtual 166, 3) := by decide +kernel
theorem dX2_takeName_100 : decode cX2_takeName 100 = .ok (.bipush 97, 2) := by decide +kernel
theorem dX2_takeName_102 : decode cX2_takeName 102 = .ok (.isub, 1) := by decide +kernel
theorem dX2_takeName_103 : decode cX2_takeName 103 = .ok (.iconst 1, 1) := by decide +kernel
theorem dX2_takeName_104 : decode cX2_takeName 104 = .ok (.iadd, 1) := by decide +kernel
theorem dX2_takeName_105 : decode cX2_takeName 105 = .ok (.goto 4, 3) := by decide +kernel
theorem dX2_takeName_108 : decode cX2_takeName 108 = .ok (.iconst 0, 1) := by decide +kernel
theorem dX2_takeName_109 : decode cX2_takeName 109 = .ok (.iadd, 1) := by decide +kernel
theorem dX2_takeName_110 : decode cX2_takeName 110 = .ok (.istore_n 2, 1) := by decide +kernel
theorem dX2_takeName_111 : decode cX2_takeName 111 = .ok (.iinc 3 1, 3) := by decide +kernel
theorem dX2_takeName_114 : decode cX2_takeName 114 = .ok (.goto (-43), 3) := by decide +kernel
theorem dX2_takeName_117 : decode cX2_takeName 117 = .ok (.aload_n 1, 1) := by decide +kernel
theorem dX2_takeName_118 : decode cX2_takeName 118 = .ok (.iload_n 2, 1) := by decide +kernel
theorem dX2_takeName_119 : decode cX2_takeName 119 = .ok (.invokevirtual 169, 3) := by decide +kernel
theorem dX2_takeName_122 : decode cX2_takeName 122 = .ok (.ifCond .eq 21, 3) := by decide +kernel
theorem dX2_takeName_125 : decode cX2_takeName 125 = .ok (.aload_n 0, 1) := by decide +kernel
theorem dX2_takeName_126 : decode cX2_takeName 126 = .ok (.getfield 9, 3) := by decide +kernel
theorem dX2_takeName_129 : decode cX2_takeName 129 = .ok (.iconst 3, 1) := by decide +kernel
theorem dX2_takeName_130 : decode cX2_takeName 130 = .ok (.aload_n 0, 1) := by decide +kernel
theorem dX2_takeName_131 : decode cX2_takeName 131 = .ok (.getfield 9, 3) := by decide +kernel
theorem dX2_takeName_134 : decode cX2_takeName 134 = .ok (.getfield 36, 3) := by decide +kernel
theorem dX2_takeName_137 : decode cX2_takeName 137 = .ok (.invokevirtual 39, 3) := by decide +kernel
theorem dX2_takeName_140 : decode cX2_takeName 140 = .ok (.pop, 1) := by decide +kernel
theorem dX2_takeName_141 : decode cX2_takeName 141 = .ok (.iconst (-1), 1) := by decide +kernel
theorem dX2_takeName_142 : decode cX2_takeName 142 = .ok (.ireturn, 1) := by decide +kernel
theorem dX2_takeName_143 : decode cX2_takeName 143 = .ok (.aload_n 0, 1) := by decide +kernel
theorem dX2_takeName_144 : decode cX2_takeName 144 = .ok (.getfield 9, 3) := by decide +kernel
theorem dX2_takeName_147 : decode cX2_takeName 147 = .ok (.invokevirtual 60, 3) := by decide +kernel
theorem dX2_takeName_150 : decode cX2_takeName 150 = .ok (.iload_n 2, 1) := by decide +kernel
theorem dX2_takeName_151 : decode cX2_takeName 151 = .ok (.ireturn, 1) := by decide +kernel
theorem dX2_takePerson_0 : decode cX2_takePerson 0 = .ok (.aload_n 1, 1) := by decide +kernel
theorem dX2_takePerson_1 : decode cX2_takePerson 1 = .ok (.getfield 91, 3) := by decide +kernel
theorem dX2_takePerson_4 : decode cX2_takePerson 4 = .ok (.astore_n 2, 1) := by decide +kernel
theorem dX2_takePerson_5 : decode cX2_takePerson 5 = .ok (.aload_n 2, 1) := by decide +kernel
theorem dX2_takePerson_6 : decode cX2_takePerson 6 = .ok (.getfield 95, 3) := by decide +kernel
theorem dX2_takePerson_9 : decode cX2_takePerson 9 = .ok (.istore_n 3, 1) := by decide +kernel
theorem dX2_takePerson_10 : decode cX2_takePerson 10 = .ok (.aload_n 0, 1) := by decide +kernel
theorem dX2_takePerson_11 : decode cX2_takePerson 11 = .ok (.aload_n 1, 1) := by decide +kernel
theorem dX2_takePerson_12 : decode cX2_takePerson 12 = .ok (.invokevirtual 172, 3) := by decide +kernel
theorem dX2_takePerson_15 : decode cX2_takePerson 15 = .ok (.istore 4, 2) := by decide +kernel
theorem dX2_takePerson_17 : decode cX2_takePerson 17 = .ok (.iload 4, 2) := by decide +kernel
theorem dX2_takePerson_19 : decode cX2_takePerson 19 = .ok (.iconst (-1), 1) := by decide +kernel
theorem dX2_takePerson_20 : decode cX2_takePerson 20 = .ok (.if_icmp .eq 15, 3) := by decide +kernel
theorem dX2_takePerson_23 : decode cX2_takePerson 23 = .ok (.aload_n 0, 1) := by decide +kernel
theorem dX2_takePerson_24 : decode cX2_takePerson 24 = .ok (.getfield 9, 3) := by decide +kernel
theorem dX2_takePerson_27 : decode cX2_takePerson 27 = .ok (.ldc 176, 2) := by decide +kernel
theorem dX2_takePerson_29 : decode cX2_takePerson 29 = .ok (.invokevirtual 103, 3) := by decide +kernel
theorem dX2_takePerson_32 : decode cX2_takePerson 32 = .ok (.ifCond .ne 5, 3) := by decide +kernel
theorem dX2_takePerson_35 : decode cX2_takePerson 35 = .ok (.iconst 0, 1) := by decide +kernel
theorem dX2_takePerson_36 : decode cX2_takePerson 36 = .ok (.ireturn, 1) := by decide +kernel
theorem dX2_takePerson_37 : decode cX2_takePerson 37 = .ok (.aload_n 0, 1) := by decide +kernel
theorem dX2_takePerson_38 : decode cX2_takePerson 38 = .ok (.aload_n 1, 1) := by decide +kernel
theorem dX2_takePerson_39 : decode cX2_takePerson 39 = .ok (.iconst 3, 1) := by decide +kernel
theorem dX2_takePerson_40 : decode cX2_takePerson 40 = .ok (.invokevirtual 144, 3) := by decide +kernel
theorem dX2_takePerson_43 : decode cX2_takePerson 43 = .ok (.istore 5, 2) := by decide +kernel
theorem dX2_takePerson_45 : decode cX2_takePerson 45 = .ok (.iload 5, 2) := by decide +kernel
theorem dX2_takePerson_47 : decode cX2_takePerson 47 = .ok (.iconst (-1), 1) := by decide +kernel
theorem dX2_takePerson_48 : decode cX2_takePerson 48 = .ok (.if_icmp .eq 12, 3) := by decide +kernel
theorem dX2_takePerson_51 : decode cX2_takePerson 51 = .ok (.aload_n 0, 1) := by decide +kernel
theorem dX2_takePerson_52 : decode cX2_takePerson 52 = .ok (.aload_n 2, 1) := by decide +kernel
theorem dX2_takePerson_53 : decode cX2_takePerson 53 = .ok (.iload_n 3, 1) := by decide +kernel
theorem dX2_takePerson_54 : decode cX2_takePerson 54 = .ok (.invokevirtual 178, 3) := by decide +kernel
theorem dX2_takePerson_57 : decode cX2_takePerson 57 = .ok (.ifCond .ne 5, 3) := by decide +kernel
theorem dX2_takePerson_60 : decode cX2_takePerson 60 = .ok (.iconst 0, 1) := by decide +kernel
theorem dX2_takePerson_61 : decode cX2_takePerson 61 = .ok (.ireturn, 1) := by decide +kernel
theorem dX2_takePerson_62 : decode cX2_takePerson 62 = .ok (.aload_n 0, 1) := by decide +kernel
theorem dX2_takePerson_63 : decode cX2_takePerson 63 = .ok (.ldc 182, 2) := by decide +kernel
theorem dX2_takePerson_65 : decode cX2_takePerson 65 = .ok (.iconst 0, 1) := by decide +kernel
theorem dX2_takePerson_66 : decode cX2_takePerson 66 = .ok (.bipush 9, 2) := by decide +kernel
theorem dX2_takePerson_68 : decode cX2_takePerson 68 = .ok (.invokevirtual 184, 3) := by decide +kernel
theorem dX2_takePerson_71 : decode cX2_takePerson 71 = .ok (.istore 6, 2) := by decide +kernel
theorem dX2_takePerson_73 : decode cX2_takePerson 73 = .ok (.iload 6, 2) := by decide +kernel
theorem dX2_takePerson_75 : decode cX2_takePerson 75 = .ok (.iconst (-1), 1) := by decide +kernel
theorem dX2_takePerson_76 : decode cX2_takePerson 76 = .ok (.if_icmp .ne 5, 3) := by decide +kernel
theorem dX2_takePerson_79 : decode cX2_takePerson 79 = .ok (.iconst 0, 1) := by decide +kernel
theorem dX2_takePerson_80 : decode cX2_takePerson 80 = .ok (.ireturn, 1) := by decide +kernel
theorem dX2_takePerson_81 : decode cX2_takePerson 81 = .ok (.aload_n 0, 1) := by decide +kernel
theorem dX2_takePerson_82 : decode cX2_takePerson 82 = .ok (.ldc 188, 2) := by decide +kernel
theorem dX2_takePerson_84 : decode cX2_takePerson 84 = .ok (.iconst 0, 1) := by decide +kernel
theorem dX2_takePerson_85 : decode cX2_takePerson 85 = .ok (.iconst 4, 1) := by decide +kernel
theorem dX2_takePerson_86 : decode cX2_takePerson 86 = .ok (.invokevirtual 184, 3) := by decide +kernel
theorem dX2_takePerson_89 : decode cX2_takePerson 89 = .ok (.istore 7, 2) := by decide +kernel
theorem dX2_takePerson_91 : decode cX2_takePerson 91 = .ok (.iload 7, 2) := by decide +kernel
theorem dX2_takePerson_93 : decode cX2_takePerson 93 = .ok (.iconst (-1), 1) := by decide +kernel
theorem dX2_takePerson_94 : decode cX2_takePerson 94 = .ok (.if_icmp .eq 12, 3) := by decide +kernel
theorem dX2_takePerson_97 : decode cX2_takePerson 97 = .ok (.aload_n 0, 1) := by decide +kernel
theorem dX2_takePerson_98 : decode cX2_takePerson 98 = .ok (.aload_n 2, 1) := by decide +kernel
theorem dX2_takePerson_99 : decode cX2_takePerson 99 = .ok (.iload_n 3, 1) := by decide +kernel
theorem dX2_takePerson_100 : decode cX2_takePerson 100 = .ok (.invokevirtual 190, 3) := by decide +kernel
theorem dX2_takePerson_103 : decode cX2_takePerson 103 = .ok (.ifCond .ne 5, 3) := by decide +kernel
theorem dX2_takePerson_106 : decode cX2_takePerson 106 = .ok (.iconst 0, 1) := by decide +kernel
theorem dX2_takePerson_107 : decode cX2_takePerson 107 = .ok (.ireturn, 1) := by decide +kernel
theorem dX2_takePerson_108 : decode cX2_takePerson 108 = .ok (.aload_n 2, 1) := by decide +kernel
theorem dX2_takePerson_109 : decode cX2_takePerson 109 = .ok (.getfield 193, 3) := by decide +kernel
theorem dX2_takePerson_112 : decode cX2_takePerson 112 = .ok (.iload_n 3, 1) := by decide +kernel
theorem dX2_takePerson_113 : decode cX2_takePerson 113 = .ok (.iload 4, 2) := by decide +kernel
theorem dX2_takePerson_115 : decode cX2_takePerson 115 = .ok (.invokestatic 152, 3) := by decide +kernel
theorem dX2_takePerson_118 : decode cX2_takePerson 118 = .ok (.aload_n 2, 1) := by decide +kernel
theorem dX2_takePerson_119 : decode cX2_takePerson 119 = .ok (.getfield 196, 3) := by decide +kernel
theorem dX2_takePerson_122 : decode cX2_takePerson 122 = .ok (.iload_n 3, 1) := by decide +kernel
theorem dX2_takePerson_123 : decode cX2_takePerson 123 = .ok (.iload 5, 2) := by decide +kernel
theorem dX2_takePerson_125 : decode cX2_takePerson 125 = .ok (.invokestatic 152, 3) := by decide +kernel
theorem dX2_takePerson_128 : decode cX2_takePerson 128 = .ok (.aload_n 2, 1) := by decide +kernel
theorem dX2_takePerson_129 : decode cX2_takePerson 129 = .ok (.getfield 199, 3) := by decide +kernel
theorem dX2_takePerson_132 : decode cX2_takePerson 132 = .ok (.iload_n 3, 1) := by decide +kernel
theorem dX2_takePerson_133 : decode cX2_takePerson 133 = .ok (.iload 6, 2) := by decide +kernel
theorem dX2_takePerson_135 : decode cX2_takePerson 135 = .ok (.invokestatic 152, 3) := by decide +kernel
theorem dX2_takePerson_138 : decode cX2_takePerson 138 = .ok (.aload_n 2, 1) := by decide +kernel
theorem dX2_takePerson_139 : decode cX2_takePerson 139 = .ok (.getfield 202, 3) := by decide +kernel
theorem dX2_takePerson_142 : decode cX2_takePerson 142 = .ok (.iload_n 3, 1) := by decide +kernel
theorem dX2_takePerson_143 : decode cX2_takePerson 143 = .ok (.iload 7, 2) := by decide +kernel
theorem dX2_takePerson_145 : decode cX2_takePerson 145 = .ok (.invokestatic 152, 3) := by decide +kernel
theorem dX2_takePerson_148 : decode cX2_takePerson 148 = .ok (.aload_n 0, 1) := by decide +kernel
theorem dX2_takePerson_149 : decode cX2_takePerson 149 = .ok (.getfield 9, 3) := by decide +kernel
theorem dX2_takePerson_152 : decode cX2_takePerson 152 = .ok (.ldc 205, 2) := by decide +kernel
theorem dX2_takePerson_154 : decode cX2_takePerson 154 = .ok (.invokevirtual 52, 3) := by decide +kernel
theorem dX2_takePerson_157 : decode cX2_takePerson 157 = .ok (.ifCond .ne 22, 3) := by decide +kernel
theorem dX2_takePerson_160 : decode cX2_takePerson 160 = .ok (.aload_n 2, 1) := by decide +kernel
theorem dX2_takePerson_161 : decode cX2_takePerson 161 = .ok (.dup, 1) := by decide +kernel
theorem dX2_takePerson_162 : decode cX2_takePerson 162 = .ok (.getfield 207, 3) := by decide +kernel
theorem dX2_takePerson_165 : decode cX2_takePerson 165 = .ok (.iconst 1, 1) := by decide +kernel
theorem dX2_takePerson_166 : decode cX2_takePerson 166 = .ok (.iload_n 3, 1) := by decide +kernel
theorem dX2_takePerson_167 : decode cX2_takePerson 167 = .ok (.ishl, 1) := by decide +kernel
theorem dX2_takePerson_168 : decode cX2_takePerson 168 = .ok (.ior, 1) := by decide +kernel
theorem dX2_takePerson_169 : decode cX2_takePerson 169 = .ok (.putfield 207, 3) := by decide +kernel
theorem dX2_takePerson_172 : decode cX2_takePerson 172 = .ok (.aload_n 0, 1) := by decide +kernel
theorem dX2_takePerson_173 : decode cX2_takePerson 173 = .ok (.getfield 9, 3) := by decide +kernel
theorem dX2_takePerson_176 : decode cX2_takePerson 176 = .ok (.invokevirtual 60, 3) := by decide +kernel
theorem dX2_takePerson_179 : decode cX2_takePerson 179 = .ok (.aload_n 2, 1) := by decide +kernel
theorem dX2_takePerson_180 : decode cX2_takePerson 180 = .ok (.dup, 1) := by decide +kernel
theorem dX2_takePerson_181 : decode cX2_takePerson 181 = .ok (.getfield 95, 3) := by decide +kernel
theorem dX2_takePerson_184 : decode cX2_takePerson 184 = .ok (.iconst 1, 1) := by decide +kernel
theorem dX2_takePerson_185 : decode cX2_takePerson 185 = .ok (.iadd, 1) := by decide +kernel
theorem dX2_takePerson_186 : decode cX2_takePerson 186 = .ok (.putfield 95, 3) := by decide +kernel
theorem dX2_takePerson_189 : decode cX2_takePerson 189 = .ok (.iconst 1, 1) := by decide +kernel
theorem dX2_takePerson_190 : decode cX2_takePerson 190 = .ok (.ireturn, 1) := by decide +kernel
theorem dX2_takeSlow_0 : decode cX2_takeSlow 0 = .ok (.aload_n 0, 1) := by decide +kernel
theorem dX2_takeSlow_1 : decode cX2_takeSlow 1 = .ok (.getfield 9, 3) := by decide +kernel
theorem dX2_takeSlow_4 : decode cX2_takeSlow 4 = .ok (.ldc 210, 2) := by decide +kernel
theorem dX2_takeSlow_6 : decode cX2_takeSlow 6 = .ok (.invokevirtual 103, 3) := by decide +kernel
theorem dX2_takeSlow_9 : decode cX2_takeSlow 9 = .ok (.ifCond .ne 5, 3) := by decide +kernel
theorem dX2_takeSlow_12 : decode cX2_takeSlow 12 = .ok (.iconst 0, 1) := by decide +kernel
theorem dX2_takeSlow_13 : decode cX2_takeSlow 13 = .ok (.ireturn, 1) := by decide +kernel
theorem dX2_takeSlow_14 : decode cX2_takeSlow 14 = .ok (.aload_n 0, 1) := by decide +kernel
theorem dX2_takeSlow_15 : decode cX2_takeSlow 15 = .ok (.getfield 9, 3) := by decide +kernel
theorem dX2_takeSlow_18 : decode cX2_takeSlow 18 = .ok (.getfield 36, 3) := by decide +kernel
theorem dX2_takeSlow_21 : decode cX2_takeSlow 21 = .ok (.istore_n 3, 1) := by decide +kernel
theorem dX2_takeSlow_22 : decode cX2_takeSlow 22 = .ok (.aload_n 0, 1) := by decide +kernel
theorem dX2_takeSlow_23 : decode cX2_takeSlow 23 = .ok (.getfield 9, 3) := by decide +kernel
theorem dX2_takeSlow_26 : decode cX2_takeSlow 26 = .ok (.bipush 45, 2) := by decide +kernel
theorem dX2_takeSlow_28 : decode cX2_takeSlow 28 = .ok (.invokevirtual 212, 3) := by decide +kernel
theorem dX2_takeSlow_31 : decode cX2_takeSlow 31 = .ok (.istore 4, 2) := by decide +kernel
theorem dX2_takeSlow_33 : decode cX2_takeSlow 33 = .ok (.iload 4, 2) := by decide +kernel
theorem dX2_takeSlow_35 : decode cX2_takeSlow 35 = .ok (.ifCond .eq 10, 3) := by decide +kernel
theorem dX2_takeSlow_38 : decode cX2_takeSlow 38 = .ok (.aload_n 0, 1) := by decide +kernel
theorem dX2_takeSlow_39 : decode cX2_takeSlow 39 = .ok (.getfield 9, 3) := by decide +kernel
theorem dX2_takeSlow_42 : decode cX2_takeSlow 42 = .ok (.invokevirtual 60, 3) := by decide +kernel
theorem dX2_takeSlow_45 : decode cX2_takeSlow 45 = .ok (.aload_n 0, 1) := by decide +kernel
theorem dX2_takeSlow_46 : decode cX2_takeSlow 46 = .ok (.getfield 9, 3) := by decide +kernel
theorem dX2_takeSlow_49 : decode cX2_takeSlow 49 = .ok (.iconst 0, 1) := by decide +kernel
theorem dX2_takeSlow_50 : decode cX2_takeSlow 50 = .ok (.bipush 60, 2) := by decide +kernel
theorem dX2_takeSlow_52 : decode cX2_takeSlow 52 = .ok (.iload_n 3, 1) := by decide +kernel
theorem dX2_takeSlow_53 : decode cX2_takeSlow 53 = .ok (.invokevirtual 107, 3) := by decide +kernel
theorem dX2_takeSlow_56 : decode cX2_takeSlow 56 = .ok (.istore 5, 2) := by decide +kernel
theorem dX2_takeSlow_58 : decode cX2_takeSlow 58 = .ok (.iload 5, 2) := by decide +kernel
theorem dX2_takeSlow_60 : decode cX2_takeSlow 60 = .ok (.iconst (-1), 1) := by decide +kernel
theorem dX2_takeSlow_61 : decode cX2_takeSlow 61 = .ok (.if_icmp .ne 5, 3) := by decide +kernel
theorem dX2_takeSlow_64 : decode cX2_takeSlow 64 = .ok (.iconst 0, 1) := by decide +kernel
theorem dX2_takeSlow_65 : decode cX2_takeSlow 65 = .ok (.ireturn, 1) := by decide +kernel
theorem dX2_takeSlow_66 : decode cX2_takeSlow 66 = .ok (.aload_n 1, 1) := by decide +kernel
theorem dX2_takeSlow_67 : decode cX2_takeSlow 67 = .ok (.getfield 215, 3) := by decide +kernel
theorem dX2_takeSlow_70 : decode cX2_takeSlow 70 = .ok (.iload_n 2, 1) := by decide +kernel
theorem dX2_takeSlow_71 : decode cX2_takeSlow 71 = .ok (.iload 4, 2) := by decide +kernel
theorem dX2_takeSlow_73 : decode cX2_takeSlow 73 = .ok (.ifCond .eq 11, 3) := by decide +kernel
theorem dX2_takeSlow_76 : decode cX2_takeSlow 76 = .ok (.bipush 60, 2) := by decide +kernel
theorem dX2_takeSlow_78 : decode cX2_takeSlow 78 = .ok (.iload 5, 2) := by decide +kernel
theorem dX2_takeSlow_80 : decode cX2_takeSlow 80 = .ok (.isub, 1) := by decide +kernel
theorem dX2_takeSlow_81 : decode cX2_takeSlow 81 = .ok (.goto 8, 3) := by decide +kernel
theorem dX2_takeSlow_84 : decode cX2_takeSlow 84 = .ok (.bipush 60, 2) := by decide +kernel
theorem dX2_takeSlow_86 : decode cX2_takeSlow 86 = .ok (.iload 5, 2) := by decide +kernel
theorem dX2_takeSlow_88 : decode cX2_takeSlow 88 = .ok (.iadd, 1) := by decide +kernel
theorem dX2_takeSlow_89 : decode cX2_takeSlow 89 = .ok (.invokestatic 152, 3) := by decide +kernel
theorem dX2_takeSlow_92 : decode cX2_takeSlow 92 = .ok (.iconst 1, 1) := by decide +kernel
theorem dX2_takeSlow_93 : decode cX2_takeSlow 93 = .ok (.ireturn, 1) := by decide +kernel
theorem dX2_takeSteps_0 : decode cX2_takeSteps 0 = .ok (.aload_n 0, 1) := by decide +kernel
theorem dX2_takeSteps_1 : decode cX2_takeSteps 1 = .ok (.getfield 9, 3) := by decide +kernel
theorem dX2_takeSteps_4 : decode cX2_takeSteps 4 = .ok (.ldc 218, 2) := by decide +kernel
theorem dX2_takeSteps_6 : decode cX2_takeSteps 6 = .ok (.invokevirtual 103, 3) := by decide +kernel
theorem dX2_takeSteps_9 : decode cX2_takeSteps 9 = .ok (.ifCond .ne 5, 3) := by decide +kernel
theorem dX2_takeSteps_12 : decode cX2_takeSteps 12 = .ok (.iconst 0, 1) := by decide +kernel
theorem dX2_takeSteps_13 : decode cX2_takeSteps 13 = .ok (.ireturn, 1) := by decide +kernel
theorem dX2_takeSteps_14 : decode cX2_takeSteps 14 = .ok (.aload_n 0, 1) := by decide +kernel
theorem dX2_takeSteps_15 : decode cX2_takeSteps 15 = .ok (.getfield 9, 3) := by decide +kernel
theorem dX2_takeSteps_18 : decode cX2_takeSteps 18 = .ok (.invokevirtual 162, 3) := by decide +kernel
theorem dX2_takeSteps_21 : decode cX2_takeSteps 21 = .ok (.istore_n 3, 1) := by decide +kernel
theorem dX2_takeSteps_22 : decode cX2_takeSteps 22 = .ok (.aload_n 0, 1) := by decide +kernel
theorem dX2_takeSteps_23 : decode cX2_takeSteps 23 = .ok (.getfield 9, 3) := by decide +kernel
theorem dX2_takeSteps_26 : decode cX2_takeSteps 26 = .ok (.getfield 29, 3) := by decide +kernel
theorem dX2_takeSteps_29 : decode cX2_takeSteps 29 = .ok (.iconst 1, 1) := by decide +kernel
theorem dX2_takeSteps_30 : decode cX2_takeSteps 30 = .ok (.if_icmp .ne 9, 3) := by decide +kernel
theorem dX2_takeSteps_33 : decode cX2_takeSteps 33 = .ok (.iload_n 3, 1) := by decide +kernel
theorem dX2_takeSteps_34 : decode cX2_takeSteps 34 = .ok (.bipush 12, 2) := by decide +kernel
theorem dX2_takeSteps_36 : decode cX2_takeSteps 36 = .ok (.if_icmp .le 11, 3) := by decide +kernel
theorem dX2_takeSteps_39 : decode cX2_takeSteps 39 = .ok (.aload_n 0, 1) := by decide +kernel
theorem dX2_takeSteps_40 : decode cX2_takeSteps 40 = .ok (.getfield 9, 3) := by decide +kernel
theorem dX2_takeSteps_43 : decode cX2_takeSteps 43 = .ok (.invokevirtual 43, 3) := by decide +kernel
theorem dX2_takeSteps_46 : decode cX2_takeSteps 46 = .ok (.ireturn, 1) := by decide +kernel
theorem dX2_takeSteps_47 : decode cX2_takeSteps 47 = .ok (.iconst 0, 1) := by decide +kernel
theorem dX2_takeSteps_48 : decode cX2_takeSteps 48 = .ok (.istore 4, 2) := by decide +kernel
theorem dX2_takeSteps_50 : decode cX2_takeSteps 50 = .ok (.iload 4, 2) := by decide +kernel
theorem dX2_takeSteps_52 : decode cX2_takeSteps 52 = .ok (.iload_n 3, 1) := by decide +kernel
theorem dX2_takeSteps_53 : decode cX2_takeSteps 53 = .ok (.if_icmp .ge 53, 3) := by decide +kernel
theorem dX2_takeSteps_56 : decode cX2_takeSteps 56 = .ok (.aload_n 0, 1) := by decide +kernel
theorem dX2_takeSteps_57 : decode cX2_takeSteps 57 = .ok (.getfield 9, 3) := by decide +kernel
theorem dX2_takeSteps_60 : decode cX2_takeSteps 60 = .ok (.iload 4, 2) := by decide +kernel
theorem dX2_takeSteps_62 : decode cX2_takeSteps 62 = .ok (.invokevirtual 166, 3) := by decide +kernel
theorem dX2_takeSteps_65 : decode cX2_takeSteps 65 = .ok (.invokestatic 220, 3) := by decide +kernel
theorem dX2_takeSteps_68 : decode cX2_takeSteps 68 = .ok (.istore 5, 2) := by decide +kernel
theorem dX2_takeSteps_70 : decode cX2_takeSteps 70 = .ok (.iload 5, 2) := by decide +kernel
theorem dX2_takeSteps_72 : decode cX2_takeSteps 72 = .ok (.iconst (-1), 1) := by decide +kernel
theorem dX2_takeSteps_73 : decode cX2_takeSteps 73 = .ok (.if_icmp .ne 11, 3) := by decide +kernel
theorem dX2_takeSteps_76 : decode cX2_takeSteps 76 = .ok (.aload_n 0, 1) := by decide +kernel
theorem dX2_takeSteps_77 : decode cX2_takeSteps 77 = .ok (.getfield 9, 3) := by decide +kernel
theorem dX2_takeSteps_80 : decode cX2_takeSteps 80 = .ok (.invokevirtual 43, 3) := by decide +kernel
theorem dX2_takeSteps_83 : decode cX2_takeSteps 83 = .ok (.ireturn, 1) := by decide +kernel
theorem dX2_takeSteps_84 : decode cX2_takeSteps 84 = .ok (.aload_n 1, 1) := by decide +kernel
theorem dX2_takeSteps_85 : decode cX2_takeSteps 85 = .ok (.getfield 223, 3) := by decide +kernel
theorem dX2_takeSteps_88 : decode cX2_takeSteps 88 = .ok (.iload_n 2, 1) := by decide +kernel
theorem dX2_takeSteps_89 : decode cX2_takeSteps 89 = .ok (.bipush 12, 2) := by decide +kernel
theorem dX2_takeSteps_91 : decode cX2_takeSteps 91 = .ok (.imul, 1) := by decide +kernel
theorem dX2_takeSteps_92 : decode cX2_takeSteps 92 = .ok (.iload 4, 2) := by decide +kernel
theorem dX2_takeSteps_94 : decode cX2_takeSteps 94 = .ok (.iadd, 1) := by decide +kernel
theorem dX2_takeSteps_95 : decode cX2_takeSteps 95 = .ok (.iload 5, 2) := by decide +kernel
theorem dX2_takeSteps_97 : decode cX2_takeSteps 97 = .ok (.invokestatic 152, 3) := by decide +kernel
theorem dX2_takeSteps_100 : decode cX2_takeSteps 100 = .ok (.iinc 4 1, 3) := by decide +kernel
theorem dX2_takeSteps_103 : decode cX2_takeSteps 103 = .ok (.goto (-53), 3) := by decide +kernel
theorem dX2_takeSteps_106 : decode cX2_takeSteps 106 = .ok (.aload_n 1, 1) := by decide +kernel
theorem dX2_takeSteps_107 : decode cX2_takeSteps 107 = .ok (.getfield 226, 3) := by decide +kernel
theorem dX2_takeSteps_110 : decode cX2_takeSteps 110 = .ok (.iload_n 2, 1) := by decide +kernel
theorem dX2_takeSteps_111 : decode cX2_takeSteps 111 = .ok (.iload_n 3, 1) := by decide +kernel
theorem dX2_takeSteps_112 : decode cX2_takeSteps 112 = .ok (.invokestatic 152, 3) := by decide +kernel
theorem dX2_takeSteps_115 : decode cX2_takeSteps 115 = .ok (.aload_n 0, 1) := by decide +kernel
theorem dX2_takeSteps_116 : decode cX2_takeSteps 116 = .ok (.getfield 9, 3) := by decide +kernel
theorem dX2_takeSteps_119 : decode cX2_takeSteps 119 = .ok (.invokevirtual 60, 3) := by decide +kernel
theorem dX2_takeSteps_122 : decode cX2_takeSteps 122 = .ok (.iconst 1, 1) := by decide +kernel
theorem dX2_takeSteps_123 : decode cX2_takeSteps 123 = .ok (.ireturn, 1) := by decide +kernel
theorem dX2_wayOf_0 : decode cX2_wayOf 0 = .ok (.iload_n 0, 1) := by decide +kernel
theorem dX2_wayOf_1 : decode cX2_wayOf 1 = .ok (.lookupswitch 61 #[(101, 53), (110, 51), (115, 55), (119, 57), (120, 59)], 51) := by decide +kernel
theorem dX2_wayOf_52 : decode cX2_wayOf 52 = .ok (.iconst 0, 1) := by decide +kernel
theorem dX2_wayOf_53 : decode cX2_wayOf 53 = .ok (.ireturn, 1) := by decide +kernel
theorem dX2_wayOf_54 : decode cX2_wayOf 54 = .ok (.iconst 1, 1) := by decide +kernel
theorem dX2_wayOf_55 : decode cX2_wayOf 55 = .ok (.ireturn, 1) := by decide +kernel
theorem dX2_wayOf_56 : decode cX2_wayOf 56 = .ok (.iconst 2, 1) := by decide +kernel
theorem dX2_wayOf_57 : decode cX2_wayOf 57 = .ok (.ireturn, 1) := by decide +kernel
theorem dX2_wayOf_58 : decode cX2_wayOf 58 = .ok (.iconst 3, 1) := by decide +kernel
theorem dX2_wayOf_59 : decode cX2_wayOf 59 = .ok (.ireturn, 1) := by decide +kernel
theorem dX2_wayOf_60 : decode cX2_wayOf 60 = .ok (.iconst 4, 1) := by decide +kernel
theorem dX2_wayOf_61 : decode cX2_wayOf 61 = .ok (.ireturn, 1) := by decide +kernel
theorem dX2_wayOf_62 : decode cX2_wayOf 62 = .ok (.iconst (-1), 1) := by decide +kernel
theorem dX2_wayOf_63 : decode cX2_wayOf 63 = .ok (.ireturn, 1) := by decide +kernel
theorem dX2_takeGuard_0 : decode cX2_takeGuard 0 = .ok (.aload_n 0, 1) := by decide +kernel
theorem dX2_takeGuard_1 : decode cX2_takeGuard 1 = .ok (.aload_n 1, 1) := by decide +kernel
theorem dX2_takeGuard_2 : decode cX2_takeGuard 2 = .ok (.invokevirtual 172, 3) := by decide +kernel
theorem dX2_takeGuard_5 : decode cX2_takeGuard 5 = .ok (.istore_n 2, 1) := by decide +kernel
theorem dX2_takeGuard_6 : decode cX2_takeGuard 6 = .ok (.iload_n 2, 1) := by decide +kernel
theorem dX2_takeGuard_7 : decode cX2_takeGuard 7 = .ok (.iconst (-1), 1) := by decide +kernel
theorem dX2_takeGuard_8 : decode cX2_takeGuard 8 = .ok (.if_icmp .eq 15, 3) := by decide +kernel
theorem dX2_takeGuard_11 : decode cX2_takeGuard 11 = .ok (.aload_n 0, 1) := by decide +kernel
theorem dX2_takeGuard_12 : decode cX2_takeGuard 12 = .ok (.getfield 9, 3) := by decide +kernel
theorem dX2_takeGuard_15 : decode cX2_takeGuard 15 = .ok (.ldc 176, 2) := by decide +kernel
theorem dX2_takeGuard_17 : decode cX2_takeGuard 17 = .ok (.invokevirtual 103, 3) := by decide +kernel
theorem dX2_takeGuard_20 : decode cX2_takeGuard 20 = .ok (.ifCond .ne 5, 3) := by decide +kernel
theorem dX2_takeGuard_23 : decode cX2_takeGuard 23 = .ok (.iconst 0, 1) := by decide +kernel
theorem dX2_takeGuard_24 : decode cX2_takeGuard 24 = .ok (.ireturn, 1) := by decide +kernel
theorem dX2_takeGuard_25 : decode cX2_takeGuard 25 = .ok (.aload_n 0, 1) := by decide +kernel
theorem dX2_takeGuard_26 : decode cX2_takeGuard 26 = .ok (.aload_n 1, 1) := by decide +kernel
theorem dX2_takeGuard_27 : decode cX2_takeGuard 27 = .ok (.iconst 4, 1) := by decide +kernel
theorem dX2_takeGuard_28 : decode cX2_takeGuard 28 = .ok (.invokevirtual 144, 3) := by decide +kernel
theorem dX2_takeGuard_31 : decode cX2_takeGuard 31 = .ok (.istore_n 3, 1) := by decide +kernel
theorem dX2_takeGuard_32 : decode cX2_takeGuard 32 = .ok (.iload_n 3, 1) := by decide +kernel
theorem dX2_takeGuard_33 : decode cX2_takeGuard 33 = .ok (.iconst (-1), 1) := by decide +kernel
theorem dX2_takeGuard_34 : decode cX2_takeGuard 34 = .ok (.if_icmp .ne 5, 3) := by decide +kernel
theorem dX2_takeGuard_37 : decode cX2_takeGuard 37 = .ok (.iconst 0, 1) := by decide +kernel
theorem dX2_takeGuard_38 : decode cX2_takeGuard 38 = .ok (.ireturn, 1) := by decide +kernel
theorem dX2_takeGuard_39 : decode cX2_takeGuard 39 = .ok (.aload_n 0, 1) := by decide +kernel
theorem dX2_takeGuard_40 : decode cX2_takeGuard 40 = .ok (.ldc 229, 2) := by decide +kernel
theorem dX2_takeGuard_42 : decode cX2_takeGuard 42 = .ok (.iconst 1, 1) := by decide +kernel
theorem dX2_takeGuard_43 : decode cX2_takeGuard 43 = .ok (.bipush 9, 2) := by decide +kernel
theorem dX2_takeGuard_45 : decode cX2_takeGuard 45 = .ok (.invokevirtual 184, 3) := by decide +kernel
theorem dX2_takeGuard_48 : decode cX2_takeGuard 48 = .ok (.istore 4, 2) := by decide +kernel
theorem dX2_takeGuard_50 : decode cX2_takeGuard 50 = .ok (.iload 4, 2) := by decide +kernel
theorem dX2_takeGuard_52 : decode cX2_takeGuard 52 = .ok (.iconst (-1), 1) := by decide +kernel
theorem dX2_takeGuard_53 : decode cX2_takeGuard 53 = .ok (.if_icmp .ne 5, 3) := by decide +kernel
theorem dX2_takeGuard_56 : decode cX2_takeGuard 56 = .ok (.iconst 0, 1) := by decide +kernel
theorem dX2_takeGuard_57 : decode cX2_takeGuard 57 = .ok (.ireturn, 1) := by decide +kernel
theorem dX2_takeGuard_58 : decode cX2_takeGuard 58 = .ok (.aload_n 0, 1) := by decide +kernel
theorem dX2_takeGuard_59 : decode cX2_takeGuard 59 = .ok (.ldc 231, 2) := by decide +kernel
theorem dX2_takeGuard_61 : decode cX2_takeGuard 61 = .ok (.iconst 1, 1) := by decide +kernel
theorem dX2_takeGuard_62 : decode cX2_takeGuard 62 = .ok (.bipush 20, 2) := by decide +kernel
theorem dX2_takeGuard_64 : decode cX2_takeGuard 64 = .ok (.invokevirtual 184, 3) := by decide +kernel
theorem dX2_takeGuard_67 : decode cX2_takeGuard 67 = .ok (.istore 5, 2) := by decide +kernel
theorem dX2_takeGuard_69 : decode cX2_takeGuard 69 = .ok (.iload 5, 2) := by decide +kernel
theorem dX2_takeGuard_71 : decode cX2_takeGuard 71 = .ok (.iconst (-1), 1) := by decide +kernel
theorem dX2_takeGuard_72 : decode cX2_takeGuard 72 = .ok (.if_icmp .ne 5, 3) := by decide +kernel
theorem dX2_takeGuard_75 : decode cX2_takeGuard 75 = .ok (.iconst 0, 1) := by decide +kernel
theorem dX2_takeGuard_76 : decode cX2_takeGuard 76 = .ok (.ireturn, 1) := by decide +kernel
theorem dX2_takeGuard_77 : decode cX2_takeGuard 77 = .ok (.aload_n 1, 1) := by decide +kernel
theorem dX2_takeGuard_78 : decode cX2_takeGuard 78 = .ok (.getfield 233, 3) := by decide +kernel
theorem dX2_takeGuard_81 : decode cX2_takeGuard 81 = .ok (.aload_n 1, 1) := by decide +kernel
theorem dX2_takeGuard_82 : decode cX2_takeGuard 82 = .ok (.getfield 100, 3) := by decide +kernel
theorem dX2_takeGuard_85 : decode cX2_takeGuard 85 = .ok (.iload_n 2, 1) := by decide +kernel
theorem dX2_takeGuard_86 : decode cX2_takeGuard 86 = .ok (.invokestatic 152, 3) := by decide +kernel
theorem dX2_takeGuard_89 : decode cX2_takeGuard 89 = .ok (.aload_n 1, 1) := by decide +kernel
theorem dX2_takeGuard_90 : decode cX2_takeGuard 90 = .ok (.getfield 236, 3) := by decide +kernel
theorem dX2_takeGuard_93 : decode cX2_takeGuard 93 = .ok (.aload_n 1, 1) := by decide +kernel
theorem dX2_takeGuard_94 : decode cX2_takeGuard 94 = .ok (.getfield 100, 3) := by decide +kernel
theorem dX2_takeGuard_97 : decode cX2_takeGuard 97 = .ok (.iload_n 3, 1) := by decide +kernel
theorem dX2_takeGuard_98 : decode cX2_takeGuard 98 = .ok (.invokestatic 152, 3) := by decide +kernel
theorem dX2_takeGuard_101 : decode cX2_takeGuard 101 = .ok (.aload_n 1, 1) := by decide +kernel
theorem dX2_takeGuard_102 : decode cX2_takeGuard 102 = .ok (.getfield 239, 3) := by decide +kernel
theorem dX2_takeGuard_105 : decode cX2_takeGuard 105 = .ok (.aload_n 1, 1) := by decide +kernel
theorem dX2_takeGuard_106 : decode cX2_takeGuard 106 = .ok (.getfield 100, 3) := by decide +kernel
theorem dX2_takeGuard_109 : decode cX2_takeGuard 109 = .ok (.iload 4, 2) := by decide +kernel
theorem dX2_takeGuard_111 : decode cX2_takeGuard 111 = .ok (.invokestatic 152, 3) := by decide +kernel
theorem dX2_takeGuard_114 : decode cX2_takeGuard 114 = .ok (.aload_n 1, 1) := by decide +kernel
theorem dX2_takeGuard_115 : decode cX2_takeGuard 115 = .ok (.getfield 242, 3) := by decide +kernel
theorem dX2_takeGuard_118 : decode cX2_takeGuard 118 = .ok (.aload_n 1, 1) := by decide +kernel
theorem dX2_takeGuard_119 : decode cX2_takeGuard 119 = .ok (.getfield 100, 3) := by decide +kernel
theorem dX2_takeGuard_122 : decode cX2_takeGuard 122 = .ok (.iload 5, 2) := by decide +kernel
theorem dX2_takeGuard_124 : decode cX2_takeGuard 124 = .ok (.invokestatic 152, 3) := by decide +kernel
theorem dX2_takeGuard_127 : decode cX2_takeGuard 127 = .ok (.aload_n 1, 1) := by decide +kernel
theorem dX2_takeGuard_128 : decode cX2_takeGuard 128 = .ok (.dup, 1) := by decide +kernel
theorem dX2_takeGuard_129 : decode cX2_takeGuard 129 = .ok (.getfield 100, 3) := by decide +kernel
theorem dX2_takeGuard_132 : decode cX2_takeGuard 132 = .ok (.iconst 1, 1) := by decide +kernel
theorem dX2_takeGuard_133 : decode cX2_takeGuard 133 = .ok (.iadd, 1) := by decide +kernel
theorem dX2_takeGuard_134 : decode cX2_takeGuard 134 = .ok (.putfield 100, 3) := by decide +kernel
theorem dX2_takeGuard_137 : decode cX2_takeGuard 137 = .ok (.iconst 1, 1) := by decide +kernel
theorem dX2_takeGuard_138 : decode cX2_takeGuard 138 = .ok (.ireturn, 1) := by decide +kernel
theorem dX3_init_0 : decode cX3_init 0 = .ok (.aload_n 0, 1) := by decide +kernel
theorem dX3_init_1 : decode cX3_init 1 = .ok (.invokespecial 3, 3) := by decide +kernel
theorem dX3_init_4 : decode cX3_init 4 = .ok (.aload_n 0, 1) := by decide +kernel
theorem dX3_init_5 : decode cX3_init 5 = .ok (.sipush 1809, 3) := by decide +kernel
theorem dX3_init_8 : decode cX3_init 8 = .ok (.newarray .int, 2) := by decide +kernel
theorem dX3_init_10 : decode cX3_init 10 = .ok (.putfield 9, 3) := by decide +kernel
theorem dX3_init_13 : decode cX3_init 13 = .ok (.aload_n 0, 1) := by decide +kernel
theorem dX3_init_14 : decode cX3_init 14 = .ok (.sipush 804, 3) := by decide +kernel
theorem dX3_init_17 : decode cX3_init 17 = .ok (.newarray .int, 2) := by decide +kernel
theorem dX3_init_19 : decode cX3_init 19 = .ok (.putfield 15, 3) := by decide +kernel
theorem dX3_init_22 : decode cX3_init 22 = .ok (.aload_n 0, 1) := by decide +kernel
theorem dX3_init_23 : decode cX3_init 23 = .ok (.bipush 9, 2) := by decide +kernel
theorem dX3_init_25 : decode cX3_init 25 = .ok (.newarray .int, 2) := by decide +kernel
theorem dX3_init_27 : decode cX3_init 27 = .ok (.putfield 18, 3) := by decide +kernel
theorem dX3_init_30 : decode cX3_init 30 = .ok (.aload_n 0, 1) := by decide +kernel
theorem dX3_init_31 : decode cX3_init 31 = .ok (.bipush 9, 2) := by decide +kernel
theorem dX3_init_33 : decode cX3_init 33 = .ok (.newarray .int, 2) := by decide +kernel
theorem dX3_init_35 : decode cX3_init 35 = .ok (.putfield 21, 3) := by decide +kernel
theorem dX3_init_38 : decode cX3_init 38 = .ok (.aload_n 0, 1) := by decide +kernel
theorem dX3_init_39 : decode cX3_init 39 = .ok (.bipush 9, 2) := by decide +kernel
theorem dX3_init_41 : decode cX3_init 41 = .ok (.newarray .int, 2) := by decide +kernel
theorem dX3_init_43 : decode cX3_init 43 = .ok (.putfield 24, 3) := by decide +kernel
theorem dX3_init_46 : decode cX3_init 46 = .ok (.aload_n 0, 1) := by decide +kernel
theorem dX3_init_47 : decode cX3_init 47 = .ok (.bipush 9, 2) := by decide +kernel
theorem dX3_init_49 : decode cX3_init 49 = .ok (.newarray .int, 2) := by decide +kernel
theorem dX3_init_51 : decode cX3_init 51 = .ok (.putfield 27, 3) := by decide +kernel
theorem dX3_init_54 : decode cX3_init 54 = .ok (.aload_n 0, 1) := by decide +kernel
theorem dX3_init_55 : decode cX3_init 55 = .ok (.bipush 54, 2) := by decide +kernel
theorem dX3_init_57 : decode cX3_init 57 = .ok (.newarray .int, 2) := by decide +kernel
theorem dX3_init_59 : decode cX3_init 59 = .ok (.putfield 30, 3) := by decide +kernel
theorem dX3_init_62 : decode cX3_init 62 = .ok (.aload_n 0, 1) := by decide +kernel
theorem dX3_init_63 : decode cX3_init 63 = .ok (.bipush 54, 2) := by decide +kernel
theorem dX3_init_65 : decode cX3_init 65 = .ok (.newarray .int, 2) := by decide +kernel
theorem dX3_init_67 : decode cX3_init 67 = .ok (.putfield 33, 3) := by decide +kernel
theorem dX3_init_70 : decode cX3_init 70 = .ok (.aload_n 0, 1) := by decide +kernel
theorem dX3_init_71 : decode cX3_init 71 = .ok (.iconst 0, 1) := by decide +kernel
theorem dX3_init_72 : decode cX3_init 72 = .ok (.putfield 36, 3) := by decide +kernel
theorem dX3_init_75 : decode cX3_init 75 = .ok (.aload_n 0, 1) := by decide +kernel
theorem dX3_init_76 : decode cX3_init 76 = .ok (.iconst 0, 1) := by decide +kernel
theorem dX3_init_77 : decode cX3_init 77 = .ok (.putfield 40, 3) := by decide +kernel
theorem dX3_init_80 : decode cX3_init 80 = .ok (.aload_n 0, 1) := by decide +kernel
theorem dX3_init_81 : decode cX3_init 81 = .ok (.iconst (-1), 1) := by decide +kernel
theorem dX3_init_82 : decode cX3_init 82 = .ok (.putfield 43, 3) := by decide +kernel
theorem dX3_init_85 : decode cX3_init 85 = .ok (.aload_n 0, 1) := by decide +kernel
theorem dX3_init_86 : decode cX3_init 86 = .ok (.iconst (-1), 1) := by decide +kernel
theorem dX3_init_87 : decode cX3_init 87 = .ok (.putfield 46, 3) := by decide +kernel
theorem dX3_init_90 : decode cX3_init 90 = .ok (.return_, 1) := by decide +kernel
theorem dX3_tell_0 : decode cX3_tell 0 = .ok (.aload_n 2, 1) := by decide +kernel
theorem dX3_tell_1 : decode cX3_tell 1 = .ok (.aload_n 1, 1) := by decide +kernel
theorem dX3_tell_2 : decode cX3_tell 2 = .ok (.iload_n 3, 1) := by decide +kernel
theorem dX3_tell_3 : decode cX3_tell 3 = .ok (.iconst 0, 1) := by decide +kernel
theorem dX3_tell_4 : decode cX3_tell 4 = .ok (.invokevirtual 49, 3) := by decide +kernel
theorem dX3_tell_7 : decode cX3_tell 7 = .ok (.aload_n 0, 1) := by decide +kernel
theorem dX3_tell_8 : decode cX3_tell 8 = .ok (.iload_n 3, 1) := by decide +kernel
theorem dX3_tell_9 : decode cX3_tell 9 = .ok (.putfield 36, 3) := by decide +kernel
theorem dX3_tell_12 : decode cX3_tell 12 = .ok (.aload_n 0, 1) := by decide +kernel
theorem dX3_tell_13 : decode cX3_tell 13 = .ok (.aload_n 1, 1) := by decide +kernel
theorem dX3_tell_14 : decode cX3_tell 14 = .ok (.getfield 55, 3) := by decide +kernel
theorem dX3_tell_17 : decode cX3_tell 17 = .ok (.putfield 40, 3) := by decide +kernel
theorem dX3_tell_20 : decode cX3_tell 20 = .ok (.aload_n 0, 1) := by decide +kernel
theorem dX3_tell_21 : decode cX3_tell 21 = .ok (.aload_n 2, 1) := by decide +kernel
theorem dX3_tell_22 : decode cX3_tell 22 = .ok (.getfield 60, 3) := by decide +kernel
theorem dX3_tell_25 : decode cX3_tell 25 = .ok (.putfield 43, 3) := by decide +kernel
theorem dX3_tell_28 : decode cX3_tell 28 = .ok (.aload_n 0, 1) := by decide +kernel
theorem dX3_tell_29 : decode cX3_tell 29 = .ok (.aload_n 2, 1) := by decide +kernel
theorem dX3_tell_30 : decode cX3_tell 30 = .ok (.getfield 61, 3) := by decide +kernel
theorem dX3_tell_33 : decode cX3_tell 33 = .ok (.putfield 46, 3) := by decide +kernel
theorem dX3_tell_36 : decode cX3_tell 36 = .ok (.iconst 0, 1) := by decide +kernel
theorem dX3_tell_37 : decode cX3_tell 37 = .ok (.istore 4, 2) := by decide +kernel
theorem dX3_tell_39 : decode cX3_tell 39 = .ok (.iload 4, 2) := by decide +kernel
theorem dX3_tell_41 : decode cX3_tell 41 = .ok (.aload_n 0, 1) := by decide +kernel
theorem dX3_tell_42 : decode cX3_tell 42 = .ok (.getfield 15, 3) := by decide +kernel
theorem dX3_tell_45 : decode cX3_tell 45 = .ok (.arraylength, 1) := by decide +kernel
theorem dX3_tell_46 : decode cX3_tell 46 = .ok (.if_icmp .ge 17, 3) := by decide +kernel
theorem dX3_tell_49 : decode cX3_tell 49 = .ok (.aload_n 0, 1) := by decide +kernel
theorem dX3_tell_50 : decode cX3_tell 50 = .ok (.getfield 15, 3) := by decide +kernel
theorem dX3_tell_53 : decode cX3_tell 53 = .ok (.iload 4, 2) := by decide +kernel
theorem dX3_tell_55 : decode cX3_tell 55 = .ok (.iconst 0, 1) := by decide +kernel
theorem dX3_tell_56 : decode cX3_tell 56 = .ok (.iastore, 1) := by decide +kernel
theorem dX3_tell_57 : decode cX3_tell 57 = .ok (.iinc 4 1, 3) := by decide +kernel
theorem dX3_tell_60 : decode cX3_tell 60 = .ok (.goto (-21), 3) := by decide +kernel
theorem dX3_tell_63 : decode cX3_tell 63 = .ok (.aload_n 0, 1) := by decide +kernel
theorem dX3_tell_64 : decode cX3_tell 64 = .ok (.aload_n 1, 1) := by decide +kernel
theorem dX3_tell_65 : decode cX3_tell 65 = .ok (.invokevirtual 62, 3) := by decide +kernel
theorem dX3_tell_68 : decode cX3_tell 68 = .ok (.iconst 0, 1) := by decide +kernel
theorem dX3_tell_69 : decode cX3_tell 69 = .ok (.istore 4, 2) := by decide +kernel
theorem dX3_tell_71 : decode cX3_tell 71 = .ok (.iload 4, 2) := by decide +kernel
theorem dX3_tell_73 : decode cX3_tell 73 = .ok (.bipush 9, 2) := by decide +kernel
theorem dX3_tell_75 : decode cX3_tell 75 = .ok (.if_icmp .ge 85, 3) := by decide +kernel
theorem dX3_tell_78 : decode cX3_tell 78 = .ok (.aload_n 0, 1) := by decide +kernel
theorem dX3_tell_79 : decode cX3_tell 79 = .ok (.getfield 18, 3) := by decide +kernel
theorem dX3_tell_82 : decode cX3_tell 82 = .ok (.iload 4, 2) := by decide +kernel
theorem dX3_tell_84 : decode cX3_tell 84 = .ok (.aload_n 2, 1) := by decide +kernel
theorem dX3_tell_85 : decode cX3_tell 85 = .ok (.getfield 66, 3) := by decide +kernel
theorem dX3_tell_88 : decode cX3_tell 88 = .ok (.iload 4, 2) := by decide +kernel
theorem dX3_tell_90 : decode cX3_tell 90 = .ok (.invokestatic 67, 3) := by decide +kernel
theorem dX3_tell_93 : decode cX3_tell 93 = .ok (.invokestatic 71, 3) := by decide +kernel
theorem dX3_tell_96 : decode cX3_tell 96 = .ok (.aload_n 0, 1) := by decide +kernel
theorem dX3_tell_97 : decode cX3_tell 97 = .ok (.getfield 21, 3) := by decide +kernel
theorem dX3_tell_100 : decode cX3_tell 100 = .ok (.iload 4, 2) := by decide +kernel
theorem dX3_tell_102 : decode cX3_tell 102 = .ok (.aload_n 2, 1) := by decide +kernel
theorem dX3_tell_103 : decode cX3_tell 103 = .ok (.getfield 75, 3) := by decide +kernel
theorem dX3_tell_106 : decode cX3_tell 106 = .ok (.iload 4, 2) := by decide +kernel
theorem dX3_tell_108 : decode cX3_tell 108 = .ok (.invokestatic 67, 3) := by decide +kernel
theorem dX3_tell_111 : decode cX3_tell 111 = .ok (.invokestatic 71, 3) := by decide +kernel
theorem dX3_tell_114 : decode cX3_tell 114 = .ok (.aload_n 0, 1) := by decide +kernel
theorem dX3_tell_115 : decode cX3_tell 115 = .ok (.getfield 24, 3) := by decide +kernel
theorem dX3_tell_118 : decode cX3_tell 118 = .ok (.iload 4, 2) := by decide +kernel
theorem dX3_tell_120 : decode cX3_tell 120 = .ok (.iconst (-1), 1) := by decide +kernel
theorem dX3_tell_121 : decode cX3_tell 121 = .ok (.invokestatic 71, 3) := by decide +kernel
theorem dX3_tell_124 : decode cX3_tell 124 = .ok (.aload_n 0, 1) := by decide +kernel
theorem dX3_tell_125 : decode cX3_tell 125 = .ok (.getfield 27, 3) := by decide +kernel
theorem dX3_tell_128 : decode cX3_tell 128 = .ok (.iload 4, 2) := by decide +kernel
theorem dX3_tell_130 : decode cX3_tell 130 = .ok (.iconst (-1), 1) := by decide +kernel
theorem dX3_tell_131 : decode cX3_tell 131 = .ok (.invokestatic 71, 3) := by decide +kernel
theorem dX3_tell_134 : decode cX3_tell 134 = .ok (.aload_n 0, 1) := by decide +kernel
theorem dX3_tell_135 : decode cX3_tell 135 = .ok (.getfield 36, 3) := by decide +kernel
theorem dX3_tell_138 : decode cX3_tell 138 = .ok (.iload 4, 2) := by decide +kernel
theorem dX3_tell_140 : decode cX3_tell 140 = .ok (.invokestatic 76, 3) := by decide +kernel
theorem dX3_tell_143 : decode cX3_tell 143 = .ok (.ifCond .eq 11, 3) := by decide +kernel
theorem dX3_tell_146 : decode cX3_tell 146 = .ok (.aload_n 0, 1) := by decide +kernel
theorem dX3_tell_147 : decode cX3_tell 147 = .ok (.aload_n 1, 1) := by decide +kernel
theorem dX3_tell_148 : decode cX3_tell 148 = .ok (.aload_n 2, 1) := by decide +kernel
theorem dX3_tell_149 : decode cX3_tell 149 = .ok (.iload 4, 2) := by decide +kernel
theorem dX3_tell_151 : decode cX3_tell 151 = .ok (.invokevirtual 80, 3) := by decide +kernel
theorem dX3_tell_154 : decode cX3_tell 154 = .ok (.iinc 4 1, 3) := by decide +kernel
theorem dX3_tell_157 : decode cX3_tell 157 = .ok (.goto (-86), 3) := by decide +kernel
theorem dX3_tell_160 : decode cX3_tell 160 = .ok (.return_, 1) := by decide +kernel
theorem dX3_findWays_0 : decode cX3_findWays 0 = .ok (.iconst 0, 1) := by decide +kernel
theorem dX3_findWays_1 : decode cX3_findWays 1 = .ok (.istore_n 2, 1) := by decide +kernel
theorem dX3_findWays_2 : decode cX3_findWays 2 = .ok (.iconst 0, 1) := by decide +kernel
theorem dX3_findWays_3 : decode cX3_findWays 3 = .ok (.istore_n 3, 1) := by decide +kernel
theorem dX3_findWays_4 : decode cX3_findWays 4 = .ok (.iload_n 3, 1) := by decide +kernel
theorem dX3_findWays_5 : decode cX3_findWays 5 = .ok (.bipush 54, 2) := by decide +kernel
theorem dX3_findWays_7 : decode cX3_findWays 7 = .ok (.if_icmp .ge 18, 3) := by decide +kernel
theorem dX3_findWays_10 : decode cX3_findWays 10 = .ok (.aload_n 0, 1) := by decide +kernel
theorem dX3_findWays_11 : decode cX3_findWays 11 = .ok (.getfield 30, 3) := by decide +kernel
theorem dX3_findWays_14 : decode cX3_findWays 14 = .ok (.iload_n 3, 1) := by decide +kernel
theorem dX3_findWays_15 : decode cX3_findWays 15 = .ok (.iconst (-1), 1) := by decide +kernel
theorem dX3_findWays_16 : decode cX3_findWays 16 = .ok (.invokestatic 71, 3) := by decide +kernel
theorem dX3_findWays_19 : decode cX3_findWays 19 = .ok (.iinc 3 1, 3) := by decide +kernel
theorem dX3_findWays_22 : decode cX3_findWays 22 = .ok (.goto (-18), 3) := by decide +kernel
theorem dX3_findWays_25 : decode cX3_findWays 25 = .ok (.iconst 0, 1) := by decide +kernel
theorem dX3_findWays_26 : decode cX3_findWays 26 = .ok (.istore_n 3, 1) := by decide +kernel
theorem dX3_findWays_27 : decode cX3_findWays 27 = .ok (.iload_n 3, 1) := by decide +kernel
theorem dX3_findWays_28 : decode cX3_findWays 28 = .ok (.aload_n 1, 1) := by decide +kernel
theorem dX3_findWays_29 : decode cX3_findWays 29 = .ok (.getfield 84, 3) := by decide +kernel
theorem dX3_findWays_32 : decode cX3_findWays 32 = .ok (.if_icmp .ge 55, 3) := by decide +kernel
theorem dX3_findWays_35 : decode cX3_findWays 35 = .ok (.aload_n 1, 1) := by decide +kernel
theorem dX3_findWays_36 : decode cX3_findWays 36 = .ok (.getfield 87, 3) := by decide +kernel
theorem dX3_findWays_39 : decode cX3_findWays 39 = .ok (.iload_n 3, 1) := by decide +kernel
theorem dX3_findWays_40 : decode cX3_findWays 40 = .ok (.invokestatic 67, 3) := by decide +kernel
theorem dX3_findWays_43 : decode cX3_findWays 43 = .ok (.ifCond .ne 38, 3) := by decide +kernel
theorem dX3_findWays_46 : decode cX3_findWays 46 = .ok (.aload_n 0, 1) := by decide +kernel
theorem dX3_findWays_47 : decode cX3_findWays 47 = .ok (.getfield 30, 3) := by decide +kernel
theorem dX3_findWays_50 : decode cX3_findWays 50 = .ok (.aload_n 1, 1) := by decide +kernel
theorem dX3_findWays_51 : decode cX3_findWays 51 = .ok (.getfield 90, 3) := by decide +kernel
theorem dX3_findWays_54 : decode cX3_findWays 54 = .ok (.iload_n 3, 1) := by decide +kernel
theorem dX3_findWays_55 : decode cX3_findWays 55 = .ok (.invokestatic 67, 3) := by decide +kernel
theorem dX3_findWays_58 : decode cX3_findWays 58 = .ok (.iconst 0, 1) := by decide +kernel
theorem dX3_findWays_59 : decode cX3_findWays 59 = .ok (.invokestatic 71, 3) := by decide +kernel
theorem dX3_findWays_62 : decode cX3_findWays 62 = .ok (.aload_n 0, 1) := by decide +kernel
theorem dX3_findWays_63 : decode cX3_findWays 63 = .ok (.getfield 33, 3) := by decide +kernel
theorem dX3_findWays_66 : decode cX3_findWays 66 = .ok (.iload_n 2, 1) := by decide +kernel
theorem dX3_findWays_67 : decode cX3_findWays 67 = .ok (.aload_n 1, 1) := by decide +kernel
theorem dX3_findWays_68 : decode cX3_findWays 68 = .ok (.getfield 90, 3) := by decide +kernel
theorem dX3_findWays_71 : decode cX3_findWays 71 = .ok (.iload_n 3, 1) := by decide +kernel
theorem dX3_findWays_72 : decode cX3_findWays 72 = .ok (.invokestatic 67, 3) := by decide +kernel
theorem dX3_findWays_75 : decode cX3_findWays 75 = .ok (.invokestatic 71, 3) := by decide +kernel
theorem dX3_findWays_78 : decode cX3_findWays 78 = .ok (.iinc 2 1, 3) := by decide +kernel
theorem dX3_findWays_81 : decode cX3_findWays 81 = .ok (.iinc 3 1, 3) := by decide +kernel
theorem dX3_findWays_84 : decode cX3_findWays 84 = .ok (.goto (-57), 3) := by decide +kernel
theorem dX3_findWays_87 : decode cX3_findWays 87 = .ok (.iconst 0, 1) := by decide +kernel
theorem dX3_findWays_88 : decode cX3_findWays 88 = .ok (.istore_n 3, 1) := by decide +kernel
theorem dX3_findWays_89 : decode cX3_findWays 89 = .ok (.iload_n 3, 1) := by decide +kernel
theorem dX3_findWays_90 : decode cX3_findWays 90 = .ok (.iload_n 2, 1) := by decide +kernel
theorem dX3_findWays_91 : decode cX3_findWays 91 = .ok (.if_icmp .ge 102, 3) := by decide +kernel
theorem dX3_findWays_94 : decode cX3_findWays 94 = .ok (.iload_n 3, 1) := by decide +kernel
theorem dX3_findWays_95 : decode cX3_findWays 95 = .ok (.bipush 54, 2) := by decide +kernel
theorem dX3_findWays_97 : decode cX3_findWays 97 = .ok (.if_icmp .ge 96, 3) := by decide +kernel
theorem dX3_findWays_100 : decode cX3_findWays 100 = .ok (.aload_n 0, 1) := by decide +kernel
theorem dX3_findWays_101 : decode cX3_findWays 101 = .ok (.getfield 33, 3) := by decide +kernel
theorem dX3_findWays_104 : decode cX3_findWays 104 = .ok (.iload_n 3, 1) := by decide +kernel
theorem dX3_findWays_105 : decode cX3_findWays 105 = .ok (.invokestatic 67, 3) := by decide +kernel
theorem dX3_findWays_108 : decode cX3_findWays 108 = .ok (.istore 4, 2) := by decide +kernel
theorem dX3_findWays_110 : decode cX3_findWays 110 = .ok (.iconst 0, 1) := by decide +kernel
theorem dX3_findWays_111 : decode cX3_findWays 111 = .ok (.istore 5, 2) := by decide +kernel
theorem dX3_findWays_113 : decode cX3_findWays 113 = .ok (.iload 5, 2) := by decide +kernel
theorem dX3_findWays_115 : decode cX3_findWays 115 = .ok (.iconst 3, 1) := by decide +kernel
theorem dX3_findWays_116 : decode cX3_findWays 116 = .ok (.if_icmp .gt 71, 3) := by decide +kernel
theorem dX3_findWays_119 : decode cX3_findWays 119 = .ok (.aload_n 1, 1) := by decide +kernel
theorem dX3_findWays_120 : decode cX3_findWays 120 = .ok (.iload 4, 2) := by decide +kernel
theorem dX3_findWays_122 : decode cX3_findWays 122 = .ok (.iload 5, 2) := by decide +kernel
theorem dX3_findWays_124 : decode cX3_findWays 124 = .ok (.invokevirtual 93, 3) := by decide +kernel
theorem dX3_findWays_127 : decode cX3_findWays 127 = .ok (.istore 6, 2) := by decide +kernel
theorem dX3_findWays_129 : decode cX3_findWays 129 = .ok (.iload 6, 2) := by decide +kernel
theorem dX3_findWays_131 : decode cX3_findWays 131 = .ok (.iconst (-1), 1) := by decide +kernel
theorem dX3_findWays_132 : decode cX3_findWays 132 = .ok (.if_icmp .eq 49, 3) := by decide +kernel
theorem dX3_findWays_135 : decode cX3_findWays 135 = .ok (.aload_n 0, 1) := by decide +kernel
theorem dX3_findWays_136 : decode cX3_findWays 136 = .ok (.getfield 30, 3) := by decide +kernel
theorem dX3_findWays_139 : decode cX3_findWays 139 = .ok (.iload 6, 2) := by decide +kernel
theorem dX3_findWays_141 : decode cX3_findWays 141 = .ok (.invokestatic 67, 3) := by decide +kernel
theorem dX3_findWays_144 : decode cX3_findWays 144 = .ok (.iconst (-1), 1) := by decide +kernel
theorem dX3_findWays_145 : decode cX3_findWays 145 = .ok (.if_icmp .ne 36, 3) := by decide +kernel
theorem dX3_findWays_148 : decode cX3_findWays 148 = .ok (.aload_n 0, 1) := by decide +kernel
theorem dX3_findWays_149 : decode cX3_findWays 149 = .ok (.getfield 30, 3) := by decide +kernel
theorem dX3_findWays_152 : decode cX3_findWays 152 = .ok (.iload 6, 2) := by decide +kernel
theorem dX3_findWays_154 : decode cX3_findWays 154 = .ok (.aload_n 0, 1) := by decide +kernel
theorem dX3_findWays_155 : decode cX3_findWays 155 = .ok (.getfield 30, 3) := by decide +kernel
theorem dX3_findWays_158 : decode cX3_findWays 158 = .ok (.iload 4, 2) := by decide +kernel
theorem dX3_findWays_160 : decode cX3_findWays 160 = .ok (.invokestatic 67, 3) := by decide +kernel
theorem dX3_findWays_163 : decode cX3_findWays 163 = .ok (.iconst 1, 1) := by decide +kernel
theorem dX3_findWays_164 : decode cX3_findWays 164 = .ok (.iadd, 1) := by decide +kernel
theorem dX3_findWays_165 : decode cX3_findWays 165 = .ok (.invokestatic 71, 3) := by decide +kernel
theorem dX3_findWays_168 : decode cX3_findWays 168 = .ok (.aload_n 0, 1) := by decide +kernel
theorem dX3_findWays_169 : decode cX3_findWays 169 = .ok (.getfield 33, 3) := by decide +kernel
theorem dX3_findWays_172 : decode cX3_findWays 172 = .ok (.iload_n 2, 1) := by decide +kernel
theorem dX3_findWays_173 : decode cX3_findWays 173 = .ok (.iload 6, 2) := by decide +kernel
theorem dX3_findWays_175 : decode cX3_findWays 175 = .ok (.invokestatic 71, 3) := by decide +kernel
theorem dX3_findWays_178 : decode cX3_findWays 178 = .ok (.iinc 2 1, 3) := by decide +kernel
theorem dX3_findWays_181 : decode cX3_findWays 181 = .ok (.iinc 5 1, 3) := by decide +kernel
theorem dX3_findWays_184 : decode cX3_findWays 184 = .ok (.goto (-71), 3) := by decide +kernel
theorem dX3_findWays_187 : decode cX3_findWays 187 = .ok (.iinc 3 1, 3) := by decide +kernel
theorem dX3_findWays_190 : decode cX3_findWays 190 = .ok (.goto (-101), 3) := by decide +kernel
theorem dX3_findWays_193 : decode cX3_findWays 193 = .ok (.return_, 1) := by decide +kernel
theorem dX3_follow_0 : decode cX3_follow 0 = .ok (.aload_n 2, 1) := by decide +kernel
theorem dX3_follow_1 : decode cX3_follow 1 = .ok (.iload_n 3, 1) := by decide +kernel
theorem dX3_follow_2 : decode cX3_follow 2 = .ok (.iconst 0, 1) := by decide +kernel
theorem dX3_follow_3 : decode cX3_follow 3 = .ok (.invokevirtual 97, 3) := by decide +kernel
theorem dX3_follow_6 : decode cX3_follow 6 = .ok (.istore 4, 2) := by decide +kernel
theorem dX3_follow_8 : decode cX3_follow 8 = .ok (.iconst 0, 1) := by decide +kernel
theorem dX3_follow_9 : decode cX3_follow 9 = .ok (.istore 5, 2) := by decide +kernel
theorem dX3_follow_11 : decode cX3_follow 11 = .ok (.iload 5, 2) := by decide +kernel
theorem dX3_follow_13 : decode cX3_follow 13 = .ok (.sipush 201, 3) := by decide +kernel
theorem dX3_follow_16 : decode cX3_follow 16 = .ok (.if_icmp .ge 145, 3) := by decide +kernel
theorem dX3_follow_19 : decode cX3_follow 19 = .ok (.aload_n 0, 1) := by decide +kernel
theorem dX3_follow_20 : decode cX3_follow 20 = .ok (.iload_n 3, 1) := by decide +kernel
theorem dX3_follow_21 : decode cX3_follow 21 = .ok (.iload 5, 2) := by decide +kernel
theorem dX3_follow_23 : decode cX3_follow 23 = .ok (.invokevirtual 100, 3) := by decide +kernel
theorem dX3_follow_26 : decode cX3_follow 26 = .ok (.istore 6, 2) := by decide +kernel
theorem dX3_follow_28 : decode cX3_follow 28 = .ok (.iload 6, 2) := by decide +kernel
theorem dX3_follow_30 : decode cX3_follow 30 = .ok (.iconst 1, 1) := by decide +kernel
theorem dX3_follow_31 : decode cX3_follow 31 = .ok (.if_icmp .ne 15, 3) := by decide +kernel
theorem dX3_follow_34 : decode cX3_follow 34 = .ok (.aload_n 2, 1) := by decide +kernel
theorem dX3_follow_35 : decode cX3_follow 35 = .ok (.iload_n 3, 1) := by decide +kernel
theorem dX3_follow_36 : decode cX3_follow 36 = .ok (.iload 5, 2) := by decide +kernel
theorem dX3_follow_38 : decode cX3_follow 38 = .ok (.invokevirtual 97, 3) := by decide +kernel
theorem dX3_follow_41 : decode cX3_follow 41 = .ok (.istore 4, 2) := by decide +kernel
theorem dX3_follow_43 : decode cX3_follow 43 = .ok (.goto 61, 3) := by decide +kernel
theorem dX3_follow_46 : decode cX3_follow 46 = .ok (.iload 6, 2) := by decide +kernel
theorem dX3_follow_48 : decode cX3_follow 48 = .ok (.iconst 3, 1) := by decide +kernel
theorem dX3_follow_49 : decode cX3_follow 49 = .ok (.if_icmp .ne 55, 3) := by decide +kernel
theorem dX3_follow_52 : decode cX3_follow 52 = .ok (.aload_n 1, 1) := by decide +kernel
theorem dX3_follow_53 : decode cX3_follow 53 = .ok (.iload 4, 2) := by decide +kernel
theorem dX3_follow_55 : decode cX3_follow 55 = .ok (.invokevirtual 103, 3) := by decide +kernel
theorem dX3_follow_58 : decode cX3_follow 58 = .ok (.istore 7, 2) := by decide +kernel
theorem dX3_follow_60 : decode cX3_follow 60 = .ok (.iload 7, 2) := by decide +kernel
theorem dX3_follow_62 : decode cX3_follow 62 = .ok (.iconst (-1), 1) := by decide +kernel
theorem dX3_follow_63 : decode cX3_follow 63 = .ok (.if_icmp .eq 32, 3) := by decide +kernel
theorem dX3_follow_66 : decode cX3_follow 66 = .ok (.aload_n 0, 1) := by decide +kernel
theorem dX3_follow_67 : decode cX3_follow 67 = .ok (.getfield 24, 3) := by decide +kernel
theorem dX3_follow_70 : decode cX3_follow 70 = .ok (.iload_n 3, 1) := by decide +kernel
theorem dX3_follow_71 : decode cX3_follow 71 = .ok (.iload 5, 2) := by decide +kernel
theorem dX3_follow_73 : decode cX3_follow 73 = .ok (.invokestatic 71, 3) := by decide +kernel
theorem dX3_follow_76 : decode cX3_follow 76 = .ok (.aload_n 0, 1) := by decide +kernel
theorem dX3_follow_77 : decode cX3_follow 77 = .ok (.getfield 27, 3) := by decide +kernel
theorem dX3_follow_80 : decode cX3_follow 80 = .ok (.iload_n 3, 1) := by decide +kernel
theorem dX3_follow_81 : decode cX3_follow 81 = .ok (.iload 7, 2) := by decide +kernel
theorem dX3_follow_83 : decode cX3_follow 83 = .ok (.invokestatic 71, 3) := by decide +kernel
theorem dX3_follow_86 : decode cX3_follow 86 = .ok (.iconst (-1), 1) := by decide +kernel
theorem dX3_follow_87 : decode cX3_follow 87 = .ok (.istore 4, 2) := by decide +kernel
theorem dX3_follow_89 : decode cX3_follow 89 = .ok (.iconst 4, 1) := by decide +kernel
theorem dX3_follow_90 : decode cX3_follow 90 = .ok (.istore 6, 2) := by decide +kernel
theorem dX3_follow_92 : decode cX3_follow 92 = .ok (.goto 12, 3) := by decide +kernel
theorem dX3_follow_95 : decode cX3_follow 95 = .ok (.aload_n 0, 1) := by decide +kernel
theorem dX3_follow_96 : decode cX3_follow 96 = .ok (.aload_n 1, 1) := by decide +kernel
theorem dX3_follow_97 : decode cX3_follow 97 = .ok (.iload 4, 2) := by decide +kernel
theorem dX3_follow_99 : decode cX3_follow 99 = .ok (.invokevirtual 107, 3) := by decide +kernel
theorem dX3_follow_102 : decode cX3_follow 102 = .ok (.istore 4, 2) := by decide +kernel
theorem dX3_follow_104 : decode cX3_follow 104 = .ok (.aload_n 0, 1) := by decide +kernel
theorem dX3_follow_105 : decode cX3_follow 105 = .ok (.getfield 9, 3) := by decide +kernel
theorem dX3_follow_108 : decode cX3_follow 108 = .ok (.iload_n 3, 1) := by decide +kernel
theorem dX3_follow_109 : decode cX3_follow 109 = .ok (.sipush 201, 3) := by decide +kernel
theorem dX3_follow_112 : decode cX3_follow 112 = .ok (.imul, 1) := by decide +kernel
theorem dX3_follow_113 : decode cX3_follow 113 = .ok (.iload 5, 2) := by decide +kernel
theorem dX3_follow_115 : decode cX3_follow 115 = .ok (.iadd, 1) := by decide +kernel
theorem dX3_follow_116 : decode cX3_follow 116 = .ok (.iload 4, 2) := by decide +kernel
theorem dX3_follow_118 : decode cX3_follow 118 = .ok (.invokestatic 71, 3) := by decide +kernel
theorem dX3_follow_121 : decode cX3_follow 121 = .ok (.iload 6, 2) := by decide +kernel
theorem dX3_follow_123 : decode cX3_follow 123 = .ok (.invokestatic 111, 3) := by decide +kernel
theorem dX3_follow_126 : decode cX3_follow 126 = .ok (.sipush 201, 3) := by decide +kernel
theorem dX3_follow_129 : decode cX3_follow 129 = .ok (.imul, 1) := by decide +kernel
theorem dX3_follow_130 : decode cX3_follow 130 = .ok (.iload 5, 2) := by decide +kernel
theorem dX3_follow_132 : decode cX3_follow 132 = .ok (.iadd, 1) := by decide +kernel
theorem dX3_follow_133 : decode cX3_follow 133 = .ok (.istore 7, 2) := by decide +kernel
theorem dX3_follow_135 : decode cX3_follow 135 = .ok (.aload_n 0, 1) := by decide +kernel
theorem dX3_follow_136 : decode cX3_follow 136 = .ok (.getfield 15, 3) := by decide +kernel
theorem dX3_follow_139 : decode cX3_follow 139 = .ok (.iload 7, 2) := by decide +kernel
theorem dX3_follow_141 : decode cX3_follow 141 = .ok (.aload_n 0, 1) := by decide +kernel
theorem dX3_follow_142 : decode cX3_follow 142 = .ok (.getfield 15, 3) := by decide +kernel
theorem dX3_follow_145 : decode cX3_follow 145 = .ok (.iload 7, 2) := by decide +kernel
theorem dX3_follow_147 : decode cX3_follow 147 = .ok (.invokestatic 67, 3) := by decide +kernel
theorem dX3_follow_150 : decode cX3_follow 150 = .ok (.iconst 1, 1) := by decide +kernel
theorem dX3_follow_151 : decode cX3_follow 151 = .ok (.iadd, 1) := by decide +kernel
theorem dX3_follow_152 : decode cX3_follow 152 = .ok (.invokestatic 71, 3) := by decide +kernel
theorem dX3_follow_155 : decode cX3_follow 155 = .ok (.iinc 5 1, 3) := by decide +kernel
theorem dX3_follow_158 : decode cX3_follow 158 = .ok (.goto (-147), 3) := by decide +kernel
theorem dX3_follow_161 : decode cX3_follow 161 = .ok (.return_, 1) := by decide +kernel
theorem dX3_onesOf_0 : decode cX3_onesOf 0 = .ok (.iload_n 0, 1) := by decide +kernel
theorem dX3_onesOf_1 : decode cX3_onesOf 1 = .ok (.tableswitch 33 1 3 #[27, 29, 31], 27) := by decide +kernel
theorem dX3_onesOf_28 : decode cX3_onesOf 28 = .ok (.iconst 1, 1) := by decide +kernel
theorem dX3_onesOf_29 : decode cX3_onesOf 29 = .ok (.ireturn, 1) := by decide +kernel
theorem dX3_onesOf_30 : decode cX3_onesOf 30 = .ok (.iconst 0, 1) := by decide +kernel
theorem dX3_onesOf_31 : decode cX3_onesOf 31 = .ok (.ireturn, 1) := by decide +kernel
theorem dX3_onesOf_32 : decode cX3_onesOf 32 = .ok (.iconst 2, 1) := by decide +kernel
theorem dX3_onesOf_33 : decode cX3_onesOf 33 = .ok (.ireturn, 1) := by decide +kernel
theorem dX3_onesOf_34 : decode cX3_onesOf 34 = .ok (.iconst 3, 1) := by decide +kernel
theorem dX3_onesOf_35 : decode cX3_onesOf 35 = .ok (.ireturn, 1) := by decide +kernel
theorem dX3_nearer_0 : decode cX3_nearer 0 = .ok (.aload_n 0, 1) := by decide +kernel
theorem dX3_nearer_1 : decode cX3_nearer 1 = .ok (.getfield 30, 3) := by decide +kernel
theorem dX3_nearer_4 : decode cX3_nearer 4 = .ok (.iload_n 2, 1) := by decide +kernel
theorem dX3_nearer_5 : decode cX3_nearer 5 = .ok (.invokestatic 67, 3) := by decide +kernel
theorem dX3_nearer_8 : decode cX3_nearer 8 = .ok (.istore_n 3, 1) := by decide +kernel
theorem dX3_nearer_9 : decode cX3_nearer 9 = .ok (.iconst 0, 1) := by decide +kernel
theorem dX3_nearer_10 : decode cX3_nearer 10 = .ok (.istore 4, 2) := by decide +kernel
theorem dX3_nearer_12 : decode cX3_nearer 12 = .ok (.iload 4, 2) := by decide +kernel
theorem dX3_nearer_14 : decode cX3_nearer 14 = .ok (.iconst 3, 1) := by decide +kernel
theorem dX3_nearer_15 : decode cX3_nearer 15 = .ok (.if_icmp .gt 45, 3) := by decide +kernel
theorem dX3_nearer_18 : decode cX3_nearer 18 = .ok (.aload_n 1, 1) := by decide +kernel
theorem dX3_nearer_19 : decode cX3_nearer 19 = .ok (.iload_n 2, 1) := by decide +kernel
theorem dX3_nearer_20 : decode cX3_nearer 20 = .ok (.iload 4, 2) := by decide +kernel
theorem dX3_nearer_22 : decode cX3_nearer 22 = .ok (.invokevirtual 93, 3) := by decide +kernel
theorem dX3_nearer_25 : decode cX3_nearer 25 = .ok (.istore 5, 2) := by decide +kernel
theorem dX3_nearer_27 : decode cX3_nearer 27 = .ok (.iload 5, 2) := by decide +kernel
theorem dX3_nearer_29 : decode cX3_nearer 29 = .ok (.iconst (-1), 1) := by decide +kernel
theorem dX3_nearer_30 : decode cX3_nearer 30 = .ok (.if_icmp .eq 24, 3) := by decide +kernel
theorem dX3_nearer_33 : decode cX3_nearer 33 = .ok (.iload_n 3, 1) := by decide +kernel
theorem dX3_nearer_34 : decode cX3_nearer 34 = .ok (.iconst (-1), 1) := by decide +kernel
theorem dX3_nearer_35 : decode cX3_nearer 35 = .ok (.if_icmp .eq 19, 3) := by decide +kernel
theorem dX3_nearer_38 : decode cX3_nearer 38 = .ok (.aload_n 0, 1) := by decide +kernel
theorem dX3_nearer_39 : decode cX3_nearer 39 = .ok (.getfield 30, 3) := by decide +kernel
theorem dX3_nearer_42 : decode cX3_nearer 42 = .ok (.iload 5, 2) := by decide +kernel
theorem dX3_nearer_44 : decode cX3_nearer 44 = .ok (.invokestatic 67, 3) := by decide +kernel
theorem dX3_nearer_47 : decode cX3_nearer 47 = .ok (.iload_n 3, 1) := by decide +kernel
theorem dX3_nearer_48 : decode cX3_nearer 48 = .ok (.if_icmp .ge 6, 3) := by decide +kernel
theorem dX3_nearer_51 : decode cX3_nearer 51 = .ok (.iload 5, 2) := by decide +kernel
theorem dX3_nearer_53 : decode cX3_nearer 53 = .ok (.ireturn, 1) := by decide +kernel
theorem dX3_nearer_54 : decode cX3_nearer 54 = .ok (.iinc 4 1, 3) := by decide +kernel
theorem dX3_nearer_57 : decode cX3_nearer 57 = .ok (.goto (-45), 3) := by decide +kernel
theorem dX3_nearer_60 : decode cX3_nearer 60 = .ok (.iload_n 2, 1) := by decide +kernel
theorem dX3_nearer_61 : decode cX3_nearer 61 = .ok (.ireturn, 1) := by decide +kernel
theorem dX3_doingOf_0 : decode cX3_doingOf 0 = .ok (.iload_n 1, 1) := by decide +kernel
theorem dX3_doingOf_1 : decode cX3_doingOf 1 = .ok (.ifCond .lt 14, 3) := by decide +kernel
theorem dX3_doingOf_4 : decode cX3_doingOf 4 = .ok (.aload_n 0, 1) := by decide +kernel
theorem dX3_doingOf_5 : decode cX3_doingOf 5 = .ok (.getfield 36, 3) := by decide +kernel
theorem dX3_doingOf_8 : decode cX3_doingOf 8 = .ok (.iload_n 1, 1) := by decide +kernel
theorem dX3_doingOf_9 : decode cX3_doingOf 9 = .ok (.invokestatic 76, 3) := by decide +kernel
theorem dX3_doingOf_12 : decode cX3_doingOf 12 = .ok (.ifCond .ne 5, 3) := by decide +kernel
theorem dX3_doingOf_15 : decode cX3_doingOf 15 = .ok (.iconst 0, 1) := by decide +kernel
theorem dX3_doingOf_16 : decode cX3_doingOf 16 = .ok (.ireturn, 1) := by decide +kernel
theorem dX3_doingOf_17 : decode cX3_doingOf 17 = .ok (.aload_n 0, 1) := by decide +kernel
theorem dX3_doingOf_18 : decode cX3_doingOf 18 = .ok (.getfield 18, 3) := by decide +kernel
theorem dX3_doingOf_21 : decode cX3_doingOf 21 = .ok (.iload_n 1, 1) := by decide +kernel
theorem dX3_doingOf_22 : decode cX3_doingOf 22 = .ok (.invokestatic 67, 3) := by decide +kernel
theorem dX3_doingOf_25 : decode cX3_doingOf 25 = .ok (.istore_n 3, 1) := by decide +kernel
theorem dX3_doingOf_26 : decode cX3_doingOf 26 = .ok (.iload_n 3, 1) := by decide +kernel
theorem dX3_doingOf_27 : decode cX3_doingOf 27 = .ok (.iconst (-1), 1) := by decide +kernel
theorem dX3_doingOf_28 : decode cX3_doingOf 28 = .ok (.if_icmp .eq 8, 3) := by decide +kernel
theorem dX3_doingOf_31 : decode cX3_doingOf 31 = .ok (.iload_n 2, 1) := by decide +kernel
theorem dX3_doingOf_32 : decode cX3_doingOf 32 = .ok (.iload_n 3, 1) := by decide +kernel
theorem dX3_doingOf_33 : decode cX3_doingOf 33 = .ok (.if_icmp .ge 5, 3) := by decide +kernel
theorem dX3_doingOf_36 : decode cX3_doingOf 36 = .ok (.iconst 1, 1) := by decide +kernel
theorem dX3_doingOf_37 : decode cX3_doingOf 37 = .ok (.ireturn, 1) := by decide +kernel
theorem dX3_doingOf_38 : decode cX3_doingOf 38 = .ok (.iload_n 2, 1) := by decide +kernel
theorem dX3_doingOf_39 : decode cX3_doingOf 39 = .ok (.iload_n 3, 1) := by decide +kernel
theorem dX3_doingOf_40 : decode cX3_doingOf 40 = .ok (.aload_n 0, 1) := by decide +kernel
theorem dX3_doingOf_41 : decode cX3_doingOf 41 = .ok (.getfield 40, 3) := by decide +kernel
theorem dX3_doingOf_44 : decode cX3_doingOf 44 = .ok (.iadd, 1) := by decide +kernel
theorem dX3_doingOf_45 : decode cX3_doingOf 45 = .ok (.if_icmp .ge 5, 3) := by decide +kernel
theorem dX3_doingOf_48 : decode cX3_doingOf 48 = .ok (.iconst 2, 1) := by decide +kernel
theorem dX3_doingOf_49 : decode cX3_doingOf 49 = .ok (.ireturn, 1) := by decide +kernel
theorem dX3_doingOf_50 : decode cX3_doingOf 50 = .ok (.aload_n 0, 1) := by decide +kernel
theorem dX3_doingOf_51 : decode cX3_doingOf 51 = .ok (.getfield 24, 3) := by decide +kernel
theorem dX3_doingOf_54 : decode cX3_doingOf 54 = .ok (.iload_n 1, 1) := by decide +kernel
theorem dX3_doingOf_55 : decode cX3_doingOf 55 = .ok (.invokestatic 67, 3) := by decide +kernel
theorem dX3_doingOf_58 : decode cX3_doingOf 58 = .ok (.istore 4, 2) := by decide +kernel
theorem dX3_doingOf_60 : decode cX3_doingOf 60 = .ok (.iload 4, 2) := by decide +kernel
theorem dX3_doingOf_62 : decode cX3_doingOf 62 = .ok (.iconst (-1), 1) := by decide +kernel
theorem dX3_doingOf_63 : decode cX3_doingOf 63 = .ok (.if_icmp .eq 9, 3) := by decide +kernel
theorem dX3_doingOf_66 : decode cX3_doingOf 66 = .ok (.iload_n 2, 1) := by decide +kernel
theorem dX3_doingOf_67 : decode cX3_doingOf 67 = .ok (.iload 4, 2) := by decide +kernel
theorem dX3_doingOf_69 : decode cX3_doingOf 69 = .ok (.if_icmp .ge 7, 3) := by decide +kernel
theorem dX3_doingOf_72 : decode cX3_doingOf 72 = .ok (.iconst 3, 1) := by decide +kernel
theorem dX3_doingOf_73 : decode cX3_doingOf 73 = .ok (.goto 4, 3) := by decide +kernel
theorem dX3_doingOf_76 : decode cX3_doingOf 76 = .ok (.iconst 4, 1) := by decide +kernel
theorem dX3_doingOf_77 : decode cX3_doingOf 77 = .ok (.ireturn, 1) := by decide +kernel
theorem dX3_cellOf_0 : decode cX3_cellOf 0 = .ok (.aload_n 0, 1) := by decide +kernel
theorem dX3_cellOf_1 : decode cX3_cellOf 1 = .ok (.getfield 36, 3) := by decide +kernel
theorem dX3_cellOf_4 : decode cX3_cellOf 4 = .ok (.iload_n 1, 1) := by decide +kernel
theorem dX3_cellOf_5 : decode cX3_cellOf 5 = .ok (.invokestatic 76, 3) := by decide +kernel
theorem dX3_cellOf_8 : decode cX3_cellOf 8 = .ok (.ifCond .eq 20, 3) := by decide +kernel
theorem dX3_cellOf_11 : decode cX3_cellOf 11 = .ok (.aload_n 0, 1) := by decide +kernel
theorem dX3_cellOf_12 : decode cX3_cellOf 12 = .ok (.getfield 9, 3) := by decide +kernel
theorem dX3_cellOf_15 : decode cX3_cellOf 15 = .ok (.iload_n 1, 1) := by decide +kernel
theorem dX3_cellOf_16 : decode cX3_cellOf 16 = .ok (.sipush 201, 3) := by decide +kernel
theorem dX3_cellOf_19 : decode cX3_cellOf 19 = .ok (.imul, 1) := by decide +kernel
theorem dX3_cellOf_20 : decode cX3_cellOf 20 = .ok (.iload_n 2, 1) := by decide +kernel
theorem dX3_cellOf_21 : decode cX3_cellOf 21 = .ok (.iadd, 1) := by decide +kernel
theorem dX3_cellOf_22 : decode cX3_cellOf 22 = .ok (.invokestatic 67, 3) := by decide +kernel
theorem dX3_cellOf_25 : decode cX3_cellOf 25 = .ok (.goto 4, 3) := by decide +kernel
theorem dX3_cellOf_28 : decode cX3_cellOf 28 = .ok (.iconst (-1), 1) := by decide +kernel
theorem dX3_cellOf_29 : decode cX3_cellOf 29 = .ok (.ireturn, 1) := by decide +kernel
theorem dX3_howMany_0 : decode cX3_howMany 0 = .ok (.aload_n 0, 1) := by decide +kernel
theorem dX3_howMany_1 : decode cX3_howMany 1 = .ok (.getfield 15, 3) := by decide +kernel
theorem dX3_howMany_4 : decode cX3_howMany 4 = .ok (.iload_n 2, 1) := by decide +kernel
theorem dX3_howMany_5 : decode cX3_howMany 5 = .ok (.sipush 201, 3) := by decide +kernel
theorem dX3_howMany_8 : decode cX3_howMany 8 = .ok (.imul, 1) := by decide +kernel
theorem dX3_howMany_9 : decode cX3_howMany 9 = .ok (.iload_n 1, 1) := by decide +kernel
theorem dX3_howMany_10 : decode cX3_howMany 10 = .ok (.iadd, 1) := by decide +kernel
theorem dX3_howMany_11 : decode cX3_howMany 11 = .ok (.invokestatic 67, 3) := by decide +kernel
theorem dX3_howMany_14 : decode cX3_howMany 14 = .ok (.ireturn, 1) := by decide +kernel
theorem dX3_peak_0 : decode cX3_peak 0 = .ok (.iconst 0, 1) := by decide +kernel
theorem dX3_peak_1 : decode cX3_peak 1 = .ok (.istore_n 1, 1) := by decide +kernel
theorem dX3_peak_2 : decode cX3_peak 2 = .ok (.iconst 1, 1) := by decide +kernel
theorem dX3_peak_3 : decode cX3_peak 3 = .ok (.istore_n 2, 1) := by decide +kernel
theorem dX3_peak_4 : decode cX3_peak 4 = .ok (.iload_n 2, 1) := by decide +kernel
theorem dX3_peak_5 : decode cX3_peak 5 = .ok (.sipush 201, 3) := by decide +kernel
theorem dX3_peak_8 : decode cX3_peak 8 = .ok (.if_icmp .ge 26, 3) := by decide +kernel
theorem dX3_peak_11 : decode cX3_peak 11 = .ok (.aload_n 0, 1) := by decide +kernel
theorem dX3_peak_12 : decode cX3_peak 12 = .ok (.iload_n 2, 1) := by decide +kernel
theorem dX3_peak_13 : decode cX3_peak 13 = .ok (.iconst 0, 1) := by decide +kernel
theorem dX3_peak_14 : decode cX3_peak 14 = .ok (.invokevirtual 114, 3) := by decide +kernel
theorem dX3_peak_17 : decode cX3_peak 17 = .ok (.aload_n 0, 1) := by decide +kernel
theorem dX3_peak_18 : decode cX3_peak 18 = .ok (.iload_n 1, 1) := by decide +kernel
theorem dX3_peak_19 : decode cX3_peak 19 = .ok (.iconst 0, 1) := by decide +kernel
theorem dX3_peak_20 : decode cX3_peak 20 = .ok (.invokevirtual 114, 3) := by decide +kernel
theorem dX3_peak_23 : decode cX3_peak 23 = .ok (.if_icmp .le 5, 3) := by decide +kernel
theorem dX3_peak_26 : decode cX3_peak 26 = .ok (.iload_n 2, 1) := by decide +kernel
theorem dX3_peak_27 : decode cX3_peak 27 = .ok (.istore_n 1, 1) := by decide +kernel
theorem dX3_peak_28 : decode cX3_peak 28 = .ok (.iinc 2 1, 3) := by decide +kernel
theorem dX3_peak_31 : decode cX3_peak 31 = .ok (.goto (-27), 3) := by decide +kernel
theorem dX3_peak_34 : decode cX3_peak 34 = .ok (.iload_n 1, 1) := by decide +kernel
theorem dX3_peak_35 : decode cX3_peak 35 = .ok (.ireturn, 1) := by decide +kernel
theorem dX3_firstWith_0 : decode cX3_firstWith 0 = .ok (.iconst 0, 1) := by decide +kernel
theorem dX3_firstWith_1 : decode cX3_firstWith 1 = .ok (.istore_n 2, 1) := by decide +kernel
theorem dX3_firstWith_2 : decode cX3_firstWith 2 = .ok (.iload_n 2, 1) := by decide +kernel
theorem dX3_firstWith_3 : decode cX3_firstWith 3 = .ok (.sipush 201, 3) := by decide +kernel
theorem dX3_firstWith_6 : decode cX3_firstWith 6 = .ok (.if_icmp .ge 21, 3) := by decide +kernel
theorem dX3_firstWith_9 : decode cX3_firstWith 9 = .ok (.aload_n 0, 1) := by decide +kernel
theorem dX3_firstWith_10 : decode cX3_firstWith 10 = .ok (.iload_n 2, 1) := by decide +kernel
theorem dX3_firstWith_11 : decode cX3_firstWith 11 = .ok (.iconst 0, 1) := by decide +kernel
theorem dX3_firstWith_12 : decode cX3_firstWith 12 = .ok (.invokevirtual 114, 3) := by decide +kernel
theorem dX3_firstWith_15 : decode cX3_firstWith 15 = .ok (.iload_n 1, 1) := by decide +kernel
theorem dX3_firstWith_16 : decode cX3_firstWith 16 = .ok (.if_icmp .lt 5, 3) := by decide +kernel
theorem dX3_firstWith_19 : decode cX3_firstWith 19 = .ok (.iload_n 2, 1) := by decide +kernel
theorem dX3_firstWith_20 : decode cX3_firstWith 20 = .ok (.ireturn, 1) := by decide +kernel
theorem dX3_firstWith_21 : decode cX3_firstWith 21 = .ok (.iinc 2 1, 3) := by decide +kernel
theorem dX3_firstWith_24 : decode cX3_firstWith 24 = .ok (.goto (-22), 3) := by decide +kernel
theorem dX3_firstWith_27 : decode cX3_firstWith 27 = .ok (.iconst (-1), 1) := by decide +kernel
theorem dX3_firstWith_28 : decode cX3_firstWith 28 = .ok (.ireturn, 1) := by decide +kernel
theorem dX3_openersOf_0 : decode cX3_openersOf 0 = .ok (.iconst 0, 1) := by decide +kernel
theorem dX3_openersOf_1 : decode cX3_openersOf 1 = .ok (.istore_n 2, 1) := by decide +kernel
theorem dX3_openersOf_2 : decode cX3_openersOf 2 = .ok (.iconst 0, 1) := by decide +kernel
theorem dX3_openersOf_3 : decode cX3_openersOf 3 = .ok (.istore_n 3, 1) := by decide +kernel
theorem dX3_openersOf_4 : decode cX3_openersOf 4 = .ok (.iload_n 3, 1) := by decide +kernel
theorem dX3_openersOf_5 : decode cX3_openersOf 5 = .ok (.bipush 9, 2) := by decide +kernel
theorem dX3_openersOf_7 : decode cX3_openersOf 7 = .ok (.if_icmp .ge 32, 3) := by decide +kernel
theorem dX3_openersOf_10 : decode cX3_openersOf 10 = .ok (.iload_n 1, 1) := by decide +kernel
theorem dX3_openersOf_11 : decode cX3_openersOf 11 = .ok (.iload_n 3, 1) := by decide +kernel
theorem dX3_openersOf_12 : decode cX3_openersOf 12 = .ok (.invokestatic 76, 3) := by decide +kernel
theorem dX3_openersOf_15 : decode cX3_openersOf 15 = .ok (.ifCond .eq 18, 3) := by decide +kernel
theorem dX3_openersOf_18 : decode cX3_openersOf 18 = .ok (.aload_n 0, 1) := by decide +kernel
theorem dX3_openersOf_19 : decode cX3_openersOf 19 = .ok (.getfield 18, 3) := by decide +kernel
theorem dX3_openersOf_22 : decode cX3_openersOf 22 = .ok (.iload_n 3, 1) := by decide +kernel
theorem dX3_openersOf_23 : decode cX3_openersOf 23 = .ok (.invokestatic 67, 3) := by decide +kernel
theorem dX3_openersOf_26 : decode cX3_openersOf 26 = .ok (.iconst (-1), 1) := by decide +kernel
theorem dX3_openersOf_27 : decode cX3_openersOf 27 = .ok (.if_icmp .eq 6, 3) := by decide +kernel
theorem dX3_openersOf_30 : decode cX3_openersOf 30 = .ok (.iinc 2 1, 3) := by decide +kernel
theorem dX3_openersOf_33 : decode cX3_openersOf 33 = .ok (.iinc 3 1, 3) := by decide +kernel
theorem dX3_openersOf_36 : decode cX3_openersOf 36 = .ok (.goto (-32), 3) := by decide +kernel
theorem dX3_openersOf_39 : decode cX3_openersOf 39 = .ok (.iload_n 2, 1) := by decide +kernel
theorem dX3_openersOf_40 : decode cX3_openersOf 40 = .ok (.ireturn, 1) := by decide +kernel
theorem dX3_openersAhead_0 : decode cX3_openersAhead 0 = .ok (.iconst 0, 1) := by decide +kernel
theorem dX3_openersAhead_1 : decode cX3_openersAhead 1 = .ok (.istore_n 2, 1) := by decide +kernel
theorem dX3_openersAhead_2 : decode cX3_openersAhead 2 = .ok (.iconst 0, 1) := by decide +kernel
theorem dX3_openersAhead_3 : decode cX3_openersAhead 3 = .ok (.istore_n 3, 1) := by decide +kernel
theorem dX3_openersAhead_4 : decode cX3_openersAhead 4 = .ok (.iload_n 3, 1) := by decide +kernel
theorem dX3_openersAhead_5 : decode cX3_openersAhead 5 = .ok (.bipush 9, 2) := by decide +kernel
theorem dX3_openersAhead_7 : decode cX3_openersAhead 7 = .ok (.if_icmp .ge 36, 3) := by decide +kernel
theorem dX3_openersAhead_10 : decode cX3_openersAhead 10 = .ok (.aload_n 0, 1) := by decide +kernel
theorem dX3_openersAhead_11 : decode cX3_openersAhead 11 = .ok (.getfield 18, 3) := by decide +kernel
theorem dX3_openersAhead_14 : decode cX3_openersAhead 14 = .ok (.iload_n 3, 1) := by decide +kernel
theorem dX3_openersAhead_15 : decode cX3_openersAhead 15 = .ok (.invokestatic 67, 3) := by decide +kernel
theorem dX3_openersAhead_18 : decode cX3_openersAhead 18 = .ok (.iconst (-1), 1) := by decide +kernel
theorem dX3_openersAhead_19 : decode cX3_openersAhead 19 = .ok (.if_icmp .eq 18, 3) := by decide +kernel
theorem dX3_openersAhead_22 : decode cX3_openersAhead 22 = .ok (.aload_n 0, 1) := by decide +kernel
theorem dX3_openersAhead_23 : decode cX3_openersAhead 23 = .ok (.getfield 18, 3) := by decide +kernel
theorem dX3_openersAhead_26 : decode cX3_openersAhead 26 = .ok (.iload_n 3, 1) := by decide +kernel
theorem dX3_openersAhead_27 : decode cX3_openersAhead 27 = .ok (.invokestatic 67, 3) := by decide +kernel
theorem dX3_openersAhead_30 : decode cX3_openersAhead 30 = .ok (.iload_n 1, 1) := by decide +kernel
theorem dX3_openersAhead_31 : decode cX3_openersAhead 31 = .ok (.if_icmp .ge 6, 3) := by decide +kernel
theorem dX3_openersAhead_34 : decode cX3_openersAhead 34 = .ok (.iinc 2 1, 3) := by decide +kernel
theorem dX3_openersAhead_37 : decode cX3_openersAhead 37 = .ok (.iinc 3 1, 3) := by decide +kernel
theorem dX3_openersAhead_40 : decode cX3_openersAhead 40 = .ok (.goto (-36), 3) := by decide +kernel
theorem dX3_openersAhead_43 : decode cX3_openersAhead 43 = .ok (.iload_n 2, 1) := by decide +kernel
theorem dX3_openersAhead_44 : decode cX3_openersAhead 44 = .ok (.ireturn, 1) := by decide +kernel
theorem dX3_lastOut_0 : decode cX3_lastOut 0 = .ok (.iconst (-1), 1) := by decide +kernel
theorem dX3_lastOut_1 : decode cX3_lastOut 1 = .ok (.istore_n 1, 1) := by decide +kernel
theorem dX3_lastOut_2 : decode cX3_lastOut 2 = .ok (.iconst 0, 1) := by decide +kernel
theorem dX3_lastOut_3 : decode cX3_lastOut 3 = .ok (.istore_n 2, 1) := by decide +kernel
theorem dX3_lastOut_4 : decode cX3_lastOut 4 = .ok (.iload_n 2, 1) := by decide +kernel
theorem dX3_lastOut_5 : decode cX3_lastOut 5 = .ok (.bipush 9, 2) := by decide +kernel
theorem dX3_lastOut_7 : decode cX3_lastOut 7 = .ok (.if_icmp .ge 22, 3) := by decide +kernel
theorem dX3_lastOut_10 : decode cX3_lastOut 10 = .ok (.iload_n 1, 1) := by decide +kernel
theorem dX3_lastOut_11 : decode cX3_lastOut 11 = .ok (.aload_n 0, 1) := by decide +kernel
theorem dX3_lastOut_12 : decode cX3_lastOut 12 = .ok (.getfield 24, 3) := by decide +kernel
theorem dX3_lastOut_15 : decode cX3_lastOut 15 = .ok (.iload_n 2, 1) := by decide +kernel
theorem dX3_lastOut_16 : decode cX3_lastOut 16 = .ok (.invokestatic 67, 3) := by decide +kernel
theorem dX3_lastOut_19 : decode cX3_lastOut 19 = .ok (.invokestatic 117, 3) := by decide +kernel
theorem dX3_lastOut_22 : decode cX3_lastOut 22 = .ok (.istore_n 1, 1) := by decide +kernel
theorem dX3_lastOut_23 : decode cX3_lastOut 23 = .ok (.iinc 2 1, 3) := by decide +kernel
theorem dX3_lastOut_26 : decode cX3_lastOut 26 = .ok (.goto (-22), 3) := by decide +kernel
theorem dX3_lastOut_29 : decode cX3_lastOut 29 = .ok (.iload_n 1, 1) := by decide +kernel
theorem dX3_lastOut_30 : decode cX3_lastOut 30 = .ok (.ireturn, 1) := by decide +kernel
theorem dX3_outBy_0 : decode cX3_outBy 0 = .ok (.iconst 0, 1) := by decide +kernel
theorem dX3_outBy_1 : decode cX3_outBy 1 = .ok (.istore_n 2, 1) := by decide +kernel
theorem dX3_outBy_2 : decode cX3_outBy 2 = .ok (.iconst 0, 1) := by decide +kernel
theorem dX3_outBy_3 : decode cX3_outBy 3 = .ok (.istore_n 3, 1) := by decide +kernel
theorem dX3_outBy_4 : decode cX3_outBy 4 = .ok (.iload_n 3, 1) := by decide +kernel
theorem dX3_outBy_5 : decode cX3_outBy 5 = .ok (.bipush 9, 2) := by decide +kernel
theorem dX3_outBy_7 : decode cX3_outBy 7 = .ok (.if_icmp .ge 24, 3) := by decide +kernel
theorem dX3_outBy_10 : decode cX3_outBy 10 = .ok (.aload_n 0, 1) := by decide +kernel
theorem dX3_outBy_11 : decode cX3_outBy 11 = .ok (.getfield 27, 3) := by decide +kernel
theorem dX3_outBy_14 : decode cX3_outBy 14 = .ok (.iload_n 3, 1) := by decide +kernel
theorem dX3_outBy_15 : decode cX3_outBy 15 = .ok (.invokestatic 67, 3) := by decide +kernel
theorem dX3_outBy_18 : decode cX3_outBy 18 = .ok (.iload_n 1, 1) := by decide +kernel
theorem dX3_outBy_19 : decode cX3_outBy 19 = .ok (.if_icmp .ne 6, 3) := by decide +kernel
theorem dX3_outBy_22 : decode cX3_outBy 22 = .ok (.iinc 2 1, 3) := by decide +kernel
theorem dX3_outBy_25 : decode cX3_outBy 25 = .ok (.iinc 3 1, 3) := by decide +kernel
theorem dX3_outBy_28 : decode cX3_outBy 28 = .ok (.goto (-24), 3) := by decide +kernel
theorem dX3_outBy_31 : decode cX3_outBy 31 = .ok (.iload_n 2, 1) := by decide +kernel
theorem dX3_outBy_32 : decode cX3_outBy 32 = .ok (.ireturn, 1) := by decide +kernel
theorem dX3_lastOutBy_0 : decode cX3_lastOutBy 0 = .ok (.iconst (-1), 1) := by decide +kernel
theorem dX3_lastOutBy_1 : decode cX3_lastOutBy 1 = .ok (.istore_n 2, 1) := by decide +kernel
theorem dX3_lastOutBy_2 : decode cX3_lastOutBy 2 = .ok (.iconst 0, 1) := by decide +kernel
theorem dX3_lastOutBy_3 : decode cX3_lastOutBy 3 = .ok (.istore_n 3, 1) := by decide +kernel
theorem dX3_lastOutBy_4 : decode cX3_lastOutBy 4 = .ok (.iload_n 3, 1) := by decide +kernel
theorem dX3_lastOutBy_5 : decode cX3_lastOutBy 5 = .ok (.bipush 9, 2) := by decide +kernel
theorem dX3_lastOutBy_7 : decode cX3_lastOutBy 7 = .ok (.if_icmp .ge 34, 3) := by decide +kernel
theorem dX3_lastOutBy_10 : decode cX3_lastOutBy 10 = .ok (.aload_n 0, 1) := by decide +kernel
theorem dX3_lastOutBy_11 : decode cX3_lastOutBy 11 = .ok (.getfield 27, 3) := by decide +kernel
theorem dX3_lastOutBy_14 : decode cX3_lastOutBy 14 = .ok (.iload_n 3, 1) := by decide +kernel
theorem dX3_lastOutBy_15 : decode cX3_lastOutBy 15 = .ok (.invokestatic 67, 3) := by decide +kernel
theorem dX3_lastOutBy_18 : decode cX3_lastOutBy 18 = .ok (.iload_n 1, 1) := by decide +kernel
theorem dX3_lastOutBy_19 : decode cX3_lastOutBy 19 = .ok (.if_icmp .ne 16, 3) := by decide +kernel
theorem dX3_lastOutBy_22 : decode cX3_lastOutBy 22 = .ok (.iload_n 2, 1) := by decide +kernel
theorem dX3_lastOutBy_23 : decode cX3_lastOutBy 23 = .ok (.aload_n 0, 1) := by decide +kernel
theorem dX3_lastOutBy_24 : decode cX3_lastOutBy 24 = .ok (.getfield 24, 3) := by decide +kernel
theorem dX3_lastOutBy_27 : decode cX3_lastOutBy 27 = .ok (.iload_n 3, 1) := by decide +kernel
theorem dX3_lastOutBy_28 : decode cX3_lastOutBy 28 = .ok (.invokestatic 67, 3) := by decide +kernel
theorem dX3_lastOutBy_31 : decode cX3_lastOutBy 31 = .ok (.invokestatic 117, 3) := by decide +kernel
theorem dX3_lastOutBy_34 : decode cX3_lastOutBy 34 = .ok (.istore_n 2, 1) := by decide +kernel
theorem dX3_lastOutBy_35 : decode cX3_lastOutBy 35 = .ok (.iinc 3 1, 3) := by decide +kernel
theorem dX3_lastOutBy_38 : decode cX3_lastOutBy 38 = .ok (.goto (-34), 3) := by decide +kernel
theorem dX3_lastOutBy_41 : decode cX3_lastOutBy 41 = .ok (.iload_n 2, 1) := by decide +kernel
theorem dX3_lastOutBy_42 : decode cX3_lastOutBy 42 = .ok (.ireturn, 1) := by decide +kernel
theorem dX4_init_0 : decode cX4_init 0 = .ok (.aload_n 0, 1) := by decide +kernel
theorem dX4_init_1 : decode cX4_init 1 = .ok (.invokespecial 3, 3) := by decide +kernel
theorem dX4_init_4 : decode cX4_init 4 = .ok (.aload_n 0, 1) := by decide +kernel
theorem dX4_init_5 : decode cX4_init 5 = .ok (.bipush 9, 2) := by decide +kernel
theorem dX4_init_7 : decode cX4_init 7 = .ok (.newarray .int, 2) := by decide +kernel
theorem dX4_init_9 : decode cX4_init 9 = .ok (.putfield 9, 3) := by decide +kernel
theorem dX4_init_12 : decode cX4_init 12 = .ok (.aload_n 0, 1) := by decide +kernel
theorem dX4_init_13 : decode cX4_init 13 = .ok (.bipush 9, 2) := by decide +kernel
theorem dX4_init_15 : decode cX4_init 15 = .ok (.newarray .int, 2) := by decide +kernel
theorem dX4_init_17 : decode cX4_init 17 = .ok (.putfield 15, 3) := by decide +kernel
theorem dX4_init_20 : decode cX4_init 20 = .ok (.aload_n 0, 1) := by decide +kernel
theorem dX4_init_21 : decode cX4_init 21 = .ok (.bipush 9, 2) := by decide +kernel
theorem dX4_init_23 : decode cX4_init 23 = .ok (.newarray .int, 2) := by decide +kernel
theorem dX4_init_25 : decode cX4_init 25 = .ok (.putfield 18, 3) := by decide +kernel
theorem dX4_init_28 : decode cX4_init 28 = .ok (.aload_n 0, 1) := by decide +kernel
theorem dX4_init_29 : decode cX4_init 29 = .ok (.bipush 9, 2) := by decide +kernel
theorem dX4_init_31 : decode cX4_init 31 = .ok (.newarray .int, 2) := by decide +kernel
theorem dX4_init_33 : decode cX4_init 33 = .ok (.putfield 21, 3) := by decide +kernel
theorem dX4_init_36 : decode cX4_init 36 = .ok (.aload_n 0, 1) := by decide +kernel
theorem dX4_init_37 : decode cX4_init 37 = .ok (.bipush 9, 2) := by decide +kernel
theorem dX4_init_39 : decode cX4_init 39 = .ok (.newarray .int, 2) := by decide +kernel
theorem dX4_init_41 : decode cX4_init 41 = .ok (.putfield 24, 3) := by decide +kernel
theorem dX4_init_44 : decode cX4_init 44 = .ok (.aload_n 0, 1) := by decide +kernel
theorem dX4_init_45 : decode cX4_init 45 = .ok (.bipush 9, 2) := by decide +kernel
theorem dX4_init_47 : decode cX4_init 47 = .ok (.newarray .int, 2) := by decide +kernel
theorem dX4_init_49 : decode cX4_init 49 = .ok (.putfield 27, 3) := by decide +kernel
theorem dX4_init_52 : decode cX4_init 52 = .ok (.aload_n 0, 1) := by decide +kernel
theorem dX4_init_53 : decode cX4_init 53 = .ok (.bipush 108, 2) := by decide +kernel
theorem dX4_init_55 : decode cX4_init 55 = .ok (.newarray .int, 2) := by decide +kernel
theorem dX4_init_57 : decode cX4_init 57 = .ok (.putfield 30, 3) := by decide +kernel
theorem dX4_init_60 : decode cX4_init 60 = .ok (.aload_n 0, 1) := by decide +kernel
theorem dX4_init_61 : decode cX4_init 61 = .ok (.iconst 0, 1) := by decide +kernel
theorem dX4_init_62 : decode cX4_init 62 = .ok (.putfield 33, 3) := by decide +kernel
theorem dX4_init_65 : decode cX4_init 65 = .ok (.aload_n 0, 1) := by decide +kernel
theorem dX4_init_66 : decode cX4_init 66 = .ok (.iconst 0, 1) := by decide +kernel
theorem dX4_init_67 : decode cX4_init 67 = .ok (.putfield 37, 3) := by decide +kernel
theorem dX4_init_70 : decode cX4_init 70 = .ok (.return_, 1) := by decide +kernel
theorem dX4_has_0 : decode cX4_has 0 = .ok (.iload_n 1, 1) := by decide +kernel
theorem dX4_has_1 : decode cX4_has 1 = .ok (.ifCond .lt 15, 3) := by decide +kernel
theorem dX4_has_4 : decode cX4_has 4 = .ok (.iload_n 1, 1) := by decide +kernel
theorem dX4_has_5 : decode cX4_has 5 = .ok (.aload_n 0, 1) := by decide +kernel
theorem dX4_has_6 : decode cX4_has 6 = .ok (.getfield 37, 3) := by decide +kernel
theorem dX4_has_9 : decode cX4_has 9 = .ok (.if_icmp .ge 7, 3) := by decide +kernel
theorem dX4_has_12 : decode cX4_has 12 = .ok (.iconst 1, 1) := by decide +kernel
theorem dX4_has_13 : decode cX4_has 13 = .ok (.goto 4, 3) := by decide +kernel
theorem dX4_has_16 : decode cX4_has 16 = .ok (.iconst 0, 1) := by decide +kernel
theorem dX4_has_17 : decode cX4_has 17 = .ok (.ireturn, 1) := by decide +kernel
theorem dX4_all_0 : decode cX4_all 0 = .ok (.iconst 1, 1) := by decide +kernel
theorem dX4_all_1 : decode cX4_all 1 = .ok (.aload_n 0, 1) := by decide +kernel
theorem dX4_all_2 : decode cX4_all 2 = .ok (.getfield 37, 3) := by decide +kernel
theorem dX4_all_5 : decode cX4_all 5 = .ok (.ishl, 1) := by decide +kernel
theorem dX4_all_6 : decode cX4_all 6 = .ok (.iconst 1, 1) := by decide +kernel
theorem dX4_all_7 : decode cX4_all 7 = .ok (.isub, 1) := by decide +kernel
theorem dX4_all_8 : decode cX4_all 8 = .ok (.ireturn, 1) := by decide +kernel
theorem dX4_rowOf_0 : decode cX4_rowOf 0 = .ok (.iload_n 1, 1) := by decide +kernel
theorem dX4_rowOf_1 : decode cX4_rowOf 1 = .ok (.lookupswitch 37 #[(0, 27), (1, 32)], 27) := by decide +kernel
theorem dX4_rowOf_28 : decode cX4_rowOf 28 = .ok (.aload_n 0, 1) := by decide +kernel
theorem dX4_rowOf_29 : decode cX4_rowOf 29 = .ok (.getfield 18, 3) := by decide +kernel
theorem dX4_rowOf_32 : decode cX4_rowOf 32 = .ok (.areturn, 1) := by decide +kernel
theorem dX4_rowOf_33 : decode cX4_rowOf 33 = .ok (.aload_n 0, 1) := by decide +kernel
theorem dX4_rowOf_34 : decode cX4_rowOf 34 = .ok (.getfield 21, 3) := by decide +kernel
theorem dX4_rowOf_37 : decode cX4_rowOf 37 = .ok (.areturn, 1) := by decide +kernel
theorem dX4_rowOf_38 : decode cX4_rowOf 38 = .ok (.aload_n 0, 1) := by decide +kernel
theorem dX4_rowOf_39 : decode cX4_rowOf 39 = .ok (.getfield 15, 3) := by decide +kernel
theorem dX4_rowOf_42 : decode cX4_rowOf 42 = .ok (.areturn, 1) := by decide +kernel
theorem dX4_valueOf_0 : decode cX4_valueOf 0 = .ok (.aload_n 0, 1) := by decide +kernel
theorem dX4_valueOf_1 : decode cX4_valueOf 1 = .ok (.iload_n 2, 1) := by decide +kernel
theorem dX4_valueOf_2 : decode cX4_valueOf 2 = .ok (.invokevirtual 40, 3) := by decide +kernel
theorem dX4_valueOf_5 : decode cX4_valueOf 5 = .ok (.iload_n 1, 1) := by decide +kernel
theorem dX4_valueOf_6 : decode cX4_valueOf 6 = .ok (.invokestatic 44, 3) := by decide +kernel
theorem dX4_valueOf_9 : decode cX4_valueOf 9 = .ok (.ireturn, 1) := by decide +kernel
theorem dX4_change_0 : decode cX4_change 0 = .ok (.aload_n 0, 1) := by decide +kernel
theorem dX4_change_1 : decode cX4_change 1 = .ok (.iload_n 2, 1) := by decide +kernel
theorem dX4_change_2 : decode cX4_change 2 = .ok (.invokevirtual 40, 3) := by decide +kernel
theorem dX4_change_5 : decode cX4_change 5 = .ok (.iload_n 1, 1) := by decide +kernel
theorem dX4_change_6 : decode cX4_change 6 = .ok (.iload_n 3, 1) := by decide +kernel
theorem dX4_change_7 : decode cX4_change 7 = .ok (.invokestatic 48, 3) := by decide +kernel
theorem dX4_change_10 : decode cX4_change 10 = .ok (.return_, 1) := by decide +kernel
theorem dX4_stepOf_0 : decode cX4_stepOf 0 = .ok (.aload_n 0, 1) := by decide +kernel
theorem dX4_stepOf_1 : decode cX4_stepOf 1 = .ok (.getfield 27, 3) := by decide +kernel
theorem dX4_stepOf_4 : decode cX4_stepOf 4 = .ok (.iload_n 1, 1) := by decide +kernel
theorem dX4_stepOf_5 : decode cX4_stepOf 5 = .ok (.invokestatic 44, 3) := by decide +kernel
theorem dX4_stepOf_8 : decode cX4_stepOf 8 = .ok (.istore_n 3, 1) := by decide +kernel
theorem dX4_stepOf_9 : decode cX4_stepOf 9 = .ok (.iload_n 3, 1) := by decide +kernel
theorem dX4_stepOf_10 : decode cX4_stepOf 10 = .ok (.ifCond .le 21, 3) := by decide +kernel
theorem dX4_stepOf_13 : decode cX4_stepOf 13 = .ok (.aload_n 0, 1) := by decide +kernel
theorem dX4_stepOf_14 : decode cX4_stepOf 14 = .ok (.getfield 30, 3) := by decide +kernel
theorem dX4_stepOf_17 : decode cX4_stepOf 17 = .ok (.iload_n 1, 1) := by decide +kernel
theorem dX4_stepOf_18 : decode cX4_stepOf 18 = .ok (.bipush 12, 2) := by decide +kernel
theorem dX4_stepOf_20 : decode cX4_stepOf 20 = .ok (.imul, 1) := by decide +kernel
theorem dX4_stepOf_21 : decode cX4_stepOf 21 = .ok (.iload_n 2, 1) := by decide +kernel
theorem dX4_stepOf_22 : decode cX4_stepOf 22 = .ok (.iload_n 3, 1) := by decide +kernel
theorem dX4_stepOf_23 : decode cX4_stepOf 23 = .ok (.irem, 1) := by decide +kernel
theorem dX4_stepOf_24 : decode cX4_stepOf 24 = .ok (.iadd, 1) := by decide +kernel
theorem dX4_stepOf_25 : decode cX4_stepOf 25 = .ok (.invokestatic 44, 3) := by decide +kernel
theorem dX4_stepOf_28 : decode cX4_stepOf 28 = .ok (.goto 4, 3) := by decide +kernel
theorem dX4_stepOf_31 : decode cX4_stepOf 31 = .ok (.iconst (-1), 1) := by decide +kernel
theorem dX4_stepOf_32 : decode cX4_stepOf 32 = .ok (.ireturn, 1) := by decide +kernel
theorem dX5_init_0 : decode cX5_init 0 = .ok (.aload_n 0, 1) := by decide +kernel
theorem dX5_init_1 : decode cX5_init 1 = .ok (.invokespecial 3, 3) := by decide +kernel
theorem dX5_init_4 : decode cX5_init 4 = .ok (.aload_n 0, 1) := by decide +kernel
theorem dX5_init_5 : decode cX5_init 5 = .ok (.sipush 1600, 3) := by decide +kernel
theorem dX5_init_8 : decode cX5_init 8 = .ok (.newarray .int, 2) := by decide +kernel
theorem dX5_init_10 : decode cX5_init 10 = .ok (.putfield 9, 3) := by decide +kernel
theorem dX5_init_13 : decode cX5_init 13 = .ok (.aload_n 0, 1) := by decide +kernel
theorem dX5_init_14 : decode cX5_init 14 = .ok (.bipush 64, 2) := by decide +kernel
theorem dX5_init_16 : decode cX5_init 16 = .ok (.newarray .int, 2) := by decide +kernel
theorem dX5_init_18 : decode cX5_init 18 = .ok (.putfield 15, 3) := by decide +kernel
theorem dX5_init_21 : decode cX5_init 21 = .ok (.aload_n 0, 1) := by decide +kernel
theorem dX5_init_22 : decode cX5_init 22 = .ok (.iconst 0, 1) := by decide +kernel
theorem dX5_init_23 : decode cX5_init 23 = .ok (.putfield 18, 3) := by decide +kernel
theorem dX5_init_26 : decode cX5_init 26 = .ok (.aload_n 0, 1) := by decide +kernel
theorem dX5_init_27 : decode cX5_init 27 = .ok (.iconst 0, 1) := by decide +kernel
theorem dX5_init_28 : decode cX5_init 28 = .ok (.putfield 22, 3) := by decide +kernel
theorem dX5_init_31 : decode cX5_init 31 = .ok (.return_, 1) := by decide +kernel
theorem dX5_clear_0 : decode cX5_clear 0 = .ok (.aload_n 0, 1) := by decide +kernel
theorem dX5_clear_1 : decode cX5_clear 1 = .ok (.iconst 0, 1) := by decide +kernel
theorem dX5_clear_2 : decode cX5_clear 2 = .ok (.putfield 18, 3) := by decide +kernel
theorem dX5_clear_5 : decode cX5_clear 5 = .ok (.return_, 1) := by decide +kernel
theorem dX5_add_0 : decode cX5_add 0 = .ok (.aload_n 0, 1) := by decide +kernel
theorem dX5_add_1 : decode cX5_add 1 = .ok (.getfield 9, 3) := by decide +kernel
theorem dX5_add_4 : decode cX5_add 4 = .ok (.aload_n 0, 1) := by decide +kernel
theorem dX5_add_5 : decode cX5_add 5 = .ok (.getfield 18, 3) := by decide +kernel
theorem dX5_add_8 : decode cX5_add 8 = .ok (.iload_n 1, 1) := by decide +kernel
theorem dX5_add_9 : decode cX5_add 9 = .ok (.sipush 10000, 3) := by decide +kernel
theorem dX5_add_12 : decode cX5_add 12 = .ok (.imul, 1) := by decide +kernel
theorem dX5_add_13 : decode cX5_add 13 = .ok (.iload_n 2, 1) := by decide +kernel
theorem dX5_add_14 : decode cX5_add 14 = .ok (.iadd, 1) := by decide +kernel
theorem dX5_add_15 : decode cX5_add 15 = .ok (.invokestatic 25, 3) := by decide +kernel
theorem dX5_add_18 : decode cX5_add 18 = .ok (.aload_n 0, 1) := by decide +kernel
theorem dX5_add_19 : decode cX5_add 19 = .ok (.dup, 1) := by decide +kernel
theorem dX5_add_20 : decode cX5_add 20 = .ok (.getfield 18, 3) := by decide +kernel
theorem dX5_add_23 : decode cX5_add 23 = .ok (.iconst 1, 1) := by decide +kernel
theorem dX5_add_24 : decode cX5_add 24 = .ok (.iadd, 1) := by decide +kernel
theorem dX5_add_25 : decode cX5_add 25 = .ok (.putfield 18, 3) := by decide +kernel
theorem dX5_add_28 : decode cX5_add 28 = .ok (.return_, 1) := by decide +kernel
theorem dX5_push_0 : decode cX5_push 0 = .ok (.aload_n 0, 1) := by decide +kernel
theorem dX5_push_1 : decode cX5_push 1 = .ok (.getfield 15, 3) := by decide +kernel
theorem dX5_push_4 : decode cX5_push 4 = .ok (.aload_n 0, 1) := by decide +kernel
theorem dX5_push_5 : decode cX5_push 5 = .ok (.getfield 22, 3) := by decide +kernel
theorem dX5_push_8 : decode cX5_push 8 = .ok (.iload_n 1, 1) := by decide +kernel
theorem dX5_push_9 : decode cX5_push 9 = .ok (.invokestatic 25, 3) := by decide +kernel
theorem dX5_push_12 : decode cX5_push 12 = .ok (.aload_n 0, 1) := by decide +kernel
theorem dX5_push_13 : decode cX5_push 13 = .ok (.dup, 1) := by decide +kernel
theorem dX5_push_14 : decode cX5_push 14 = .ok (.getfield 22, 3) := by decide +kernel
theorem dX5_push_17 : decode cX5_push 17 = .ok (.iconst 1, 1) := by decide +kernel
theorem dX5_push_18 : decode cX5_push 18 = .ok (.iadd, 1) := by decide +kernel
theorem dX5_push_19 : decode cX5_push 19 = .ok (.putfield 22, 3) := by decide +kernel
theorem dX5_push_22 : decode cX5_push 22 = .ok (.return_, 1) := by decide +kernel
theorem dX5_pop_0 : decode cX5_pop 0 = .ok (.aload_n 0, 1) := by decide +kernel
theorem dX5_pop_1 : decode cX5_pop 1 = .ok (.dup, 1) := by decide +kernel
theorem dX5_pop_2 : decode cX5_pop 2 = .ok (.getfield 22, 3) := by decide +kernel
theorem dX5_pop_5 : decode cX5_pop 5 = .ok (.iconst 1, 1) := by decide +kernel
theorem dX5_pop_6 : decode cX5_pop 6 = .ok (.isub, 1) := by decide +kernel
theorem dX5_pop_7 : decode cX5_pop 7 = .ok (.putfield 22, 3) := by decide +kernel
theorem dX5_pop_10 : decode cX5_pop 10 = .ok (.aload_n 0, 1) := by decide +kernel
theorem dX5_pop_11 : decode cX5_pop 11 = .ok (.getfield 15, 3) := by decide +kernel
theorem dX5_pop_14 : decode cX5_pop 14 = .ok (.aload_n 0, 1) := by decide +kernel
theorem dX5_pop_15 : decode cX5_pop 15 = .ok (.getfield 22, 3) := by decide +kernel
theorem dX5_pop_18 : decode cX5_pop 18 = .ok (.invokestatic 29, 3) := by decide +kernel
theorem dX5_pop_21 : decode cX5_pop 21 = .ok (.ireturn, 1) := by decide +kernel
theorem dX5_run_0 : decode cX5_run 0 = .ok (.aload_n 0, 1) := by decide +kernel
theorem dX5_run_1 : decode cX5_run 1 = .ok (.iconst 0, 1) := by decide +kernel
theorem dX5_run_2 : decode cX5_run 2 = .ok (.putfield 22, 3) := by decide +kernel
theorem dX5_run_5 : decode cX5_run 5 = .ok (.iconst 0, 1) := by decide +kernel
theorem dX5_run_6 : decode cX5_run 6 = .ok (.istore_n 3, 1) := by decide +kernel
theorem dX5_run_7 : decode cX5_run 7 = .ok (.iload_n 3, 1) := by decide +kernel
theorem dX5_run_8 : decode cX5_run 8 = .ok (.aload_n 0, 1) := by decide +kernel
theorem dX5_run_9 : decode cX5_run 9 = .ok (.getfield 18, 3) := by decide +kernel
theorem dX5_run_12 : decode cX5_run 12 = .ok (.if_icmp .ge 138, 3) := by decide +kernel
theorem dX5_run_15 : decode cX5_run 15 = .ok (.iload_n 3, 1) := by decide +kernel
theorem dX5_run_16 : decode cX5_run 16 = .ok (.sipush 1600, 3) := by decide +kernel
theorem dX5_run_19 : decode cX5_run 19 = .ok (.if_icmp .ge 131, 3) := by decide +kernel
theorem dX5_run_22 : decode cX5_run 22 = .ok (.aload_n 0, 1) := by decide +kernel
theorem dX5_run_23 : decode cX5_run 23 = .ok (.getfield 9, 3) := by decide +kernel
theorem dX5_run_26 : decode cX5_run 26 = .ok (.iload_n 3, 1) := by decide +kernel
theorem dX5_run_27 : decode cX5_run 27 = .ok (.invokestatic 29, 3) := by decide +kernel
theorem dX5_run_30 : decode cX5_run 30 = .ok (.istore 4, 2) := by decide +kernel
theorem dX5_run_32 : decode cX5_run 32 = .ok (.iload 4, 2) := by decide +kernel
theorem dX5_run_34 : decode cX5_run 34 = .ok (.sipush 10000, 3) := by decide +kernel
theorem dX5_run_37 : decode cX5_run 37 = .ok (.idiv, 1) := by decide +kernel
theorem dX5_run_38 : decode cX5_run 38 = .ok (.istore 5, 2) := by decide +kernel
theorem dX5_run_40 : decode cX5_run 40 = .ok (.iload 5, 2) := by decide +kernel
theorem dX5_run_42 : decode cX5_run 42 = .ok (.bipush 20, 2) := by decide +kernel
theorem dX5_run_44 : decode cX5_run 44 = .ok (.if_icmp .ne 16, 3) := by decide +kernel
theorem dX5_run_47 : decode cX5_run 47 = .ok (.aload_n 0, 1) := by decide +kernel
theorem dX5_run_48 : decode cX5_run 48 = .ok (.iload 4, 2) := by decide +kernel
theorem dX5_run_50 : decode cX5_run 50 = .ok (.sipush 10000, 3) := by decide +kernel
theorem dX5_run_53 : decode cX5_run 53 = .ok (.irem, 1) := by decide +kernel
theorem dX5_run_54 : decode cX5_run 54 = .ok (.invokevirtual 33, 3) := by decide +kernel
theorem dX5_run_57 : decode cX5_run 57 = .ok (.goto 87, 3) := by decide +kernel
theorem dX5_run_60 : decode cX5_run 60 = .ok (.iload 5, 2) := by decide +kernel
theorem dX5_run_62 : decode cX5_run 62 = .ok (.iconst 5, 1) := by decide +kernel
theorem dX5_run_63 : decode cX5_run 63 = .ok (.if_icmp .gt 17, 3) := by decide +kernel
theorem dX5_run_66 : decode cX5_run 66 = .ok (.aload_n 0, 1) := by decide +kernel
theorem dX5_run_67 : decode cX5_run 67 = .ok (.aload_n 1, 1) := by decide +kernel
theorem dX5_run_68 : decode cX5_run 68 = .ok (.iload_n 2, 1) := by decide +kernel
theorem dX5_run_69 : decode cX5_run 69 = .ok (.iload 5, 2) := by decide +kernel
theorem dX5_run_71 : decode cX5_run 71 = .ok (.invokestatic 37, 3) := by decide +kernel
theorem dX5_run_74 : decode cX5_run 74 = .ok (.invokevirtual 33, 3) := by decide +kernel
theorem dX5_run_77 : decode cX5_run 77 = .ok (.goto 67, 3) := by decide +kernel
theorem dX5_run_80 : decode cX5_run 80 = .ok (.iload 5, 2) := by decide +kernel
theorem dX5_run_82 : decode cX5_run 82 = .ok (.bipush 6, 2) := by decide +kernel
theorem dX5_run_84 : decode cX5_run 84 = .ok (.if_icmp .eq 17, 3) := by decide +kernel
theorem dX5_run_87 : decode cX5_run 87 = .ok (.iload 5, 2) := by decide +kernel
theorem dX5_run_89 : decode cX5_run 89 = .ok (.bipush 7, 2) := by decide +kernel
theorem dX5_run_91 : decode cX5_run 91 = .ok (.if_icmp .eq 10, 3) := by decide +kernel
theorem dX5_run_94 : decode cX5_run 94 = .ok (.iload 5, 2) := by decide +kernel
theorem dX5_run_96 : decode cX5_run 96 = .ok (.bipush 19, 2) := by decide +kernel
theorem dX5_run_98 : decode cX5_run 98 = .ok (.if_icmp .ne 21, 3) := by decide +kernel
theorem dX5_run_101 : decode cX5_run 101 = .ok (.aload_n 0, 1) := by decide +kernel
theorem dX5_run_102 : decode cX5_run 102 = .ok (.aload_n 1, 1) := by decide +kernel
theorem dX5_run_103 : decode cX5_run 103 = .ok (.iload_n 2, 1) := by decide +kernel
theorem dX5_run_104 : decode cX5_run 104 = .ok (.iload 5, 2) := by decide +kernel
theorem dX5_run_106 : decode cX5_run 106 = .ok (.aload_n 0, 1) := by decide +kernel
theorem dX5_run_107 : decode cX5_run 107 = .ok (.invokevirtual 41, 3) := by decide +kernel
theorem dX5_run_110 : decode cX5_run 110 = .ok (.invokestatic 45, 3) := by decide +kernel
theorem dX5_run_113 : decode cX5_run 113 = .ok (.invokevirtual 33, 3) := by decide +kernel
theorem dX5_run_116 : decode cX5_run 116 = .ok (.goto 28, 3) := by decide +kernel
theorem dX5_run_119 : decode cX5_run 119 = .ok (.aload_n 0, 1) := by decide +kernel
theorem dX5_run_120 : decode cX5_run 120 = .ok (.invokevirtual 41, 3) := by decide +kernel
theorem dX5_run_123 : decode cX5_run 123 = .ok (.istore 6, 2) := by decide +kernel
theorem dX5_run_125 : decode cX5_run 125 = .ok (.aload_n 0, 1) := by decide +kernel
theorem dX5_run_126 : decode cX5_run 126 = .ok (.invokevirtual 41, 3) := by decide +kernel
theorem dX5_run_129 : decode cX5_run 129 = .ok (.istore 7, 2) := by decide +kernel
theorem dX5_run_131 : decode cX5_run 131 = .ok (.aload_n 0, 1) := by decide +kernel
theorem dX5_run_132 : decode cX5_run 132 = .ok (.iload 5, 2) := by decide +kernel
theorem dX5_run_134 : decode cX5_run 134 = .ok (.iload 7, 2) := by decide +kernel
theorem dX5_run_136 : decode cX5_run 136 = .ok (.iload 6, 2) := by decide +kernel
theorem dX5_run_138 : decode cX5_run 138 = .ok (.invokestatic 49, 3) := by decide +kernel
theorem dX5_run_141 : decode cX5_run 141 = .ok (.invokevirtual 33, 3) := by decide +kernel
theorem dX5_run_144 : decode cX5_run 144 = .ok (.iinc 3 1, 3) := by decide +kernel
theorem dX5_run_147 : decode cX5_run 147 = .ok (.goto (-140), 3) := by decide +kernel
theorem dX5_run_150 : decode cX5_run 150 = .ok (.aload_n 0, 1) := by decide +kernel
theorem dX5_run_151 : decode cX5_run 151 = .ok (.invokevirtual 41, 3) := by decide +kernel
theorem dX5_run_154 : decode cX5_run 154 = .ok (.ireturn, 1) := by decide +kernel
theorem dX5_plain_0 : decode cX5_plain 0 = .ok (.iload_n 2, 1) := by decide +kernel
theorem dX5_plain_1 : decode cX5_plain 1 = .ok (.tableswitch 65 0 4 #[35, 37, 44, 51, 58], 35) := by decide +kernel
theorem dX5_plain_36 : decode cX5_plain 36 = .ok (.iload_n 1, 1) := by decide +kernel
theorem dX5_plain_37 : decode cX5_plain 37 = .ok (.ireturn, 1) := by decide +kernel
theorem dX5_plain_38 : decode cX5_plain 38 = .ok (.aload_n 0, 1) := by decide +kernel
theorem dX5_plain_39 : decode cX5_plain 39 = .ok (.iload_n 1, 1) := by decide +kernel
theorem dX5_plain_40 : decode cX5_plain 40 = .ok (.iconst 0, 1) := by decide +kernel
theorem dX5_plain_41 : decode cX5_plain 41 = .ok (.invokevirtual 55, 3) := by decide +kernel
theorem dX5_plain_44 : decode cX5_plain 44 = .ok (.ireturn, 1) := by decide +kernel
theorem dX5_plain_45 : decode cX5_plain 45 = .ok (.aload_n 0, 1) := by decide +kernel
theorem dX5_plain_46 : decode cX5_plain 46 = .ok (.iload_n 1, 1) := by decide +kernel
theorem dX5_plain_47 : decode cX5_plain 47 = .ok (.iconst 1, 1) := by decide +kernel
theorem dX5_plain_48 : decode cX5_plain 48 = .ok (.invokevirtual 55, 3) := by decide +kernel
theorem dX5_plain_51 : decode cX5_plain 51 = .ok (.ireturn, 1) := by decide +kernel
theorem dX5_plain_52 : decode cX5_plain 52 = .ok (.aload_n 0, 1) := by decide +kernel
theorem dX5_plain_53 : decode cX5_plain 53 = .ok (.iload_n 1, 1) := by decide +kernel
theorem dX5_plain_54 : decode cX5_plain 54 = .ok (.iconst 2, 1) := by decide +kernel
theorem dX5_plain_55 : decode cX5_plain 55 = .ok (.invokevirtual 55, 3) := by decide +kernel
theorem dX5_plain_58 : decode cX5_plain 58 = .ok (.ireturn, 1) := by decide +kernel
theorem dX5_plain_59 : decode cX5_plain 59 = .ok (.aload_n 0, 1) := by decide +kernel
theorem dX5_plain_60 : decode cX5_plain 60 = .ok (.iload_n 1, 1) := by decide +kernel
theorem dX5_plain_61 : decode cX5_plain 61 = .ok (.iconst 3, 1) := by decide +kernel
theorem dX5_plain_62 : decode cX5_plain 62 = .ok (.invokevirtual 55, 3) := by decide +kernel
theorem dX5_plain_65 : decode cX5_plain 65 = .ok (.ireturn, 1) := by decide +kernel
theorem dX5_plain_66 : decode cX5_plain 66 = .ok (.aload_n 0, 1) := by decide +kernel
theorem dX5_plain_67 : decode cX5_plain 67 = .ok (.getfield 59, 3) := by decide +kernel
theorem dX5_plain_70 : decode cX5_plain 70 = .ok (.iconst (-1), 1) := by decide +kernel
theorem dX5_plain_71 : decode cX5_plain 71 = .ok (.if_icmp .eq 15, 3) := by decide +kernel
theorem dX5_plain_74 : decode cX5_plain 74 = .ok (.iload_n 1, 1) := by decide +kernel
theorem dX5_plain_75 : decode cX5_plain 75 = .ok (.aload_n 0, 1) := by decide +kernel
theorem dX5_plain_76 : decode cX5_plain 76 = .ok (.getfield 59, 3) := by decide +kernel
theorem dX5_plain_79 : decode cX5_plain 79 = .ok (.if_icmp .lt 7, 3) := by decide +kernel
theorem dX5_plain_82 : decode cX5_plain 82 = .ok (.iconst 1, 1) := by decide +kernel
theorem dX5_plain_83 : decode cX5_plain 83 = .ok (.goto 4, 3) := by decide +kernel
theorem dX5_plain_86 : decode cX5_plain 86 = .ok (.iconst 0, 1) := by decide +kernel
theorem dX5_plain_87 : decode cX5_plain 87 = .ok (.ireturn, 1) := by decide +kernel
theorem dX5_ofOne_0 : decode cX5_ofOne 0 = .ok (.iload_n 2, 1) := by decide +kernel
theorem dX5_ofOne_1 : decode cX5_ofOne 1 = .ok (.bipush 19, 2) := by decide +kernel
theorem dX5_ofOne_3 : decode cX5_ofOne 3 = .ok (.if_icmp .ne 13, 3) := by decide +kernel
theorem dX5_ofOne_6 : decode cX5_ofOne 6 = .ok (.iload_n 3, 1) := by decide +kernel
theorem dX5_ofOne_7 : decode cX5_ofOne 7 = .ok (.ifCond .ne 7, 3) := by decide +kernel
theorem dX5_ofOne_10 : decode cX5_ofOne 10 = .ok (.iconst 1, 1) := by decide +kernel
theorem dX5_ofOne_11 : decode cX5_ofOne 11 = .ok (.goto 4, 3) := by decide +kernel
theorem dX5_ofOne_14 : decode cX5_ofOne 14 = .ok (.iconst 0, 1) := by decide +kernel
theorem dX5_ofOne_15 : decode cX5_ofOne 15 = .ok (.ireturn, 1) := by decide +kernel
theorem dX5_ofOne_16 : decode cX5_ofOne 16 = .ok (.iload_n 2, 1) := by decide +kernel
theorem dX5_ofOne_17 : decode cX5_ofOne 17 = .ok (.bipush 7, 2) := by decide +kernel
theorem dX5_ofOne_19 : decode cX5_ofOne 19 = .ok (.if_icmp .ne 10, 3) := by decide +kernel
theorem dX5_ofOne_22 : decode cX5_ofOne 22 = .ok (.aload_n 0, 1) := by decide +kernel
theorem dX5_ofOne_23 : decode cX5_ofOne 23 = .ok (.iload_n 3, 1) := by decide +kernel
theorem dX5_ofOne_24 : decode cX5_ofOne 24 = .ok (.iload_n 1, 1) := by decide +kernel
theorem dX5_ofOne_25 : decode cX5_ofOne 25 = .ok (.invokevirtual 62, 3) := by decide +kernel
theorem dX5_ofOne_28 : decode cX5_ofOne 28 = .ok (.ireturn, 1) := by decide +kernel
theorem dX5_ofOne_29 : decode cX5_ofOne 29 = .ok (.aload_n 0, 1) := by decide +kernel
theorem dX5_ofOne_30 : decode cX5_ofOne 30 = .ok (.iload_n 3, 1) := by decide +kernel
theorem dX5_ofOne_31 : decode cX5_ofOne 31 = .ok (.iload_n 1, 1) := by decide +kernel
theorem dX5_ofOne_32 : decode cX5_ofOne 32 = .ok (.invokevirtual 65, 3) := by decide +kernel
theorem dX5_ofOne_35 : decode cX5_ofOne 35 = .ok (.istore 4, 2) := by decide +kernel
theorem dX5_ofOne_37 : decode cX5_ofOne 37 = .ok (.iload 4, 2) := by decide +kernel
theorem dX5_ofOne_39 : decode cX5_ofOne 39 = .ok (.iconst (-1), 1) := by decide +kernel
theorem dX5_ofOne_40 : decode cX5_ofOne 40 = .ok (.if_icmp .ne 8, 3) := by decide +kernel
theorem dX5_ofOne_43 : decode cX5_ofOne 43 = .ok (.bipush 99, 2) := by decide +kernel
theorem dX5_ofOne_45 : decode cX5_ofOne 45 = .ok (.goto 5, 3) := by decide +kernel
theorem dX5_ofOne_48 : decode cX5_ofOne 48 = .ok (.iload 4, 2) := by decide +kernel
theorem dX5_ofOne_50 : decode cX5_ofOne 50 = .ok (.ireturn, 1) := by decide +kernel
theorem dX5_ofTwo_0 : decode cX5_ofTwo 0 = .ok (.iload_n 0, 1) := by decide +kernel
theorem dX5_ofTwo_1 : decode cX5_ofTwo 1 = .ok (.tableswitch 145 8 17 #[55, 61, 67, 76, 85, 94, 108, 119, 130, 141], 55) := by decide +kernel
theorem dX5_ofTwo_56 : decode cX5_ofTwo 56 = .ok (.iload_n 1, 1) := by decide +kernel
theorem dX5_ofTwo_57 : decode cX5_ofTwo 57 = .ok (.iload_n 2, 1) := by decide +kernel
theorem dX5_ofTwo_58 : decode cX5_ofTwo 58 = .ok (.invokestatic 68, 3) := by decide +kernel
theorem dX5_ofTwo_61 : decode cX5_ofTwo 61 = .ok (.ireturn, 1) := by decide +kernel
theorem dX5_ofTwo_62 : decode cX5_ofTwo 62 = .ok (.iload_n 1, 1) := by decide +kernel
theorem dX5_ofTwo_63 : decode cX5_ofTwo 63 = .ok (.iload_n 2, 1) := by decide +kernel
theorem dX5_ofTwo_64 : decode cX5_ofTwo 64 = .ok (.invokestatic 73, 3) := by decide +kernel
theorem dX5_ofTwo_67 : decode cX5_ofTwo 67 = .ok (.ireturn, 1) := by decide +kernel
theorem dX5_ofTwo_68 : decode cX5_ofTwo 68 = .ok (.iload_n 1, 1) := by decide +kernel
theorem dX5_ofTwo_69 : decode cX5_ofTwo 69 = .ok (.i2l, 1) := by decide +kernel
theorem dX5_ofTwo_70 : decode cX5_ofTwo 70 = .ok (.iload_n 2, 1) := by decide +kernel
theorem dX5_ofTwo_71 : decode cX5_ofTwo 71 = .ok (.i2l, 1) := by decide +kernel
theorem dX5_ofTwo_72 : decode cX5_ofTwo 72 = .ok (.ladd, 1) := by decide +kernel
theorem dX5_ofTwo_73 : decode cX5_ofTwo 73 = .ok (.invokestatic 76, 3) := by decide +kernel
theorem dX5_ofTwo_76 : decode cX5_ofTwo 76 = .ok (.ireturn, 1) := by decide +kernel
theorem dX5_ofTwo_77 : decode cX5_ofTwo 77 = .ok (.iload_n 1, 1) := by decide +kernel
theorem dX5_ofTwo_78 : decode cX5_ofTwo 78 = .ok (.i2l, 1) := by decide +kernel
theorem dX5_ofTwo_79 : decode cX5_ofTwo 79 = .ok (.iload_n 2, 1) := by decide +kernel
theorem dX5_ofTwo_80 : decode cX5_ofTwo 80 = .ok (.i2l, 1) := by decide +kernel
theorem dX5_ofTwo_81 : decode cX5_ofTwo 81 = .ok (.lsub, 1) := by decide +kernel
theorem dX5_ofTwo_82 : decode cX5_ofTwo 82 = .ok (.invokestatic 76, 3) := by decide +kernel
theorem dX5_ofTwo_85 : decode cX5_ofTwo 85 = .ok (.ireturn, 1) := by decide +kernel
theorem dX5_ofTwo_86 : decode cX5_ofTwo 86 = .ok (.iload_n 1, 1) := by decide +kernel
theorem dX5_ofTwo_87 : decode cX5_ofTwo 87 = .ok (.i2l, 1) := by decide +kernel
theorem dX5_ofTwo_88 : decode cX5_ofTwo 88 = .ok (.iload_n 2, 1) := by decide +kernel
theorem dX5_ofTwo_89 : decode cX5_ofTwo 89 = .ok (.i2l, 1) := by decide +kernel
theorem dX5_ofTwo_90 : decode cX5_ofTwo 90 = .ok (.lmul, 1) := by decide +kernel
theorem dX5_ofTwo_91 : decode cX5_ofTwo 91 = .ok (.invokestatic 76, 3) := by decide +kernel
theorem dX5_ofTwo_94 : decode cX5_ofTwo 94 = .ok (.ireturn, 1) := by decide +kernel
theorem dX5_ofTwo_95 : decode cX5_ofTwo 95 = .ok (.iload_n 2, 1) := by decide +kernel
theorem dX5_ofTwo_96 : decode cX5_ofTwo 96 = .ok (.ifCond .ne 7, 3) := by decide +kernel
theorem dX5_ofTwo_99 : decode cX5_ofTwo 99 = .ok (.iconst 0, 1) := by decide +kernel
theorem dX5_ofTwo_100 : decode cX5_ofTwo 100 = .ok (.goto 8, 3) := by decide +kernel
theorem dX5_ofTwo_103 : decode cX5_ofTwo 103 = .ok (.iload_n 1, 1) := by decide +kernel
theorem dX5_ofTwo_104 : decode cX5_ofTwo 104 = .ok (.iload_n 2, 1) := by decide +kernel
theorem dX5_ofTwo_105 : decode cX5_ofTwo 105 = .ok (.invokestatic 80, 3) := by decide +kernel
theorem dX5_ofTwo_108 : decode cX5_ofTwo 108 = .ok (.ireturn, 1) := by decide +kernel
theorem dX5_ofTwo_109 : decode cX5_ofTwo 109 = .ok (.iload_n 1, 1) := by decide +kernel
theorem dX5_ofTwo_110 : decode cX5_ofTwo 110 = .ok (.iload_n 2, 1) := by decide +kernel
theorem dX5_ofTwo_111 : decode cX5_ofTwo 111 = .ok (.if_icmp .ge 7, 3) := by decide +kernel
theorem dX5_ofTwo_114 : decode cX5_ofTwo 114 = .ok (.iconst 1, 1) := by decide +kernel
theorem dX5_ofTwo_115 : decode cX5_ofTwo 115 = .ok (.goto 4, 3) := by decide +kernel
theorem dX5_ofTwo_118 : decode cX5_ofTwo 118 = .ok (.iconst 0, 1) := by decide +kernel
theorem dX5_ofTwo_119 : decode cX5_ofTwo 119 = .ok (.ireturn, 1) := by decide +kernel
theorem dX5_ofTwo_120 : decode cX5_ofTwo 120 = .ok (.iload_n 1, 1) := by decide +kernel
theorem dX5_ofTwo_121 : decode cX5_ofTwo 121 = .ok (.iload_n 2, 1) := by decide +kernel
theorem dX5_ofTwo_122 : decode cX5_ofTwo 122 = .ok (.if_icmp .le 7, 3) := by decide +kernel
theorem dX5_ofTwo_125 : decode cX5_ofTwo 125 = .ok (.iconst 1, 1) := by decide +kernel
theorem dX5_ofTwo_126 : decode cX5_ofTwo 126 = .ok (.goto 4, 3) := by decide +kernel
theorem dX5_ofTwo_129 : decode cX5_ofTwo 129 = .ok (.iconst 0, 1) := by decide +kernel
theorem dX5_ofTwo_130 : decode cX5_ofTwo 130 = .ok (.ireturn, 1) := by decide +kernel
theorem dX5_ofTwo_131 : decode cX5_ofTwo 131 = .ok (.iload_n 1, 1) := by decide +kernel
theorem dX5_ofTwo_132 : decode cX5_ofTwo 132 = .ok (.iload_n 2, 1) := by decide +kernel
theorem dX5_ofTwo_133 : decode cX5_ofTwo 133 = .ok (.if_icmp .ne 7, 3) := by decide +kernel
theorem dX5_ofTwo_136 : decode cX5_ofTwo 136 = .ok (.iconst 1, 1) := by decide +kernel
theorem dX5_ofTwo_137 : decode cX5_ofTwo 137 = .ok (.goto 4, 3) := by decide +kernel
theorem dX5_ofTwo_140 : decode cX5_ofTwo 140 = .ok (.iconst 0, 1) := by decide +kernel
theorem dX5_ofTwo_141 : decode cX5_ofTwo 141 = .ok (.ireturn, 1) := by decide +kernel
theorem dX5_ofTwo_142 : decode cX5_ofTwo 142 = .ok (.iload_n 1, 1) := by decide +kernel
theorem dX5_ofTwo_143 : decode cX5_ofTwo 143 = .ok (.iload_n 2, 1) := by decide +kernel
theorem dX5_ofTwo_144 : decode cX5_ofTwo 144 = .ok (.iand, 1) := by decide +kernel
theorem dX5_ofTwo_145 : decode cX5_ofTwo 145 = .ok (.ireturn, 1) := by decide +kernel
theorem dX5_ofTwo_146 : decode cX5_ofTwo 146 = .ok (.iload_n 1, 1) := by decide +kernel
theorem dX5_ofTwo_147 : decode cX5_ofTwo 147 = .ok (.iload_n 2, 1) := by decide +kernel
theorem dX5_ofTwo_148 : decode cX5_ofTwo 148 = .ok (.ior, 1) := by decide +kernel
theorem dX5_ofTwo_149 : decode cX5_ofTwo 149 = .ok (.ireturn, 1) := by decide +kernel
theorem dX5_held_0 : decode cX5_held 0 = .ok (.ldc2_w 83, 3) := by decide +kernel
theorem dX5_held_3 : decode cX5_held 3 = .ok (.ldc2_w 85, 3) := by decide +kernel
theorem dX5_held_6 : decode cX5_held 6 = .ok (.lload_n 0, 1) := by decide +kernel
theorem dX5_held_7 : decode cX5_held 7 = .ok (.invokestatic 87, 3) := by decide +kernel
theorem dX5_held_10 : decode cX5_held 10 = .ok (.invokestatic 90, 3) := by decide +kernel
theorem dX5_held_13 : decode cX5_held 13 = .ok (.l2i, 1) := by decide +kernel
theorem dX5_held_14 : decode cX5_held 14 = .ok (.ireturn, 1) := by decide +kernel
theorem dX6_init_0 : decode cX6_init 0 = .ok (.aload_n 0, 1) := by decide +kernel
