theorem dX11_set_1 : decode cX11_set 1 = .ok (.getfield 82, 3) := by decide +kernel
theorem dX11_set_4 : decode cX11_set 4 = .ok (.getfield 129, 3) := by decide +kernel
theorem dX11_set_7 : decode cX11_set 7 = .ok (.iload_n 1, 1) := by decide +kernel
theorem dX11_set_8 : decode cX11_set 8 = .ok (.invokevirtual 183, 3) := by decide +kernel
theorem dX11_set_11 : decode cX11_set 11 = .ok (.ifCond .eq 15, 3) := by decide +kernel
theorem dX11_set_14 : decode cX11_set 14 = .ok (.aload_n 0, 1) := by decide +kernel
theorem dX11_set_15 : decode cX11_set 15 = .ok (.getfield 82, 3) := by decide +kernel
theorem dX11_set_18 : decode cX11_set 18 = .ok (.iload_n 2, 1) := by decide +kernel
theorem dX11_set_19 : decode cX11_set 19 = .ok (.iload_n 3, 1) := by decide +kernel
theorem dX11_set_20 : decode cX11_set 20 = .ok (.invokevirtual 303, 3) := by decide +kernel
theorem dX11_set_23 : decode cX11_set 23 = .ok (.ifCond .ne 5, 3) := by decide +kernel
theorem dX11_set_26 : decode cX11_set 26 = .ok (.iconst (-1), 1) := by decide +kernel
theorem dX11_set_27 : decode cX11_set 27 = .ok (.ireturn, 1) := by decide +kernel
theorem dX11_set_28 : decode cX11_set 28 = .ok (.aload_n 0, 1) := by decide +kernel
theorem dX11_set_29 : decode cX11_set 29 = .ok (.getfield 82, 3) := by decide +kernel
theorem dX11_set_32 : decode cX11_set 32 = .ok (.getfield 129, 3) := by decide +kernel
theorem dX11_set_35 : decode cX11_set 35 = .ok (.iload_n 1, 1) := by decide +kernel
theorem dX11_set_36 : decode cX11_set 36 = .ok (.iload_n 2, 1) := by decide +kernel
theorem dX11_set_37 : decode cX11_set 37 = .ok (.invokevirtual 306, 3) := by decide +kernel
theorem dX11_set_40 : decode cX11_set 40 = .ok (.istore 4, 2) := by decide +kernel
theorem dX11_set_42 : decode cX11_set 42 = .ok (.aload_n 0, 1) := by decide +kernel
theorem dX11_set_43 : decode cX11_set 43 = .ok (.getfield 67, 3) := by decide +kernel
theorem dX11_set_46 : decode cX11_set 46 = .ok (.iload_n 2, 1) := by decide +kernel
theorem dX11_set_47 : decode cX11_set 47 = .ok (.iload_n 1, 1) := by decide +kernel
theorem dX11_set_48 : decode cX11_set 48 = .ok (.iload 4, 2) := by decide +kernel
theorem dX11_set_50 : decode cX11_set 50 = .ok (.invokevirtual 309, 3) := by decide +kernel
theorem dX11_set_53 : decode cX11_set 53 = .ok (.aload_n 0, 1) := by decide +kernel
theorem dX11_set_54 : decode cX11_set 54 = .ok (.getfield 82, 3) := by decide +kernel
theorem dX11_set_57 : decode cX11_set 57 = .ok (.getfield 129, 3) := by decide +kernel
theorem dX11_set_60 : decode cX11_set 60 = .ok (.iload_n 1, 1) := by decide +kernel
theorem dX11_set_61 : decode cX11_set 61 = .ok (.iload_n 2, 1) := by decide +kernel
theorem dX11_set_62 : decode cX11_set 62 = .ok (.iload_n 3, 1) := by decide +kernel
theorem dX11_set_63 : decode cX11_set 63 = .ok (.invokevirtual 313, 3) := by decide +kernel
theorem dX11_set_66 : decode cX11_set 66 = .ok (.aload_n 0, 1) := by decide +kernel
theorem dX11_set_67 : decode cX11_set 67 = .ok (.iload_n 2, 1) := by decide +kernel
theorem dX11_set_68 : decode cX11_set 68 = .ok (.iconst 2, 1) := by decide +kernel
theorem dX11_set_69 : decode cX11_set 69 = .ok (.if_icmp .ne 7, 3) := by decide +kernel
theorem dX11_set_72 : decode cX11_set 72 = .ok (.iconst 1, 1) := by decide +kernel
theorem dX11_set_73 : decode cX11_set 73 = .ok (.goto 4, 3) := by decide +kernel
theorem dX11_set_76 : decode cX11_set 76 = .ok (.iconst 0, 1) := by decide +kernel
theorem dX11_set_77 : decode cX11_set 77 = .ok (.invokevirtual 142, 3) := by decide +kernel
theorem dX11_set_80 : decode cX11_set 80 = .ok (.iload 4, 2) := by decide +kernel
theorem dX11_set_82 : decode cX11_set 82 = .ok (.ireturn, 1) := by decide +kernel
theorem dX11_close_0 : decode cX11_close 0 = .ok (.iload_n 2, 1) := by decide +kernel
theorem dX11_close_1 : decode cX11_close 1 = .ok (.ifCond .eq 7, 3) := by decide +kernel
theorem dX11_close_4 : decode cX11_close 4 = .ok (.iconst 1, 1) := by decide +kernel
theorem dX11_close_5 : decode cX11_close 5 = .ok (.goto 4, 3) := by decide +kernel
theorem dX11_close_8 : decode cX11_close 8 = .ok (.iconst 0, 1) := by decide +kernel
theorem dX11_close_9 : decode cX11_close 9 = .ok (.istore_n 3, 1) := by decide +kernel
theorem dX11_close_10 : decode cX11_close 10 = .ok (.aload_n 0, 1) := by decide +kernel
theorem dX11_close_11 : decode cX11_close 11 = .ok (.getfield 82, 3) := by decide +kernel
theorem dX11_close_14 : decode cX11_close 14 = .ok (.iload_n 1, 1) := by decide +kernel
theorem dX11_close_15 : decode cX11_close 15 = .ok (.invokevirtual 234, 3) := by decide +kernel
theorem dX11_close_18 : decode cX11_close 18 = .ok (.ifCond .eq 18, 3) := by decide +kernel
theorem dX11_close_21 : decode cX11_close 21 = .ok (.aload_n 0, 1) := by decide +kernel
theorem dX11_close_22 : decode cX11_close 22 = .ok (.getfield 82, 3) := by decide +kernel
theorem dX11_close_25 : decode cX11_close 25 = .ok (.getfield 240, 3) := by decide +kernel
theorem dX11_close_28 : decode cX11_close 28 = .ok (.iload_n 1, 1) := by decide +kernel
theorem dX11_close_29 : decode cX11_close 29 = .ok (.invokestatic 189, 3) := by decide +kernel
theorem dX11_close_32 : decode cX11_close 32 = .ok (.iload_n 3, 1) := by decide +kernel
theorem dX11_close_33 : decode cX11_close 33 = .ok (.if_icmp .ne 5, 3) := by decide +kernel
theorem dX11_close_36 : decode cX11_close 36 = .ok (.iconst 0, 1) := by decide +kernel
theorem dX11_close_37 : decode cX11_close 37 = .ok (.ireturn, 1) := by decide +kernel
theorem dX11_close_38 : decode cX11_close 38 = .ok (.aload_n 0, 1) := by decide +kernel
theorem dX11_close_39 : decode cX11_close 39 = .ok (.getfield 67, 3) := by decide +kernel
theorem dX11_close_42 : decode cX11_close 42 = .ok (.iconst 3, 1) := by decide +kernel
theorem dX11_close_43 : decode cX11_close 43 = .ok (.iload_n 1, 1) := by decide +kernel
theorem dX11_close_44 : decode cX11_close 44 = .ok (.iconst 1, 1) := by decide +kernel
theorem dX11_close_45 : decode cX11_close 45 = .ok (.iload_n 3, 1) := by decide +kernel
theorem dX11_close_46 : decode cX11_close 46 = .ok (.isub, 1) := by decide +kernel
theorem dX11_close_47 : decode cX11_close 47 = .ok (.invokevirtual 309, 3) := by decide +kernel
theorem dX11_close_50 : decode cX11_close 50 = .ok (.aload_n 0, 1) := by decide +kernel
theorem dX11_close_51 : decode cX11_close 51 = .ok (.getfield 82, 3) := by decide +kernel
theorem dX11_close_54 : decode cX11_close 54 = .ok (.getfield 240, 3) := by decide +kernel
theorem dX11_close_57 : decode cX11_close 57 = .ok (.iload_n 1, 1) := by decide +kernel
theorem dX11_close_58 : decode cX11_close 58 = .ok (.iload_n 3, 1) := by decide +kernel
theorem dX11_close_59 : decode cX11_close 59 = .ok (.invokestatic 316, 3) := by decide +kernel
theorem dX11_close_62 : decode cX11_close 62 = .ok (.aload_n 0, 1) := by decide +kernel
theorem dX11_close_63 : decode cX11_close 63 = .ok (.iconst 0, 1) := by decide +kernel
theorem dX11_close_64 : decode cX11_close 64 = .ok (.invokevirtual 142, 3) := by decide +kernel
theorem dX11_close_67 : decode cX11_close 67 = .ok (.iconst 1, 1) := by decide +kernel
theorem dX11_close_68 : decode cX11_close 68 = .ok (.ireturn, 1) := by decide +kernel
theorem dX11_undo_0 : decode cX11_undo 0 = .ok (.aload_n 0, 1) := by decide +kernel
theorem dX11_undo_1 : decode cX11_undo 1 = .ok (.getfield 67, 3) := by decide +kernel
theorem dX11_undo_4 : decode cX11_undo 4 = .ok (.getfield 182, 3) := by decide +kernel
theorem dX11_undo_7 : decode cX11_undo 7 = .ok (.ifCond .ne 5, 3) := by decide +kernel
theorem dX11_undo_10 : decode cX11_undo 10 = .ok (.iconst 0, 1) := by decide +kernel
theorem dX11_undo_11 : decode cX11_undo 11 = .ok (.ireturn, 1) := by decide +kernel
theorem dX11_undo_12 : decode cX11_undo 12 = .ok (.aload_n 0, 1) := by decide +kernel
theorem dX11_undo_13 : decode cX11_undo 13 = .ok (.getfield 67, 3) := by decide +kernel
theorem dX11_undo_16 : decode cX11_undo 16 = .ok (.aload_n 0, 1) := by decide +kernel
theorem dX11_undo_17 : decode cX11_undo 17 = .ok (.getfield 82, 3) := by decide +kernel
theorem dX11_undo_20 : decode cX11_undo 20 = .ok (.invokevirtual 320, 3) := by decide +kernel
theorem dX11_undo_23 : decode cX11_undo 23 = .ok (.aload_n 0, 1) := by decide +kernel
theorem dX11_undo_24 : decode cX11_undo 24 = .ok (.iconst 1, 1) := by decide +kernel
theorem dX11_undo_25 : decode cX11_undo 25 = .ok (.invokevirtual 142, 3) := by decide +kernel
theorem dX11_undo_28 : decode cX11_undo 28 = .ok (.iconst 1, 1) := by decide +kernel
theorem dX11_undo_29 : decode cX11_undo 29 = .ok (.ireturn, 1) := by decide +kernel
theorem dX11_come_0 : decode cX11_come 0 = .ok (.iload_n 1, 1) := by decide +kernel
theorem dX11_come_1 : decode cX11_come 1 = .ok (.aload_n 0, 1) := by decide +kernel
theorem dX11_come_2 : decode cX11_come 2 = .ok (.getfield 82, 3) := by decide +kernel
theorem dX11_come_5 : decode cX11_come 5 = .ok (.getfield 129, 3) := by decide +kernel
theorem dX11_come_8 : decode cX11_come 8 = .ok (.invokevirtual 133, 3) := by decide +kernel
theorem dX11_come_11 : decode cX11_come 11 = .ok (.iconst (-1), 1) := by decide +kernel
theorem dX11_come_12 : decode cX11_come 12 = .ok (.ixor, 1) := by decide +kernel
theorem dX11_come_13 : decode cX11_come 13 = .ok (.iand, 1) := by decide +kernel
theorem dX11_come_14 : decode cX11_come 14 = .ok (.ifCond .eq 5, 3) := by decide +kernel
theorem dX11_come_17 : decode cX11_come 17 = .ok (.iconst 0, 1) := by decide +kernel
theorem dX11_come_18 : decode cX11_come 18 = .ok (.ireturn, 1) := by decide +kernel
theorem dX11_come_19 : decode cX11_come 19 = .ok (.aload_n 0, 1) := by decide +kernel
theorem dX11_come_20 : decode cX11_come 20 = .ok (.iload_n 1, 1) := by decide +kernel
theorem dX11_come_21 : decode cX11_come 21 = .ok (.putfield 89, 3) := by decide +kernel
theorem dX11_come_24 : decode cX11_come 24 = .ok (.aload_n 0, 1) := by decide +kernel
theorem dX11_come_25 : decode cX11_come 25 = .ok (.iconst 0, 1) := by decide +kernel
theorem dX11_come_26 : decode cX11_come 26 = .ok (.invokevirtual 142, 3) := by decide +kernel
theorem dX11_come_29 : decode cX11_come 29 = .ok (.iconst 1, 1) := by decide +kernel
theorem dX11_come_30 : decode cX11_come 30 = .ok (.ireturn, 1) := by decide +kernel
theorem dX11_lot_0 : decode cX11_lot 0 = .ok (.iconst 0, 1) := by decide +kernel
theorem dX11_lot_1 : decode cX11_lot 1 = .ok (.istore_n 1, 1) := by decide +kernel
theorem dX11_lot_2 : decode cX11_lot 2 = .ok (.iconst 0, 1) := by decide +kernel
theorem dX11_lot_3 : decode cX11_lot 3 = .ok (.istore_n 2, 1) := by decide +kernel
theorem dX11_lot_4 : decode cX11_lot 4 = .ok (.iload_n 2, 1) := by decide +kernel
theorem dX11_lot_5 : decode cX11_lot 5 = .ok (.aload_n 0, 1) := by decide +kernel
theorem dX11_lot_6 : decode cX11_lot 6 = .ok (.getfield 82, 3) := by decide +kernel
theorem dX11_lot_9 : decode cX11_lot 9 = .ok (.getfield 129, 3) := by decide +kernel
theorem dX11_lot_12 : decode cX11_lot 12 = .ok (.getfield 164, 3) := by decide +kernel
theorem dX11_lot_15 : decode cX11_lot 15 = .ok (.if_icmp .ge 37, 3) := by decide +kernel
theorem dX11_lot_18 : decode cX11_lot 18 = .ok (.aload_n 0, 1) := by decide +kernel
theorem dX11_lot_19 : decode cX11_lot 19 = .ok (.iconst 4, 1) := by decide +kernel
theorem dX11_lot_20 : decode cX11_lot 20 = .ok (.invokevirtual 324, 3) := by decide +kernel
theorem dX11_lot_23 : decode cX11_lot 23 = .ok (.aload_n 0, 1) := by decide +kernel
theorem dX11_lot_24 : decode cX11_lot 24 = .ok (.getfield 82, 3) := by decide +kernel
theorem dX11_lot_27 : decode cX11_lot 27 = .ok (.getfield 129, 3) := by decide +kernel
theorem dX11_lot_30 : decode cX11_lot 30 = .ok (.getfield 212, 3) := by decide +kernel
theorem dX11_lot_33 : decode cX11_lot 33 = .ok (.iload_n 2, 1) := by decide +kernel
theorem dX11_lot_34 : decode cX11_lot 34 = .ok (.invokestatic 189, 3) := by decide +kernel
theorem dX11_lot_37 : decode cX11_lot 37 = .ok (.if_icmp .ge 9, 3) := by decide +kernel
theorem dX11_lot_40 : decode cX11_lot 40 = .ok (.iload_n 1, 1) := by decide +kernel
theorem dX11_lot_41 : decode cX11_lot 41 = .ok (.iconst 1, 1) := by decide +kernel
theorem dX11_lot_42 : decode cX11_lot 42 = .ok (.iload_n 2, 1) := by decide +kernel
theorem dX11_lot_43 : decode cX11_lot 43 = .ok (.ishl, 1) := by decide +kernel
theorem dX11_lot_44 : decode cX11_lot 44 = .ok (.ior, 1) := by decide +kernel
theorem dX11_lot_45 : decode cX11_lot 45 = .ok (.istore_n 1, 1) := by decide +kernel
theorem dX11_lot_46 : decode cX11_lot 46 = .ok (.iinc 2 1, 3) := by decide +kernel
theorem dX11_lot_49 : decode cX11_lot 49 = .ok (.goto (-45), 3) := by decide +kernel
theorem dX11_lot_52 : decode cX11_lot 52 = .ok (.aload_n 0, 1) := by decide +kernel
theorem dX11_lot_53 : decode cX11_lot 53 = .ok (.iload_n 1, 1) := by decide +kernel
theorem dX11_lot_54 : decode cX11_lot 54 = .ok (.putfield 89, 3) := by decide +kernel
theorem dX11_lot_57 : decode cX11_lot 57 = .ok (.aload_n 0, 1) := by decide +kernel
theorem dX11_lot_58 : decode cX11_lot 58 = .ok (.iconst 0, 1) := by decide +kernel
theorem dX11_lot_59 : decode cX11_lot 59 = .ok (.invokevirtual 142, 3) := by decide +kernel
theorem dX11_lot_62 : decode cX11_lot 62 = .ok (.iload_n 1, 1) := by decide +kernel
theorem dX11_lot_63 : decode cX11_lot 63 = .ok (.ireturn, 1) := by decide +kernel
theorem dX11_seed_0 : decode cX11_seed 0 = .ok (.iload_n 1, 1) := by decide +kernel
theorem dX11_seed_1 : decode cX11_seed 1 = .ok (.ifCond .ge 5, 3) := by decide +kernel
theorem dX11_seed_4 : decode cX11_seed 4 = .ok (.iconst 0, 1) := by decide +kernel
theorem dX11_seed_5 : decode cX11_seed 5 = .ok (.ireturn, 1) := by decide +kernel
theorem dX11_seed_6 : decode cX11_seed 6 = .ok (.aload_n 0, 1) := by decide +kernel
theorem dX11_seed_7 : decode cX11_seed 7 = .ok (.iload_n 1, 1) := by decide +kernel
theorem dX11_seed_8 : decode cX11_seed 8 = .ok (.putfield 92, 3) := by decide +kernel
theorem dX11_seed_11 : decode cX11_seed 11 = .ok (.iconst 1, 1) := by decide +kernel
theorem dX11_seed_12 : decode cX11_seed 12 = .ok (.ireturn, 1) := by decide +kernel
theorem dX11_odds_0 : decode cX11_odds 0 = .ok (.aload_n 0, 1) := by decide +kernel
theorem dX11_odds_1 : decode cX11_odds 1 = .ok (.getfield 82, 3) := by decide +kernel
theorem dX11_odds_4 : decode cX11_odds 4 = .ok (.invokevirtual 278, 3) := by decide +kernel
theorem dX11_odds_7 : decode cX11_odds 7 = .ok (.ifCond .ne 5, 3) := by decide +kernel
theorem dX11_odds_10 : decode cX11_odds 10 = .ok (.iconst (-1), 1) := by decide +kernel
theorem dX11_odds_11 : decode cX11_odds 11 = .ok (.ireturn, 1) := by decide +kernel
theorem dX11_odds_12 : decode cX11_odds 12 = .ok (.aload_n 0, 1) := by decide +kernel
theorem dX11_odds_13 : decode cX11_odds 13 = .ok (.invokevirtual 327, 3) := by decide +kernel
theorem dX11_odds_16 : decode cX11_odds 16 = .ok (.aload_n 0, 1) := by decide +kernel
theorem dX11_odds_17 : decode cX11_odds 17 = .ok (.getfield 60, 3) := by decide +kernel
theorem dX11_odds_20 : decode cX11_odds 20 = .ok (.aload_n 0, 1) := by decide +kernel
theorem dX11_odds_21 : decode cX11_odds 21 = .ok (.getfield 82, 3) := by decide +kernel
theorem dX11_odds_24 : decode cX11_odds 24 = .ok (.invokevirtual 330, 3) := by decide +kernel
theorem dX11_odds_27 : decode cX11_odds 27 = .ok (.ireturn, 1) := by decide +kernel
theorem dX11_spark_0 : decode cX11_spark 0 = .ok (.aload_n 0, 1) := by decide +kernel
theorem dX11_spark_1 : decode cX11_spark 1 = .ok (.iload_n 1, 1) := by decide +kernel
theorem dX11_spark_2 : decode cX11_spark 2 = .ok (.invokevirtual 334, 3) := by decide +kernel
theorem dX11_spark_5 : decode cX11_spark 5 = .ok (.ifCond .ne 5, 3) := by decide +kernel
theorem dX11_spark_8 : decode cX11_spark 8 = .ok (.iconst (-1), 1) := by decide +kernel
theorem dX11_spark_9 : decode cX11_spark 9 = .ok (.ireturn, 1) := by decide +kernel
theorem dX11_spark_10 : decode cX11_spark 10 = .ok (.aload_n 0, 1) := by decide +kernel
theorem dX11_spark_11 : decode cX11_spark 11 = .ok (.invokevirtual 327, 3) := by decide +kernel
theorem dX11_spark_14 : decode cX11_spark 14 = .ok (.aload_n 0, 1) := by decide +kernel
theorem dX11_spark_15 : decode cX11_spark 15 = .ok (.getfield 60, 3) := by decide +kernel
theorem dX11_spark_18 : decode cX11_spark 18 = .ok (.aload_n 0, 1) := by decide +kernel
theorem dX11_spark_19 : decode cX11_spark 19 = .ok (.getfield 82, 3) := by decide +kernel
theorem dX11_spark_22 : decode cX11_spark 22 = .ok (.aload_n 0, 1) := by decide +kernel
theorem dX11_spark_23 : decode cX11_spark 23 = .ok (.getfield 89, 3) := by decide +kernel
theorem dX11_spark_26 : decode cX11_spark 26 = .ok (.iload_n 1, 1) := by decide +kernel
theorem dX11_spark_27 : decode cX11_spark 27 = .ok (.invokevirtual 337, 3) := by decide +kernel
theorem dX11_spark_30 : decode cX11_spark 30 = .ok (.ireturn, 1) := by decide +kernel
theorem dX11_daring_0 : decode cX11_daring 0 = .ok (.iload_n 1, 1) := by decide +kernel
theorem dX11_daring_1 : decode cX11_daring 1 = .ok (.ifCond .lt 8, 3) := by decide +kernel
theorem dX11_daring_4 : decode cX11_daring 4 = .ok (.iload_n 1, 1) := by decide +kernel
theorem dX11_daring_5 : decode cX11_daring 5 = .ok (.iconst 1, 1) := by decide +kernel
theorem dX11_daring_6 : decode cX11_daring 6 = .ok (.if_icmp .le 5, 3) := by decide +kernel
theorem dX11_daring_9 : decode cX11_daring 9 = .ok (.iconst (-1), 1) := by decide +kernel
theorem dX11_daring_10 : decode cX11_daring 10 = .ok (.ireturn, 1) := by decide +kernel
theorem dX11_daring_11 : decode cX11_daring 11 = .ok (.aload_n 0, 1) := by decide +kernel
theorem dX11_daring_12 : decode cX11_daring 12 = .ok (.invokevirtual 327, 3) := by decide +kernel
theorem dX11_daring_15 : decode cX11_daring 15 = .ok (.aload_n 0, 1) := by decide +kernel
theorem dX11_daring_16 : decode cX11_daring 16 = .ok (.getfield 60, 3) := by decide +kernel
theorem dX11_daring_19 : decode cX11_daring 19 = .ok (.aload_n 0, 1) := by decide +kernel
theorem dX11_daring_20 : decode cX11_daring 20 = .ok (.getfield 82, 3) := by decide +kernel
theorem dX11_daring_23 : decode cX11_daring 23 = .ok (.aload_n 0, 1) := by decide +kernel
theorem dX11_daring_24 : decode cX11_daring 24 = .ok (.getfield 89, 3) := by decide +kernel
theorem dX11_daring_27 : decode cX11_daring 27 = .ok (.invokevirtual 341, 3) := by decide +kernel
theorem dX11_daring_30 : decode cX11_daring 30 = .ok (.istore_n 2, 1) := by decide +kernel
theorem dX11_daring_31 : decode cX11_daring 31 = .ok (.iload_n 1, 1) := by decide +kernel
theorem dX11_daring_32 : decode cX11_daring 32 = .ok (.ifCond .ne 15, 3) := by decide +kernel
theorem dX11_daring_35 : decode cX11_daring 35 = .ok (.iload_n 2, 1) := by decide +kernel
theorem dX11_daring_36 : decode cX11_daring 36 = .ok (.iconst (-1), 1) := by decide +kernel
theorem dX11_daring_37 : decode cX11_daring 37 = .ok (.if_icmp .eq 10, 3) := by decide +kernel
theorem dX11_daring_40 : decode cX11_daring 40 = .ok (.iload_n 2, 1) := by decide +kernel
theorem dX11_daring_41 : decode cX11_daring 41 = .ok (.invokestatic 345, 3) := by decide +kernel
theorem dX11_daring_44 : decode cX11_daring 44 = .ok (.goto 4, 3) := by decide +kernel
theorem dX11_daring_47 : decode cX11_daring 47 = .ok (.iload_n 2, 1) := by decide +kernel
theorem dX11_daring_48 : decode cX11_daring 48 = .ok (.ireturn, 1) := by decide +kernel
theorem dX11_late_0 : decode cX11_late 0 = .ok (.aload_n 0, 1) := by decide +kernel
theorem dX11_late_1 : decode cX11_late 1 = .ok (.iload_n 1, 1) := by decide +kernel
theorem dX11_late_2 : decode cX11_late 2 = .ok (.invokevirtual 334, 3) := by decide +kernel
theorem dX11_late_5 : decode cX11_late 5 = .ok (.ifCond .ne 5, 3) := by decide +kernel
theorem dX11_late_8 : decode cX11_late 8 = .ok (.iconst (-1), 1) := by decide +kernel
theorem dX11_late_9 : decode cX11_late 9 = .ok (.ireturn, 1) := by decide +kernel
theorem dX11_late_10 : decode cX11_late 10 = .ok (.aload_n 0, 1) := by decide +kernel
theorem dX11_late_11 : decode cX11_late 11 = .ok (.invokevirtual 327, 3) := by decide +kernel
theorem dX11_late_14 : decode cX11_late 14 = .ok (.aload_n 0, 1) := by decide +kernel
theorem dX11_late_15 : decode cX11_late 15 = .ok (.getfield 60, 3) := by decide +kernel
theorem dX11_late_18 : decode cX11_late 18 = .ok (.aload_n 0, 1) := by decide +kernel
theorem dX11_late_19 : decode cX11_late 19 = .ok (.getfield 82, 3) := by decide +kernel
theorem dX11_late_22 : decode cX11_late 22 = .ok (.aload_n 0, 1) := by decide +kernel
theorem dX11_late_23 : decode cX11_late 23 = .ok (.getfield 89, 3) := by decide +kernel
theorem dX11_late_26 : decode cX11_late 26 = .ok (.iload_n 1, 1) := by decide +kernel
theorem dX11_late_27 : decode cX11_late 27 = .ok (.invokevirtual 350, 3) := by decide +kernel
theorem dX11_late_30 : decode cX11_late 30 = .ok (.ireturn, 1) := by decide +kernel
theorem dX11_post_0 : decode cX11_post 0 = .ok (.aload_n 0, 1) := by decide +kernel
theorem dX11_post_1 : decode cX11_post 1 = .ok (.getfield 82, 3) := by decide +kernel
theorem dX11_post_4 : decode cX11_post 4 = .ok (.iload_n 1, 1) := by decide +kernel
theorem dX11_post_5 : decode cX11_post 5 = .ok (.invokevirtual 197, 3) := by decide +kernel
theorem dX11_post_8 : decode cX11_post 8 = .ok (.ifCond .eq 12, 3) := by decide +kernel
theorem dX11_post_11 : decode cX11_post 11 = .ok (.iload_n 2, 1) := by decide +kernel
theorem dX11_post_12 : decode cX11_post 12 = .ok (.ifCond .lt 8, 3) := by decide +kernel
theorem dX11_post_15 : decode cX11_post 15 = .ok (.iload_n 2, 1) := by decide +kernel
theorem dX11_post_16 : decode cX11_post 16 = .ok (.iconst 1, 1) := by decide +kernel
theorem dX11_post_17 : decode cX11_post 17 = .ok (.if_icmp .le 5, 3) := by decide +kernel
theorem dX11_post_20 : decode cX11_post 20 = .ok (.iconst (-1), 1) := by decide +kernel
theorem dX11_post_21 : decode cX11_post 21 = .ok (.ireturn, 1) := by decide +kernel
theorem dX11_post_22 : decode cX11_post 22 = .ok (.aload_n 0, 1) := by decide +kernel
theorem dX11_post_23 : decode cX11_post 23 = .ok (.invokevirtual 327, 3) := by decide +kernel
theorem dX11_post_26 : decode cX11_post 26 = .ok (.aload_n 0, 1) := by decide +kernel
theorem dX11_post_27 : decode cX11_post 27 = .ok (.getfield 60, 3) := by decide +kernel
theorem dX11_post_30 : decode cX11_post 30 = .ok (.aload_n 0, 1) := by decide +kernel
theorem dX11_post_31 : decode cX11_post 31 = .ok (.getfield 82, 3) := by decide +kernel
theorem dX11_post_34 : decode cX11_post 34 = .ok (.aload_n 0, 1) := by decide +kernel
theorem dX11_post_35 : decode cX11_post 35 = .ok (.getfield 89, 3) := by decide +kernel
theorem dX11_post_38 : decode cX11_post 38 = .ok (.iload_n 1, 1) := by decide +kernel
theorem dX11_post_39 : decode cX11_post 39 = .ok (.invokevirtual 353, 3) := by decide +kernel
theorem dX11_post_42 : decode cX11_post 42 = .ok (.iload_n 2, 1) := by decide +kernel
theorem dX11_post_43 : decode cX11_post 43 = .ok (.ifCond .ne 13, 3) := by decide +kernel
theorem dX11_post_46 : decode cX11_post 46 = .ok (.aload_n 0, 1) := by decide +kernel
theorem dX11_post_47 : decode cX11_post 47 = .ok (.getfield 60, 3) := by decide +kernel
theorem dX11_post_50 : decode cX11_post 50 = .ok (.getfield 357, 3) := by decide +kernel
theorem dX11_post_53 : decode cX11_post 53 = .ok (.goto 10, 3) := by decide +kernel
theorem dX11_post_56 : decode cX11_post 56 = .ok (.aload_n 0, 1) := by decide +kernel
theorem dX11_post_57 : decode cX11_post 57 = .ok (.getfield 60, 3) := by decide +kernel
theorem dX11_post_60 : decode cX11_post 60 = .ok (.getfield 360, 3) := by decide +kernel
theorem dX11_post_63 : decode cX11_post 63 = .ok (.ireturn, 1) := by decide +kernel
theorem dX11_ask_0 : decode cX11_ask 0 = .ok (.aload_n 0, 1) := by decide +kernel
theorem dX11_ask_1 : decode cX11_ask 1 = .ok (.getfield 82, 3) := by decide +kernel
theorem dX11_ask_4 : decode cX11_ask 4 = .ok (.invokevirtual 278, 3) := by decide +kernel
theorem dX11_ask_7 : decode cX11_ask 7 = .ok (.ifCond .ne 16, 3) := by decide +kernel
theorem dX11_ask_10 : decode cX11_ask 10 = .ok (.aload_n 0, 1) := by decide +kernel
theorem dX11_ask_11 : decode cX11_ask 11 = .ok (.getfield 12, 3) := by decide +kernel
theorem dX11_ask_14 : decode cX11_ask 14 = .ok (.iconst 0, 1) := by decide +kernel
theorem dX11_ask_15 : decode cX11_ask 15 = .ok (.invokevirtual 119, 3) := by decide +kernel
theorem dX11_ask_18 : decode cX11_ask 18 = .ok (.pop, 1) := by decide +kernel
theorem dX11_ask_19 : decode cX11_ask 19 = .ok (.ldc2_w 363, 3) := by decide +kernel
theorem dX11_ask_22 : decode cX11_ask 22 = .ok (.lreturn, 1) := by decide +kernel
theorem dX11_ask_23 : decode cX11_ask 23 = .ok (.aload_n 0, 1) := by decide +kernel
theorem dX11_ask_24 : decode cX11_ask 24 = .ok (.getfield 37, 3) := by decide +kernel
theorem dX11_ask_27 : decode cX11_ask 27 = .ok (.invokevirtual 365, 3) := by decide +kernel
theorem dX11_ask_30 : decode cX11_ask 30 = .ok (.istore_n 1, 1) := by decide +kernel
theorem dX11_ask_31 : decode cX11_ask 31 = .ok (.aload_n 0, 1) := by decide +kernel
theorem dX11_ask_32 : decode cX11_ask 32 = .ok (.invokevirtual 126, 3) := by decide +kernel
theorem dX11_ask_35 : decode cX11_ask 35 = .ok (.aload_n 0, 1) := by decide +kernel
theorem dX11_ask_36 : decode cX11_ask 36 = .ok (.getfield 12, 3) := by decide +kernel
theorem dX11_ask_39 : decode cX11_ask 39 = .ok (.iconst 0, 1) := by decide +kernel
theorem dX11_ask_40 : decode cX11_ask 40 = .ok (.invokevirtual 119, 3) := by decide +kernel
theorem dX11_ask_43 : decode cX11_ask 43 = .ok (.pop, 1) := by decide +kernel
theorem dX11_ask_44 : decode cX11_ask 44 = .ok (.iload_n 1, 1) := by decide +kernel
theorem dX11_ask_45 : decode cX11_ask 45 = .ok (.ifCond .eq 17, 3) := by decide +kernel
theorem dX11_ask_48 : decode cX11_ask 48 = .ok (.aload_n 0, 1) := by decide +kernel
theorem dX11_ask_49 : decode cX11_ask 49 = .ok (.getfield 37, 3) := by decide +kernel
theorem dX11_ask_52 : decode cX11_ask 52 = .ok (.aload_n 0, 1) := by decide +kernel
theorem dX11_ask_53 : decode cX11_ask 53 = .ok (.invokevirtual 243, 3) := by decide +kernel
theorem dX11_ask_56 : decode cX11_ask 56 = .ok (.invokevirtual 367, 3) := by decide +kernel
theorem dX11_ask_59 : decode cX11_ask 59 = .ok (.goto 6, 3) := by decide +kernel
theorem dX11_ask_62 : decode cX11_ask 62 = .ok (.ldc2_w 363, 3) := by decide +kernel
theorem dX11_ask_65 : decode cX11_ask 65 = .ok (.lreturn, 1) := by decide +kernel
theorem dX11_image_0 : decode cX11_image 0 = .ok (.aload_n 0, 1) := by decide +kernel
theorem dX11_image_1 : decode cX11_image 1 = .ok (.aload_n 0, 1) := by decide +kernel
theorem dX11_image_2 : decode cX11_image 2 = .ok (.getfield 82, 3) := by decide +kernel
theorem dX11_image_5 : decode cX11_image 5 = .ok (.invokevirtual 371, 3) := by decide +kernel
theorem dX11_image_8 : decode cX11_image 8 = .ok (.putfield 75, 3) := by decide +kernel
theorem dX11_image_11 : decode cX11_image 11 = .ok (.aload_n 0, 1) := by decide +kernel
theorem dX11_image_12 : decode cX11_image 12 = .ok (.getfield 82, 3) := by decide +kernel
theorem dX11_image_15 : decode cX11_image 15 = .ok (.aload_n 0, 1) := by decide +kernel
theorem dX11_image_16 : decode cX11_image 16 = .ok (.getfield 71, 3) := by decide +kernel
theorem dX11_image_19 : decode cX11_image 19 = .ok (.invokevirtual 374, 3) := by decide +kernel
theorem dX11_image_22 : decode cX11_image 22 = .ok (.aload_n 0, 1) := by decide +kernel
theorem dX11_image_23 : decode cX11_image 23 = .ok (.getfield 75, 3) := by decide +kernel
theorem dX11_image_26 : decode cX11_image 26 = .ok (.ireturn, 1) := by decide +kernel
theorem dX11_octet_0 : decode cX11_octet 0 = .ok (.iload_n 1, 1) := by decide +kernel
theorem dX11_octet_1 : decode cX11_octet 1 = .ok (.ifCond .lt 22, 3) := by decide +kernel
theorem dX11_octet_4 : decode cX11_octet 4 = .ok (.iload_n 1, 1) := by decide +kernel
theorem dX11_octet_5 : decode cX11_octet 5 = .ok (.aload_n 0, 1) := by decide +kernel
theorem dX11_octet_6 : decode cX11_octet 6 = .ok (.getfield 75, 3) := by decide +kernel
theorem dX11_octet_9 : decode cX11_octet 9 = .ok (.if_icmp .ge 14, 3) := by decide +kernel
theorem dX11_octet_12 : decode cX11_octet 12 = .ok (.aload_n 0, 1) := by decide +kernel
theorem dX11_octet_13 : decode cX11_octet 13 = .ok (.getfield 71, 3) := by decide +kernel
theorem dX11_octet_16 : decode cX11_octet 16 = .ok (.iload_n 1, 1) := by decide +kernel
theorem dX11_octet_17 : decode cX11_octet 17 = .ok (.invokestatic 189, 3) := by decide +kernel
theorem dX11_octet_20 : decode cX11_octet 20 = .ok (.goto 4, 3) := by decide +kernel
theorem dX11_octet_23 : decode cX11_octet 23 = .ok (.iconst (-1), 1) := by decide +kernel
theorem dX11_octet_24 : decode cX11_octet 24 = .ok (.ireturn, 1) := by decide +kernel
theorem dX11_on_0 : decode cX11_on 0 = .ok (.aload_n 0, 1) := by decide +kernel
theorem dX11_on_1 : decode cX11_on 1 = .ok (.getfield 82, 3) := by decide +kernel
theorem dX11_on_4 : decode cX11_on 4 = .ok (.invokevirtual 278, 3) := by decide +kernel
theorem dX11_on_7 : decode cX11_on 7 = .ok (.ifCond .eq 21, 3) := by decide +kernel
theorem dX11_on_10 : decode cX11_on 10 = .ok (.aload_n 0, 1) := by decide +kernel
theorem dX11_on_11 : decode cX11_on 11 = .ok (.getfield 82, 3) := by decide +kernel
theorem dX11_on_14 : decode cX11_on 14 = .ok (.aload_n 0, 1) := by decide +kernel
theorem dX11_on_15 : decode cX11_on 15 = .ok (.getfield 12, 3) := by decide +kernel
theorem dX11_on_18 : decode cX11_on 18 = .ok (.invokevirtual 378, 3) := by decide +kernel
theorem dX11_on_21 : decode cX11_on 21 = .ok (.ifCond .eq 7, 3) := by decide +kernel
theorem dX11_on_24 : decode cX11_on 24 = .ok (.iconst 1, 1) := by decide +kernel
theorem dX11_on_25 : decode cX11_on 25 = .ok (.goto 4, 3) := by decide +kernel
theorem dX11_on_28 : decode cX11_on 28 = .ok (.iconst 0, 1) := by decide +kernel
theorem dX11_on_29 : decode cX11_on 29 = .ok (.istore_n 1, 1) := by decide +kernel
theorem dX11_on_30 : decode cX11_on 30 = .ok (.iload_n 1, 1) := by decide +kernel
theorem dX11_on_31 : decode cX11_on 31 = .ok (.ifCond .eq 26, 3) := by decide +kernel
theorem dX11_on_34 : decode cX11_on 34 = .ok (.aload_n 0, 1) := by decide +kernel
theorem dX11_on_35 : decode cX11_on 35 = .ok (.getfield 82, 3) := by decide +kernel
theorem dX11_on_38 : decode cX11_on 38 = .ok (.aload_n 0, 1) := by decide +kernel
theorem dX11_on_39 : decode cX11_on 39 = .ok (.getfield 12, 3) := by decide +kernel
theorem dX11_on_42 : decode cX11_on 42 = .ok (.invokevirtual 382, 3) := by decide +kernel
theorem dX11_on_45 : decode cX11_on 45 = .ok (.aload_n 0, 1) := by decide +kernel
theorem dX11_on_46 : decode cX11_on 46 = .ok (.getfield 67, 3) := by decide +kernel
theorem dX11_on_49 : decode cX11_on 49 = .ok (.invokevirtual 139, 3) := by decide +kernel
theorem dX11_on_52 : decode cX11_on 52 = .ok (.aload_n 0, 1) := by decide +kernel
theorem dX11_on_53 : decode cX11_on 53 = .ok (.iconst 1, 1) := by decide +kernel
theorem dX11_on_54 : decode cX11_on 54 = .ok (.invokevirtual 142, 3) := by decide +kernel
theorem dX11_on_57 : decode cX11_on 57 = .ok (.aload_n 0, 1) := by decide +kernel
theorem dX11_on_58 : decode cX11_on 58 = .ok (.getfield 12, 3) := by decide +kernel
theorem dX11_on_61 : decode cX11_on 61 = .ok (.iconst 0, 1) := by decide +kernel
theorem dX11_on_62 : decode cX11_on 62 = .ok (.invokevirtual 119, 3) := by decide +kernel
theorem dX11_on_65 : decode cX11_on 65 = .ok (.pop, 1) := by decide +kernel
theorem dX11_on_66 : decode cX11_on 66 = .ok (.iload_n 1, 1) := by decide +kernel
theorem dX11_on_67 : decode cX11_on 67 = .ok (.ireturn, 1) := by decide +kernel
theorem dX11_takeFault_0 : decode cX11_takeFault 0 = .ok (.aload_n 0, 1) := by decide +kernel
theorem dX11_takeFault_1 : decode cX11_takeFault 1 = .ok (.aload_n 0, 1) := by decide +kernel
theorem dX11_takeFault_2 : decode cX11_takeFault 2 = .ok (.getfield 21, 3) := by decide +kernel
theorem dX11_takeFault_5 : decode cX11_takeFault 5 = .ok (.getfield 385, 3) := by decide +kernel
theorem dX11_takeFault_8 : decode cX11_takeFault 8 = .ok (.putfield 95, 3) := by decide +kernel
theorem dX11_takeFault_11 : decode cX11_takeFault 11 = .ok (.aload_n 0, 1) := by decide +kernel
theorem dX11_takeFault_12 : decode cX11_takeFault 12 = .ok (.aload_n 0, 1) := by decide +kernel
theorem dX11_takeFault_13 : decode cX11_takeFault 13 = .ok (.getfield 21, 3) := by decide +kernel
theorem dX11_takeFault_16 : decode cX11_takeFault 16 = .ok (.getfield 386, 3) := by decide +kernel
theorem dX11_takeFault_19 : decode cX11_takeFault 19 = .ok (.putfield 98, 3) := by decide +kernel
theorem dX11_takeFault_22 : decode cX11_takeFault 22 = .ok (.return_, 1) := by decide +kernel
theorem dX11_changed_0 : decode cX11_changed 0 = .ok (.aload_n 0, 1) := by decide +kernel
theorem dX11_changed_1 : decode cX11_changed 1 = .ok (.aload_n 0, 1) := by decide +kernel
theorem dX11_changed_2 : decode cX11_changed 2 = .ok (.getfield 101, 3) := by decide +kernel
theorem dX11_changed_5 : decode cX11_changed 5 = .ok (.ifCond .ne 7, 3) := by decide +kernel
theorem dX11_changed_8 : decode cX11_changed 8 = .ok (.iload_n 1, 1) := by decide +kernel
theorem dX11_changed_9 : decode cX11_changed 9 = .ok (.ifCond .eq 7, 3) := by decide +kernel
theorem dX11_changed_12 : decode cX11_changed 12 = .ok (.iconst 1, 1) := by decide +kernel
theorem dX11_changed_13 : decode cX11_changed 13 = .ok (.goto 4, 3) := by decide +kernel
theorem dX11_changed_16 : decode cX11_changed 16 = .ok (.iconst 0, 1) := by decide +kernel
theorem dX11_changed_17 : decode cX11_changed 17 = .ok (.putfield 101, 3) := by decide +kernel
theorem dX11_changed_20 : decode cX11_changed 20 = .ok (.aload_n 0, 1) := by decide +kernel
theorem dX11_changed_21 : decode cX11_changed 21 = .ok (.iconst 1, 1) := by decide +kernel
theorem dX11_changed_22 : decode cX11_changed 22 = .ok (.putfield 105, 3) := by decide +kernel
theorem dX11_changed_25 : decode cX11_changed 25 = .ok (.return_, 1) := by decide +kernel
theorem dX11_freshWalks_0 : decode cX11_freshWalks 0 = .ok (.aload_n 0, 1) := by decide +kernel
theorem dX11_freshWalks_1 : decode cX11_freshWalks 1 = .ok (.getfield 101, 3) := by decide +kernel
theorem dX11_freshWalks_4 : decode cX11_freshWalks 4 = .ok (.ifCond .eq 19, 3) := by decide +kernel
theorem dX11_freshWalks_7 : decode cX11_freshWalks 7 = .ok (.aload_n 0, 1) := by decide +kernel
theorem dX11_freshWalks_8 : decode cX11_freshWalks 8 = .ok (.getfield 44, 3) := by decide +kernel
theorem dX11_freshWalks_11 : decode cX11_freshWalks 11 = .ok (.aload_n 0, 1) := by decide +kernel
theorem dX11_freshWalks_12 : decode cX11_freshWalks 12 = .ok (.getfield 82, 3) := by decide +kernel
theorem dX11_freshWalks_15 : decode cX11_freshWalks 15 = .ok (.invokevirtual 387, 3) := by decide +kernel
theorem dX11_freshWalks_18 : decode cX11_freshWalks 18 = .ok (.aload_n 0, 1) := by decide +kernel
theorem dX11_freshWalks_19 : decode cX11_freshWalks 19 = .ok (.iconst 0, 1) := by decide +kernel
theorem dX11_freshWalks_20 : decode cX11_freshWalks 20 = .ok (.putfield 101, 3) := by decide +kernel
theorem dX11_freshWalks_23 : decode cX11_freshWalks 23 = .ok (.return_, 1) := by decide +kernel
theorem dX11_freshMorning_0 : decode cX11_freshMorning 0 = .ok (.aload_n 0, 1) := by decide +kernel
theorem dX11_freshMorning_1 : decode cX11_freshMorning 1 = .ok (.getfield 105, 3) := by decide +kernel
theorem dX11_freshMorning_4 : decode cX11_freshMorning 4 = .ok (.ifCond .eq 31, 3) := by decide +kernel
theorem dX11_freshMorning_7 : decode cX11_freshMorning 7 = .ok (.aload_n 0, 1) := by decide +kernel
theorem dX11_freshMorning_8 : decode cX11_freshMorning 8 = .ok (.invokevirtual 327, 3) := by decide +kernel
theorem dX11_freshMorning_11 : decode cX11_freshMorning 11 = .ok (.aload_n 0, 1) := by decide +kernel
theorem dX11_freshMorning_12 : decode cX11_freshMorning 12 = .ok (.getfield 51, 3) := by decide +kernel
theorem dX11_freshMorning_15 : decode cX11_freshMorning 15 = .ok (.aload_n 0, 1) := by decide +kernel
theorem dX11_freshMorning_16 : decode cX11_freshMorning 16 = .ok (.getfield 82, 3) := by decide +kernel
theorem dX11_freshMorning_19 : decode cX11_freshMorning 19 = .ok (.aload_n 0, 1) := by decide +kernel
theorem dX11_freshMorning_20 : decode cX11_freshMorning 20 = .ok (.getfield 44, 3) := by decide +kernel
theorem dX11_freshMorning_23 : decode cX11_freshMorning 23 = .ok (.aload_n 0, 1) := by decide +kernel
theorem dX11_freshMorning_24 : decode cX11_freshMorning 24 = .ok (.getfield 89, 3) := by decide +kernel
theorem dX11_freshMorning_27 : decode cX11_freshMorning 27 = .ok (.invokevirtual 390, 3) := by decide +kernel
theorem dX11_freshMorning_30 : decode cX11_freshMorning 30 = .ok (.aload_n 0, 1) := by decide +kernel
theorem dX11_freshMorning_31 : decode cX11_freshMorning 31 = .ok (.iconst 0, 1) := by decide +kernel
theorem dX11_freshMorning_32 : decode cX11_freshMorning 32 = .ok (.putfield 105, 3) := by decide +kernel
theorem dX11_freshMorning_35 : decode cX11_freshMorning 35 = .ok (.aload_n 0, 1) := by decide +kernel
theorem dX11_freshMorning_36 : decode cX11_freshMorning 36 = .ok (.getfield 51, 3) := by decide +kernel
theorem dX11_freshMorning_39 : decode cX11_freshMorning 39 = .ok (.areturn, 1) := by decide +kernel
theorem dX11_isComer_0 : decode cX11_isComer 0 = .ok (.aload_n 0, 1) := by decide +kernel
theorem dX11_isComer_1 : decode cX11_isComer 1 = .ok (.getfield 82, 3) := by decide +kernel
theorem dX11_isComer_4 : decode cX11_isComer 4 = .ok (.getfield 129, 3) := by decide +kernel
theorem dX11_isComer_7 : decode cX11_isComer 7 = .ok (.iload_n 1, 1) := by decide +kernel
theorem dX11_isComer_8 : decode cX11_isComer 8 = .ok (.invokevirtual 183, 3) := by decide +kernel
theorem dX11_isComer_11 : decode cX11_isComer 11 = .ok (.ifCond .eq 18, 3) := by decide +kernel
theorem dX11_isComer_14 : decode cX11_isComer 14 = .ok (.aload_n 0, 1) := by decide +kernel
theorem dX11_isComer_15 : decode cX11_isComer 15 = .ok (.getfield 89, 3) := by decide +kernel
theorem dX11_isComer_18 : decode cX11_isComer 18 = .ok (.iload_n 1, 1) := by decide +kernel
theorem dX11_isComer_19 : decode cX11_isComer 19 = .ok (.invokestatic 218, 3) := by decide +kernel
theorem dX11_isComer_22 : decode cX11_isComer 22 = .ok (.ifCond .eq 7, 3) := by decide +kernel
theorem dX11_isComer_25 : decode cX11_isComer 25 = .ok (.iconst 1, 1) := by decide +kernel
theorem dX11_isComer_26 : decode cX11_isComer 26 = .ok (.goto 4, 3) := by decide +kernel
theorem dX11_isComer_29 : decode cX11_isComer 29 = .ok (.iconst 0, 1) := by decide +kernel
theorem dX11_isComer_30 : decode cX11_isComer 30 = .ok (.ireturn, 1) := by decide +kernel
theorem dX11_hasWatch_0 : decode cX11_hasWatch 0 = .ok (.aload_n 0, 1) := by decide +kernel
theorem dX11_hasWatch_1 : decode cX11_hasWatch 1 = .ok (.iload_n 1, 1) := by decide +kernel
theorem dX11_hasWatch_2 : decode cX11_hasWatch 2 = .ok (.invokevirtual 257, 3) := by decide +kernel
theorem dX11_hasWatch_5 : decode cX11_hasWatch 5 = .ok (.ifCond .eq 24, 3) := by decide +kernel
theorem dX11_hasWatch_8 : decode cX11_hasWatch 8 = .ok (.aload_n 0, 1) := by decide +kernel
theorem dX11_hasWatch_9 : decode cX11_hasWatch 9 = .ok (.getfield 82, 3) := by decide +kernel
theorem dX11_hasWatch_12 : decode cX11_hasWatch 12 = .ok (.getfield 129, 3) := by decide +kernel
theorem dX11_hasWatch_15 : decode cX11_hasWatch 15 = .ok (.getfield 215, 3) := by decide +kernel
theorem dX11_hasWatch_18 : decode cX11_hasWatch 18 = .ok (.iload_n 1, 1) := by decide +kernel
theorem dX11_hasWatch_19 : decode cX11_hasWatch 19 = .ok (.invokestatic 218, 3) := by decide +kernel
theorem dX11_hasWatch_22 : decode cX11_hasWatch 22 = .ok (.ifCond .ne 7, 3) := by decide +kernel
theorem dX11_hasWatch_25 : decode cX11_hasWatch 25 = .ok (.iconst 1, 1) := by decide +kernel
theorem dX11_hasWatch_26 : decode cX11_hasWatch 26 = .ok (.goto 4, 3) := by decide +kernel
theorem dX11_hasWatch_29 : decode cX11_hasWatch 29 = .ok (.iconst 0, 1) := by decide +kernel
theorem dX11_hasWatch_30 : decode cX11_hasWatch 30 = .ok (.ireturn, 1) := by decide +kernel
theorem dX11_draw_0 : decode cX11_draw 0 = .ok (.aload_n 0, 1) := by decide +kernel
theorem dX11_draw_1 : decode cX11_draw 1 = .ok (.ldc_w 394, 3) := by decide +kernel
theorem dX11_draw_4 : decode cX11_draw 4 = .ok (.aload_n 0, 1) := by decide +kernel
theorem dX11_draw_5 : decode cX11_draw 5 = .ok (.getfield 92, 3) := by decide +kernel
theorem dX11_draw_8 : decode cX11_draw 8 = .ok (.imul, 1) := by decide +kernel
theorem dX11_draw_9 : decode cX11_draw 9 = .ok (.sipush 12345, 3) := by decide +kernel
theorem dX11_draw_12 : decode cX11_draw 12 = .ok (.iadd, 1) := by decide +kernel
theorem dX11_draw_13 : decode cX11_draw 13 = .ok (.ldc_w 395, 3) := by decide +kernel
theorem dX11_draw_16 : decode cX11_draw 16 = .ok (.iand, 1) := by decide +kernel
theorem dX11_draw_17 : decode cX11_draw 17 = .ok (.putfield 92, 3) := by decide +kernel
theorem dX11_draw_20 : decode cX11_draw 20 = .ok (.iload_n 1, 1) := by decide +kernel
theorem dX11_draw_21 : decode cX11_draw 21 = .ok (.ifCond .le 15, 3) := by decide +kernel
theorem dX11_draw_24 : decode cX11_draw 24 = .ok (.aload_n 0, 1) := by decide +kernel
theorem dX11_draw_25 : decode cX11_draw 25 = .ok (.getfield 92, 3) := by decide +kernel
theorem dX11_draw_28 : decode cX11_draw 28 = .ok (.bipush 64, 2) := by decide +kernel
theorem dX11_draw_30 : decode cX11_draw 30 = .ok (.idiv, 1) := by decide +kernel
theorem dX11_draw_31 : decode cX11_draw 31 = .ok (.iload_n 1, 1) := by decide +kernel
theorem dX11_draw_32 : decode cX11_draw 32 = .ok (.irem, 1) := by decide +kernel
theorem dX11_draw_33 : decode cX11_draw 33 = .ok (.goto 4, 3) := by decide +kernel
theorem dX11_draw_36 : decode cX11_draw 36 = .ok (.iconst 0, 1) := by decide +kernel
theorem dX11_draw_37 : decode cX11_draw 37 = .ok (.ireturn, 1) := by decide +kernel
theorem dX11_isSecond_0 : decode cX11_isSecond 0 = .ok (.iload_n 0, 1) := by decide +kernel
theorem dX11_isSecond_1 : decode cX11_isSecond 1 = .ok (.ifCond .lt 14, 3) := by decide +kernel
theorem dX11_isSecond_4 : decode cX11_isSecond 4 = .ok (.iload_n 0, 1) := by decide +kernel
theorem dX11_isSecond_5 : decode cX11_isSecond 5 = .ok (.sipush 201, 3) := by decide +kernel
theorem dX11_isSecond_8 : decode cX11_isSecond 8 = .ok (.if_icmp .ge 7, 3) := by decide +kernel
theorem dX11_isSecond_11 : decode cX11_isSecond 11 = .ok (.iconst 1, 1) := by decide +kernel
theorem dX11_isSecond_12 : decode cX11_isSecond 12 = .ok (.goto 4, 3) := by decide +kernel
theorem dX11_isSecond_15 : decode cX11_isSecond 15 = .ok (.iconst 0, 1) := by decide +kernel
theorem dX11_isSecond_16 : decode cX11_isSecond 16 = .ok (.ireturn, 1) := by decide +kernel
theorem dX11_hasBit_0 : decode cX11_hasBit 0 = .ok (.iload_n 1, 1) := by decide +kernel
theorem dX11_hasBit_1 : decode cX11_hasBit 1 = .ok (.ifCond .lt 22, 3) := by decide +kernel
theorem dX11_hasBit_4 : decode cX11_hasBit 4 = .ok (.iload_n 1, 1) := by decide +kernel
theorem dX11_hasBit_5 : decode cX11_hasBit 5 = .ok (.bipush 31, 2) := by decide +kernel
theorem dX11_hasBit_7 : decode cX11_hasBit 7 = .ok (.if_icmp .ge 16, 3) := by decide +kernel
theorem dX11_hasBit_10 : decode cX11_hasBit 10 = .ok (.iload_n 0, 1) := by decide +kernel
theorem dX11_hasBit_11 : decode cX11_hasBit 11 = .ok (.iload_n 1, 1) := by decide +kernel
theorem dX11_hasBit_12 : decode cX11_hasBit 12 = .ok (.ishr, 1) := by decide +kernel
theorem dX11_hasBit_13 : decode cX11_hasBit 13 = .ok (.iconst 1, 1) := by decide +kernel
theorem dX11_hasBit_14 : decode cX11_hasBit 14 = .ok (.iand, 1) := by decide +kernel
theorem dX11_hasBit_15 : decode cX11_hasBit 15 = .ok (.iconst 1, 1) := by decide +kernel
theorem dX11_hasBit_16 : decode cX11_hasBit 16 = .ok (.if_icmp .ne 7, 3) := by decide +kernel
theorem dX11_hasBit_19 : decode cX11_hasBit 19 = .ok (.iconst 1, 1) := by decide +kernel
theorem dX11_hasBit_20 : decode cX11_hasBit 20 = .ok (.goto 4, 3) := by decide +kernel
theorem dX11_hasBit_23 : decode cX11_hasBit 23 = .ok (.iconst 0, 1) := by decide +kernel
theorem dX11_hasBit_24 : decode cX11_hasBit 24 = .ok (.ireturn, 1) := by decide +kernel
theorem dX11_get_0 : decode cX11_get 0 = .ok (.iload_n 1, 1) := by decide +kernel
theorem dX11_get_1 : decode cX11_get 1 = .ok (.ifCond .lt 15, 3) := by decide +kernel
theorem dX11_get_4 : decode cX11_get 4 = .ok (.iload_n 1, 1) := by decide +kernel
theorem dX11_get_5 : decode cX11_get 5 = .ok (.aload_n 0, 1) := by decide +kernel
theorem dX11_get_6 : decode cX11_get 6 = .ok (.arraylength, 1) := by decide +kernel
theorem dX11_get_7 : decode cX11_get 7 = .ok (.if_icmp .ge 9, 3) := by decide +kernel
theorem dX11_get_10 : decode cX11_get 10 = .ok (.aload_n 0, 1) := by decide +kernel
theorem dX11_get_11 : decode cX11_get 11 = .ok (.iload_n 1, 1) := by decide +kernel
theorem dX11_get_12 : decode cX11_get 12 = .ok (.iaload, 1) := by decide +kernel
theorem dX11_get_13 : decode cX11_get 13 = .ok (.goto 4, 3) := by decide +kernel
theorem dX11_get_16 : decode cX11_get 16 = .ok (.iconst (-1), 1) := by decide +kernel
theorem dX11_get_17 : decode cX11_get 17 = .ok (.ireturn, 1) := by decide +kernel
theorem dX11_put_0 : decode cX11_put 0 = .ok (.iload_n 1, 1) := by decide +kernel
theorem dX11_put_1 : decode cX11_put 1 = .ok (.ifCond .lt 13, 3) := by decide +kernel
theorem dX11_put_4 : decode cX11_put 4 = .ok (.iload_n 1, 1) := by decide +kernel
theorem dX11_put_5 : decode cX11_put 5 = .ok (.aload_n 0, 1) := by decide +kernel
theorem dX11_put_6 : decode cX11_put 6 = .ok (.arraylength, 1) := by decide +kernel
theorem dX11_put_7 : decode cX11_put 7 = .ok (.if_icmp .ge 7, 3) := by decide +kernel
theorem dX11_put_10 : decode cX11_put 10 = .ok (.aload_n 0, 1) := by decide +kernel
theorem dX11_put_11 : decode cX11_put 11 = .ok (.iload_n 1, 1) := by decide +kernel
theorem dX11_put_12 : decode cX11_put 12 = .ok (.iload_n 2, 1) := by decide +kernel
theorem dX11_put_13 : decode cX11_put 13 = .ok (.iastore, 1) := by decide +kernel
theorem dX11_put_14 : decode cX11_put 14 = .ok (.return_, 1) := by decide +kernel
theorem dX11_letterOf_0 : decode cX11_letterOf 0 = .ok (.iload_n 0, 1) := by decide +kernel
theorem dX11_letterOf_1 : decode cX11_letterOf 1 = .ok (.iconst 5, 1) := by decide +kernel
theorem dX11_letterOf_2 : decode cX11_letterOf 2 = .ok (.iconst 5, 1) := by decide +kernel
theorem dX11_letterOf_3 : decode cX11_letterOf 3 = .ok (.iload_n 1, 1) := by decide +kernel
theorem dX11_letterOf_4 : decode cX11_letterOf 4 = .ok (.isub, 1) := by decide +kernel
theorem dX11_letterOf_5 : decode cX11_letterOf 5 = .ok (.imul, 1) := by decide +kernel
theorem dX11_letterOf_6 : decode cX11_letterOf 6 = .ok (.ishr, 1) := by decide +kernel
theorem dX11_letterOf_7 : decode cX11_letterOf 7 = .ok (.bipush 31, 2) := by decide +kernel
theorem dX11_letterOf_9 : decode cX11_letterOf 9 = .ok (.iand, 1) := by decide +kernel
theorem dX11_letterOf_10 : decode cX11_letterOf 10 = .ok (.ireturn, 1) := by decide +kernel
theorem dX12_init_0 : decode cX12_init 0 = .ok (.aload_n 0, 1) := by decide +kernel
theorem dX12_init_1 : decode cX12_init 1 = .ok (.invokespecial 1, 3) := by decide +kernel
theorem dX12_init_4 : decode cX12_init 4 = .ok (.aload_n 0, 1) := by decide +kernel
theorem dX12_init_5 : decode cX12_init 5 = .ok (.sipush 1600, 3) := by decide +kernel
theorem dX12_init_8 : decode cX12_init 8 = .ok (.newarray .int, 2) := by decide +kernel
theorem dX12_init_10 : decode cX12_init 10 = .ok (.putfield 7, 3) := by decide +kernel
theorem dX12_init_13 : decode cX12_init 13 = .ok (.aload_n 0, 1) := by decide +kernel
theorem dX12_init_14 : decode cX12_init 14 = .ok (.iconst (-1), 1) := by decide +kernel
theorem dX12_init_15 : decode cX12_init 15 = .ok (.putfield 13, 3) := by decide +kernel
theorem dX12_init_18 : decode cX12_init 18 = .ok (.aload_n 0, 1) := by decide +kernel
theorem dX12_init_19 : decode cX12_init 19 = .ok (.iconst 4, 1) := by decide +kernel
theorem dX12_init_20 : decode cX12_init 20 = .ok (.newarray .char, 2) := by decide +kernel
theorem dX12_init_22 : decode cX12_init 22 = .ok (.dup, 1) := by decide +kernel
theorem dX12_init_23 : decode cX12_init 23 = .ok (.iconst 0, 1) := by decide +kernel
theorem dX12_init_24 : decode cX12_init 24 = .ok (.bipush 104, 2) := by decide +kernel
theorem dX12_init_26 : decode cX12_init 26 = .ok (.castore, 1) := by decide +kernel
theorem dX12_init_27 : decode cX12_init 27 = .ok (.dup, 1) := by decide +kernel
theorem dX12_init_28 : decode cX12_init 28 = .ok (.iconst 1, 1) := by decide +kernel
theorem dX12_init_29 : decode cX12_init 29 = .ok (.bipush 97, 2) := by decide +kernel
theorem dX12_init_31 : decode cX12_init 31 = .ok (.castore, 1) := by decide +kernel
theorem dX12_init_32 : decode cX12_init 32 = .ok (.dup, 1) := by decide +kernel
theorem dX12_init_33 : decode cX12_init 33 = .ok (.iconst 2, 1) := by decide +kernel
theorem dX12_init_34 : decode cX12_init 34 = .ok (.bipush 108, 2) := by decide +kernel
theorem dX12_init_36 : decode cX12_init 36 = .ok (.castore, 1) := by decide +kernel
theorem dX12_init_37 : decode cX12_init 37 = .ok (.dup, 1) := by decide +kernel
theorem dX12_init_38 : decode cX12_init 38 = .ok (.iconst 3, 1) := by decide +kernel
theorem dX12_init_39 : decode cX12_init 39 = .ok (.bipush 108, 2) := by decide +kernel
theorem dX12_init_41 : decode cX12_init 41 = .ok (.castore, 1) := by decide +kernel
theorem dX12_init_42 : decode cX12_init 42 = .ok (.putfield 17, 3) := by decide +kernel
theorem dX12_init_45 : decode cX12_init 45 = .ok (.aload_n 0, 1) := by decide +kernel
theorem dX12_init_46 : decode cX12_init 46 = .ok (.iconst 4, 1) := by decide +kernel
theorem dX12_init_47 : decode cX12_init 47 = .ok (.newarray .char, 2) := by decide +kernel
theorem dX12_init_49 : decode cX12_init 49 = .ok (.dup, 1) := by decide +kernel
theorem dX12_init_50 : decode cX12_init 50 = .ok (.iconst 0, 1) := by decide +kernel
theorem dX12_init_51 : decode cX12_init 51 = .ok (.bipush 119, 2) := by decide +kernel
theorem dX12_init_53 : decode cX12_init 53 = .ok (.castore, 1) := by decide +kernel
theorem dX12_init_54 : decode cX12_init 54 = .ok (.dup, 1) := by decide +kernel
theorem dX12_init_55 : decode cX12_init 55 = .ok (.iconst 1, 1) := by decide +kernel
theorem dX12_init_56 : decode cX12_init 56 = .ok (.bipush 97, 2) := by decide +kernel
theorem dX12_init_58 : decode cX12_init 58 = .ok (.castore, 1) := by decide +kernel
theorem dX12_init_59 : decode cX12_init 59 = .ok (.dup, 1) := by decide +kernel
theorem dX12_init_60 : decode cX12_init 60 = .ok (.iconst 2, 1) := by decide +kernel
theorem dX12_init_61 : decode cX12_init 61 = .ok (.bipush 108, 2) := by decide +kernel
theorem dX12_init_63 : decode cX12_init 63 = .ok (.castore, 1) := by decide +kernel
theorem dX12_init_64 : decode cX12_init 64 = .ok (.dup, 1) := by decide +kernel
theorem dX12_init_65 : decode cX12_init 65 = .ok (.iconst 3, 1) := by decide +kernel
theorem dX12_init_66 : decode cX12_init 66 = .ok (.bipush 108, 2) := by decide +kernel
theorem dX12_init_68 : decode cX12_init 68 = .ok (.castore, 1) := by decide +kernel
theorem dX12_init_69 : decode cX12_init 69 = .ok (.putfield 21, 3) := by decide +kernel
theorem dX12_init_72 : decode cX12_init 72 = .ok (.aload_n 0, 1) := by decide +kernel
theorem dX12_init_73 : decode cX12_init 73 = .ok (.iconst 4, 1) := by decide +kernel
theorem dX12_init_74 : decode cX12_init 74 = .ok (.newarray .char, 2) := by decide +kernel
theorem dX12_init_76 : decode cX12_init 76 = .ok (.dup, 1) := by decide +kernel
theorem dX12_init_77 : decode cX12_init 77 = .ok (.iconst 0, 1) := by decide +kernel
theorem dX12_init_78 : decode cX12_init 78 = .ok (.bipush 100, 2) := by decide +kernel
theorem dX12_init_80 : decode cX12_init 80 = .ok (.castore, 1) := by decide +kernel
theorem dX12_init_81 : decode cX12_init 81 = .ok (.dup, 1) := by decide +kernel
theorem dX12_init_82 : decode cX12_init 82 = .ok (.iconst 1, 1) := by decide +kernel
theorem dX12_init_83 : decode cX12_init 83 = .ok (.bipush 111, 2) := by decide +kernel
theorem dX12_init_85 : decode cX12_init 85 = .ok (.castore, 1) := by decide +kernel
theorem dX12_init_86 : decode cX12_init 86 = .ok (.dup, 1) := by decide +kernel
theorem dX12_init_87 : decode cX12_init 87 = .ok (.iconst 2, 1) := by decide +kernel
theorem dX12_init_88 : decode cX12_init 88 = .ok (.bipush 111, 2) := by decide +kernel
theorem dX12_init_90 : decode cX12_init 90 = .ok (.castore, 1) := by decide +kernel
theorem dX12_init_91 : decode cX12_init 91 = .ok (.dup, 1) := by decide +kernel
theorem dX12_init_92 : decode cX12_init 92 = .ok (.iconst 3, 1) := by decide +kernel
theorem dX12_init_93 : decode cX12_init 93 = .ok (.bipush 114, 2) := by decide +kernel
theorem dX12_init_95 : decode cX12_init 95 = .ok (.castore, 1) := by decide +kernel
theorem dX12_init_96 : decode cX12_init 96 = .ok (.putfield 24, 3) := by decide +kernel
theorem dX12_init_99 : decode cX12_init 99 = .ok (.aload_n 0, 1) := by decide +kernel
theorem dX12_init_100 : decode cX12_init 100 = .ok (.bipush 6, 2) := by decide +kernel
theorem dX12_init_102 : decode cX12_init 102 = .ok (.newarray .char, 2) := by decide +kernel
theorem dX12_init_104 : decode cX12_init 104 = .ok (.dup, 1) := by decide +kernel
theorem dX12_init_105 : decode cX12_init 105 = .ok (.iconst 0, 1) := by decide +kernel
theorem dX12_init_106 : decode cX12_init 106 = .ok (.bipush 112, 2) := by decide +kernel
theorem dX12_init_108 : decode cX12_init 108 = .ok (.castore, 1) := by decide +kernel
theorem dX12_init_109 : decode cX12_init 109 = .ok (.dup, 1) := by decide +kernel
theorem dX12_init_110 : decode cX12_init 110 = .ok (.iconst 1, 1) := by decide +kernel
theorem dX12_init_111 : decode cX12_init 111 = .ok (.bipush 101, 2) := by decide +kernel
theorem dX12_init_113 : decode cX12_init 113 = .ok (.castore, 1) := by decide +kernel
theorem dX12_init_114 : decode cX12_init 114 = .ok (.dup, 1) := by decide +kernel
theorem dX12_init_115 : decode cX12_init 115 = .ok (.iconst 2, 1) := by decide +kernel
theorem dX12_init_116 : decode cX12_init 116 = .ok (.bipush 114, 2) := by decide +kernel
theorem dX12_init_118 : decode cX12_init 118 = .ok (.castore, 1) := by decide +kernel
theorem dX12_init_119 : decode cX12_init 119 = .ok (.dup, 1) := by decide +kernel
theorem dX12_init_120 : decode cX12_init 120 = .ok (.iconst 3, 1) := by decide +kernel
theorem dX12_init_121 : decode cX12_init 121 = .ok (.bipush 115, 2) := by decide +kernel
theorem dX12_init_123 : decode cX12_init 123 = .ok (.castore, 1) := by decide +kernel
theorem dX12_init_124 : decode cX12_init 124 = .ok (.dup, 1) := by decide +kernel
theorem dX12_init_125 : decode cX12_init 125 = .ok (.iconst 4, 1) := by decide +kernel
theorem dX12_init_126 : decode cX12_init 126 = .ok (.bipush 111, 2) := by decide +kernel
theorem dX12_init_128 : decode cX12_init 128 = .ok (.castore, 1) := by decide +kernel
theorem dX12_init_129 : decode cX12_init 129 = .ok (.dup, 1) := by decide +kernel
theorem dX12_init_130 : decode cX12_init 130 = .ok (.iconst 5, 1) := by decide +kernel
theorem dX12_init_131 : decode cX12_init 131 = .ok (.bipush 110, 2) := by decide +kernel
theorem dX12_init_133 : decode cX12_init 133 = .ok (.castore, 1) := by decide +kernel
theorem dX12_init_134 : decode cX12_init 134 = .ok (.putfield 27, 3) := by decide +kernel
theorem dX12_init_137 : decode cX12_init 137 = .ok (.aload_n 0, 1) := by decide +kernel
theorem dX12_init_138 : decode cX12_init 138 = .ok (.iconst 2, 1) := by decide +kernel
theorem dX12_init_139 : decode cX12_init 139 = .ok (.newarray .char, 2) := by decide +kernel
theorem dX12_init_141 : decode cX12_init 141 = .ok (.dup, 1) := by decide +kernel
theorem dX12_init_142 : decode cX12_init 142 = .ok (.iconst 0, 1) := by decide +kernel
theorem dX12_init_143 : decode cX12_init 143 = .ok (.bipush 97, 2) := by decide +kernel
theorem dX12_init_145 : decode cX12_init 145 = .ok (.castore, 1) := by decide +kernel
theorem dX12_init_146 : decode cX12_init 146 = .ok (.dup, 1) := by decide +kernel
theorem dX12_init_147 : decode cX12_init 147 = .ok (.iconst 1, 1) := by decide +kernel
theorem dX12_init_148 : decode cX12_init 148 = .ok (.bipush 116, 2) := by decide +kernel
theorem dX12_init_150 : decode cX12_init 150 = .ok (.castore, 1) := by decide +kernel
theorem dX12_init_151 : decode cX12_init 151 = .ok (.putfield 30, 3) := by decide +kernel
theorem dX12_init_154 : decode cX12_init 154 = .ok (.aload_n 0, 1) := by decide +kernel
theorem dX12_init_155 : decode cX12_init 155 = .ok (.iconst 4, 1) := by decide +kernel
theorem dX12_init_156 : decode cX12_init 156 = .ok (.newarray .char, 2) := by decide +kernel
theorem dX12_init_158 : decode cX12_init 158 = .ok (.dup, 1) := by decide +kernel
theorem dX12_init_159 : decode cX12_init 159 = .ok (.iconst 0, 1) := by decide +kernel
theorem dX12_init_160 : decode cX12_init 160 = .ok (.bipush 115, 2) := by decide +kernel
theorem dX12_init_162 : decode cX12_init 162 = .ok (.castore, 1) := by decide +kernel
theorem dX12_init_163 : decode cX12_init 163 = .ok (.dup, 1) := by decide +kernel
theorem dX12_init_164 : decode cX12_init 164 = .ok (.iconst 1, 1) := by decide +kernel
theorem dX12_init_165 : decode cX12_init 165 = .ok (.bipush 108, 2) := by decide +kernel
theorem dX12_init_167 : decode cX12_init 167 = .ok (.castore, 1) := by decide +kernel
theorem dX12_init_168 : decode cX12_init 168 = .ok (.dup, 1) := by decide +kernel
theorem dX12_init_169 : decode cX12_init 169 = .ok (.iconst 2, 1) := by decide +kernel
theorem dX12_init_170 : decode cX12_init 170 = .ok (.bipush 111, 2) := by decide +kernel
theorem dX12_init_172 : decode cX12_init 172 = .ok (.castore, 1) := by decide +kernel
theorem dX12_init_173 : decode cX12_init 173 = .ok (.dup, 1) := by decide +kernel
theorem dX12_init_174 : decode cX12_init 174 = .ok (.iconst 3, 1) := by decide +kernel
theorem dX12_init_175 : decode cX12_init 175 = .ok (.bipush 119, 2) := by decide +kernel
theorem dX12_init_177 : decode cX12_init 177 = .ok (.castore, 1) := by decide +kernel
theorem dX12_init_178 : decode cX12_init 178 = .ok (.putfield 33, 3) := by decide +kernel
theorem dX12_init_181 : decode cX12_init 181 = .ok (.aload_n 0, 1) := by decide +kernel
theorem dX12_init_182 : decode cX12_init 182 = .ok (.iconst 5, 1) := by decide +kernel
theorem dX12_init_183 : decode cX12_init 183 = .ok (.newarray .char, 2) := by decide +kernel
theorem dX12_init_185 : decode cX12_init 185 = .ok (.dup, 1) := by decide +kernel
theorem dX12_init_186 : decode cX12_init 186 = .ok (.iconst 0, 1) := by decide +kernel
theorem dX12_init_187 : decode cX12_init 187 = .ok (.bipush 100, 2) := by decide +kernel
theorem dX12_init_189 : decode cX12_init 189 = .ok (.castore, 1) := by decide +kernel
theorem dX12_init_190 : decode cX12_init 190 = .ok (.dup, 1) := by decide +kernel
theorem dX12_init_191 : decode cX12_init 191 = .ok (.iconst 1, 1) := by decide +kernel
theorem dX12_init_192 : decode cX12_init 192 = .ok (.bipush 97, 2) := by decide +kernel
theorem dX12_init_194 : decode cX12_init 194 = .ok (.castore, 1) := by decide +kernel
theorem dX12_init_195 : decode cX12_init 195 = .ok (.dup, 1) := by decide +kernel
theorem dX12_init_196 : decode cX12_init 196 = .ok (.iconst 2, 1) := by decide +kernel
theorem dX12_init_197 : decode cX12_init 197 = .ok (.bipush 114, 2) := by decide +kernel
theorem dX12_init_199 : decode cX12_init 199 = .ok (.castore, 1) := by decide +kernel
theorem dX12_init_200 : decode cX12_init 200 = .ok (.dup, 1) := by decide +kernel
theorem dX12_init_201 : decode cX12_init 201 = .ok (.iconst 3, 1) := by decide +kernel
theorem dX12_init_202 : decode cX12_init 202 = .ok (.bipush 101, 2) := by decide +kernel
theorem dX12_init_204 : decode cX12_init 204 = .ok (.castore, 1) := by decide +kernel
theorem dX12_init_205 : decode cX12_init 205 = .ok (.dup, 1) := by decide +kernel
theorem dX12_init_206 : decode cX12_init 206 = .ok (.iconst 4, 1) := by decide +kernel
theorem dX12_init_207 : decode cX12_init 207 = .ok (.bipush 115, 2) := by decide +kernel
theorem dX12_init_209 : decode cX12_init 209 = .ok (.castore, 1) := by decide +kernel
theorem dX12_init_210 : decode cX12_init 210 = .ok (.putfield 36, 3) := by decide +kernel
theorem dX12_init_213 : decode cX12_init 213 = .ok (.aload_n 0, 1) := by decide +kernel
theorem dX12_init_214 : decode cX12_init 214 = .ok (.iconst 5, 1) := by decide +kernel
theorem dX12_init_215 : decode cX12_init 215 = .ok (.newarray .char, 2) := by decide +kernel
theorem dX12_init_217 : decode cX12_init 217 = .ok (.dup, 1) := by decide +kernel
theorem dX12_init_218 : decode cX12_init 218 = .ok (.iconst 0, 1) := by decide +kernel
theorem dX12_init_219 : decode cX12_init 219 = .ok (.bipush 99, 2) := by decide +kernel
theorem dX12_init_221 : decode cX12_init 221 = .ok (.castore, 1) := by decide +kernel
theorem dX12_init_222 : decode cX12_init 222 = .ok (.dup, 1) := by decide +kernel
theorem dX12_init_223 : decode cX12_init 223 = .ok (.iconst 1, 1) := by decide +kernel
theorem dX12_init_224 : decode cX12_init 224 = .ok (.bipush 111, 2) := by decide +kernel
theorem dX12_init_226 : decode cX12_init 226 = .ok (.castore, 1) := by decide +kernel
theorem dX12_init_227 : decode cX12_init 227 = .ok (.dup, 1) := by decide +kernel
theorem dX12_init_228 : decode cX12_init 228 = .ok (.iconst 2, 1) := by decide +kernel
theorem dX12_init_229 : decode cX12_init 229 = .ok (.bipush 109, 2) := by decide +kernel
theorem dX12_init_231 : decode cX12_init 231 = .ok (.castore, 1) := by decide +kernel
theorem dX12_init_232 : decode cX12_init 232 = .ok (.dup, 1) := by decide +kernel
theorem dX12_init_233 : decode cX12_init 233 = .ok (.iconst 3, 1) := by decide +kernel
theorem dX12_init_234 : decode cX12_init 234 = .ok (.bipush 101, 2) := by decide +kernel
theorem dX12_init_236 : decode cX12_init 236 = .ok (.castore, 1) := by decide +kernel
theorem dX12_init_237 : decode cX12_init 237 = .ok (.dup, 1) := by decide +kernel
theorem dX12_init_238 : decode cX12_init 238 = .ok (.iconst 4, 1) := by decide +kernel
theorem dX12_init_239 : decode cX12_init 239 = .ok (.bipush 115, 2) := by decide +kernel
theorem dX12_init_241 : decode cX12_init 241 = .ok (.castore, 1) := by decide +kernel
theorem dX12_init_242 : decode cX12_init 242 = .ok (.putfield 39, 3) := by decide +kernel
theorem dX12_init_245 : decode cX12_init 245 = .ok (.aload_n 0, 1) := by decide +kernel
theorem dX12_init_246 : decode cX12_init 246 = .ok (.iconst 5, 1) := by decide +kernel
theorem dX12_init_247 : decode cX12_init 247 = .ok (.newarray .char, 2) := by decide +kernel
theorem dX12_init_249 : decode cX12_init 249 = .ok (.dup, 1) := by decide +kernel
theorem dX12_init_250 : decode cX12_init 250 = .ok (.iconst 0, 1) := by decide +kernel
theorem dX12_init_251 : decode cX12_init 251 = .ok (.bipush 119, 2) := by decide +kernel
theorem dX12_init_253 : decode cX12_init 253 = .ok (.castore, 1) := by decide +kernel
theorem dX12_init_254 : decode cX12_init 254 = .ok (.dup, 1) := by decide +kernel
theorem dX12_init_255 : decode cX12_init 255 = .ok (.iconst 1, 1) := by decide +kernel
theorem dX12_init_256 : decode cX12_init 256 = .ok (.bipush 97, 2) := by decide +kernel
theorem dX12_init_258 : decode cX12_init 258 = .ok (.castore, 1) := by decide +kernel
theorem dX12_init_259 : decode cX12_init 259 = .ok (.dup, 1) := by decide +kernel
theorem dX12_init_260 : decode cX12_init 260 = .ok (.iconst 2, 1) := by decide +kernel
theorem dX12_init_261 : decode cX12_init 261 = .ok (.bipush 108, 2) := by decide +kernel
theorem dX12_init_263 : decode cX12_init 263 = .ok (.castore, 1) := by decide +kernel
theorem dX12_init_264 : decode cX12_init 264 = .ok (.dup, 1) := by decide +kernel
theorem dX12_init_265 : decode cX12_init 265 = .ok (.iconst 3, 1) := by decide +kernel
theorem dX12_init_266 : decode cX12_init 266 = .ok (.bipush 107, 2) := by decide +kernel
theorem dX12_init_268 : decode cX12_init 268 = .ok (.castore, 1) := by decide +kernel
theorem dX12_init_269 : decode cX12_init 269 = .ok (.dup, 1) := by decide +kernel
theorem dX12_init_270 : decode cX12_init 270 = .ok (.iconst 4, 1) := by decide +kernel
theorem dX12_init_271 : decode cX12_init 271 = .ok (.bipush 115, 2) := by decide +kernel
theorem dX12_init_273 : decode cX12_init 273 = .ok (.castore, 1) := by decide +kernel
theorem dX12_init_274 : decode cX12_init 274 = .ok (.putfield 42, 3) := by decide +kernel
theorem dX12_init_277 : decode cX12_init 277 = .ok (.aload_n 0, 1) := by decide +kernel
theorem dX12_init_278 : decode cX12_init 278 = .ok (.bipush 6, 2) := by decide +kernel
theorem dX12_init_280 : decode cX12_init 280 = .ok (.newarray .char, 2) := by decide +kernel
theorem dX12_init_282 : decode cX12_init 282 = .ok (.dup, 1) := by decide +kernel
theorem dX12_init_283 : decode cX12_init 283 = .ok (.iconst 0, 1) := by decide +kernel
theorem dX12_init_284 : decode cX12_init 284 = .ok (.bipush 112, 2) := by decide +kernel
theorem dX12_init_286 : decode cX12_init 286 = .ok (.castore, 1) := by decide +kernel
theorem dX12_init_287 : decode cX12_init 287 = .ok (.dup, 1) := by decide +kernel
theorem dX12_init_288 : decode cX12_init 288 = .ok (.iconst 1, 1) := by decide +kernel
theorem dX12_init_289 : decode cX12_init 289 = .ok (.bipush 97, 2) := by decide +kernel
theorem dX12_init_291 : decode cX12_init 291 = .ok (.castore, 1) := by decide +kernel
theorem dX12_init_292 : decode cX12_init 292 = .ok (.dup, 1) := by decide +kernel
theorem dX12_init_293 : decode cX12_init 293 = .ok (.iconst 2, 1) := by decide +kernel
theorem dX12_init_294 : decode cX12_init 294 = .ok (.bipush 115, 2) := by decide +kernel
theorem dX12_init_296 : decode cX12_init 296 = .ok (.castore, 1) := by decide +kernel
theorem dX12_init_297 : decode cX12_init 297 = .ok (.dup, 1) := by decide +kernel
theorem dX12_init_298 : decode cX12_init 298 = .ok (.iconst 3, 1) := by decide +kernel
theorem dX12_init_299 : decode cX12_init 299 = .ok (.bipush 115, 2) := by decide +kernel
theorem dX12_init_301 : decode cX12_init 301 = .ok (.castore, 1) := by decide +kernel
theorem dX12_init_302 : decode cX12_init 302 = .ok (.dup, 1) := by decide +kernel
theorem dX12_init_303 : decode cX12_init 303 = .ok (.iconst 4, 1) := by decide +kernel
theorem dX12_init_304 : decode cX12_init 304 = .ok (.bipush 101, 2) := by decide +kernel
theorem dX12_init_306 : decode cX12_init 306 = .ok (.castore, 1) := by decide +kernel
theorem dX12_init_307 : decode cX12_init 307 = .ok (.dup, 1) := by decide +kernel
theorem dX12_init_308 : decode cX12_init 308 = .ok (.iconst 5, 1) := by decide +kernel
theorem dX12_init_309 : decode cX12_init 309 = .ok (.bipush 114, 2) := by decide +kernel
theorem dX12_init_311 : decode cX12_init 311 = .ok (.castore, 1) := by decide +kernel
theorem dX12_init_312 : decode cX12_init 312 = .ok (.putfield 45, 3) := by decide +kernel
theorem dX12_init_315 : decode cX12_init 315 = .ok (.aload_n 0, 1) := by decide +kernel
theorem dX12_init_316 : decode cX12_init 316 = .ok (.iconst 5, 1) := by decide +kernel
theorem dX12_init_317 : decode cX12_init 317 = .ok (.newarray .char, 2) := by decide +kernel
theorem dX12_init_319 : decode cX12_init 319 = .ok (.dup, 1) := by decide +kernel
theorem dX12_init_320 : decode cX12_init 320 = .ok (.iconst 0, 1) := by decide +kernel
theorem dX12_init_321 : decode cX12_init 321 = .ok (.bipush 103, 2) := by decide +kernel
theorem dX12_init_323 : decode cX12_init 323 = .ok (.castore, 1) := by decide +kernel
theorem dX12_init_324 : decode cX12_init 324 = .ok (.dup, 1) := by decide +kernel
theorem dX12_init_325 : decode cX12_init 325 = .ok (.iconst 1, 1) := by decide +kernel
theorem dX12_init_326 : decode cX12_init 326 = .ok (.bipush 117, 2) := by decide +kernel
theorem dX12_init_328 : decode cX12_init 328 = .ok (.castore, 1) := by decide +kernel
theorem dX12_init_329 : decode cX12_init 329 = .ok (.dup, 1) := by decide +kernel
theorem dX12_init_330 : decode cX12_init 330 = .ok (.iconst 2, 1) := by decide +kernel
theorem dX12_init_331 : decode cX12_init 331 = .ok (.bipush 97, 2) := by decide +kernel
theorem dX12_init_333 : decode cX12_init 333 = .ok (.castore, 1) := by decide +kernel
theorem dX12_init_334 : decode cX12_init 334 = .ok (.dup, 1) := by decide +kernel
theorem dX12_init_335 : decode cX12_init 335 = .ok (.iconst 3, 1) := by decide +kernel
theorem dX12_init_336 : decode cX12_init 336 = .ok (.bipush 114, 2) := by decide +kernel
theorem dX12_init_338 : decode cX12_init 338 = .ok (.castore, 1) := by decide +kernel
theorem dX12_init_339 : decode cX12_init 339 = .ok (.dup, 1) := by decide +kernel
theorem dX12_init_340 : decode cX12_init 340 = .ok (.iconst 4, 1) := by decide +kernel
theorem dX12_init_341 : decode cX12_init 341 = .ok (.bipush 100, 2) := by decide +kernel
theorem dX12_init_343 : decode cX12_init 343 = .ok (.castore, 1) := by decide +kernel
theorem dX12_init_344 : decode cX12_init 344 = .ok (.putfield 48, 3) := by decide +kernel
theorem dX12_init_347 : decode cX12_init 347 = .ok (.aload_n 0, 1) := by decide +kernel
theorem dX12_init_348 : decode cX12_init 348 = .ok (.iconst 4, 1) := by decide +kernel
theorem dX12_init_349 : decode cX12_init 349 = .ok (.newarray .char, 2) := by decide +kernel
theorem dX12_init_351 : decode cX12_init 351 = .ok (.dup, 1) := by decide +kernel
theorem dX12_init_352 : decode cX12_init 352 = .ok (.iconst 0, 1) := by decide +kernel
theorem dX12_init_353 : decode cX12_init 353 = .ok (.bipush 115, 2) := by decide +kernel
theorem dX12_init_355 : decode cX12_init 355 = .ok (.castore, 1) := by decide +kernel
theorem dX12_init_356 : decode cX12_init 356 = .ok (.dup, 1) := by decide +kernel
theorem dX12_init_357 : decode cX12_init 357 = .ok (.iconst 1, 1) := by decide +kernel
theorem dX12_init_358 : decode cX12_init 358 = .ok (.bipush 101, 2) := by decide +kernel
theorem dX12_init_360 : decode cX12_init 360 = .ok (.castore, 1) := by decide +kernel
theorem dX12_init_361 : decode cX12_init 361 = .ok (.dup, 1) := by decide +kernel
theorem dX12_init_362 : decode cX12_init 362 = .ok (.iconst 2, 1) := by decide +kernel
theorem dX12_init_363 : decode cX12_init 363 = .ok (.bipush 101, 2) := by decide +kernel
theorem dX12_init_365 : decode cX12_init 365 = .ok (.castore, 1) := by decide +kernel
theorem dX12_init_366 : decode cX12_init 366 = .ok (.dup, 1) := by decide +kernel
theorem dX12_init_367 : decode cX12_init 367 = .ok (.iconst 3, 1) := by decide +kernel
theorem dX12_init_368 : decode cX12_init 368 = .ok (.bipush 115, 2) := by decide +kernel
theorem dX12_init_370 : decode cX12_init 370 = .ok (.castore, 1) := by decide +kernel
theorem dX12_init_371 : decode cX12_init 371 = .ok (.putfield 51, 3) := by decide +kernel
theorem dX12_init_374 : decode cX12_init 374 = .ok (.aload_n 0, 1) := by decide +kernel
theorem dX12_init_375 : decode cX12_init 375 = .ok (.iconst 5, 1) := by decide +kernel
theorem dX12_init_376 : decode cX12_init 376 = .ok (.newarray .char, 2) := by decide +kernel
theorem dX12_init_378 : decode cX12_init 378 = .ok (.dup, 1) := by decide +kernel
theorem dX12_init_379 : decode cX12_init 379 = .ok (.iconst 0, 1) := by decide +kernel
theorem dX12_init_380 : decode cX12_init 380 = .ok (.bipush 108, 2) := by decide +kernel
theorem dX12_init_382 : decode cX12_init 382 = .ok (.castore, 1) := by decide +kernel
theorem dX12_init_383 : decode cX12_init 383 = .ok (.dup, 1) := by decide +kernel
theorem dX12_init_384 : decode cX12_init 384 = .ok (.iconst 1, 1) := by decide +kernel
theorem dX12_init_385 : decode cX12_init 385 = .ok (.bipush 111, 2) := by decide +kernel
theorem dX12_init_387 : decode cX12_init 387 = .ok (.castore, 1) := by decide +kernel
theorem dX12_init_388 : decode cX12_init 388 = .ok (.dup, 1) := by decide +kernel
theorem dX12_init_389 : decode cX12_init 389 = .ok (.iconst 2, 1) := by decide +kernel
theorem dX12_init_390 : decode cX12_init 390 = .ok (.bipush 111, 2) := by decide +kernel
theorem dX12_init_392 : decode cX12_init 392 = .ok (.castore, 1) := by decide +kernel
theorem dX12_init_393 : decode cX12_init 393 = .ok (.dup, 1) := by decide +kernel
theorem dX12_init_394 : decode cX12_init 394 = .ok (.iconst 3, 1) := by decide +kernel
theorem dX12_init_395 : decode cX12_init 395 = .ok (.bipush 107, 2) := by decide +kernel
theorem dX12_init_397 : decode cX12_init 397 = .ok (.castore, 1) := by decide +kernel
theorem dX12_init_398 : decode cX12_init 398 = .ok (.dup, 1) := by decide +kernel
theorem dX12_init_399 : decode cX12_init 399 = .ok (.iconst 4, 1) := by decide +kernel
theorem dX12_init_400 : decode cX12_init 400 = .ok (.bipush 115, 2) := by decide +kernel
theorem dX12_init_402 : decode cX12_init 402 = .ok (.castore, 1) := by decide +kernel
theorem dX12_init_403 : decode cX12_init 403 = .ok (.putfield 54, 3) := by decide +kernel
theorem dX12_init_406 : decode cX12_init 406 = .ok (.aload_n 0, 1) := by decide +kernel
theorem dX12_init_407 : decode cX12_init 407 = .ok (.bipush 6, 2) := by decide +kernel
theorem dX12_init_409 : decode cX12_init 409 = .ok (.newarray .char, 2) := by decide +kernel
theorem dX12_init_411 : decode cX12_init 411 = .ok (.dup, 1) := by decide +kernel
theorem dX12_init_412 : decode cX12_init 412 = .ok (.iconst 0, 1) := by decide +kernel
theorem dX12_init_413 : decode cX12_init 413 = .ok (.bipush 115, 2) := by decide +kernel
theorem dX12_init_415 : decode cX12_init 415 = .ok (.castore, 1) := by decide +kernel
theorem dX12_init_416 : decode cX12_init 416 = .ok (.dup, 1) := by decide +kernel
theorem dX12_init_417 : decode cX12_init 417 = .ok (.iconst 1, 1) := by decide +kernel
theorem dX12_init_418 : decode cX12_init 418 = .ok (.bipush 116, 2) := by decide +kernel
theorem dX12_init_420 : decode cX12_init 420 = .ok (.castore, 1) := by decide +kernel
theorem dX12_init_421 : decode cX12_init 421 = .ok (.dup, 1) := by decide +kernel
theorem dX12_init_422 : decode cX12_init 422 = .ok (.iconst 2, 1) := by decide +kernel
theorem dX12_init_423 : decode cX12_init 423 = .ok (.bipush 114, 2) := by decide +kernel
theorem dX12_init_425 : decode cX12_init 425 = .ok (.castore, 1) := by decide +kernel
theorem dX12_init_426 : decode cX12_init 426 = .ok (.dup, 1) := by decide +kernel
theorem dX12_init_427 : decode cX12_init 427 = .ok (.iconst 3, 1) := by decide +kernel
theorem dX12_init_428 : decode cX12_init 428 = .ok (.bipush 111, 2) := by decide +kernel
theorem dX12_init_430 : decode cX12_init 430 = .ok (.castore, 1) := by decide +kernel
theorem dX12_init_431 : decode cX12_init 431 = .ok (.dup, 1) := by decide +kernel
theorem dX12_init_432 : decode cX12_init 432 = .ok (.iconst 4, 1) := by decide +kernel
theorem dX12_init_433 : decode cX12_init 433 = .ok (.bipush 107, 2) := by decide +kernel
theorem dX12_init_435 : decode cX12_init 435 = .ok (.castore, 1) := by decide +kernel
theorem dX12_init_436 : decode cX12_init 436 = .ok (.dup, 1) := by decide +kernel
theorem dX12_init_437 : decode cX12_init 437 = .ok (.iconst 5, 1) := by decide +kernel
theorem dX12_init_438 : decode cX12_init 438 = .ok (.bipush 101, 2) := by decide +kernel
theorem dX12_init_440 : decode cX12_init 440 = .ok (.castore, 1) := by decide +kernel
theorem dX12_init_441 : decode cX12_init 441 = .ok (.putfield 57, 3) := by decide +kernel
theorem dX12_init_444 : decode cX12_init 444 = .ok (.aload_n 0, 1) := by decide +kernel
theorem dX12_init_445 : decode cX12_init 445 = .ok (.iconst 4, 1) := by decide +kernel
theorem dX12_init_446 : decode cX12_init 446 = .ok (.newarray .char, 2) := by decide +kernel
theorem dX12_init_448 : decode cX12_init 448 = .ok (.dup, 1) := by decide +kernel
theorem dX12_init_449 : decode cX12_init 449 = .ok (.iconst 0, 1) := by decide +kernel
theorem dX12_init_450 : decode cX12_init 450 = .ok (.bipush 111, 2) := by decide +kernel
theorem dX12_init_452 : decode cX12_init 452 = .ok (.castore, 1) := by decide +kernel
theorem dX12_init_453 : decode cX12_init 453 = .ok (.dup, 1) := by decide +kernel
theorem dX12_init_454 : decode cX12_init 454 = .ok (.iconst 1, 1) := by decide +kernel
theorem dX12_init_455 : decode cX12_init 455 = .ok (.bipush 112, 2) := by decide +kernel
theorem dX12_init_457 : decode cX12_init 457 = .ok (.castore, 1) := by decide +kernel
theorem dX12_init_458 : decode cX12_init 458 = .ok (.dup, 1) := by decide +kernel
theorem dX12_init_459 : decode cX12_init 459 = .ok (.iconst 2, 1) := by decide +kernel
theorem dX12_init_460 : decode cX12_init 460 = .ok (.bipush 101, 2) := by decide +kernel
theorem dX12_init_462 : decode cX12_init 462 = .ok (.castore, 1) := by decide +kernel
theorem dX12_init_463 : decode cX12_init 463 = .ok (.dup, 1) := by decide +kernel
theorem dX12_init_464 : decode cX12_init 464 = .ok (.iconst 3, 1) := by decide +kernel
theorem dX12_init_465 : decode cX12_init 465 = .ok (.bipush 110, 2) := by decide +kernel
theorem dX12_init_467 : decode cX12_init 467 = .ok (.castore, 1) := by decide +kernel
theorem dX12_init_468 : decode cX12_init 468 = .ok (.putfield 60, 3) := by decide +kernel
theorem dX12_init_471 : decode cX12_init 471 = .ok (.aload_n 0, 1) := by decide +kernel
theorem dX12_init_472 : decode cX12_init 472 = .ok (.iconst 4, 1) := by decide +kernel
theorem dX12_init_473 : decode cX12_init 473 = .ok (.newarray .char, 2) := by decide +kernel
theorem dX12_init_475 : decode cX12_init 475 = .ok (.dup, 1) := by decide +kernel
theorem dX12_init_476 : decode cX12_init 476 = .ok (.iconst 0, 1) := by decide +kernel
theorem dX12_init_477 : decode cX12_init 477 = .ok (.bipush 110, 2) := by decide +kernel
theorem dX12_init_479 : decode cX12_init 479 = .ok (.castore, 1) := by decide +kernel
theorem dX12_init_480 : decode cX12_init 480 = .ok (.dup, 1) := by decide +kernel
theorem dX12_init_481 : decode cX12_init 481 = .ok (.iconst 1, 1) := by decide +kernel
theorem dX12_init_482 : decode cX12_init 482 = .ok (.bipush 101, 2) := by decide +kernel
theorem dX12_init_484 : decode cX12_init 484 = .ok (.castore, 1) := by decide +kernel
theorem dX12_init_485 : decode cX12_init 485 = .ok (.dup, 1) := by decide +kernel
theorem dX12_init_486 : decode cX12_init 486 = .ok (.iconst 2, 1) := by decide +kernel
theorem dX12_init_487 : decode cX12_init 487 = .ok (.bipush 97, 2) := by decide +kernel
theorem dX12_init_489 : decode cX12_init 489 = .ok (.castore, 1) := by decide +kernel
theorem dX12_init_490 : decode cX12_init 490 = .ok (.dup, 1) := by decide +kernel
theorem dX12_init_491 : decode cX12_init 491 = .ok (.iconst 3, 1) := by decide +kernel
theorem dX12_init_492 : decode cX12_init 492 = .ok (.bipush 114, 2) := by decide +kernel
theorem dX12_init_494 : decode cX12_init 494 = .ok (.castore, 1) := by decide +kernel
theorem dX12_init_495 : decode cX12_init 495 = .ok (.putfield 63, 3) := by decide +kernel
theorem dX12_init_498 : decode cX12_init 498 = .ok (.aload_n 0, 1) := by decide +kernel
theorem dX12_init_499 : decode cX12_init 499 = .ok (.bipush 6, 2) := by decide +kernel
theorem dX12_init_501 : decode cX12_init 501 = .ok (.newarray .char, 2) := by decide +kernel
theorem dX12_init_503 : decode cX12_init 503 = .ok (.dup, 1) := by decide +kernel
theorem dX12_init_504 : decode cX12_init 504 = .ok (.iconst 0, 1) := by decide +kernel
theorem dX12_init_505 : decode cX12_init 505 = .ok (.bipush 101, 2) := by decide +kernel
theorem dX12_init_507 : decode cX12_init 507 = .ok (.castore, 1) := by decide +kernel
theorem dX12_init_508 : decode cX12_init 508 = .ok (.dup, 1) := by decide +kernel
theorem dX12_init_509 : decode cX12_init 509 = .ok (.iconst 1, 1) := by decide +kernel
theorem dX12_init_510 : decode cX12_init 510 = .ok (.bipush 110, 2) := by decide +kernel
theorem dX12_init_512 : decode cX12_init 512 = .ok (.castore, 1) := by decide +kernel
theorem dX12_init_513 : decode cX12_init 513 = .ok (.dup, 1) := by decide +kernel
theorem dX12_init_514 : decode cX12_init 514 = .ok (.iconst 2, 1) := by decide +kernel
theorem dX12_init_515 : decode cX12_init 515 = .ok (.bipush 111, 2) := by decide +kernel
theorem dX12_init_517 : decode cX12_init 517 = .ok (.castore, 1) := by decide +kernel
theorem dX12_init_518 : decode cX12_init 518 = .ok (.dup, 1) := by decide +kernel
theorem dX12_init_519 : decode cX12_init 519 = .ok (.iconst 3, 1) := by decide +kernel
theorem dX12_init_520 : decode cX12_init 520 = .ok (.bipush 117, 2) := by decide +kernel
theorem dX12_init_522 : decode cX12_init 522 = .ok (.castore, 1) := by decide +kernel
theorem dX12_init_523 : decode cX12_init 523 = .ok (.dup, 1) := by decide +kernel
theorem dX12_init_524 : decode cX12_init 524 = .ok (.iconst 4, 1) := by decide +kernel
theorem dX12_init_525 : decode cX12_init 525 = .ok (.bipush 103, 2) := by decide +kernel
theorem dX12_init_527 : decode cX12_init 527 = .ok (.castore, 1) := by decide +kernel
theorem dX12_init_528 : decode cX12_init 528 = .ok (.dup, 1) := by decide +kernel
theorem dX12_init_529 : decode cX12_init 529 = .ok (.iconst 5, 1) := by decide +kernel
theorem dX12_init_530 : decode cX12_init 530 = .ok (.bipush 104, 2) := by decide +kernel
theorem dX12_init_532 : decode cX12_init 532 = .ok (.castore, 1) := by decide +kernel
theorem dX12_init_533 : decode cX12_init 533 = .ok (.putfield 66, 3) := by decide +kernel
theorem dX12_init_536 : decode cX12_init 536 = .ok (.aload_n 0, 1) := by decide +kernel
theorem dX12_init_537 : decode cX12_init 537 = .ok (.bipush 6, 2) := by decide +kernel
theorem dX12_init_539 : decode cX12_init 539 = .ok (.newarray .int, 2) := by decide +kernel
theorem dX12_init_541 : decode cX12_init 541 = .ok (.putfield 69, 3) := by decide +kernel
theorem dX12_init_544 : decode cX12_init 544 = .ok (.aload_n 0, 1) := by decide +kernel
theorem dX12_init_545 : decode cX12_init 545 = .ok (.bipush 40, 2) := by decide +kernel
theorem dX12_init_547 : decode cX12_init 547 = .ok (.newarray .long, 2) := by decide +kernel
theorem dX12_init_549 : decode cX12_init 549 = .ok (.putfield 72, 3) := by decide +kernel
theorem dX12_init_552 : decode cX12_init 552 = .ok (.aload_n 0, 1) := by decide +kernel
theorem dX12_init_553 : decode cX12_init 553 = .ok (.bipush 108, 2) := by decide +kernel
theorem dX12_init_555 : decode cX12_init 555 = .ok (.newarray .boolean, 2) := by decide +kernel
theorem dX12_init_557 : decode cX12_init 557 = .ok (.putfield 76, 3) := by decide +kernel
theorem dX12_init_560 : decode cX12_init 560 = .ok (.aload_n 0, 1) := by decide +kernel
theorem dX12_init_561 : decode cX12_init 561 = .ok (.sipush 324, 3) := by decide +kernel
theorem dX12_init_564 : decode cX12_init 564 = .ok (.newarray .int, 2) := by decide +kernel
theorem dX12_init_566 : decode cX12_init 566 = .ok (.putfield 80, 3) := by decide +kernel
theorem dX12_init_569 : decode cX12_init 569 = .ok (.aload_n 0, 1) := by decide +kernel
theorem dX12_init_570 : decode cX12_init 570 = .ok (.bipush 24, 2) := by decide +kernel
theorem dX12_init_572 : decode cX12_init 572 = .ok (.newarray .int, 2) := by decide +kernel
theorem dX12_init_574 : decode cX12_init 574 = .ok (.putfield 83, 3) := by decide +kernel
theorem dX12_init_577 : decode cX12_init 577 = .ok (.aload_n 0, 1) := by decide +kernel
theorem dX12_init_578 : decode cX12_init 578 = .ok (.bipush 12, 2) := by decide +kernel
theorem dX12_init_580 : decode cX12_init 580 = .ok (.newarray .int, 2) := by decide +kernel
theorem dX12_init_582 : decode cX12_init 582 = .ok (.putfield 86, 3) := by decide +kernel
theorem dX12_init_585 : decode cX12_init 585 = .ok (.aload_n 0, 1) := by decide +kernel
theorem dX12_init_586 : decode cX12_init 586 = .ok (.bipush 8, 2) := by decide +kernel
theorem dX12_init_588 : decode cX12_init 588 = .ok (.newarray .int, 2) := by decide +kernel
theorem dX12_init_590 : decode cX12_init 590 = .ok (.dup, 1) := by decide +kernel
theorem dX12_init_591 : decode cX12_init 591 = .ok (.iconst 0, 1) := by decide +kernel
theorem dX12_init_592 : decode cX12_init 592 = .ok (.bipush 60, 2) := by decide +kernel
theorem dX12_init_594 : decode cX12_init 594 = .ok (.iastore, 1) := by decide +kernel
theorem dX12_init_595 : decode cX12_init 595 = .ok (.dup, 1) := by decide +kernel
theorem dX12_init_596 : decode cX12_init 596 = .ok (.iconst 1, 1) := by decide +kernel
theorem dX12_init_597 : decode cX12_init 597 = .ok (.bipush 20, 2) := by decide +kernel
theorem dX12_init_599 : decode cX12_init 599 = .ok (.iastore, 1) := by decide +kernel
theorem dX12_init_600 : decode cX12_init 600 = .ok (.dup, 1) := by decide +kernel
theorem dX12_init_601 : decode cX12_init 601 = .ok (.iconst 2, 1) := by decide +kernel
theorem dX12_init_602 : decode cX12_init 602 = .ok (.iconst 1, 1) := by decide +kernel
theorem dX12_init_603 : decode cX12_init 603 = .ok (.iastore, 1) := by decide +kernel
theorem dX12_init_604 : decode cX12_init 604 = .ok (.dup, 1) := by decide +kernel
theorem dX12_init_605 : decode cX12_init 605 = .ok (.iconst 3, 1) := by decide +kernel
theorem dX12_init_606 : decode cX12_init 606 = .ok (.iconst 3, 1) := by decide +kernel
theorem dX12_init_607 : decode cX12_init 607 = .ok (.iastore, 1) := by decide +kernel
theorem dX12_init_608 : decode cX12_init 608 = .ok (.dup, 1) := by decide +kernel
theorem dX12_init_609 : decode cX12_init 609 = .ok (.iconst 4, 1) := by decide +kernel
theorem dX12_init_610 : decode cX12_init 610 = .ok (.bipush 60, 2) := by decide +kernel
theorem dX12_init_612 : decode cX12_init 612 = .ok (.iastore, 1) := by decide +kernel
theorem dX12_init_613 : decode cX12_init 613 = .ok (.dup, 1) := by decide +kernel
theorem dX12_init_614 : decode cX12_init 614 = .ok (.iconst 5, 1) := by decide +kernel
theorem dX12_init_615 : decode cX12_init 615 = .ok (.bipush 20, 2) := by decide +kernel
theorem dX12_init_617 : decode cX12_init 617 = .ok (.iastore, 1) := by decide +kernel
theorem dX12_init_618 : decode cX12_init 618 = .ok (.dup, 1) := by decide +kernel
theorem dX12_init_619 : decode cX12_init 619 = .ok (.bipush 6, 2) := by decide +kernel
theorem dX12_init_621 : decode cX12_init 621 = .ok (.iconst 1, 1) := by decide +kernel
theorem dX12_init_622 : decode cX12_init 622 = .ok (.iastore, 1) := by decide +kernel
theorem dX12_init_623 : decode cX12_init 623 = .ok (.dup, 1) := by decide +kernel
theorem dX12_init_624 : decode cX12_init 624 = .ok (.bipush 7, 2) := by decide +kernel
theorem dX12_init_626 : decode cX12_init 626 = .ok (.iconst 3, 1) := by decide +kernel
theorem dX12_init_627 : decode cX12_init 627 = .ok (.iastore, 1) := by decide +kernel
theorem dX12_init_628 : decode cX12_init 628 = .ok (.putfield 89, 3) := by decide +kernel
theorem dX12_init_631 : decode cX12_init 631 = .ok (.aload_n 0, 1) := by decide +kernel
theorem dX12_init_632 : decode cX12_init 632 = .ok (.bipush 6, 2) := by decide +kernel
theorem dX12_init_634 : decode cX12_init 634 = .ok (.newarray .int, 2) := by decide +kernel
theorem dX12_init_636 : decode cX12_init 636 = .ok (.putfield 92, 3) := by decide +kernel
theorem dX12_init_639 : decode cX12_init 639 = .ok (.aload_n 0, 1) := by decide +kernel
theorem dX12_init_640 : decode cX12_init 640 = .ok (.bipush 54, 2) := by decide +kernel
theorem dX12_init_642 : decode cX12_init 642 = .ok (.newarray .int, 2) := by decide +kernel
theorem dX12_init_644 : decode cX12_init 644 = .ok (.putfield 95, 3) := by decide +kernel
theorem dX12_init_647 : decode cX12_init 647 = .ok (.aload_n 0, 1) := by decide +kernel
theorem dX12_init_648 : decode cX12_init 648 = .ok (.bipush 54, 2) := by decide +kernel
theorem dX12_init_650 : decode cX12_init 650 = .ok (.newarray .int, 2) := by decide +kernel
theorem dX12_init_652 : decode cX12_init 652 = .ok (.putfield 98, 3) := by decide +kernel
theorem dX12_init_655 : decode cX12_init 655 = .ok (.aload_n 0, 1) := by decide +kernel
theorem dX12_init_656 : decode cX12_init 656 = .ok (.sipush 1809, 3) := by decide +kernel
theorem dX12_init_659 : decode cX12_init 659 = .ok (.newarray .int, 2) := by decide +kernel
theorem dX12_init_661 : decode cX12_init 661 = .ok (.putfield 101, 3) := by decide +kernel
theorem dX12_init_664 : decode cX12_init 664 = .ok (.aload_n 0, 1) := by decide +kernel
theorem dX12_init_665 : decode cX12_init 665 = .ok (.bipush 9, 2) := by decide +kernel
theorem dX12_init_667 : decode cX12_init 667 = .ok (.newarray .int, 2) := by decide +kernel
theorem dX12_init_669 : decode cX12_init 669 = .ok (.putfield 104, 3) := by decide +kernel
theorem dX12_init_672 : decode cX12_init 672 = .ok (.aload_n 0, 1) := by decide +kernel
theorem dX12_init_673 : decode cX12_init 673 = .ok (.bipush 9, 2) := by decide +kernel
theorem dX12_init_675 : decode cX12_init 675 = .ok (.newarray .int, 2) := by decide +kernel
theorem dX12_init_677 : decode cX12_init 677 = .ok (.putfield 107, 3) := by decide +kernel
theorem dX12_init_680 : decode cX12_init 680 = .ok (.aload_n 0, 1) := by decide +kernel
theorem dX12_init_681 : decode cX12_init 681 = .ok (.bipush 9, 2) := by decide +kernel
theorem dX12_init_683 : decode cX12_init 683 = .ok (.newarray .int, 2) := by decide +kernel
theorem dX12_init_685 : decode cX12_init 685 = .ok (.putfield 110, 3) := by decide +kernel
theorem dX12_init_688 : decode cX12_init 688 = .ok (.aload_n 0, 1) := by decide +kernel
theorem dX12_init_689 : decode cX12_init 689 = .ok (.bipush 9, 2) := by decide +kernel
theorem dX12_init_691 : decode cX12_init 691 = .ok (.newarray .int, 2) := by decide +kernel
theorem dX12_init_693 : decode cX12_init 693 = .ok (.putfield 113, 3) := by decide +kernel
theorem dX12_init_696 : decode cX12_init 696 = .ok (.aload_n 0, 1) := by decide +kernel
theorem dX12_init_697 : decode cX12_init 697 = .ok (.sipush 660, 3) := by decide +kernel
theorem dX12_init_700 : decode cX12_init 700 = .ok (.newarray .int, 2) := by decide +kernel
theorem dX12_init_702 : decode cX12_init 702 = .ok (.putfield 116, 3) := by decide +kernel
theorem dX12_init_705 : decode cX12_init 705 = .ok (.aload_n 0, 1) := by decide +kernel
theorem dX12_init_706 : decode cX12_init 706 = .ok (.lconst 1, 1) := by decide +kernel
theorem dX12_init_707 : decode cX12_init 707 = .ok (.putfield 119, 3) := by decide +kernel
theorem dX12_init_710 : decode cX12_init 710 = .ok (.aload_n 0, 1) := by decide +kernel
theorem dX12_init_711 : decode cX12_init 711 = .ok (.bipush 9, 2) := by decide +kernel
theorem dX12_init_713 : decode cX12_init 713 = .ok (.newarray .int, 2) := by decide +kernel
theorem dX12_init_715 : decode cX12_init 715 = .ok (.putfield 123, 3) := by decide +kernel
theorem dX12_init_718 : decode cX12_init 718 = .ok (.aload_n 0, 1) := by decide +kernel
theorem dX12_init_719 : decode cX12_init 719 = .ok (.iconst 5, 1) := by decide +kernel
theorem dX12_init_720 : decode cX12_init 720 = .ok (.newarray .char, 2) := by decide +kernel
theorem dX12_init_722 : decode cX12_init 722 = .ok (.dup, 1) := by decide +kernel
theorem dX12_init_723 : decode cX12_init 723 = .ok (.iconst 0, 1) := by decide +kernel
theorem dX12_init_724 : decode cX12_init 724 = .ok (.bipush 102, 2) := by decide +kernel
theorem dX12_init_726 : decode cX12_init 726 = .ok (.castore, 1) := by decide +kernel
theorem dX12_init_727 : decode cX12_init 727 = .ok (.dup, 1) := by decide +kernel
theorem dX12_init_728 : decode cX12_init 728 = .ok (.iconst 1, 1) := by decide +kernel
theorem dX12_init_729 : decode cX12_init 729 = .ok (.bipush 105, 2) := by decide +kernel
theorem dX12_init_731 : decode cX12_init 731 = .ok (.castore, 1) := by decide +kernel
theorem dX12_init_732 : decode cX12_init 732 = .ok (.dup, 1) := by decide +kernel
theorem dX12_init_733 : decode cX12_init 733 = .ok (.iconst 2, 1) := by decide +kernel
theorem dX12_init_734 : decode cX12_init 734 = .ok (.bipush 114, 2) := by decide +kernel
theorem dX12_init_736 : decode cX12_init 736 = .ok (.castore, 1) := by decide +kernel
theorem dX12_init_737 : decode cX12_init 737 = .ok (.dup, 1) := by decide +kernel
theorem dX12_init_738 : decode cX12_init 738 = .ok (.iconst 3, 1) := by decide +kernel
theorem dX12_init_739 : decode cX12_init 739 = .ok (.bipush 115, 2) := by decide +kernel
theorem dX12_init_741 : decode cX12_init 741 = .ok (.castore, 1) := by decide +kernel
theorem dX12_init_742 : decode cX12_init 742 = .ok (.dup, 1) := by decide +kernel
theorem dX12_init_743 : decode cX12_init 743 = .ok (.iconst 4, 1) := by decide +kernel
theorem dX12_init_744 : decode cX12_init 744 = .ok (.bipush 116, 2) := by decide +kernel
theorem dX12_init_746 : decode cX12_init 746 = .ok (.castore, 1) := by decide +kernel
theorem dX12_init_747 : decode cX12_init 747 = .ok (.putfield 126, 3) := by decide +kernel
theorem dX12_init_750 : decode cX12_init 750 = .ok (.aload_n 0, 1) := by decide +kernel
theorem dX12_init_751 : decode cX12_init 751 = .ok (.iconst 4, 1) := by decide +kernel
theorem dX12_init_752 : decode cX12_init 752 = .ok (.newarray .char, 2) := by decide +kernel
theorem dX12_init_754 : decode cX12_init 754 = .ok (.dup, 1) := by decide +kernel
theorem dX12_init_755 : decode cX12_init 755 = .ok (.iconst 0, 1) := by decide +kernel
theorem dX12_init_756 : decode cX12_init 756 = .ok (.bipush 108, 2) := by decide +kernel
theorem dX12_init_758 : decode cX12_init 758 = .ok (.castore, 1) := by decide +kernel
theorem dX12_init_759 : decode cX12_init 759 = .ok (.dup, 1) := by decide +kernel
theorem dX12_init_760 : decode cX12_init 760 = .ok (.iconst 1, 1) := by decide +kernel
theorem dX12_init_761 : decode cX12_init 761 = .ok (.bipush 97, 2) := by decide +kernel
theorem dX12_init_763 : decode cX12_init 763 = .ok (.castore, 1) := by decide +kernel
theorem dX12_init_764 : decode cX12_init 764 = .ok (.dup, 1) := by decide +kernel
theorem dX12_init_765 : decode cX12_init 765 = .ok (.iconst 2, 1) := by decide +kernel
theorem dX12_init_766 : decode cX12_init 766 = .ok (.bipush 115, 2) := by decide +kernel
theorem dX12_init_768 : decode cX12_init 768 = .ok (.castore, 1) := by decide +kernel
theorem dX12_init_769 : decode cX12_init 769 = .ok (.dup, 1) := by decide +kernel
theorem dX12_init_770 : decode cX12_init 770 = .ok (.iconst 3, 1) := by decide +kernel
theorem dX12_init_771 : decode cX12_init 771 = .ok (.bipush 116, 2) := by decide +kernel
theorem dX12_init_773 : decode cX12_init 773 = .ok (.castore, 1) := by decide +kernel
theorem dX12_init_774 : decode cX12_init 774 = .ok (.putfield 129, 3) := by decide +kernel
theorem dX12_init_777 : decode cX12_init 777 = .ok (.aload_n 0, 1) := by decide +kernel
theorem dX12_init_778 : decode cX12_init 778 = .ok (.iconst 5, 1) := by decide +kernel
theorem dX12_init_779 : decode cX12_init 779 = .ok (.newarray .char, 2) := by decide +kernel
theorem dX12_init_781 : decode cX12_init 781 = .ok (.dup, 1) := by decide +kernel
theorem dX12_init_782 : decode cX12_init 782 = .ok (.iconst 0, 1) := by decide +kernel
theorem dX12_init_783 : decode cX12_init 783 = .ok (.bipush 111, 2) := by decide +kernel
theorem dX12_init_785 : decode cX12_init 785 = .ok (.castore, 1) := by decide +kernel
theorem dX12_init_786 : decode cX12_init 786 = .ok (.dup, 1) := by decide +kernel
theorem dX12_init_787 : decode cX12_init 787 = .ok (.iconst 1, 1) := by decide +kernel
theorem dX12_init_788 : decode cX12_init 788 = .ok (.bipush 102, 2) := by decide +kernel
theorem dX12_init_790 : decode cX12_init 790 = .ok (.castore, 1) := by decide +kernel
theorem dX12_init_791 : decode cX12_init 791 = .ok (.dup, 1) := by decide +kernel
theorem dX12_init_792 : decode cX12_init 792 = .ok (.iconst 2, 1) := by decide +kernel
theorem dX12_init_793 : decode cX12_init 793 = .ok (.bipush 116, 2) := by decide +kernel
theorem dX12_init_795 : decode cX12_init 795 = .ok (.castore, 1) := by decide +kernel
theorem dX12_init_796 : decode cX12_init 796 = .ok (.dup, 1) := by decide +kernel
theorem dX12_init_797 : decode cX12_init 797 = .ok (.iconst 3, 1) := by decide +kernel
theorem dX12_init_798 : decode cX12_init 798 = .ok (.bipush 101, 2) := by decide +kernel
theorem dX12_init_800 : decode cX12_init 800 = .ok (.castore, 1) := by decide +kernel
theorem dX12_init_801 : decode cX12_init 801 = .ok (.dup, 1) := by decide +kernel
theorem dX12_init_802 : decode cX12_init 802 = .ok (.iconst 4, 1) := by decide +kernel
theorem dX12_init_803 : decode cX12_init 803 = .ok (.bipush 110, 2) := by decide +kernel
theorem dX12_init_805 : decode cX12_init 805 = .ok (.castore, 1) := by decide +kernel
theorem dX12_init_806 : decode cX12_init 806 = .ok (.putfield 132, 3) := by decide +kernel
theorem dX12_init_809 : decode cX12_init 809 = .ok (.aload_n 0, 1) := by decide +kernel
theorem dX12_init_810 : decode cX12_init 810 = .ok (.iconst 5, 1) := by decide +kernel
theorem dX12_init_811 : decode cX12_init 811 = .ok (.newarray .char, 2) := by decide +kernel
theorem dX12_init_813 : decode cX12_init 813 = .ok (.dup, 1) := by decide +kernel
theorem dX12_init_814 : decode cX12_init 814 = .ok (.iconst 0, 1) := by decide +kernel
theorem dX12_init_815 : decode cX12_init 815 = .ok (.bipush 116, 2) := by decide +kernel
theorem dX12_init_817 : decode cX12_init 817 = .ok (.castore, 1) := by decide +kernel
theorem dX12_init_818 : decode cX12_init 818 = .ok (.dup, 1) := by decide +kernel
theorem dX12_init_819 : decode cX12_init 819 = .ok (.iconst 1, 1) := by decide +kernel
theorem dX12_init_820 : decode cX12_init 820 = .ok (.bipush 111, 2) := by decide +kernel
theorem dX12_init_822 : decode cX12_init 822 = .ok (.castore, 1) := by decide +kernel
theorem dX12_init_823 : decode cX12_init 823 = .ok (.dup, 1) := by decide +kernel
theorem dX12_init_824 : decode cX12_init 824 = .ok (.iconst 2, 1) := by decide +kernel
theorem dX12_init_825 : decode cX12_init 825 = .ok (.bipush 116, 2) := by decide +kernel
theorem dX12_init_827 : decode cX12_init 827 = .ok (.castore, 1) := by decide +kernel
theorem dX12_init_828 : decode cX12_init 828 = .ok (.dup, 1) := by decide +kernel
theorem dX12_init_829 : decode cX12_init 829 = .ok (.iconst 3, 1) := by decide +kernel
theorem dX12_init_830 : decode cX12_init 830 = .ok (.bipush 97, 2) := by decide +kernel
theorem dX12_init_832 : decode cX12_init 832 = .ok (.castore, 1) := by decide +kernel
theorem dX12_init_833 : decode cX12_init 833 = .ok (.dup, 1) := by decide +kernel
theorem dX12_init_834 : decode cX12_init 834 = .ok (.iconst 4, 1) := by decide +kernel
theorem dX12_init_835 : decode cX12_init 835 = .ok (.bipush 108, 2) := by decide +kernel
theorem dX12_init_837 : decode cX12_init 837 = .ok (.castore, 1) := by decide +kernel
theorem dX12_init_838 : decode cX12_init 838 = .ok (.putfield 135, 3) := by decide +kernel
theorem dX12_init_841 : decode cX12_init 841 = .ok (.aload_n 0, 1) := by decide +kernel
theorem dX12_init_842 : decode cX12_init 842 = .ok (.iconst 4, 1) := by decide +kernel
theorem dX12_init_843 : decode cX12_init 843 = .ok (.newarray .char, 2) := by decide +kernel
theorem dX12_init_845 : decode cX12_init 845 = .ok (.dup, 1) := by decide +kernel
theorem dX12_init_846 : decode cX12_init 846 = .ok (.iconst 0, 1) := by decide +kernel
theorem dX12_init_847 : decode cX12_init 847 = .ok (.bipush 109, 2) := by decide +kernel
theorem dX12_init_849 : decode cX12_init 849 = .ok (.castore, 1) := by decide +kernel
theorem dX12_init_850 : decode cX12_init 850 = .ok (.dup, 1) := by decide +kernel
theorem dX12_init_851 : decode cX12_init 851 = .ok (.iconst 1, 1) := by decide +kernel
theorem dX12_init_852 : decode cX12_init 852 = .ok (.bipush 111, 2) := by decide +kernel
theorem dX12_init_854 : decode cX12_init 854 = .ok (.castore, 1) := by decide +kernel
theorem dX12_init_855 : decode cX12_init 855 = .ok (.dup, 1) := by decide +kernel
theorem dX12_init_856 : decode cX12_init 856 = .ok (.iconst 2, 1) := by decide +kernel
theorem dX12_init_857 : decode cX12_init 857 = .ok (.bipush 115, 2) := by decide +kernel
theorem dX12_init_859 : decode cX12_init 859 = .ok (.castore, 1) := by decide +kernel
theorem dX12_init_860 : decode cX12_init 860 = .ok (.dup, 1) := by decide +kernel
theorem dX12_init_861 : decode cX12_init 861 = .ok (.iconst 3, 1) := by decide +kernel
theorem dX12_init_862 : decode cX12_init 862 = .ok (.bipush 116, 2) := by decide +kernel
theorem dX12_init_864 : decode cX12_init 864 = .ok (.castore, 1) := by decide +kernel
theorem dX12_init_865 : decode cX12_init 865 = .ok (.putfield 138, 3) := by decide +kernel
theorem dX12_init_868 : decode cX12_init 868 = .ok (.aload_n 0, 1) := by decide +kernel
theorem dX12_init_869 : decode cX12_init 869 = .ok (.iconst 5, 1) := by decide +kernel
theorem dX12_init_870 : decode cX12_init 870 = .ok (.newarray .char, 2) := by decide +kernel
theorem dX12_init_872 : decode cX12_init 872 = .ok (.dup, 1) := by decide +kernel
theorem dX12_init_873 : decode cX12_init 873 = .ok (.iconst 0, 1) := by decide +kernel
theorem dX12_init_874 : decode cX12_init 874 = .ok (.bipush 108, 2) := by decide +kernel
theorem dX12_init_876 : decode cX12_init 876 = .ok (.castore, 1) := by decide +kernel
theorem dX12_init_877 : decode cX12_init 877 = .ok (.dup, 1) := by decide +kernel
theorem dX12_init_878 : decode cX12_init 878 = .ok (.iconst 1, 1) := by decide +kernel
theorem dX12_init_879 : decode cX12_init 879 = .ok (.bipush 101, 2) := by decide +kernel
theorem dX12_init_881 : decode cX12_init 881 = .ok (.castore, 1) := by decide +kernel
theorem dX12_init_882 : decode cX12_init 882 = .ok (.dup, 1) := by decide +kernel
theorem dX12_init_883 : decode cX12_init 883 = .ok (.iconst 2, 1) := by decide +kernel
theorem dX12_init_884 : decode cX12_init 884 = .ok (.bipush 97, 2) := by decide +kernel
theorem dX12_init_886 : decode cX12_init 886 = .ok (.castore, 1) := by decide +kernel
theorem dX12_init_887 : decode cX12_init 887 = .ok (.dup, 1) := by decide +kernel
theorem dX12_init_888 : decode cX12_init 888 = .ok (.iconst 3, 1) := by decide +kernel
theorem dX12_init_889 : decode cX12_init 889 = .ok (.bipush 115, 2) := by decide +kernel
theorem dX12_init_891 : decode cX12_init 891 = .ok (.castore, 1) := by decide +kernel
theorem dX12_init_892 : decode cX12_init 892 = .ok (.dup, 1) := by decide +kernel
theorem dX12_init_893 : decode cX12_init 893 = .ok (.iconst 4, 1) := by decide +kernel
theorem dX12_init_894 : decode cX12_init 894 = .ok (.bipush 116, 2) := by decide +kernel
theorem dX12_init_896 : decode cX12_init 896 = .ok (.castore, 1) := by decide +kernel
theorem dX12_init_897 : decode cX12_init 897 = .ok (.putfield 141, 3) := by decide +kernel
theorem dX12_init_900 : decode cX12_init 900 = .ok (.aload_n 0, 1) := by decide +kernel
theorem dX12_init_901 : decode cX12_init 901 = .ok (.iconst 3, 1) := by decide +kernel
theorem dX12_init_902 : decode cX12_init 902 = .ok (.newarray .char, 2) := by decide +kernel
theorem dX12_init_904 : decode cX12_init 904 = .ok (.dup, 1) := by decide +kernel
theorem dX12_init_905 : decode cX12_init 905 = .ok (.iconst 0, 1) := by decide +kernel
theorem dX12_init_906 : decode cX12_init 906 = .ok (.bipush 110, 2) := by decide +kernel
theorem dX12_init_908 : decode cX12_init 908 = .ok (.castore, 1) := by decide +kernel
theorem dX12_init_909 : decode cX12_init 909 = .ok (.dup, 1) := by decide +kernel
theorem dX12_init_910 : decode cX12_init 910 = .ok (.iconst 1, 1) := by decide +kernel
theorem dX12_init_911 : decode cX12_init 911 = .ok (.bipush 111, 2) := by decide +kernel
theorem dX12_init_913 : decode cX12_init 913 = .ok (.castore, 1) := by decide +kernel
theorem dX12_init_914 : decode cX12_init 914 = .ok (.dup, 1) := by decide +kernel
theorem dX12_init_915 : decode cX12_init 915 = .ok (.iconst 2, 1) := by decide +kernel
theorem dX12_init_916 : decode cX12_init 916 = .ok (.bipush 116, 2) := by decide +kernel
theorem dX12_init_918 : decode cX12_init 918 = .ok (.castore, 1) := by decide +kernel
theorem dX12_init_919 : decode cX12_init 919 = .ok (.putfield 144, 3) := by decide +kernel
theorem dX12_init_922 : decode cX12_init 922 = .ok (.aload_n 0, 1) := by decide +kernel
theorem dX12_init_923 : decode cX12_init 923 = .ok (.iconst 3, 1) := by decide +kernel
theorem dX12_init_924 : decode cX12_init 924 = .ok (.newarray .char, 2) := by decide +kernel
theorem dX12_init_926 : decode cX12_init 926 = .ok (.dup, 1) := by decide +kernel
theorem dX12_init_927 : decode cX12_init 927 = .ok (.iconst 0, 1) := by decide +kernel
theorem dX12_init_928 : decode cX12_init 928 = .ok (.bipush 97, 2) := by decide +kernel
theorem dX12_init_930 : decode cX12_init 930 = .ok (.castore, 1) := by decide +kernel
theorem dX12_init_931 : decode cX12_init 931 = .ok (.dup, 1) := by decide +kernel
theorem dX12_init_932 : decode cX12_init 932 = .ok (.iconst 1, 1) := by decide +kernel
theorem dX12_init_933 : decode cX12_init 933 = .ok (.bipush 110, 2) := by decide +kernel
theorem dX12_init_935 : decode cX12_init 935 = .ok (.castore, 1) := by decide +kernel
theorem dX12_init_936 : decode cX12_init 936 = .ok (.dup, 1) := by decide +kernel
theorem dX12_init_937 : decode cX12_init 937 = .ok (.iconst 2, 1) := by decide +kernel
theorem dX12_init_938 : decode cX12_init 938 = .ok (.bipush 100, 2) := by decide +kernel
theorem dX12_init_940 : decode cX12_init 940 = .ok (.castore, 1) := by decide +kernel
theorem dX12_init_941 : decode cX12_init 941 = .ok (.putfield 147, 3) := by decide +kernel
theorem dX12_init_944 : decode cX12_init 944 = .ok (.aload_n 0, 1) := by decide +kernel
theorem dX12_init_945 : decode cX12_init 945 = .ok (.iconst 2, 1) := by decide +kernel
theorem dX12_init_946 : decode cX12_init 946 = .ok (.newarray .char, 2) := by decide +kernel
theorem dX12_init_948 : decode cX12_init 948 = .ok (.dup, 1) := by decide +kernel
theorem dX12_init_949 : decode cX12_init 949 = .ok (.iconst 0, 1) := by decide +kernel
theorem dX12_init_950 : decode cX12_init 950 = .ok (.bipush 111, 2) := by decide +kernel
theorem dX12_init_952 : decode cX12_init 952 = .ok (.castore, 1) := by decide +kernel
theorem dX12_init_953 : decode cX12_init 953 = .ok (.dup, 1) := by decide +kernel
theorem dX12_init_954 : decode cX12_init 954 = .ok (.iconst 1, 1) := by decide +kernel
theorem dX12_init_955 : decode cX12_init 955 = .ok (.bipush 114, 2) := by decide +kernel
theorem dX12_init_957 : decode cX12_init 957 = .ok (.castore, 1) := by decide +kernel
theorem dX12_init_958 : decode cX12_init 958 = .ok (.putfield 150, 3) := by decide +kernel
theorem dX12_init_961 : decode cX12_init 961 = .ok (.aload_n 0, 1) := by decide +kernel
theorem dX12_init_962 : decode cX12_init 962 = .ok (.iconst 3, 1) := by decide +kernel
theorem dX12_init_963 : decode cX12_init 963 = .ok (.newarray .char, 2) := by decide +kernel
theorem dX12_init_965 : decode cX12_init 965 = .ok (.dup, 1) := by decide +kernel
theorem dX12_init_966 : decode cX12_init 966 = .ok (.iconst 0, 1) := by decide +kernel
theorem dX12_init_967 : decode cX12_init 967 = .ok (.bipush 97, 2) := by decide +kernel
theorem dX12_init_969 : decode cX12_init 969 = .ok (.castore, 1) := by decide +kernel
theorem dX12_init_970 : decode cX12_init 970 = .ok (.dup, 1) := by decide +kernel
theorem dX12_init_971 : decode cX12_init 971 = .ok (.iconst 1, 1) := by decide +kernel
theorem dX12_init_972 : decode cX12_init 972 = .ok (.bipush 108, 2) := by decide +kernel
theorem dX12_init_974 : decode cX12_init 974 = .ok (.castore, 1) := by decide +kernel
theorem dX12_init_975 : decode cX12_init 975 = .ok (.dup, 1) := by decide +kernel
theorem dX12_init_976 : decode cX12_init 976 = .ok (.iconst 2, 1) := by decide +kernel
theorem dX12_init_977 : decode cX12_init 977 = .ok (.bipush 108, 2) := by decide +kernel
theorem dX12_init_979 : decode cX12_init 979 = .ok (.castore, 1) := by decide +kernel
theorem dX12_init_980 : decode cX12_init 980 = .ok (.putfield 153, 3) := by decide +kernel
theorem dX12_init_983 : decode cX12_init 983 = .ok (.aload_n 0, 1) := by decide +kernel
theorem dX12_init_984 : decode cX12_init 984 = .ok (.iconst 3, 1) := by decide +kernel
theorem dX12_init_985 : decode cX12_init 985 = .ok (.newarray .char, 2) := by decide +kernel
theorem dX12_init_987 : decode cX12_init 987 = .ok (.dup, 1) := by decide +kernel
theorem dX12_init_988 : decode cX12_init 988 = .ok (.iconst 0, 1) := by decide +kernel
theorem dX12_init_989 : decode cX12_init 989 = .ok (.bipush 109, 2) := by decide +kernel
theorem dX12_init_991 : decode cX12_init 991 = .ok (.castore, 1) := by decide +kernel
theorem dX12_init_992 : decode cX12_init 992 = .ok (.dup, 1) := by decide +kernel
theorem dX12_init_993 : decode cX12_init 993 = .ok (.iconst 1, 1) := by decide +kernel
theorem dX12_init_994 : decode cX12_init 994 = .ok (.bipush 105, 2) := by decide +kernel
theorem dX12_init_996 : decode cX12_init 996 = .ok (.castore, 1) := by decide +kernel
theorem dX12_init_997 : decode cX12_init 997 = .ok (.dup, 1) := by decide +kernel
theorem dX12_init_998 : decode cX12_init 998 = .ok (.iconst 2, 1) := by decide +kernel
theorem dX12_init_999 : decode cX12_init 999 = .ok (.bipush 110, 2) := by decide +kernel
theorem dX12_init_1001 : decode cX12_init 1001 = .ok (.castore, 1) := by decide +kernel
theorem dX12_init_1002 : decode cX12_init 1002 = .ok (.putfield 156, 3) := by decide +kernel
theorem dX12_init_1005 : decode cX12_init 1005 = .ok (.aload_n 0, 1) := by decide +kernel
theorem dX12_init_1006 : decode cX12_init 1006 = .ok (.iconst 3, 1) := by decide +kernel
theorem dX12_init_1007 : decode cX12_init 1007 = .ok (.newarray .char, 2) := by decide +kernel
theorem dX12_init_1009 : decode cX12_init 1009 = .ok (.dup, 1) := by decide +kernel
theorem dX12_init_1010 : decode cX12_init 1010 = .ok (.iconst 0, 1) := by decide +kernel
theorem dX12_init_1011 : decode cX12_init 1011 = .ok (.bipush 109, 2) := by decide +kernel
theorem dX12_init_1013 : decode cX12_init 1013 = .ok (.castore, 1) := by decide +kernel
theorem dX12_init_1014 : decode cX12_init 1014 = .ok (.dup, 1) := by decide +kernel
theorem dX12_init_1015 : decode cX12_init 1015 = .ok (.iconst 1, 1) := by decide +kernel
theorem dX12_init_1016 : decode cX12_init 1016 = .ok (.bipush 97, 2) := by decide +kernel
theorem dX12_init_1018 : decode cX12_init 1018 = .ok (.castore, 1) := by decide +kernel
theorem dX12_init_1019 : decode cX12_init 1019 = .ok (.dup, 1) := by decide +kernel
theorem dX12_init_1020 : decode cX12_init 1020 = .ok (.iconst 2, 1) := by decide +kernel
theorem dX12_init_1021 : decode cX12_init 1021 = .ok (.bipush 120, 2) := by decide +kernel
theorem dX12_init_1023 : decode cX12_init 1023 = .ok (.castore, 1) := by decide +kernel
theorem dX12_init_1024 : decode cX12_init 1024 = .ok (.putfield 159, 3) := by decide +kernel
theorem dX12_init_1027 : decode cX12_init 1027 = .ok (.aload_n 0, 1) := by decide +kernel
theorem dX12_init_1028 : decode cX12_init 1028 = .ok (.bipush 6, 2) := by decide +kernel
theorem dX12_init_1030 : decode cX12_init 1030 = .ok (.newarray .char, 2) := by decide +kernel
theorem dX12_init_1032 : decode cX12_init 1032 = .ok (.dup, 1) := by decide +kernel
theorem dX12_init_1033 : decode cX12_init 1033 = .ok (.iconst 0, 1) := by decide +kernel
theorem dX12_init_1034 : decode cX12_init 1034 = .ok (.bipush 115, 2) := by decide +kernel
theorem dX12_init_1036 : decode cX12_init 1036 = .ok (.castore, 1) := by decide +kernel
theorem dX12_init_1037 : decode cX12_init 1037 = .ok (.dup, 1) := by decide +kernel
theorem dX12_init_1038 : decode cX12_init 1038 = .ok (.iconst 1, 1) := by decide +kernel
theorem dX12_init_1039 : decode cX12_init 1039 = .ok (.bipush 101, 2) := by decide +kernel
theorem dX12_init_1041 : decode cX12_init 1041 = .ok (.castore, 1) := by decide +kernel
theorem dX12_init_1042 : decode cX12_init 1042 = .ok (.dup, 1) := by decide +kernel
theorem dX12_init_1043 : decode cX12_init 1043 = .ok (.iconst 2, 1) := by decide +kernel
theorem dX12_init_1044 : decode cX12_init 1044 = .ok (.bipush 99, 2) := by decide +kernel
theorem dX12_init_1046 : decode cX12_init 1046 = .ok (.castore, 1) := by decide +kernel
theorem dX12_init_1047 : decode cX12_init 1047 = .ok (.dup, 1) := by decide +kernel
theorem dX12_init_1048 : decode cX12_init 1048 = .ok (.iconst 3, 1) := by decide +kernel
theorem dX12_init_1049 : decode cX12_init 1049 = .ok (.bipush 111, 2) := by decide +kernel
theorem dX12_init_1051 : decode cX12_init 1051 = .ok (.castore, 1) := by decide +kernel
theorem dX12_init_1052 : decode cX12_init 1052 = .ok (.dup, 1) := by decide +kernel
theorem dX12_init_1053 : decode cX12_init 1053 = .ok (.iconst 4, 1) := by decide +kernel
theorem dX12_init_1054 : decode cX12_init 1054 = .ok (.bipush 110, 2) := by decide +kernel
theorem dX12_init_1056 : decode cX12_init 1056 = .ok (.castore, 1) := by decide +kernel
theorem dX12_init_1057 : decode cX12_init 1057 = .ok (.dup, 1) := by decide +kernel
theorem dX12_init_1058 : decode cX12_init 1058 = .ok (.iconst 5, 1) := by decide +kernel
theorem dX12_init_1059 : decode cX12_init 1059 = .ok (.bipush 100, 2) := by decide +kernel
theorem dX12_init_1061 : decode cX12_init 1061 = .ok (.castore, 1) := by decide +kernel
theorem dX12_init_1062 : decode cX12_init 1062 = .ok (.putfield 162, 3) := by decide +kernel
theorem dX12_init_1065 : decode cX12_init 1065 = .ok (.aload_n 0, 1) := by decide +kernel
theorem dX12_init_1066 : decode cX12_init 1066 = .ok (.iconst 4, 1) := by decide +kernel
theorem dX12_init_1067 : decode cX12_init 1067 = .ok (.newarray .char, 2) := by decide +kernel
theorem dX12_init_1069 : decode cX12_init 1069 = .ok (.dup, 1) := by decide +kernel
theorem dX12_init_1070 : decode cX12_init 1070 = .ok (.iconst 0, 1) := by decide +kernel
theorem dX12_init_1071 : decode cX12_init 1071 = .ok (.bipush 111, 2) := by decide +kernel
theorem dX12_init_1073 : decode cX12_init 1073 = .ok (.castore, 1) := by decide +kernel
theorem dX12_init_1074 : decode cX12_init 1074 = .ok (.dup, 1) := by decide +kernel
theorem dX12_init_1075 : decode cX12_init 1075 = .ok (.iconst 1, 1) := by decide +kernel
theorem dX12_init_1076 : decode cX12_init 1076 = .ok (.bipush 112, 2) := by decide +kernel
theorem dX12_init_1078 : decode cX12_init 1078 = .ok (.castore, 1) := by decide +kernel
theorem dX12_init_1079 : decode cX12_init 1079 = .ok (.dup, 1) := by decide +kernel
theorem dX12_init_1080 : decode cX12_init 1080 = .ok (.iconst 2, 1) := by decide +kernel
theorem dX12_init_1081 : decode cX12_init 1081 = .ok (.bipush 101, 2) := by decide +kernel
theorem dX12_init_1083 : decode cX12_init 1083 = .ok (.castore, 1) := by decide +kernel
theorem dX12_init_1084 : decode cX12_init 1084 = .ok (.dup, 1) := by decide +kernel
theorem dX12_init_1085 : decode cX12_init 1085 = .ok (.iconst 3, 1) := by decide +kernel
theorem dX12_init_1086 : decode cX12_init 1086 = .ok (.bipush 110, 2) := by decide +kernel
theorem dX12_init_1088 : decode cX12_init 1088 = .ok (.castore, 1) := by decide +kernel
theorem dX12_init_1089 : decode cX12_init 1089 = .ok (.putfield 165, 3) := by decide +kernel
theorem dX12_init_1092 : decode cX12_init 1092 = .ok (.aload_n 0, 1) := by decide +kernel
theorem dX12_init_1093 : decode cX12_init 1093 = .ok (.iconst 5, 1) := by decide +kernel
theorem dX12_init_1094 : decode cX12_init 1094 = .ok (.newarray .char, 2) := by decide +kernel
theorem dX12_init_1096 : decode cX12_init 1096 = .ok (.dup, 1) := by decide +kernel
theorem dX12_init_1097 : decode cX12_init 1097 = .ok (.iconst 0, 1) := by decide +kernel
theorem dX12_init_1098 : decode cX12_init 1098 = .ok (.bipush 119, 2) := by decide +kernel
theorem dX12_init_1100 : decode cX12_init 1100 = .ok (.castore, 1) := by decide +kernel
theorem dX12_init_1101 : decode cX12_init 1101 = .ok (.dup, 1) := by decide +kernel
theorem dX12_init_1102 : decode cX12_init 1102 = .ok (.iconst 1, 1) := by decide +kernel
theorem dX12_init_1103 : decode cX12_init 1103 = .ok (.bipush 97, 2) := by decide +kernel
theorem dX12_init_1105 : decode cX12_init 1105 = .ok (.castore, 1) := by decide +kernel
theorem dX12_init_1106 : decode cX12_init 1106 = .ok (.dup, 1) := by decide +kernel
theorem dX12_init_1107 : decode cX12_init 1107 = .ok (.iconst 2, 1) := by decide +kernel
theorem dX12_init_1108 : decode cX12_init 1108 = .ok (.bipush 105, 2) := by decide +kernel
theorem dX12_init_1110 : decode cX12_init 1110 = .ok (.castore, 1) := by decide +kernel
theorem dX12_init_1111 : decode cX12_init 1111 = .ok (.dup, 1) := by decide +kernel
theorem dX12_init_1112 : decode cX12_init 1112 = .ok (.iconst 3, 1) := by decide +kernel
theorem dX12_init_1113 : decode cX12_init 1113 = .ok (.bipush 116, 2) := by decide +kernel
theorem dX12_init_1115 : decode cX12_init 1115 = .ok (.castore, 1) := by decide +kernel
theorem dX12_init_1116 : decode cX12_init 1116 = .ok (.dup, 1) := by decide +kernel
theorem dX12_init_1117 : decode cX12_init 1117 = .ok (.iconst 4, 1) := by decide +kernel
theorem dX12_init_1118 : decode cX12_init 1118 = .ok (.bipush 115, 2) := by decide +kernel
theorem dX12_init_1120 : decode cX12_init 1120 = .ok (.castore, 1) := by decide +kernel
theorem dX12_init_1121 : decode cX12_init 1121 = .ok (.putfield 168, 3) := by decide +kernel
theorem dX12_init_1124 : decode cX12_init 1124 = .ok (.aload_n 0, 1) := by decide +kernel
theorem dX12_init_1125 : decode cX12_init 1125 = .ok (.iconst 4, 1) := by decide +kernel
theorem dX12_init_1126 : decode cX12_init 1126 = .ok (.newarray .char, 2) := by decide +kernel
theorem dX12_init_1128 : decode cX12_init 1128 = .ok (.dup, 1) := by decide +kernel
theorem dX12_init_1129 : decode cX12_init 1129 = .ok (.iconst 0, 1) := by decide +kernel
theorem dX12_init_1130 : decode cX12_init 1130 = .ok (.bipush 103, 2) := by decide +kernel
theorem dX12_init_1132 : decode cX12_init 1132 = .ok (.castore, 1) := by decide +kernel
theorem dX12_init_1133 : decode cX12_init 1133 = .ok (.dup, 1) := by decide +kernel
theorem dX12_init_1134 : decode cX12_init 1134 = .ok (.iconst 1, 1) := by decide +kernel
theorem dX12_init_1135 : decode cX12_init 1135 = .ok (.bipush 111, 2) := by decide +kernel
theorem dX12_init_1137 : decode cX12_init 1137 = .ok (.castore, 1) := by decide +kernel
theorem dX12_init_1138 : decode cX12_init 1138 = .ok (.dup, 1) := by decide +kernel
theorem dX12_init_1139 : decode cX12_init 1139 = .ok (.iconst 2, 1) := by decide +kernel
theorem dX12_init_1140 : decode cX12_init 1140 = .ok (.bipush 101, 2) := by decide +kernel
theorem dX12_init_1142 : decode cX12_init 1142 = .ok (.castore, 1) := by decide +kernel
theorem dX12_init_1143 : decode cX12_init 1143 = .ok (.dup, 1) := by decide +kernel
theorem dX12_init_1144 : decode cX12_init 1144 = .ok (.iconst 3, 1) := by decide +kernel
theorem dX12_init_1145 : decode cX12_init 1145 = .ok (.bipush 115, 2) := by decide +kernel
theorem dX12_init_1147 : decode cX12_init 1147 = .ok (.castore, 1) := by decide +kernel
theorem dX12_init_1148 : decode cX12_init 1148 = .ok (.putfield 171, 3) := by decide +kernel
theorem dX12_init_1151 : decode cX12_init 1151 = .ok (.aload_n 0, 1) := by decide +kernel
theorem dX12_init_1152 : decode cX12_init 1152 = .ok (.iconst 4, 1) := by decide +kernel
theorem dX12_init_1153 : decode cX12_init 1153 = .ok (.newarray .char, 2) := by decide +kernel
theorem dX12_init_1155 : decode cX12_init 1155 = .ok (.dup, 1) := by decide +kernel
theorem dX12_init_1156 : decode cX12_init 1156 = .ok (.iconst 0, 1) := by decide +kernel
theorem dX12_init_1157 : decode cX12_init 1157 = .ok (.bipush 111, 2) := by decide +kernel
theorem dX12_init_1159 : decode cX12_init 1159 = .ok (.castore, 1) := by decide +kernel
theorem dX12_init_1160 : decode cX12_init 1160 = .ok (.dup, 1) := by decide +kernel
theorem dX12_init_1161 : decode cX12_init 1161 = .ok (.iconst 1, 1) := by decide +kernel
theorem dX12_init_1162 : decode cX12_init 1162 = .ok (.bipush 117, 2) := by decide +kernel
theorem dX12_init_1164 : decode cX12_init 1164 = .ok (.castore, 1) := by decide +kernel
theorem dX12_init_1165 : decode cX12_init 1165 = .ok (.dup, 1) := by decide +kernel
theorem dX12_init_1166 : decode cX12_init 1166 = .ok (.iconst 2, 1) := by decide +kernel
theorem dX12_init_1167 : decode cX12_init 1167 = .ok (.bipush 116, 2) := by decide +kernel
theorem dX12_init_1169 : decode cX12_init 1169 = .ok (.castore, 1) := by decide +kernel
theorem dX12_init_1170 : decode cX12_init 1170 = .ok (.dup, 1) := by decide +kernel
theorem dX12_init_1171 : decode cX12_init 1171 = .ok (.iconst 3, 1) := by decide +kernel
theorem dX12_init_1172 : decode cX12_init 1172 = .ok (.bipush 115, 2) := by decide +kernel
theorem dX12_init_1174 : decode cX12_init 1174 = .ok (.castore, 1) := by decide +kernel
theorem dX12_init_1175 : decode cX12_init 1175 = .ok (.putfield 174, 3) := by decide +kernel
theorem dX12_init_1178 : decode cX12_init 1178 = .ok (.aload_n 0, 1) := by decide +kernel
theorem dX12_init_1179 : decode cX12_init 1179 = .ok (.iconst 5, 1) := by decide +kernel
theorem dX12_init_1180 : decode cX12_init 1180 = .ok (.newarray .char, 2) := by decide +kernel
theorem dX12_init_1182 : decode cX12_init 1182 = .ok (.dup, 1) := by decide +kernel
theorem dX12_init_1183 : decode cX12_init 1183 = .ok (.iconst 0, 1) := by decide +kernel
theorem dX12_init_1184 : decode cX12_init 1184 = .ok (.bipush 97, 2) := by decide +kernel
theorem dX12_init_1186 : decode cX12_init 1186 = .ok (.castore, 1) := by decide +kernel
theorem dX12_init_1187 : decode cX12_init 1187 = .ok (.dup, 1) := by decide +kernel
theorem dX12_init_1188 : decode cX12_init 1188 = .ok (.iconst 1, 1) := by decide +kernel
theorem dX12_init_1189 : decode cX12_init 1189 = .ok (.bipush 108, 2) := by decide +kernel
theorem dX12_init_1191 : decode cX12_init 1191 = .ok (.castore, 1) := by decide +kernel
theorem dX12_init_1192 : decode cX12_init 1192 = .ok (.dup, 1) := by decide +kernel
theorem dX12_init_1193 : decode cX12_init 1193 = .ok (.iconst 2, 1) := by decide +kernel
theorem dX12_init_1194 : decode cX12_init 1194 = .ok (.bipush 97, 2) := by decide +kernel
theorem dX12_init_1196 : decode cX12_init 1196 = .ok (.castore, 1) := by decide +kernel
theorem dX12_init_1197 : decode cX12_init 1197 = .ok (.dup, 1) := by decide +kernel
theorem dX12_init_1198 : decode cX12_init 1198 = .ok (.iconst 3, 1) := by decide +kernel
theorem dX12_init_1199 : decode cX12_init 1199 = .ok (.bipush 114, 2) := by decide +kernel
theorem dX12_init_1201 : decode cX12_init 1201 = .ok (.castore, 1) := by decide +kernel
theorem dX12_init_1202 : decode cX12_init 1202 = .ok (.dup, 1) := by decide +kernel
theorem dX12_init_1203 : decode cX12_init 1203 = .ok (.iconst 4, 1) := by decide +kernel
theorem dX12_init_1204 : decode cX12_init 1204 = .ok (.bipush 109, 2) := by decide +kernel
theorem dX12_init_1206 : decode cX12_init 1206 = .ok (.castore, 1) := by decide +kernel
theorem dX12_init_1207 : decode cX12_init 1207 = .ok (.putfield 177, 3) := by decide +kernel
theorem dX12_init_1210 : decode cX12_init 1210 = .ok (.aload_n 0, 1) := by decide +kernel
theorem dX12_init_1211 : decode cX12_init 1211 = .ok (.iconst 2, 1) := by decide +kernel
theorem dX12_init_1212 : decode cX12_init 1212 = .ok (.newarray .char, 2) := by decide +kernel
theorem dX12_init_1214 : decode cX12_init 1214 = .ok (.dup, 1) := by decide +kernel
theorem dX12_init_1215 : decode cX12_init 1215 = .ok (.iconst 0, 1) := by decide +kernel
theorem dX12_init_1216 : decode cX12_init 1216 = .ok (.bipush 97, 2) := by decide +kernel
theorem dX12_init_1218 : decode cX12_init 1218 = .ok (.castore, 1) := by decide +kernel
theorem dX12_init_1219 : decode cX12_init 1219 = .ok (.dup, 1) := by decide +kernel
theorem dX12_init_1220 : decode cX12_init 1220 = .ok (.iconst 1, 1) := by decide +kernel
theorem dX12_init_1221 : decode cX12_init 1221 = .ok (.bipush 116, 2) := by decide +kernel
theorem dX12_init_1223 : decode cX12_init 1223 = .ok (.castore, 1) := by decide +kernel
theorem dX12_init_1224 : decode cX12_init 1224 = .ok (.putfield 180, 3) := by decide +kernel
theorem dX12_init_1227 : decode cX12_init 1227 = .ok (.aload_n 0, 1) := by decide +kernel
theorem dX12_init_1228 : decode cX12_init 1228 = .ok (.iconst 4, 1) := by decide +kernel
theorem dX12_init_1229 : decode cX12_init 1229 = .ok (.newarray .char, 2) := by decide +kernel
theorem dX12_init_1231 : decode cX12_init 1231 = .ok (.dup, 1) := by decide +kernel
theorem dX12_init_1232 : decode cX12_init 1232 = .ok (.iconst 0, 1) := by decide +kernel
theorem dX12_init_1233 : decode cX12_init 1233 = .ok (.bipush 100, 2) := by decide +kernel
theorem dX12_init_1235 : decode cX12_init 1235 = .ok (.castore, 1) := by decide +kernel
theorem dX12_init_1236 : decode cX12_init 1236 = .ok (.dup, 1) := by decide +kernel
theorem dX12_init_1237 : decode cX12_init 1237 = .ok (.iconst 1, 1) := by decide +kernel
theorem dX12_init_1238 : decode cX12_init 1238 = .ok (.bipush 111, 2) := by decide +kernel
theorem dX12_init_1240 : decode cX12_init 1240 = .ok (.castore, 1) := by decide +kernel
theorem dX12_init_1241 : decode cX12_init 1241 = .ok (.dup, 1) := by decide +kernel
theorem dX12_init_1242 : decode cX12_init 1242 = .ok (.iconst 2, 1) := by decide +kernel
theorem dX12_init_1243 : decode cX12_init 1243 = .ok (.bipush 101, 2) := by decide +kernel
theorem dX12_init_1245 : decode cX12_init 1245 = .ok (.castore, 1) := by decide +kernel
theorem dX12_init_1246 : decode cX12_init 1246 = .ok (.dup, 1) := by decide +kernel
theorem dX12_init_1247 : decode cX12_init 1247 = .ok (.iconst 3, 1) := by decide +kernel
theorem dX12_init_1248 : decode cX12_init 1248 = .ok (.bipush 115, 2) := by decide +kernel
theorem dX12_init_1250 : decode cX12_init 1250 = .ok (.castore, 1) := by decide +kernel
theorem dX12_init_1251 : decode cX12_init 1251 = .ok (.putfield 183, 3) := by decide +kernel
theorem dX12_init_1254 : decode cX12_init 1254 = .ok (.aload_n 0, 1) := by decide +kernel
theorem dX12_init_1255 : decode cX12_init 1255 = .ok (.sipush 1700, 3) := by decide +kernel
theorem dX12_init_1258 : decode cX12_init 1258 = .ok (.newarray .int, 2) := by decide +kernel
theorem dX12_init_1260 : decode cX12_init 1260 = .ok (.putfield 186, 3) := by decide +kernel
theorem dX12_init_1263 : decode cX12_init 1263 = .ok (.aload_n 0, 1) := by decide +kernel
theorem dX12_init_1264 : decode cX12_init 1264 = .ok (.sipush 1700, 3) := by decide +kernel
theorem dX12_init_1267 : decode cX12_init 1267 = .ok (.newarray .int, 2) := by decide +kernel
theorem dX12_init_1269 : decode cX12_init 1269 = .ok (.putfield 189, 3) := by decide +kernel
theorem dX12_init_1272 : decode cX12_init 1272 = .ok (.aload_n 0, 1) := by decide +kernel
theorem dX12_init_1273 : decode cX12_init 1273 = .ok (.sipush 1700, 3) := by decide +kernel
theorem dX12_init_1276 : decode cX12_init 1276 = .ok (.newarray .long, 2) := by decide +kernel
theorem dX12_init_1278 : decode cX12_init 1278 = .ok (.putfield 192, 3) := by decide +kernel
theorem dX12_init_1281 : decode cX12_init 1281 = .ok (.aload_n 0, 1) := by decide +kernel
theorem dX12_init_1282 : decode cX12_init 1282 = .ok (.bipush 34, 2) := by decide +kernel
theorem dX12_init_1284 : decode cX12_init 1284 = .ok (.newarray .int, 2) := by decide +kernel
theorem dX12_init_1286 : decode cX12_init 1286 = .ok (.putfield 195, 3) := by decide +kernel
theorem dX12_init_1289 : decode cX12_init 1289 = .ok (.return_, 1) := by decide +kernel
theorem dX12_isIn_0 : decode cX12_isIn 0 = .ok (.lload_n 0, 1) := by decide +kernel
theorem dX12_isIn_1 : decode cX12_isIn 1 = .ok (.lload_n 2, 1) := by decide +kernel
theorem dX12_isIn_2 : decode cX12_isIn 2 = .ok (.lcmp, 1) := by decide +kernel
theorem dX12_isIn_3 : decode cX12_isIn 3 = .ok (.ifCond .lt 14, 3) := by decide +kernel
theorem dX12_isIn_6 : decode cX12_isIn 6 = .ok (.lload_n 0, 1) := by decide +kernel
theorem dX12_isIn_7 : decode cX12_isIn 7 = .ok (.lload 4, 2) := by decide +kernel
theorem dX12_isIn_9 : decode cX12_isIn 9 = .ok (.lcmp, 1) := by decide +kernel
theorem dX12_isIn_10 : decode cX12_isIn 10 = .ok (.ifCond .gt 7, 3) := by decide +kernel
theorem dX12_isIn_13 : decode cX12_isIn 13 = .ok (.iconst 1, 1) := by decide +kernel
theorem dX12_isIn_14 : decode cX12_isIn 14 = .ok (.goto 4, 3) := by decide +kernel
theorem dX12_isIn_17 : decode cX12_isIn 17 = .ok (.iconst 0, 1) := by decide +kernel
theorem dX12_isIn_18 : decode cX12_isIn 18 = .ok (.ireturn, 1) := by decide +kernel
theorem dX12_feed_0 : decode cX12_feed 0 = .ok (.aload_n 0, 1) := by decide +kernel
theorem dX12_feed_1 : decode cX12_feed 1 = .ok (.getfield 198, 3) := by decide +kernel
theorem dX12_feed_4 : decode cX12_feed 4 = .ok (.bipush 20, 2) := by decide +kernel
theorem dX12_feed_6 : decode cX12_feed 6 = .ok (.iadd, 1) := by decide +kernel
theorem dX12_feed_7 : decode cX12_feed 7 = .ok (.sipush 1600, 3) := by decide +kernel
theorem dX12_feed_10 : decode cX12_feed 10 = .ok (.if_icmp .le 5, 3) := by decide +kernel
theorem dX12_feed_13 : decode cX12_feed 13 = .ok (.iconst (-1), 1) := by decide +kernel
theorem dX12_feed_14 : decode cX12_feed 14 = .ok (.ireturn, 1) := by decide +kernel
theorem dX12_feed_15 : decode cX12_feed 15 = .ok (.iconst 0, 1) := by decide +kernel
theorem dX12_feed_16 : decode cX12_feed 16 = .ok (.istore 6, 2) := by decide +kernel
theorem dX12_feed_18 : decode cX12_feed 18 = .ok (.iload 6, 2) := by decide +kernel
theorem dX12_feed_20 : decode cX12_feed 20 = .ok (.bipush 20, 2) := by decide +kernel
theorem dX12_feed_22 : decode cX12_feed 22 = .ok (.if_icmp .ge 92, 3) := by decide +kernel
theorem dX12_feed_25 : decode cX12_feed 25 = .ok (.iload 6, 2) := by decide +kernel
theorem dX12_feed_27 : decode cX12_feed 27 = .ok (.iconst 4, 1) := by decide +kernel
theorem dX12_feed_28 : decode cX12_feed 28 = .ok (.if_icmp .ge 7, 3) := by decide +kernel
theorem dX12_feed_31 : decode cX12_feed 31 = .ok (.iload_n 1, 1) := by decide +kernel
theorem dX12_feed_32 : decode cX12_feed 32 = .ok (.goto 39, 3) := by decide +kernel
theorem dX12_feed_35 : decode cX12_feed 35 = .ok (.iload 6, 2) := by decide +kernel
theorem dX12_feed_37 : decode cX12_feed 37 = .ok (.bipush 8, 2) := by decide +kernel
theorem dX12_feed_39 : decode cX12_feed 39 = .ok (.if_icmp .ge 7, 3) := by decide +kernel
theorem dX12_feed_42 : decode cX12_feed 42 = .ok (.iload_n 2, 1) := by decide +kernel
theorem dX12_feed_43 : decode cX12_feed 43 = .ok (.goto 28, 3) := by decide +kernel
theorem dX12_feed_46 : decode cX12_feed 46 = .ok (.iload 6, 2) := by decide +kernel
theorem dX12_feed_48 : decode cX12_feed 48 = .ok (.bipush 12, 2) := by decide +kernel
theorem dX12_feed_50 : decode cX12_feed 50 = .ok (.if_icmp .ge 7, 3) := by decide +kernel
theorem dX12_feed_53 : decode cX12_feed 53 = .ok (.iload_n 3, 1) := by decide +kernel
theorem dX12_feed_54 : decode cX12_feed 54 = .ok (.goto 17, 3) := by decide +kernel
theorem dX12_feed_57 : decode cX12_feed 57 = .ok (.iload 6, 2) := by decide +kernel
theorem dX12_feed_59 : decode cX12_feed 59 = .ok (.bipush 16, 2) := by decide +kernel
theorem dX12_feed_61 : decode cX12_feed 61 = .ok (.if_icmp .ge 8, 3) := by decide +kernel
theorem dX12_feed_64 : decode cX12_feed 64 = .ok (.iload 4, 2) := by decide +kernel
theorem dX12_feed_66 : decode cX12_feed 66 = .ok (.goto 5, 3) := by decide +kernel
theorem dX12_feed_69 : decode cX12_feed 69 = .ok (.iload 5, 2) := by decide +kernel
theorem dX12_feed_71 : decode cX12_feed 71 = .ok (.istore 7, 2) := by decide +kernel
theorem dX12_feed_73 : decode cX12_feed 73 = .ok (.aload_n 0, 1) := by decide +kernel
theorem dX12_feed_74 : decode cX12_feed 74 = .ok (.getfield 7, 3) := by decide +kernel
theorem dX12_feed_77 : decode cX12_feed 77 = .ok (.aload_n 0, 1) := by decide +kernel
theorem dX12_feed_78 : decode cX12_feed 78 = .ok (.getfield 198, 3) := by decide +kernel
theorem dX12_feed_81 : decode cX12_feed 81 = .ok (.iload 7, 2) := by decide +kernel
theorem dX12_feed_83 : decode cX12_feed 83 = .ok (.bipush 8, 2) := by decide +kernel
theorem dX12_feed_85 : decode cX12_feed 85 = .ok (.iconst 3, 1) := by decide +kernel
theorem dX12_feed_86 : decode cX12_feed 86 = .ok (.iload 6, 2) := by decide +kernel
theorem dX12_feed_88 : decode cX12_feed 88 = .ok (.iconst 4, 1) := by decide +kernel
theorem dX12_feed_89 : decode cX12_feed 89 = .ok (.irem, 1) := by decide +kernel
theorem dX12_feed_90 : decode cX12_feed 90 = .ok (.isub, 1) := by decide +kernel
theorem dX12_feed_91 : decode cX12_feed 91 = .ok (.imul, 1) := by decide +kernel
theorem dX12_feed_92 : decode cX12_feed 92 = .ok (.ishr, 1) := by decide +kernel
theorem dX12_feed_93 : decode cX12_feed 93 = .ok (.sipush 255, 3) := by decide +kernel
theorem dX12_feed_96 : decode cX12_feed 96 = .ok (.iand, 1) := by decide +kernel
theorem dX12_feed_97 : decode cX12_feed 97 = .ok (.iastore, 1) := by decide +kernel
theorem dX12_feed_98 : decode cX12_feed 98 = .ok (.aload_n 0, 1) := by decide +kernel
theorem dX12_feed_99 : decode cX12_feed 99 = .ok (.dup, 1) := by decide +kernel
theorem dX12_feed_100 : decode cX12_feed 100 = .ok (.getfield 198, 3) := by decide +kernel
theorem dX12_feed_103 : decode cX12_feed 103 = .ok (.iconst 1, 1) := by decide +kernel
theorem dX12_feed_104 : decode cX12_feed 104 = .ok (.iadd, 1) := by decide +kernel
theorem dX12_feed_105 : decode cX12_feed 105 = .ok (.putfield 198, 3) := by decide +kernel
theorem dX12_feed_108 : decode cX12_feed 108 = .ok (.iinc 6 1, 3) := by decide +kernel
theorem dX12_feed_111 : decode cX12_feed 111 = .ok (.goto (-93), 3) := by decide +kernel
theorem dX12_feed_114 : decode cX12_feed 114 = .ok (.aload_n 0, 1) := by decide +kernel
theorem dX12_feed_115 : decode cX12_feed 115 = .ok (.getfield 198, 3) := by decide +kernel
theorem dX12_feed_118 : decode cX12_feed 118 = .ok (.ireturn, 1) := by decide +kernel
theorem dX12_end_0 : decode cX12_end 0 = .ok (.iload_n 1, 1) := by decide +kernel
theorem dX12_end_1 : decode cX12_end 1 = .ok (.ifCond .lt 11, 3) := by decide +kernel
theorem dX12_end_4 : decode cX12_end 4 = .ok (.iload_n 1, 1) := by decide +kernel
theorem dX12_end_5 : decode cX12_end 5 = .ok (.aload_n 0, 1) := by decide +kernel
theorem dX12_end_6 : decode cX12_end 6 = .ok (.getfield 198, 3) := by decide +kernel
theorem dX12_end_9 : decode cX12_end 9 = .ok (.if_icmp .le 5, 3) := by decide +kernel
theorem dX12_end_12 : decode cX12_end 12 = .ok (.iconst 0, 1) := by decide +kernel
theorem dX12_end_13 : decode cX12_end 13 = .ok (.ireturn, 1) := by decide +kernel
theorem dX12_end_14 : decode cX12_end 14 = .ok (.aload_n 0, 1) := by decide +kernel
theorem dX12_end_15 : decode cX12_end 15 = .ok (.iload_n 1, 1) := by decide +kernel
theorem dX12_end_16 : decode cX12_end 16 = .ok (.putfield 198, 3) := by decide +kernel
theorem dX12_end_19 : decode cX12_end 19 = .ok (.iconst 1, 1) := by decide +kernel
theorem dX12_end_20 : decode cX12_end 20 = .ok (.ireturn, 1) := by decide +kernel
theorem dX12_fail_0 : decode cX12_fail 0 = .ok (.aload_n 0, 1) := by decide +kernel
theorem dX12_fail_1 : decode cX12_fail 1 = .ok (.getfield 201, 3) := by decide +kernel
theorem dX12_fail_4 : decode cX12_fail 4 = .ok (.ifCond .eq 4, 3) := by decide +kernel
theorem dX12_fail_7 : decode cX12_fail 7 = .ok (.return_, 1) := by decide +kernel
theorem dX12_fail_8 : decode cX12_fail 8 = .ok (.aload_n 0, 1) := by decide +kernel
theorem dX12_fail_9 : decode cX12_fail 9 = .ok (.iload_n 1, 1) := by decide +kernel
theorem dX12_fail_10 : decode cX12_fail 10 = .ok (.putfield 201, 3) := by decide +kernel
theorem dX12_fail_13 : decode cX12_fail 13 = .ok (.aload_n 0, 1) := by decide +kernel
theorem dX12_fail_14 : decode cX12_fail 14 = .ok (.iload_n 2, 1) := by decide +kernel
theorem dX12_fail_15 : decode cX12_fail 15 = .ok (.putfield 204, 3) := by decide +kernel
theorem dX12_fail_18 : decode cX12_fail 18 = .ok (.return_, 1) := by decide +kernel
theorem dX12_isLetter_0 : decode cX12_isLetter 0 = .ok (.iload_n 0, 1) := by decide +kernel
theorem dX12_isLetter_1 : decode cX12_isLetter 1 = .ok (.bipush 97, 2) := by decide +kernel
theorem dX12_isLetter_3 : decode cX12_isLetter 3 = .ok (.if_icmp .lt 13, 3) := by decide +kernel
theorem dX12_isLetter_6 : decode cX12_isLetter 6 = .ok (.iload_n 0, 1) := by decide +kernel
theorem dX12_isLetter_7 : decode cX12_isLetter 7 = .ok (.bipush 122, 2) := by decide +kernel
theorem dX12_isLetter_9 : decode cX12_isLetter 9 = .ok (.if_icmp .gt 7, 3) := by decide +kernel
theorem dX12_isLetter_12 : decode cX12_isLetter 12 = .ok (.iconst 1, 1) := by decide +kernel
theorem dX12_isLetter_13 : decode cX12_isLetter 13 = .ok (.goto 4, 3) := by decide +kernel
theorem dX12_isLetter_16 : decode cX12_isLetter 16 = .ok (.iconst 0, 1) := by decide +kernel
theorem dX12_isLetter_17 : decode cX12_isLetter 17 = .ok (.ireturn, 1) := by decide +kernel
theorem dX12_isDigit_0 : decode cX12_isDigit 0 = .ok (.iload_n 0, 1) := by decide +kernel
theorem dX12_isDigit_1 : decode cX12_isDigit 1 = .ok (.bipush 48, 2) := by decide +kernel
theorem dX12_isDigit_3 : decode cX12_isDigit 3 = .ok (.if_icmp .lt 13, 3) := by decide +kernel
theorem dX12_isDigit_6 : decode cX12_isDigit 6 = .ok (.iload_n 0, 1) := by decide +kernel
theorem dX12_isDigit_7 : decode cX12_isDigit 7 = .ok (.bipush 57, 2) := by decide +kernel
theorem dX12_isDigit_9 : decode cX12_isDigit 9 = .ok (.if_icmp .gt 7, 3) := by decide +kernel
theorem dX12_isDigit_12 : decode cX12_isDigit 12 = .ok (.iconst 1, 1) := by decide +kernel
theorem dX12_isDigit_13 : decode cX12_isDigit 13 = .ok (.goto 4, 3) := by decide +kernel
theorem dX12_isDigit_16 : decode cX12_isDigit 16 = .ok (.iconst 0, 1) := by decide +kernel
theorem dX12_isDigit_17 : decode cX12_isDigit 17 = .ok (.ireturn, 1) := by decide +kernel
theorem dX12_look_0 : decode cX12_look 0 = .ok (.aload_n 0, 1) := by decide +kernel
theorem dX12_look_1 : decode cX12_look 1 = .ok (.getfield 207, 3) := by decide +kernel
theorem dX12_look_4 : decode cX12_look 4 = .ok (.aload_n 0, 1) := by decide +kernel
theorem dX12_look_5 : decode cX12_look 5 = .ok (.getfield 210, 3) := by decide +kernel
theorem dX12_look_8 : decode cX12_look 8 = .ok (.if_icmp .ge 44, 3) := by decide +kernel
theorem dX12_look_11 : decode cX12_look 11 = .ok (.aload_n 0, 1) := by decide +kernel
theorem dX12_look_12 : decode cX12_look 12 = .ok (.getfield 7, 3) := by decide +kernel
theorem dX12_look_15 : decode cX12_look 15 = .ok (.aload_n 0, 1) := by decide +kernel
theorem dX12_look_16 : decode cX12_look 16 = .ok (.getfield 207, 3) := by decide +kernel
theorem dX12_look_19 : decode cX12_look 19 = .ok (.iaload, 1) := by decide +kernel
theorem dX12_look_20 : decode cX12_look 20 = .ok (.bipush 10, 2) := by decide +kernel
theorem dX12_look_22 : decode cX12_look 22 = .ok (.if_icmp .eq 17, 3) := by decide +kernel
theorem dX12_look_25 : decode cX12_look 25 = .ok (.aload_n 0, 1) := by decide +kernel
theorem dX12_look_26 : decode cX12_look 26 = .ok (.getfield 7, 3) := by decide +kernel
theorem dX12_look_29 : decode cX12_look 29 = .ok (.aload_n 0, 1) := by decide +kernel
theorem dX12_look_30 : decode cX12_look 30 = .ok (.getfield 207, 3) := by decide +kernel
theorem dX12_look_33 : decode cX12_look 33 = .ok (.iaload, 1) := by decide +kernel
theorem dX12_look_34 : decode cX12_look 34 = .ok (.bipush 32, 2) := by decide +kernel
theorem dX12_look_36 : decode cX12_look 36 = .ok (.if_icmp .ne 16, 3) := by decide +kernel
theorem dX12_look_39 : decode cX12_look 39 = .ok (.aload_n 0, 1) := by decide +kernel
theorem dX12_look_40 : decode cX12_look 40 = .ok (.dup, 1) := by decide +kernel
theorem dX12_look_41 : decode cX12_look 41 = .ok (.getfield 207, 3) := by decide +kernel
theorem dX12_look_44 : decode cX12_look 44 = .ok (.iconst 1, 1) := by decide +kernel
theorem dX12_look_45 : decode cX12_look 45 = .ok (.iadd, 1) := by decide +kernel
theorem dX12_look_46 : decode cX12_look 46 = .ok (.putfield 207, 3) := by decide +kernel
theorem dX12_look_49 : decode cX12_look 49 = .ok (.goto (-49), 3) := by decide +kernel
theorem dX12_look_52 : decode cX12_look 52 = .ok (.aload_n 0, 1) := by decide +kernel
theorem dX12_look_53 : decode cX12_look 53 = .ok (.getfield 207, 3) := by decide +kernel
theorem dX12_look_56 : decode cX12_look 56 = .ok (.aload_n 0, 1) := by decide +kernel
theorem dX12_look_57 : decode cX12_look 57 = .ok (.getfield 210, 3) := by decide +kernel
theorem dX12_look_60 : decode cX12_look 60 = .ok (.if_icmp .ge 15, 3) := by decide +kernel
theorem dX12_look_63 : decode cX12_look 63 = .ok (.aload_n 0, 1) := by decide +kernel
theorem dX12_look_64 : decode cX12_look 64 = .ok (.getfield 7, 3) := by decide +kernel
theorem dX12_look_67 : decode cX12_look 67 = .ok (.aload_n 0, 1) := by decide +kernel
theorem dX12_look_68 : decode cX12_look 68 = .ok (.getfield 207, 3) := by decide +kernel
theorem dX12_look_71 : decode cX12_look 71 = .ok (.iaload, 1) := by decide +kernel
theorem dX12_look_72 : decode cX12_look 72 = .ok (.goto 4, 3) := by decide +kernel
theorem dX12_look_75 : decode cX12_look 75 = .ok (.iconst (-1), 1) := by decide +kernel
theorem dX12_look_76 : decode cX12_look 76 = .ok (.ireturn, 1) := by decide +kernel
theorem dX12_isHere_0 : decode cX12_isHere 0 = .ok (.aload_n 0, 1) := by decide +kernel
theorem dX12_isHere_1 : decode cX12_isHere 1 = .ok (.getfield 201, 3) := by decide +kernel
theorem dX12_isHere_4 : decode cX12_isHere 4 = .ok (.ifCond .ne 24, 3) := by decide +kernel
theorem dX12_isHere_7 : decode cX12_isHere 7 = .ok (.aload_n 0, 1) := by decide +kernel
theorem dX12_isHere_8 : decode cX12_isHere 8 = .ok (.invokevirtual 213, 3) := by decide +kernel
theorem dX12_isHere_11 : decode cX12_isHere 11 = .ok (.invokestatic 217, 3) := by decide +kernel
theorem dX12_isHere_14 : decode cX12_isHere 14 = .ok (.ifCond .eq 14, 3) := by decide +kernel
theorem dX12_isHere_17 : decode cX12_isHere 17 = .ok (.aload_n 0, 1) := by decide +kernel
theorem dX12_isHere_18 : decode cX12_isHere 18 = .ok (.getfield 207, 3) := by decide +kernel
theorem dX12_isHere_21 : decode cX12_isHere 21 = .ok (.aload_n 0, 1) := by decide +kernel
theorem dX12_isHere_22 : decode cX12_isHere 22 = .ok (.getfield 221, 3) := by decide +kernel
theorem dX12_isHere_25 : decode cX12_isHere 25 = .ok (.if_icmp .ne 5, 3) := by decide +kernel
theorem dX12_isHere_28 : decode cX12_isHere 28 = .ok (.iconst 0, 1) := by decide +kernel
theorem dX12_isHere_29 : decode cX12_isHere 29 = .ok (.ireturn, 1) := by decide +kernel
theorem dX12_isHere_30 : decode cX12_isHere 30 = .ok (.aload_n 0, 1) := by decide +kernel
theorem dX12_isHere_31 : decode cX12_isHere 31 = .ok (.getfield 207, 3) := by decide +kernel
theorem dX12_isHere_34 : decode cX12_isHere 34 = .ok (.istore_n 2, 1) := by decide +kernel
theorem dX12_isHere_35 : decode cX12_isHere 35 = .ok (.iload_n 2, 1) := by decide +kernel
theorem dX12_isHere_36 : decode cX12_isHere 36 = .ok (.aload_n 0, 1) := by decide +kernel
theorem dX12_isHere_37 : decode cX12_isHere 37 = .ok (.getfield 210, 3) := by decide +kernel
theorem dX12_isHere_40 : decode cX12_isHere 40 = .ok (.if_icmp .ge 21, 3) := by decide +kernel
theorem dX12_isHere_43 : decode cX12_isHere 43 = .ok (.aload_n 0, 1) := by decide +kernel
theorem dX12_isHere_44 : decode cX12_isHere 44 = .ok (.getfield 7, 3) := by decide +kernel
theorem dX12_isHere_47 : decode cX12_isHere 47 = .ok (.iload_n 2, 1) := by decide +kernel
theorem dX12_isHere_48 : decode cX12_isHere 48 = .ok (.iaload, 1) := by decide +kernel
theorem dX12_isHere_49 : decode cX12_isHere 49 = .ok (.invokestatic 217, 3) := by decide +kernel
theorem dX12_isHere_52 : decode cX12_isHere 52 = .ok (.ifCond .eq 9, 3) := by decide +kernel
theorem dX12_isHere_55 : decode cX12_isHere 55 = .ok (.iinc 2 1, 3) := by decide +kernel
theorem dX12_isHere_58 : decode cX12_isHere 58 = .ok (.goto (-23), 3) := by decide +kernel
theorem dX12_isHere_61 : decode cX12_isHere 61 = .ok (.iload_n 2, 1) := by decide +kernel
theorem dX12_isHere_62 : decode cX12_isHere 62 = .ok (.aload_n 0, 1) := by decide +kernel
theorem dX12_isHere_63 : decode cX12_isHere 63 = .ok (.getfield 207, 3) := by decide +kernel
theorem dX12_isHere_66 : decode cX12_isHere 66 = .ok (.isub, 1) := by decide +kernel
theorem dX12_isHere_67 : decode cX12_isHere 67 = .ok (.aload_n 1, 1) := by decide +kernel
theorem dX12_isHere_68 : decode cX12_isHere 68 = .ok (.arraylength, 1) := by decide +kernel
theorem dX12_isHere_69 : decode cX12_isHere 69 = .ok (.if_icmp .eq 5, 3) := by decide +kernel
theorem dX12_isHere_72 : decode cX12_isHere 72 = .ok (.iconst 0, 1) := by decide +kernel
theorem dX12_isHere_73 : decode cX12_isHere 73 = .ok (.ireturn, 1) := by decide +kernel
theorem dX12_isHere_74 : decode cX12_isHere 74 = .ok (.iconst 0, 1) := by decide +kernel
theorem dX12_isHere_75 : decode cX12_isHere 75 = .ok (.istore_n 3, 1) := by decide +kernel
theorem dX12_isHere_76 : decode cX12_isHere 76 = .ok (.iload_n 3, 1) := by decide +kernel
theorem dX12_isHere_77 : decode cX12_isHere 77 = .ok (.aload_n 1, 1) := by decide +kernel
theorem dX12_isHere_78 : decode cX12_isHere 78 = .ok (.arraylength, 1) := by decide +kernel
theorem dX12_isHere_79 : decode cX12_isHere 79 = .ok (.if_icmp .ge 28, 3) := by decide +kernel
theorem dX12_isHere_82 : decode cX12_isHere 82 = .ok (.aload_n 0, 1) := by decide +kernel
theorem dX12_isHere_83 : decode cX12_isHere 83 = .ok (.getfield 7, 3) := by decide +kernel
theorem dX12_isHere_86 : decode cX12_isHere 86 = .ok (.aload_n 0, 1) := by decide +kernel
theorem dX12_isHere_87 : decode cX12_isHere 87 = .ok (.getfield 207, 3) := by decide +kernel
theorem dX12_isHere_90 : decode cX12_isHere 90 = .ok (.iload_n 3, 1) := by decide +kernel
theorem dX12_isHere_91 : decode cX12_isHere 91 = .ok (.iadd, 1) := by decide +kernel
theorem dX12_isHere_92 : decode cX12_isHere 92 = .ok (.iaload, 1) := by decide +kernel
theorem dX12_isHere_93 : decode cX12_isHere 93 = .ok (.aload_n 1, 1) := by decide +kernel
theorem dX12_isHere_94 : decode cX12_isHere 94 = .ok (.iload_n 3, 1) := by decide +kernel
theorem dX12_isHere_95 : decode cX12_isHere 95 = .ok (.caload, 1) := by decide +kernel
theorem dX12_isHere_96 : decode cX12_isHere 96 = .ok (.if_icmp .eq 5, 3) := by decide +kernel
theorem dX12_isHere_99 : decode cX12_isHere 99 = .ok (.iconst 0, 1) := by decide +kernel
theorem dX12_isHere_100 : decode cX12_isHere 100 = .ok (.ireturn, 1) := by decide +kernel
theorem dX12_isHere_101 : decode cX12_isHere 101 = .ok (.iinc 3 1, 3) := by decide +kernel
theorem dX12_isHere_104 : decode cX12_isHere 104 = .ok (.goto (-28), 3) := by decide +kernel
theorem dX12_isHere_107 : decode cX12_isHere 107 = .ok (.iconst 1, 1) := by decide +kernel
theorem dX12_isHere_108 : decode cX12_isHere 108 = .ok (.ireturn, 1) := by decide +kernel
theorem dX12_takes_0 : decode cX12_takes 0 = .ok (.aload_n 0, 1) := by decide +kernel
theorem dX12_takes_1 : decode cX12_takes 1 = .ok (.aload_n 1, 1) := by decide +kernel
theorem dX12_takes_2 : decode cX12_takes 2 = .ok (.invokevirtual 224, 3) := by decide +kernel
theorem dX12_takes_5 : decode cX12_takes 5 = .ok (.ifCond .ne 5, 3) := by decide +kernel
theorem dX12_takes_8 : decode cX12_takes 8 = .ok (.iconst 0, 1) := by decide +kernel
theorem dX12_takes_9 : decode cX12_takes 9 = .ok (.ireturn, 1) := by decide +kernel
theorem dX12_takes_10 : decode cX12_takes 10 = .ok (.aload_n 0, 1) := by decide +kernel
theorem dX12_takes_11 : decode cX12_takes 11 = .ok (.dup, 1) := by decide +kernel
theorem dX12_takes_12 : decode cX12_takes 12 = .ok (.getfield 207, 3) := by decide +kernel
theorem dX12_takes_15 : decode cX12_takes 15 = .ok (.aload_n 1, 1) := by decide +kernel
theorem dX12_takes_16 : decode cX12_takes 16 = .ok (.arraylength, 1) := by decide +kernel
theorem dX12_takes_17 : decode cX12_takes 17 = .ok (.iadd, 1) := by decide +kernel
theorem dX12_takes_18 : decode cX12_takes 18 = .ok (.putfield 207, 3) := by decide +kernel
theorem dX12_takes_21 : decode cX12_takes 21 = .ok (.aload_n 0, 1) := by decide +kernel
theorem dX12_takes_22 : decode cX12_takes 22 = .ok (.aload_n 0, 1) := by decide +kernel
theorem dX12_takes_23 : decode cX12_takes 23 = .ok (.getfield 207, 3) := by decide +kernel
theorem dX12_takes_26 : decode cX12_takes 26 = .ok (.putfield 221, 3) := by decide +kernel
theorem dX12_takes_29 : decode cX12_takes 29 = .ok (.iconst 1, 1) := by decide +kernel
theorem dX12_takes_30 : decode cX12_takes 30 = .ok (.ireturn, 1) := by decide +kernel
theorem dX12_asks_0 : decode cX12_asks 0 = .ok (.aload_n 0, 1) := by decide +kernel
theorem dX12_asks_1 : decode cX12_asks 1 = .ok (.getfield 201, 3) := by decide +kernel
theorem dX12_asks_4 : decode cX12_asks 4 = .ok (.ifCond .ne 20, 3) := by decide +kernel
theorem dX12_asks_7 : decode cX12_asks 7 = .ok (.aload_n 0, 1) := by decide +kernel
theorem dX12_asks_8 : decode cX12_asks 8 = .ok (.aload_n 1, 1) := by decide +kernel
theorem dX12_asks_9 : decode cX12_asks 9 = .ok (.invokevirtual 228, 3) := by decide +kernel
theorem dX12_asks_12 : decode cX12_asks 12 = .ok (.ifCond .ne 12, 3) := by decide +kernel
theorem dX12_asks_15 : decode cX12_asks 15 = .ok (.aload_n 0, 1) := by decide +kernel
theorem dX12_asks_16 : decode cX12_asks 16 = .ok (.iconst 1, 1) := by decide +kernel
theorem dX12_asks_17 : decode cX12_asks 17 = .ok (.aload_n 0, 1) := by decide +kernel
theorem dX12_asks_18 : decode cX12_asks 18 = .ok (.getfield 207, 3) := by decide +kernel
theorem dX12_asks_21 : decode cX12_asks 21 = .ok (.invokevirtual 231, 3) := by decide +kernel
theorem dX12_asks_24 : decode cX12_asks 24 = .ok (.return_, 1) := by decide +kernel
theorem dX12_takesSign_0 : decode cX12_takesSign 0 = .ok (.aload_n 0, 1) := by decide +kernel
theorem dX12_takesSign_1 : decode cX12_takesSign 1 = .ok (.getfield 201, 3) := by decide +kernel
theorem dX12_takesSign_4 : decode cX12_takesSign 4 = .ok (.ifCond .ne 11, 3) := by decide +kernel
theorem dX12_takesSign_7 : decode cX12_takesSign 7 = .ok (.aload_n 0, 1) := by decide +kernel
theorem dX12_takesSign_8 : decode cX12_takesSign 8 = .ok (.invokevirtual 213, 3) := by decide +kernel
theorem dX12_takesSign_11 : decode cX12_takesSign 11 = .ok (.iload_n 1, 1) := by decide +kernel
theorem dX12_takesSign_12 : decode cX12_takesSign 12 = .ok (.if_icmp .eq 5, 3) := by decide +kernel
theorem dX12_takesSign_15 : decode cX12_takesSign 15 = .ok (.iconst 0, 1) := by decide +kernel
theorem dX12_takesSign_16 : decode cX12_takesSign 16 = .ok (.ireturn, 1) := by decide +kernel
theorem dX12_takesSign_17 : decode cX12_takesSign 17 = .ok (.aload_n 0, 1) := by decide +kernel
theorem dX12_takesSign_18 : decode cX12_takesSign 18 = .ok (.dup, 1) := by decide +kernel
theorem dX12_takesSign_19 : decode cX12_takesSign 19 = .ok (.getfield 207, 3) := by decide +kernel
theorem dX12_takesSign_22 : decode cX12_takesSign 22 = .ok (.iconst 1, 1) := by decide +kernel
theorem dX12_takesSign_23 : decode cX12_takesSign 23 = .ok (.iadd, 1) := by decide +kernel
theorem dX12_takesSign_24 : decode cX12_takesSign 24 = .ok (.putfield 207, 3) := by decide +kernel
theorem dX12_takesSign_27 : decode cX12_takesSign 27 = .ok (.iconst 1, 1) := by decide +kernel
theorem dX12_takesSign_28 : decode cX12_takesSign 28 = .ok (.ireturn, 1) := by decide +kernel
theorem dX12_asksSign_0 : decode cX12_asksSign 0 = .ok (.aload_n 0, 1) := by decide +kernel
theorem dX12_asksSign_1 : decode cX12_asksSign 1 = .ok (.getfield 201, 3) := by decide +kernel
theorem dX12_asksSign_4 : decode cX12_asksSign 4 = .ok (.ifCond .ne 20, 3) := by decide +kernel
theorem dX12_asksSign_7 : decode cX12_asksSign 7 = .ok (.aload_n 0, 1) := by decide +kernel
theorem dX12_asksSign_8 : decode cX12_asksSign 8 = .ok (.iload_n 1, 1) := by decide +kernel
theorem dX12_asksSign_9 : decode cX12_asksSign 9 = .ok (.invokevirtual 235, 3) := by decide +kernel
theorem dX12_asksSign_12 : decode cX12_asksSign 12 = .ok (.ifCond .ne 12, 3) := by decide +kernel
theorem dX12_asksSign_15 : decode cX12_asksSign 15 = .ok (.aload_n 0, 1) := by decide +kernel
theorem dX12_asksSign_16 : decode cX12_asksSign 16 = .ok (.iconst 1, 1) := by decide +kernel
theorem dX12_asksSign_17 : decode cX12_asksSign 17 = .ok (.aload_n 0, 1) := by decide +kernel
theorem dX12_asksSign_18 : decode cX12_asksSign 18 = .ok (.getfield 207, 3) := by decide +kernel
theorem dX12_asksSign_21 : decode cX12_asksSign 21 = .ok (.invokevirtual 231, 3) := by decide +kernel
theorem dX12_asksSign_24 : decode cX12_asksSign 24 = .ok (.return_, 1) := by decide +kernel
theorem dX12_number_0 : decode cX12_number 0 = .ok (.aload_n 0, 1) := by decide +kernel
theorem dX12_number_1 : decode cX12_number 1 = .ok (.getfield 201, 3) := by decide +kernel
theorem dX12_number_4 : decode cX12_number 4 = .ok (.ifCond .eq 5, 3) := by decide +kernel
theorem dX12_number_7 : decode cX12_number 7 = .ok (.iconst 0, 1) := by decide +kernel
theorem dX12_number_8 : decode cX12_number 8 = .ok (.ireturn, 1) := by decide +kernel
theorem dX12_number_9 : decode cX12_number 9 = .ok (.aload_n 0, 1) := by decide +kernel
theorem dX12_number_10 : decode cX12_number 10 = .ok (.invokevirtual 213, 3) := by decide +kernel
theorem dX12_number_13 : decode cX12_number 13 = .ok (.invokestatic 238, 3) := by decide +kernel
theorem dX12_number_16 : decode cX12_number 16 = .ok (.ifCond .eq 14, 3) := by decide +kernel
theorem dX12_number_19 : decode cX12_number 19 = .ok (.aload_n 0, 1) := by decide +kernel
theorem dX12_number_20 : decode cX12_number 20 = .ok (.getfield 207, 3) := by decide +kernel
theorem dX12_number_23 : decode cX12_number 23 = .ok (.aload_n 0, 1) := by decide +kernel
theorem dX12_number_24 : decode cX12_number 24 = .ok (.getfield 221, 3) := by decide +kernel
theorem dX12_number_27 : decode cX12_number 27 = .ok (.if_icmp .ne 14, 3) := by decide +kernel
theorem dX12_number_30 : decode cX12_number 30 = .ok (.aload_n 0, 1) := by decide +kernel
theorem dX12_number_31 : decode cX12_number 31 = .ok (.iconst 1, 1) := by decide +kernel
theorem dX12_number_32 : decode cX12_number 32 = .ok (.aload_n 0, 1) := by decide +kernel
theorem dX12_number_33 : decode cX12_number 33 = .ok (.getfield 207, 3) := by decide +kernel
theorem dX12_number_36 : decode cX12_number 36 = .ok (.invokevirtual 231, 3) := by decide +kernel
theorem dX12_number_39 : decode cX12_number 39 = .ok (.iconst 0, 1) := by decide +kernel
theorem dX12_number_40 : decode cX12_number 40 = .ok (.ireturn, 1) := by decide +kernel
theorem dX12_number_41 : decode cX12_number 41 = .ok (.aload_n 0, 1) := by decide +kernel
theorem dX12_number_42 : decode cX12_number 42 = .ok (.getfield 207, 3) := by decide +kernel
theorem dX12_number_45 : decode cX12_number 45 = .ok (.istore_n 3, 1) := by decide +kernel
theorem dX12_number_46 : decode cX12_number 46 = .ok (.iconst 0, 1) := by decide +kernel
theorem dX12_number_47 : decode cX12_number 47 = .ok (.istore 4, 2) := by decide +kernel
theorem dX12_number_49 : decode cX12_number 49 = .ok (.aload_n 0, 1) := by decide +kernel
theorem dX12_number_50 : decode cX12_number 50 = .ok (.getfield 207, 3) := by decide +kernel
theorem dX12_number_53 : decode cX12_number 53 = .ok (.aload_n 0, 1) := by decide +kernel
theorem dX12_number_54 : decode cX12_number 54 = .ok (.getfield 210, 3) := by decide +kernel
theorem dX12_number_57 : decode cX12_number 57 = .ok (.if_icmp .ge 72, 3) := by decide +kernel
theorem dX12_number_60 : decode cX12_number 60 = .ok (.aload_n 0, 1) := by decide +kernel
theorem dX12_number_61 : decode cX12_number 61 = .ok (.getfield 7, 3) := by decide +kernel
theorem dX12_number_64 : decode cX12_number 64 = .ok (.aload_n 0, 1) := by decide +kernel
theorem dX12_number_65 : decode cX12_number 65 = .ok (.getfield 207, 3) := by decide +kernel
theorem dX12_number_68 : decode cX12_number 68 = .ok (.iaload, 1) := by decide +kernel
theorem dX12_number_69 : decode cX12_number 69 = .ok (.invokestatic 238, 3) := by decide +kernel
theorem dX12_number_72 : decode cX12_number 72 = .ok (.ifCond .eq 57, 3) := by decide +kernel
theorem dX12_number_75 : decode cX12_number 75 = .ok (.aload_n 0, 1) := by decide +kernel
theorem dX12_number_76 : decode cX12_number 76 = .ok (.getfield 207, 3) := by decide +kernel
theorem dX12_number_79 : decode cX12_number 79 = .ok (.iload_n 3, 1) := by decide +kernel
theorem dX12_number_80 : decode cX12_number 80 = .ok (.isub, 1) := by decide +kernel
theorem dX12_number_81 : decode cX12_number 81 = .ok (.iconst 4, 1) := by decide +kernel
theorem dX12_number_82 : decode cX12_number 82 = .ok (.if_icmp .ne 14, 3) := by decide +kernel
theorem dX12_number_85 : decode cX12_number 85 = .ok (.aload_n 0, 1) := by decide +kernel
theorem dX12_number_86 : decode cX12_number 86 = .ok (.iconst 1, 1) := by decide +kernel
theorem dX12_number_87 : decode cX12_number 87 = .ok (.aload_n 0, 1) := by decide +kernel
theorem dX12_number_88 : decode cX12_number 88 = .ok (.getfield 207, 3) := by decide +kernel
theorem dX12_number_91 : decode cX12_number 91 = .ok (.invokevirtual 231, 3) := by decide +kernel
theorem dX12_number_94 : decode cX12_number 94 = .ok (.iconst 0, 1) := by decide +kernel
theorem dX12_number_95 : decode cX12_number 95 = .ok (.ireturn, 1) := by decide +kernel
theorem dX12_number_96 : decode cX12_number 96 = .ok (.bipush 10, 2) := by decide +kernel
theorem dX12_number_98 : decode cX12_number 98 = .ok (.iload 4, 2) := by decide +kernel
theorem dX12_number_100 : decode cX12_number 100 = .ok (.imul, 1) := by decide +kernel
theorem dX12_number_101 : decode cX12_number 101 = .ok (.aload_n 0, 1) := by decide +kernel
theorem dX12_number_102 : decode cX12_number 102 = .ok (.getfield 7, 3) := by decide +kernel
theorem dX12_number_105 : decode cX12_number 105 = .ok (.aload_n 0, 1) := by decide +kernel
theorem dX12_number_106 : decode cX12_number 106 = .ok (.getfield 207, 3) := by decide +kernel
theorem dX12_number_109 : decode cX12_number 109 = .ok (.iaload, 1) := by decide +kernel
theorem dX12_number_110 : decode cX12_number 110 = .ok (.iadd, 1) := by decide +kernel
theorem dX12_number_111 : decode cX12_number 111 = .ok (.bipush 48, 2) := by decide +kernel
theorem dX12_number_113 : decode cX12_number 113 = .ok (.isub, 1) := by decide +kernel
theorem dX12_number_114 : decode cX12_number 114 = .ok (.istore 4, 2) := by decide +kernel
theorem dX12_number_116 : decode cX12_number 116 = .ok (.aload_n 0, 1) := by decide +kernel
theorem dX12_number_117 : decode cX12_number 117 = .ok (.dup, 1) := by decide +kernel
theorem dX12_number_118 : decode cX12_number 118 = .ok (.getfield 207, 3) := by decide +kernel
theorem dX12_number_121 : decode cX12_number 121 = .ok (.iconst 1, 1) := by decide +kernel
theorem dX12_number_122 : decode cX12_number 122 = .ok (.iadd, 1) := by decide +kernel
theorem dX12_number_123 : decode cX12_number 123 = .ok (.putfield 207, 3) := by decide +kernel
theorem dX12_number_126 : decode cX12_number 126 = .ok (.goto (-77), 3) := by decide +kernel
theorem dX12_number_129 : decode cX12_number 129 = .ok (.aload_n 0, 1) := by decide +kernel
theorem dX12_number_130 : decode cX12_number 130 = .ok (.aload_n 0, 1) := by decide +kernel
theorem dX12_number_131 : decode cX12_number 131 = .ok (.getfield 207, 3) := by decide +kernel
theorem dX12_number_134 : decode cX12_number 134 = .ok (.putfield 221, 3) := by decide +kernel
theorem dX12_number_137 : decode cX12_number 137 = .ok (.aload_n 0, 1) := by decide +kernel
theorem dX12_number_138 : decode cX12_number 138 = .ok (.iload_n 3, 1) := by decide +kernel
theorem dX12_number_139 : decode cX12_number 139 = .ok (.putfield 241, 3) := by decide +kernel
theorem dX12_number_142 : decode cX12_number 142 = .ok (.iload 4, 2) := by decide +kernel
theorem dX12_number_144 : decode cX12_number 144 = .ok (.i2l, 1) := by decide +kernel
theorem dX12_number_145 : decode cX12_number 145 = .ok (.iload_n 1, 1) := by decide +kernel
theorem dX12_number_146 : decode cX12_number 146 = .ok (.i2l, 1) := by decide +kernel
theorem dX12_number_147 : decode cX12_number 147 = .ok (.iload_n 2, 1) := by decide +kernel
theorem dX12_number_148 : decode cX12_number 148 = .ok (.i2l, 1) := by decide +kernel
theorem dX12_number_149 : decode cX12_number 149 = .ok (.invokestatic 244, 3) := by decide +kernel
theorem dX12_number_152 : decode cX12_number 152 = .ok (.ifCond .ne 9, 3) := by decide +kernel
theorem dX12_number_155 : decode cX12_number 155 = .ok (.aload_n 0, 1) := by decide +kernel
theorem dX12_number_156 : decode cX12_number 156 = .ok (.iconst 2, 1) := by decide +kernel
theorem dX12_number_157 : decode cX12_number 157 = .ok (.iload_n 3, 1) := by decide +kernel
theorem dX12_number_158 : decode cX12_number 158 = .ok (.invokevirtual 231, 3) := by decide +kernel
theorem dX12_number_161 : decode cX12_number 161 = .ok (.iload 4, 2) := by decide +kernel
theorem dX12_number_163 : decode cX12_number 163 = .ok (.ireturn, 1) := by decide +kernel
theorem dX12_signed_0 : decode cX12_signed 0 = .ok (.aload_n 0, 1) := by decide +kernel
theorem dX12_signed_1 : decode cX12_signed 1 = .ok (.getfield 201, 3) := by decide +kernel
theorem dX12_signed_4 : decode cX12_signed 4 = .ok (.ifCond .eq 5, 3) := by decide +kernel
theorem dX12_signed_7 : decode cX12_signed 7 = .ok (.iconst 0, 1) := by decide +kernel
theorem dX12_signed_8 : decode cX12_signed 8 = .ok (.ireturn, 1) := by decide +kernel
theorem dX12_signed_9 : decode cX12_signed 9 = .ok (.aload_n 0, 1) := by decide +kernel
theorem dX12_signed_10 : decode cX12_signed 10 = .ok (.invokevirtual 213, 3) := by decide +kernel
theorem dX12_signed_13 : decode cX12_signed 13 = .ok (.bipush 45, 2) := by decide +kernel
theorem dX12_signed_15 : decode cX12_signed 15 = .ok (.if_icmp .ne 7, 3) := by decide +kernel
theorem dX12_signed_18 : decode cX12_signed 18 = .ok (.iconst 1, 1) := by decide +kernel
theorem dX12_signed_19 : decode cX12_signed 19 = .ok (.goto 4, 3) := by decide +kernel
theorem dX12_signed_22 : decode cX12_signed 22 = .ok (.iconst 0, 1) := by decide +kernel
theorem dX12_signed_23 : decode cX12_signed 23 = .ok (.istore_n 2, 1) := by decide +kernel
theorem dX12_signed_24 : decode cX12_signed 24 = .ok (.aload_n 0, 1) := by decide +kernel
theorem dX12_signed_25 : decode cX12_signed 25 = .ok (.getfield 207, 3) := by decide +kernel
theorem dX12_signed_28 : decode cX12_signed 28 = .ok (.istore_n 3, 1) := by decide +kernel
theorem dX12_signed_29 : decode cX12_signed 29 = .ok (.iload_n 2, 1) := by decide +kernel
theorem dX12_signed_30 : decode cX12_signed 30 = .ok (.ifCond .eq 13, 3) := by decide +kernel
theorem dX12_signed_33 : decode cX12_signed 33 = .ok (.aload_n 0, 1) := by decide +kernel
theorem dX12_signed_34 : decode cX12_signed 34 = .ok (.dup, 1) := by decide +kernel
theorem dX12_signed_35 : decode cX12_signed 35 = .ok (.getfield 207, 3) := by decide +kernel
theorem dX12_signed_38 : decode cX12_signed 38 = .ok (.iconst 1, 1) := by decide +kernel
theorem dX12_signed_39 : decode cX12_signed 39 = .ok (.iadd, 1) := by decide +kernel
theorem dX12_signed_40 : decode cX12_signed 40 = .ok (.putfield 207, 3) := by decide +kernel
theorem dX12_signed_43 : decode cX12_signed 43 = .ok (.aload_n 0, 1) := by decide +kernel
theorem dX12_signed_44 : decode cX12_signed 44 = .ok (.iconst 0, 1) := by decide +kernel
theorem dX12_signed_45 : decode cX12_signed 45 = .ok (.sipush 9999, 3) := by decide +kernel
theorem dX12_signed_48 : decode cX12_signed 48 = .ok (.invokevirtual 248, 3) := by decide +kernel
theorem dX12_signed_51 : decode cX12_signed 51 = .ok (.istore 4, 2) := by decide +kernel
theorem dX12_signed_53 : decode cX12_signed 53 = .ok (.aload_n 0, 1) := by decide +kernel
theorem dX12_signed_54 : decode cX12_signed 54 = .ok (.getfield 201, 3) := by decide +kernel
theorem dX12_signed_57 : decode cX12_signed 57 = .ok (.ifCond .ne 15, 3) := by decide +kernel
theorem dX12_signed_60 : decode cX12_signed 60 = .ok (.iload 4, 2) := by decide +kernel
theorem dX12_signed_62 : decode cX12_signed 62 = .ok (.iload_n 1, 1) := by decide +kernel
theorem dX12_signed_63 : decode cX12_signed 63 = .ok (.if_icmp .le 9, 3) := by decide +kernel
theorem dX12_signed_66 : decode cX12_signed 66 = .ok (.aload_n 0, 1) := by decide +kernel
theorem dX12_signed_67 : decode cX12_signed 67 = .ok (.iconst 2, 1) := by decide +kernel
theorem dX12_signed_68 : decode cX12_signed 68 = .ok (.iload_n 3, 1) := by decide +kernel
theorem dX12_signed_69 : decode cX12_signed 69 = .ok (.invokevirtual 231, 3) := by decide +kernel
theorem dX12_signed_72 : decode cX12_signed 72 = .ok (.iload_n 2, 1) := by decide +kernel
theorem dX12_signed_73 : decode cX12_signed 73 = .ok (.ifCond .eq 9, 3) := by decide +kernel
theorem dX12_signed_76 : decode cX12_signed 76 = .ok (.iload 4, 2) := by decide +kernel
theorem dX12_signed_78 : decode cX12_signed 78 = .ok (.ineg, 1) := by decide +kernel
theorem dX12_signed_79 : decode cX12_signed 79 = .ok (.goto 5, 3) := by decide +kernel
theorem dX12_signed_82 : decode cX12_signed 82 = .ok (.iload 4, 2) := by decide +kernel
theorem dX12_signed_84 : decode cX12_signed 84 = .ok (.ireturn, 1) := by decide +kernel
theorem dX12_isOwnHere_0 : decode cX12_isOwnHere 0 = .ok (.aload_n 0, 1) := by decide +kernel
theorem dX12_isOwnHere_1 : decode cX12_isOwnHere 1 = .ok (.aload_n 0, 1) := by decide +kernel
theorem dX12_isOwnHere_2 : decode cX12_isOwnHere 2 = .ok (.getfield 17, 3) := by decide +kernel
theorem dX12_isOwnHere_5 : decode cX12_isOwnHere 5 = .ok (.invokevirtual 224, 3) := by decide +kernel
theorem dX12_isOwnHere_8 : decode cX12_isOwnHere 8 = .ok (.ifCond .ne 58, 3) := by decide +kernel
theorem dX12_isOwnHere_11 : decode cX12_isOwnHere 11 = .ok (.aload_n 0, 1) := by decide +kernel
theorem dX12_isOwnHere_12 : decode cX12_isOwnHere 12 = .ok (.aload_n 0, 1) := by decide +kernel
theorem dX12_isOwnHere_13 : decode cX12_isOwnHere 13 = .ok (.getfield 21, 3) := by decide +kernel
theorem dX12_isOwnHere_16 : decode cX12_isOwnHere 16 = .ok (.invokevirtual 224, 3) := by decide +kernel
theorem dX12_isOwnHere_19 : decode cX12_isOwnHere 19 = .ok (.ifCond .ne 47, 3) := by decide +kernel
theorem dX12_isOwnHere_22 : decode cX12_isOwnHere 22 = .ok (.aload_n 0, 1) := by decide +kernel
theorem dX12_isOwnHere_23 : decode cX12_isOwnHere 23 = .ok (.aload_n 0, 1) := by decide +kernel
theorem dX12_isOwnHere_24 : decode cX12_isOwnHere 24 = .ok (.getfield 24, 3) := by decide +kernel
theorem dX12_isOwnHere_27 : decode cX12_isOwnHere 27 = .ok (.invokevirtual 224, 3) := by decide +kernel
theorem dX12_isOwnHere_30 : decode cX12_isOwnHere 30 = .ok (.ifCond .ne 36, 3) := by decide +kernel
theorem dX12_isOwnHere_33 : decode cX12_isOwnHere 33 = .ok (.aload_n 0, 1) := by decide +kernel
theorem dX12_isOwnHere_34 : decode cX12_isOwnHere 34 = .ok (.aload_n 0, 1) := by decide +kernel
theorem dX12_isOwnHere_35 : decode cX12_isOwnHere 35 = .ok (.getfield 27, 3) := by decide +kernel
theorem dX12_isOwnHere_38 : decode cX12_isOwnHere 38 = .ok (.invokevirtual 224, 3) := by decide +kernel
theorem dX12_isOwnHere_41 : decode cX12_isOwnHere 41 = .ok (.ifCond .ne 25, 3) := by decide +kernel
theorem dX12_isOwnHere_44 : decode cX12_isOwnHere 44 = .ok (.aload_n 0, 1) := by decide +kernel
theorem dX12_isOwnHere_45 : decode cX12_isOwnHere 45 = .ok (.aload_n 0, 1) := by decide +kernel
theorem dX12_isOwnHere_46 : decode cX12_isOwnHere 46 = .ok (.getfield 30, 3) := by decide +kernel
theorem dX12_isOwnHere_49 : decode cX12_isOwnHere 49 = .ok (.invokevirtual 224, 3) := by decide +kernel
theorem dX12_isOwnHere_52 : decode cX12_isOwnHere 52 = .ok (.ifCond .ne 14, 3) := by decide +kernel
theorem dX12_isOwnHere_55 : decode cX12_isOwnHere 55 = .ok (.aload_n 0, 1) := by decide +kernel
theorem dX12_isOwnHere_56 : decode cX12_isOwnHere 56 = .ok (.aload_n 0, 1) := by decide +kernel
theorem dX12_isOwnHere_57 : decode cX12_isOwnHere 57 = .ok (.getfield 33, 3) := by decide +kernel
theorem dX12_isOwnHere_60 : decode cX12_isOwnHere 60 = .ok (.invokevirtual 224, 3) := by decide +kernel
theorem dX12_isOwnHere_63 : decode cX12_isOwnHere 63 = .ok (.ifCond .eq 7, 3) := by decide +kernel
theorem dX12_isOwnHere_66 : decode cX12_isOwnHere 66 = .ok (.iconst 1, 1) := by decide +kernel
theorem dX12_isOwnHere_67 : decode cX12_isOwnHere 67 = .ok (.goto 4, 3) := by decide +kernel
theorem dX12_isOwnHere_70 : decode cX12_isOwnHere 70 = .ok (.iconst 0, 1) := by decide +kernel
theorem dX12_isOwnHere_71 : decode cX12_isOwnHere 71 = .ok (.istore_n 1, 1) := by decide +kernel
theorem dX12_isOwnHere_72 : decode cX12_isOwnHere 72 = .ok (.iload_n 1, 1) := by decide +kernel
theorem dX12_isOwnHere_73 : decode cX12_isOwnHere 73 = .ok (.ifCond .ne 69, 3) := by decide +kernel
theorem dX12_isOwnHere_76 : decode cX12_isOwnHere 76 = .ok (.aload_n 0, 1) := by decide +kernel
theorem dX12_isOwnHere_77 : decode cX12_isOwnHere 77 = .ok (.aload_n 0, 1) := by decide +kernel
theorem dX12_isOwnHere_78 : decode cX12_isOwnHere 78 = .ok (.getfield 36, 3) := by decide +kernel
theorem dX12_isOwnHere_81 : decode cX12_isOwnHere 81 = .ok (.invokevirtual 224, 3) := by decide +kernel
theorem dX12_isOwnHere_84 : decode cX12_isOwnHere 84 = .ok (.ifCond .ne 58, 3) := by decide +kernel
theorem dX12_isOwnHere_87 : decode cX12_isOwnHere 87 = .ok (.aload_n 0, 1) := by decide +kernel
theorem dX12_isOwnHere_88 : decode cX12_isOwnHere 88 = .ok (.aload_n 0, 1) := by decide +kernel
theorem dX12_isOwnHere_89 : decode cX12_isOwnHere 89 = .ok (.getfield 39, 3) := by decide +kernel
theorem dX12_isOwnHere_92 : decode cX12_isOwnHere 92 = .ok (.invokevirtual 224, 3) := by decide +kernel
theorem dX12_isOwnHere_95 : decode cX12_isOwnHere 95 = .ok (.ifCond .ne 47, 3) := by decide +kernel
theorem dX12_isOwnHere_98 : decode cX12_isOwnHere 98 = .ok (.aload_n 0, 1) := by decide +kernel
theorem dX12_isOwnHere_99 : decode cX12_isOwnHere 99 = .ok (.aload_n 0, 1) := by decide +kernel
theorem dX12_isOwnHere_100 : decode cX12_isOwnHere 100 = .ok (.getfield 42, 3) := by decide +kernel
theorem dX12_isOwnHere_103 : decode cX12_isOwnHere 103 = .ok (.invokevirtual 224, 3) := by decide +kernel
theorem dX12_isOwnHere_106 : decode cX12_isOwnHere 106 = .ok (.ifCond .ne 36, 3) := by decide +kernel
theorem dX12_isOwnHere_109 : decode cX12_isOwnHere 109 = .ok (.aload_n 0, 1) := by decide +kernel
theorem dX12_isOwnHere_110 : decode cX12_isOwnHere 110 = .ok (.aload_n 0, 1) := by decide +kernel
theorem dX12_isOwnHere_111 : decode cX12_isOwnHere 111 = .ok (.getfield 45, 3) := by decide +kernel
theorem dX12_isOwnHere_114 : decode cX12_isOwnHere 114 = .ok (.invokevirtual 224, 3) := by decide +kernel
theorem dX12_isOwnHere_117 : decode cX12_isOwnHere 117 = .ok (.ifCond .ne 25, 3) := by decide +kernel
theorem dX12_isOwnHere_120 : decode cX12_isOwnHere 120 = .ok (.aload_n 0, 1) := by decide +kernel
theorem dX12_isOwnHere_121 : decode cX12_isOwnHere 121 = .ok (.aload_n 0, 1) := by decide +kernel
theorem dX12_isOwnHere_122 : decode cX12_isOwnHere 122 = .ok (.getfield 48, 3) := by decide +kernel
theorem dX12_isOwnHere_125 : decode cX12_isOwnHere 125 = .ok (.invokevirtual 224, 3) := by decide +kernel
theorem dX12_isOwnHere_128 : decode cX12_isOwnHere 128 = .ok (.ifCond .ne 14, 3) := by decide +kernel
theorem dX12_isOwnHere_131 : decode cX12_isOwnHere 131 = .ok (.aload_n 0, 1) := by decide +kernel
theorem dX12_isOwnHere_132 : decode cX12_isOwnHere 132 = .ok (.aload_n 0, 1) := by decide +kernel
theorem dX12_isOwnHere_133 : decode cX12_isOwnHere 133 = .ok (.getfield 51, 3) := by decide +kernel
theorem dX12_isOwnHere_136 : decode cX12_isOwnHere 136 = .ok (.invokevirtual 224, 3) := by decide +kernel
theorem dX12_isOwnHere_139 : decode cX12_isOwnHere 139 = .ok (.ifCond .eq 7, 3) := by decide +kernel
theorem dX12_isOwnHere_142 : decode cX12_isOwnHere 142 = .ok (.iconst 1, 1) := by decide +kernel
theorem dX12_isOwnHere_143 : decode cX12_isOwnHere 143 = .ok (.goto 4, 3) := by decide +kernel
theorem dX12_isOwnHere_146 : decode cX12_isOwnHere 146 = .ok (.iconst 0, 1) := by decide +kernel
theorem dX12_isOwnHere_147 : decode cX12_isOwnHere 147 = .ok (.istore_n 1, 1) := by decide +kernel
theorem dX12_isOwnHere_148 : decode cX12_isOwnHere 148 = .ok (.iload_n 1, 1) := by decide +kernel
theorem dX12_isOwnHere_149 : decode cX12_isOwnHere 149 = .ok (.ifCond .ne 58, 3) := by decide +kernel
theorem dX12_isOwnHere_152 : decode cX12_isOwnHere 152 = .ok (.aload_n 0, 1) := by decide +kernel
theorem dX12_isOwnHere_153 : decode cX12_isOwnHere 153 = .ok (.aload_n 0, 1) := by decide +kernel
theorem dX12_isOwnHere_154 : decode cX12_isOwnHere 154 = .ok (.getfield 54, 3) := by decide +kernel
theorem dX12_isOwnHere_157 : decode cX12_isOwnHere 157 = .ok (.invokevirtual 224, 3) := by decide +kernel
theorem dX12_isOwnHere_160 : decode cX12_isOwnHere 160 = .ok (.ifCond .ne 47, 3) := by decide +kernel
theorem dX12_isOwnHere_163 : decode cX12_isOwnHere 163 = .ok (.aload_n 0, 1) := by decide +kernel
theorem dX12_isOwnHere_164 : decode cX12_isOwnHere 164 = .ok (.aload_n 0, 1) := by decide +kernel
theorem dX12_isOwnHere_165 : decode cX12_isOwnHere 165 = .ok (.getfield 57, 3) := by decide +kernel
theorem dX12_isOwnHere_168 : decode cX12_isOwnHere 168 = .ok (.invokevirtual 224, 3) := by decide +kernel
theorem dX12_isOwnHere_171 : decode cX12_isOwnHere 171 = .ok (.ifCond .ne 36, 3) := by decide +kernel
theorem dX12_isOwnHere_174 : decode cX12_isOwnHere 174 = .ok (.aload_n 0, 1) := by decide +kernel
theorem dX12_isOwnHere_175 : decode cX12_isOwnHere 175 = .ok (.aload_n 0, 1) := by decide +kernel
theorem dX12_isOwnHere_176 : decode cX12_isOwnHere 176 = .ok (.getfield 60, 3) := by decide +kernel
theorem dX12_isOwnHere_179 : decode cX12_isOwnHere 179 = .ok (.invokevirtual 224, 3) := by decide +kernel
theorem dX12_isOwnHere_182 : decode cX12_isOwnHere 182 = .ok (.ifCond .ne 25, 3) := by decide +kernel
theorem dX12_isOwnHere_185 : decode cX12_isOwnHere 185 = .ok (.aload_n 0, 1) := by decide +kernel
theorem dX12_isOwnHere_186 : decode cX12_isOwnHere 186 = .ok (.aload_n 0, 1) := by decide +kernel
theorem dX12_isOwnHere_187 : decode cX12_isOwnHere 187 = .ok (.getfield 63, 3) := by decide +kernel
theorem dX12_isOwnHere_190 : decode cX12_isOwnHere 190 = .ok (.invokevirtual 224, 3) := by decide +kernel
theorem dX12_isOwnHere_193 : decode cX12_isOwnHere 193 = .ok (.ifCond .ne 14, 3) := by decide +kernel
theorem dX12_isOwnHere_196 : decode cX12_isOwnHere 196 = .ok (.aload_n 0, 1) := by decide +kernel
theorem dX12_isOwnHere_197 : decode cX12_isOwnHere 197 = .ok (.aload_n 0, 1) := by decide +kernel
theorem dX12_isOwnHere_198 : decode cX12_isOwnHere 198 = .ok (.getfield 66, 3) := by decide +kernel
theorem dX12_isOwnHere_201 : decode cX12_isOwnHere 201 = .ok (.invokevirtual 224, 3) := by decide +kernel
theorem dX12_isOwnHere_204 : decode cX12_isOwnHere 204 = .ok (.ifCond .eq 7, 3) := by decide +kernel
theorem dX12_isOwnHere_207 : decode cX12_isOwnHere 207 = .ok (.iconst 1, 1) := by decide +kernel
theorem dX12_isOwnHere_208 : decode cX12_isOwnHere 208 = .ok (.goto 4, 3) := by decide +kernel
theorem dX12_isOwnHere_211 : decode cX12_isOwnHere 211 = .ok (.iconst 0, 1) := by decide +kernel
theorem dX12_isOwnHere_212 : decode cX12_isOwnHere 212 = .ok (.istore_n 1, 1) := by decide +kernel
theorem dX12_isOwnHere_213 : decode cX12_isOwnHere 213 = .ok (.iload_n 1, 1) := by decide +kernel
theorem dX12_isOwnHere_214 : decode cX12_isOwnHere 214 = .ok (.ireturn, 1) := by decide +kernel
theorem dX12_name_0 : decode cX12_name 0 = .ok (.aload_n 0, 1) := by decide +kernel
theorem dX12_name_1 : decode cX12_name 1 = .ok (.getfield 201, 3) := by decide +kernel
theorem dX12_name_4 : decode cX12_name 4 = .ok (.ifCond .eq 5, 3) := by decide +kernel
theorem dX12_name_7 : decode cX12_name 7 = .ok (.lconst 0, 1) := by decide +kernel
theorem dX12_name_8 : decode cX12_name 8 = .ok (.lreturn, 1) := by decide +kernel
theorem dX12_name_9 : decode cX12_name 9 = .ok (.aload_n 0, 1) := by decide +kernel
theorem dX12_name_10 : decode cX12_name 10 = .ok (.invokevirtual 213, 3) := by decide +kernel
theorem dX12_name_13 : decode cX12_name 13 = .ok (.invokestatic 217, 3) := by decide +kernel
theorem dX12_name_16 : decode cX12_name 16 = .ok (.ifCond .eq 21, 3) := by decide +kernel
theorem dX12_name_19 : decode cX12_name 19 = .ok (.aload_n 0, 1) := by decide +kernel
theorem dX12_name_20 : decode cX12_name 20 = .ok (.getfield 207, 3) := by decide +kernel
theorem dX12_name_23 : decode cX12_name 23 = .ok (.aload_n 0, 1) := by decide +kernel
theorem dX12_name_24 : decode cX12_name 24 = .ok (.getfield 221, 3) := by decide +kernel
theorem dX12_name_27 : decode cX12_name 27 = .ok (.if_icmp .eq 10, 3) := by decide +kernel
theorem dX12_name_30 : decode cX12_name 30 = .ok (.aload_n 0, 1) := by decide +kernel
theorem dX12_name_31 : decode cX12_name 31 = .ok (.invokevirtual 252, 3) := by decide +kernel
theorem dX12_name_34 : decode cX12_name 34 = .ok (.ifCond .eq 14, 3) := by decide +kernel
theorem dX12_name_37 : decode cX12_name 37 = .ok (.aload_n 0, 1) := by decide +kernel
theorem dX12_name_38 : decode cX12_name 38 = .ok (.iconst 1, 1) := by decide +kernel
theorem dX12_name_39 : decode cX12_name 39 = .ok (.aload_n 0, 1) := by decide +kernel
theorem dX12_name_40 : decode cX12_name 40 = .ok (.getfield 207, 3) := by decide +kernel
theorem dX12_name_43 : decode cX12_name 43 = .ok (.invokevirtual 231, 3) := by decide +kernel
theorem dX12_name_46 : decode cX12_name 46 = .ok (.lconst 0, 1) := by decide +kernel
theorem dX12_name_47 : decode cX12_name 47 = .ok (.lreturn, 1) := by decide +kernel
theorem dX12_name_48 : decode cX12_name 48 = .ok (.aload_n 0, 1) := by decide +kernel
theorem dX12_name_49 : decode cX12_name 49 = .ok (.aload_n 0, 1) := by decide +kernel
theorem dX12_name_50 : decode cX12_name 50 = .ok (.getfield 207, 3) := by decide +kernel
theorem dX12_name_53 : decode cX12_name 53 = .ok (.putfield 256, 3) := by decide +kernel
theorem dX12_name_56 : decode cX12_name 56 = .ok (.lconst 0, 1) := by decide +kernel
theorem dX12_name_57 : decode cX12_name 57 = .ok (.lstore_n 1, 1) := by decide +kernel
theorem dX12_name_58 : decode cX12_name 58 = .ok (.aload_n 0, 1) := by decide +kernel
theorem dX12_name_59 : decode cX12_name 59 = .ok (.getfield 207, 3) := by decide +kernel
theorem dX12_name_62 : decode cX12_name 62 = .ok (.aload_n 0, 1) := by decide +kernel
theorem dX12_name_63 : decode cX12_name 63 = .ok (.getfield 210, 3) := by decide +kernel
theorem dX12_name_66 : decode cX12_name 66 = .ok (.if_icmp .ge 79, 3) := by decide +kernel
theorem dX12_name_69 : decode cX12_name 69 = .ok (.aload_n 0, 1) := by decide +kernel
theorem dX12_name_70 : decode cX12_name 70 = .ok (.getfield 7, 3) := by decide +kernel
theorem dX12_name_73 : decode cX12_name 73 = .ok (.aload_n 0, 1) := by decide +kernel
theorem dX12_name_74 : decode cX12_name 74 = .ok (.getfield 207, 3) := by decide +kernel
theorem dX12_name_77 : decode cX12_name 77 = .ok (.iaload, 1) := by decide +kernel
theorem dX12_name_78 : decode cX12_name 78 = .ok (.invokestatic 217, 3) := by decide +kernel
theorem dX12_name_81 : decode cX12_name 81 = .ok (.ifCond .eq 64, 3) := by decide +kernel
theorem dX12_name_84 : decode cX12_name 84 = .ok (.aload_n 0, 1) := by decide +kernel
theorem dX12_name_85 : decode cX12_name 85 = .ok (.getfield 207, 3) := by decide +kernel
theorem dX12_name_88 : decode cX12_name 88 = .ok (.aload_n 0, 1) := by decide +kernel
theorem dX12_name_89 : decode cX12_name 89 = .ok (.getfield 256, 3) := by decide +kernel
theorem dX12_name_92 : decode cX12_name 92 = .ok (.isub, 1) := by decide +kernel
theorem dX12_name_93 : decode cX12_name 93 = .ok (.bipush 6, 2) := by decide +kernel
theorem dX12_name_95 : decode cX12_name 95 = .ok (.if_icmp .ne 14, 3) := by decide +kernel
theorem dX12_name_98 : decode cX12_name 98 = .ok (.aload_n 0, 1) := by decide +kernel
theorem dX12_name_99 : decode cX12_name 99 = .ok (.iconst 1, 1) := by decide +kernel
theorem dX12_name_100 : decode cX12_name 100 = .ok (.aload_n 0, 1) := by decide +kernel
theorem dX12_name_101 : decode cX12_name 101 = .ok (.getfield 207, 3) := by decide +kernel
theorem dX12_name_104 : decode cX12_name 104 = .ok (.invokevirtual 231, 3) := by decide +kernel
theorem dX12_name_107 : decode cX12_name 107 = .ok (.lconst 0, 1) := by decide +kernel
theorem dX12_name_108 : decode cX12_name 108 = .ok (.lreturn, 1) := by decide +kernel
theorem dX12_name_109 : decode cX12_name 109 = .ok (.ldc2_w 259, 3) := by decide +kernel
theorem dX12_name_112 : decode cX12_name 112 = .ok (.lload_n 1, 1) := by decide +kernel
theorem dX12_name_113 : decode cX12_name 113 = .ok (.lmul, 1) := by decide +kernel
theorem dX12_name_114 : decode cX12_name 114 = .ok (.aload_n 0, 1) := by decide +kernel
theorem dX12_name_115 : decode cX12_name 115 = .ok (.getfield 7, 3) := by decide +kernel
theorem dX12_name_118 : decode cX12_name 118 = .ok (.aload_n 0, 1) := by decide +kernel
theorem dX12_name_119 : decode cX12_name 119 = .ok (.getfield 207, 3) := by decide +kernel
theorem dX12_name_122 : decode cX12_name 122 = .ok (.iaload, 1) := by decide +kernel
theorem dX12_name_123 : decode cX12_name 123 = .ok (.i2l, 1) := by decide +kernel
theorem dX12_name_124 : decode cX12_name 124 = .ok (.ladd, 1) := by decide +kernel
theorem dX12_name_125 : decode cX12_name 125 = .ok (.ldc2_w 261, 3) := by decide +kernel
theorem dX12_name_128 : decode cX12_name 128 = .ok (.lsub, 1) := by decide +kernel
theorem dX12_name_129 : decode cX12_name 129 = .ok (.lconst 1, 1) := by decide +kernel
theorem dX12_name_130 : decode cX12_name 130 = .ok (.ladd, 1) := by decide +kernel
theorem dX12_name_131 : decode cX12_name 131 = .ok (.lstore_n 1, 1) := by decide +kernel
theorem dX12_name_132 : decode cX12_name 132 = .ok (.aload_n 0, 1) := by decide +kernel
theorem dX12_name_133 : decode cX12_name 133 = .ok (.dup, 1) := by decide +kernel
theorem dX12_name_134 : decode cX12_name 134 = .ok (.getfield 207, 3) := by decide +kernel
theorem dX12_name_137 : decode cX12_name 137 = .ok (.iconst 1, 1) := by decide +kernel
theorem dX12_name_138 : decode cX12_name 138 = .ok (.iadd, 1) := by decide +kernel
theorem dX12_name_139 : decode cX12_name 139 = .ok (.putfield 207, 3) := by decide +kernel
theorem dX12_name_142 : decode cX12_name 142 = .ok (.goto (-84), 3) := by decide +kernel
theorem dX12_name_145 : decode cX12_name 145 = .ok (.aload_n 0, 1) := by decide +kernel
theorem dX12_name_146 : decode cX12_name 146 = .ok (.aload_n 0, 1) := by decide +kernel
theorem dX12_name_147 : decode cX12_name 147 = .ok (.getfield 207, 3) := by decide +kernel
theorem dX12_name_150 : decode cX12_name 150 = .ok (.putfield 221, 3) := by decide +kernel
theorem dX12_name_153 : decode cX12_name 153 = .ok (.lload_n 1, 1) := by decide +kernel
theorem dX12_name_154 : decode cX12_name 154 = .ok (.lreturn, 1) := by decide +kernel
theorem dX12_isFull_0 : decode cX12_isFull 0 = .ok (.aload_n 0, 1) := by decide +kernel
theorem dX12_isFull_1 : decode cX12_isFull 1 = .ok (.getfield 201, 3) := by decide +kernel
theorem dX12_isFull_4 : decode cX12_isFull 4 = .ok (.ifCond .ne 19, 3) := by decide +kernel
theorem dX12_isFull_7 : decode cX12_isFull 7 = .ok (.aload_n 0, 1) := by decide +kernel
theorem dX12_isFull_8 : decode cX12_isFull 8 = .ok (.getfield 69, 3) := by decide +kernel
theorem dX12_isFull_11 : decode cX12_isFull 11 = .ok (.iload_n 1, 1) := by decide +kernel
theorem dX12_isFull_12 : decode cX12_isFull 12 = .ok (.iaload, 1) := by decide +kernel
theorem dX12_isFull_13 : decode cX12_isFull 13 = .ok (.iload_n 2, 1) := by decide +kernel
theorem dX12_isFull_14 : decode cX12_isFull 14 = .ok (.if_icmp .ne 9, 3) := by decide +kernel
theorem dX12_isFull_17 : decode cX12_isFull 17 = .ok (.aload_n 0, 1) := by decide +kernel
theorem dX12_isFull_18 : decode cX12_isFull 18 = .ok (.iconst 5, 1) := by decide +kernel
theorem dX12_isFull_19 : decode cX12_isFull 19 = .ok (.iload_n 3, 1) := by decide +kernel
theorem dX12_isFull_20 : decode cX12_isFull 20 = .ok (.invokevirtual 231, 3) := by decide +kernel
theorem dX12_isFull_23 : decode cX12_isFull 23 = .ok (.aload_n 0, 1) := by decide +kernel
theorem dX12_isFull_24 : decode cX12_isFull 24 = .ok (.getfield 201, 3) := by decide +kernel
theorem dX12_isFull_27 : decode cX12_isFull 27 = .ok (.ifCond .eq 7, 3) := by decide +kernel
theorem dX12_isFull_30 : decode cX12_isFull 30 = .ok (.iconst 1, 1) := by decide +kernel
theorem dX12_isFull_31 : decode cX12_isFull 31 = .ok (.goto 4, 3) := by decide +kernel
theorem dX12_isFull_34 : decode cX12_isFull 34 = .ok (.iconst 0, 1) := by decide +kernel
theorem dX12_isFull_35 : decode cX12_isFull 35 = .ok (.ireturn, 1) := by decide +kernel
theorem dX12_newName_0 : decode cX12_newName 0 = .ok (.aload_n 0, 1) := by decide +kernel
theorem dX12_newName_1 : decode cX12_newName 1 = .ok (.invokevirtual 263, 3) := by decide +kernel
theorem dX12_newName_4 : decode cX12_newName 4 = .ok (.lstore_n 1, 1) := by decide +kernel
theorem dX12_newName_5 : decode cX12_newName 5 = .ok (.iconst 0, 1) := by decide +kernel
theorem dX12_newName_6 : decode cX12_newName 6 = .ok (.istore_n 3, 1) := by decide +kernel
theorem dX12_newName_7 : decode cX12_newName 7 = .ok (.iload_n 3, 1) := by decide +kernel
theorem dX12_newName_8 : decode cX12_newName 8 = .ok (.aload_n 0, 1) := by decide +kernel
theorem dX12_newName_9 : decode cX12_newName 9 = .ok (.getfield 69, 3) := by decide +kernel
theorem dX12_newName_12 : decode cX12_newName 12 = .ok (.iconst 0, 1) := by decide +kernel
theorem dX12_newName_13 : decode cX12_newName 13 = .ok (.iaload, 1) := by decide +kernel
theorem dX12_newName_14 : decode cX12_newName 14 = .ok (.if_icmp .ge 36, 3) := by decide +kernel
theorem dX12_newName_17 : decode cX12_newName 17 = .ok (.aload_n 0, 1) := by decide +kernel
theorem dX12_newName_18 : decode cX12_newName 18 = .ok (.getfield 201, 3) := by decide +kernel
theorem dX12_newName_21 : decode cX12_newName 21 = .ok (.ifCond .ne 23, 3) := by decide +kernel
theorem dX12_newName_24 : decode cX12_newName 24 = .ok (.aload_n 0, 1) := by decide +kernel
theorem dX12_newName_25 : decode cX12_newName 25 = .ok (.getfield 72, 3) := by decide +kernel
theorem dX12_newName_28 : decode cX12_newName 28 = .ok (.iload_n 3, 1) := by decide +kernel
theorem dX12_newName_29 : decode cX12_newName 29 = .ok (.laload, 1) := by decide +kernel
theorem dX12_newName_30 : decode cX12_newName 30 = .ok (.lload_n 1, 1) := by decide +kernel
theorem dX12_newName_31 : decode cX12_newName 31 = .ok (.lcmp, 1) := by decide +kernel
theorem dX12_newName_32 : decode cX12_newName 32 = .ok (.ifCond .ne 12, 3) := by decide +kernel
theorem dX12_newName_35 : decode cX12_newName 35 = .ok (.aload_n 0, 1) := by decide +kernel
theorem dX12_newName_36 : decode cX12_newName 36 = .ok (.iconst 3, 1) := by decide +kernel
theorem dX12_newName_37 : decode cX12_newName 37 = .ok (.aload_n 0, 1) := by decide +kernel
theorem dX12_newName_38 : decode cX12_newName 38 = .ok (.getfield 256, 3) := by decide +kernel
theorem dX12_newName_41 : decode cX12_newName 41 = .ok (.invokevirtual 231, 3) := by decide +kernel
theorem dX12_newName_44 : decode cX12_newName 44 = .ok (.iinc 3 1, 3) := by decide +kernel
theorem dX12_newName_47 : decode cX12_newName 47 = .ok (.goto (-40), 3) := by decide +kernel
theorem dX12_newName_50 : decode cX12_newName 50 = .ok (.iconst 0, 1) := by decide +kernel
theorem dX12_newName_51 : decode cX12_newName 51 = .ok (.istore_n 3, 1) := by decide +kernel
theorem dX12_newName_52 : decode cX12_newName 52 = .ok (.iload_n 3, 1) := by decide +kernel
theorem dX12_newName_53 : decode cX12_newName 53 = .ok (.aload_n 0, 1) := by decide +kernel
theorem dX12_newName_54 : decode cX12_newName 54 = .ok (.getfield 69, 3) := by decide +kernel
theorem dX12_newName_57 : decode cX12_newName 57 = .ok (.iconst 1, 1) := by decide +kernel
theorem dX12_newName_58 : decode cX12_newName 58 = .ok (.iaload, 1) := by decide +kernel
theorem dX12_newName_59 : decode cX12_newName 59 = .ok (.if_icmp .ge 39, 3) := by decide +kernel
theorem dX12_newName_62 : decode cX12_newName 62 = .ok (.aload_n 0, 1) := by decide +kernel
theorem dX12_newName_63 : decode cX12_newName 63 = .ok (.getfield 201, 3) := by decide +kernel
theorem dX12_newName_66 : decode cX12_newName 66 = .ok (.ifCond .ne 26, 3) := by decide +kernel
theorem dX12_newName_69 : decode cX12_newName 69 = .ok (.aload_n 0, 1) := by decide +kernel
theorem dX12_newName_70 : decode cX12_newName 70 = .ok (.getfield 72, 3) := by decide +kernel
theorem dX12_newName_73 : decode cX12_newName 73 = .ok (.bipush 10, 2) := by decide +kernel
theorem dX12_newName_75 : decode cX12_newName 75 = .ok (.iload_n 3, 1) := by decide +kernel
theorem dX12_newName_76 : decode cX12_newName 76 = .ok (.iadd, 1) := by decide +kernel
theorem dX12_newName_77 : decode cX12_newName 77 = .ok (.laload, 1) := by decide +kernel
theorem dX12_newName_78 : decode cX12_newName 78 = .ok (.lload_n 1, 1) := by decide +kernel
theorem dX12_newName_79 : decode cX12_newName 79 = .ok (.lcmp, 1) := by decide +kernel
theorem dX12_newName_80 : decode cX12_newName 80 = .ok (.ifCond .ne 12, 3) := by decide +kernel
theorem dX12_newName_83 : decode cX12_newName 83 = .ok (.aload_n 0, 1) := by decide +kernel
theorem dX12_newName_84 : decode cX12_newName 84 = .ok (.iconst 3, 1) := by decide +kernel
theorem dX12_newName_85 : decode cX12_newName 85 = .ok (.aload_n 0, 1) := by decide +kernel
theorem dX12_newName_86 : decode cX12_newName 86 = .ok (.getfield 256, 3) := by decide +kernel
theorem dX12_newName_89 : decode cX12_newName 89 = .ok (.invokevirtual 231, 3) := by decide +kernel
theorem dX12_newName_92 : decode cX12_newName 92 = .ok (.iinc 3 1, 3) := by decide +kernel
theorem dX12_newName_95 : decode cX12_newName 95 = .ok (.goto (-43), 3) := by decide +kernel
theorem dX12_newName_98 : decode cX12_newName 98 = .ok (.lload_n 1, 1) := by decide +kernel
theorem dX12_newName_99 : decode cX12_newName 99 = .ok (.lreturn, 1) := by decide +kernel
theorem dX12_cellTold_0 : decode cX12_cellTold 0 = .ok (.aload_n 0, 1) := by decide +kernel
theorem dX12_cellTold_1 : decode cX12_cellTold 1 = .ok (.iconst 0, 1) := by decide +kernel
theorem dX12_cellTold_2 : decode cX12_cellTold 2 = .ok (.aload_n 0, 1) := by decide +kernel
theorem dX12_cellTold_3 : decode cX12_cellTold 3 = .ok (.getfield 267, 3) := by decide +kernel
theorem dX12_cellTold_6 : decode cX12_cellTold 6 = .ok (.iconst 1, 1) := by decide +kernel
theorem dX12_cellTold_7 : decode cX12_cellTold 7 = .ok (.isub, 1) := by decide +kernel
theorem dX12_cellTold_8 : decode cX12_cellTold 8 = .ok (.invokevirtual 248, 3) := by decide +kernel
theorem dX12_cellTold_11 : decode cX12_cellTold 11 = .ok (.istore_n 1, 1) := by decide +kernel
theorem dX12_cellTold_12 : decode cX12_cellTold 12 = .ok (.aload_n 0, 1) := by decide +kernel
theorem dX12_cellTold_13 : decode cX12_cellTold 13 = .ok (.iconst 0, 1) := by decide +kernel
theorem dX12_cellTold_14 : decode cX12_cellTold 14 = .ok (.aload_n 0, 1) := by decide +kernel
theorem dX12_cellTold_15 : decode cX12_cellTold 15 = .ok (.getfield 270, 3) := by decide +kernel
theorem dX12_cellTold_18 : decode cX12_cellTold 18 = .ok (.iconst 1, 1) := by decide +kernel
theorem dX12_cellTold_19 : decode cX12_cellTold 19 = .ok (.isub, 1) := by decide +kernel
theorem dX12_cellTold_20 : decode cX12_cellTold 20 = .ok (.invokevirtual 248, 3) := by decide +kernel
theorem dX12_cellTold_23 : decode cX12_cellTold 23 = .ok (.istore_n 2, 1) := by decide +kernel
theorem dX12_cellTold_24 : decode cX12_cellTold 24 = .ok (.aload_n 0, 1) := by decide +kernel
theorem dX12_cellTold_25 : decode cX12_cellTold 25 = .ok (.getfield 201, 3) := by decide +kernel
theorem dX12_cellTold_28 : decode cX12_cellTold 28 = .ok (.ifCond .ne 14, 3) := by decide +kernel
theorem dX12_cellTold_31 : decode cX12_cellTold 31 = .ok (.aload_n 0, 1) := by decide +kernel
theorem dX12_cellTold_32 : decode cX12_cellTold 32 = .ok (.getfield 267, 3) := by decide +kernel
theorem dX12_cellTold_35 : decode cX12_cellTold 35 = .ok (.iload_n 2, 1) := by decide +kernel
theorem dX12_cellTold_36 : decode cX12_cellTold 36 = .ok (.imul, 1) := by decide +kernel
theorem dX12_cellTold_37 : decode cX12_cellTold 37 = .ok (.iload_n 1, 1) := by decide +kernel
theorem dX12_cellTold_38 : decode cX12_cellTold 38 = .ok (.iadd, 1) := by decide +kernel
theorem dX12_cellTold_39 : decode cX12_cellTold 39 = .ok (.goto 4, 3) := by decide +kernel
theorem dX12_cellTold_42 : decode cX12_cellTold 42 = .ok (.iconst 0, 1) := by decide +kernel
theorem dX12_cellTold_43 : decode cX12_cellTold 43 = .ok (.ireturn, 1) := by decide +kernel
theorem dX12_doorAt_0 : decode cX12_doorAt 0 = .ok (.iconst 0, 1) := by decide +kernel
theorem dX12_doorAt_1 : decode cX12_doorAt 1 = .ok (.istore_n 2, 1) := by decide +kernel
theorem dX12_doorAt_2 : decode cX12_doorAt 2 = .ok (.iload_n 2, 1) := by decide +kernel
theorem dX12_doorAt_3 : decode cX12_doorAt 3 = .ok (.aload_n 0, 1) := by decide +kernel
theorem dX12_doorAt_4 : decode cX12_doorAt 4 = .ok (.getfield 69, 3) := by decide +kernel
theorem dX12_doorAt_7 : decode cX12_doorAt 7 = .ok (.iconst 2, 1) := by decide +kernel
theorem dX12_doorAt_8 : decode cX12_doorAt 8 = .ok (.iaload, 1) := by decide +kernel
theorem dX12_doorAt_9 : decode cX12_doorAt 9 = .ok (.if_icmp .ge 21, 3) := by decide +kernel
theorem dX12_doorAt_12 : decode cX12_doorAt 12 = .ok (.aload_n 0, 1) := by decide +kernel
theorem dX12_doorAt_13 : decode cX12_doorAt 13 = .ok (.getfield 86, 3) := by decide +kernel
theorem dX12_doorAt_16 : decode cX12_doorAt 16 = .ok (.iload_n 2, 1) := by decide +kernel
theorem dX12_doorAt_17 : decode cX12_doorAt 17 = .ok (.iaload, 1) := by decide +kernel
theorem dX12_doorAt_18 : decode cX12_doorAt 18 = .ok (.iload_n 1, 1) := by decide +kernel
theorem dX12_doorAt_19 : decode cX12_doorAt 19 = .ok (.if_icmp .ne 5, 3) := by decide +kernel
theorem dX12_doorAt_22 : decode cX12_doorAt 22 = .ok (.iload_n 2, 1) := by decide +kernel
theorem dX12_doorAt_23 : decode cX12_doorAt 23 = .ok (.ireturn, 1) := by decide +kernel
theorem dX12_doorAt_24 : decode cX12_doorAt 24 = .ok (.iinc 2 1, 3) := by decide +kernel
theorem dX12_doorAt_27 : decode cX12_doorAt 27 = .ok (.goto (-25), 3) := by decide +kernel
theorem dX12_doorAt_30 : decode cX12_doorAt 30 = .ok (.iconst (-1), 1) := by decide +kernel
theorem dX12_doorAt_31 : decode cX12_doorAt 31 = .ok (.ireturn, 1) := by decide +kernel
theorem dX12_isSomebody_0 : decode cX12_isSomebody 0 = .ok (.iconst 0, 1) := by decide +kernel
theorem dX12_isSomebody_1 : decode cX12_isSomebody 1 = .ok (.istore_n 2, 1) := by decide +kernel
theorem dX12_isSomebody_2 : decode cX12_isSomebody 2 = .ok (.iload_n 2, 1) := by decide +kernel
theorem dX12_isSomebody_3 : decode cX12_isSomebody 3 = .ok (.aload_n 0, 1) := by decide +kernel
theorem dX12_isSomebody_4 : decode cX12_isSomebody 4 = .ok (.getfield 69, 3) := by decide +kernel
theorem dX12_isSomebody_7 : decode cX12_isSomebody 7 = .ok (.iconst 0, 1) := by decide +kernel
theorem dX12_isSomebody_8 : decode cX12_isSomebody 8 = .ok (.iaload, 1) := by decide +kernel
theorem dX12_isSomebody_9 : decode cX12_isSomebody 9 = .ok (.if_icmp .ge 26, 3) := by decide +kernel
theorem dX12_isSomebody_12 : decode cX12_isSomebody 12 = .ok (.aload_n 0, 1) := by decide +kernel
theorem dX12_isSomebody_13 : decode cX12_isSomebody 13 = .ok (.getfield 80, 3) := by decide +kernel
theorem dX12_isSomebody_16 : decode cX12_isSomebody 16 = .ok (.bipush 18, 2) := by decide +kernel
theorem dX12_isSomebody_18 : decode cX12_isSomebody 18 = .ok (.iload_n 2, 1) := by decide +kernel
theorem dX12_isSomebody_19 : decode cX12_isSomebody 19 = .ok (.imul, 1) := by decide +kernel
theorem dX12_isSomebody_20 : decode cX12_isSomebody 20 = .ok (.iconst 0, 1) := by decide +kernel
theorem dX12_isSomebody_21 : decode cX12_isSomebody 21 = .ok (.iadd, 1) := by decide +kernel
theorem dX12_isSomebody_22 : decode cX12_isSomebody 22 = .ok (.iaload, 1) := by decide +kernel
theorem dX12_isSomebody_23 : decode cX12_isSomebody 23 = .ok (.iload_n 1, 1) := by decide +kernel
theorem dX12_isSomebody_24 : decode cX12_isSomebody 24 = .ok (.if_icmp .ne 5, 3) := by decide +kernel
theorem dX12_isSomebody_27 : decode cX12_isSomebody 27 = .ok (.iconst 1, 1) := by decide +kernel
theorem dX12_isSomebody_28 : decode cX12_isSomebody 28 = .ok (.ireturn, 1) := by decide +kernel
theorem dX12_isSomebody_29 : decode cX12_isSomebody 29 = .ok (.iinc 2 1, 3) := by decide +kernel
theorem dX12_isSomebody_32 : decode cX12_isSomebody 32 = .ok (.goto (-30), 3) := by decide +kernel
theorem dX12_isSomebody_35 : decode cX12_isSomebody 35 = .ok (.iconst 0, 1) := by decide +kernel
theorem dX12_isSomebody_36 : decode cX12_isSomebody 36 = .ok (.istore_n 2, 1) := by decide +kernel
theorem dX12_isSomebody_37 : decode cX12_isSomebody 37 = .ok (.iload_n 2, 1) := by decide +kernel
theorem dX12_isSomebody_38 : decode cX12_isSomebody 38 = .ok (.aload_n 0, 1) := by decide +kernel
theorem dX12_isSomebody_39 : decode cX12_isSomebody 39 = .ok (.getfield 69, 3) := by decide +kernel
theorem dX12_isSomebody_42 : decode cX12_isSomebody 42 = .ok (.iconst 1, 1) := by decide +kernel
theorem dX12_isSomebody_43 : decode cX12_isSomebody 43 = .ok (.iaload, 1) := by decide +kernel
theorem dX12_isSomebody_44 : decode cX12_isSomebody 44 = .ok (.if_icmp .ge 23, 3) := by decide +kernel
theorem dX12_isSomebody_47 : decode cX12_isSomebody 47 = .ok (.aload_n 0, 1) := by decide +kernel
theorem dX12_isSomebody_48 : decode cX12_isSomebody 48 = .ok (.getfield 83, 3) := by decide +kernel
theorem dX12_isSomebody_51 : decode cX12_isSomebody 51 = .ok (.iconst 3, 1) := by decide +kernel
theorem dX12_isSomebody_52 : decode cX12_isSomebody 52 = .ok (.iload_n 2, 1) := by decide +kernel
theorem dX12_isSomebody_53 : decode cX12_isSomebody 53 = .ok (.imul, 1) := by decide +kernel
theorem dX12_isSomebody_54 : decode cX12_isSomebody 54 = .ok (.iaload, 1) := by decide +kernel
theorem dX12_isSomebody_55 : decode cX12_isSomebody 55 = .ok (.iload_n 1, 1) := by decide +kernel
theorem dX12_isSomebody_56 : decode cX12_isSomebody 56 = .ok (.if_icmp .ne 5, 3) := by decide +kernel
theorem dX12_isSomebody_59 : decode cX12_isSomebody 59 = .ok (.iconst 1, 1) := by decide +kernel
theorem dX12_isSomebody_60 : decode cX12_isSomebody 60 = .ok (.ireturn, 1) := by decide +kernel
theorem dX12_isSomebody_61 : decode cX12_isSomebody 61 = .ok (.iinc 2 1, 3) := by decide +kernel
theorem dX12_isSomebody_64 : decode cX12_isSomebody 64 = .ok (.goto (-27), 3) := by decide +kernel
theorem dX12_isSomebody_67 : decode cX12_isSomebody 67 = .ok (.iconst 0, 1) := by decide +kernel
theorem dX12_isSomebody_68 : decode cX12_isSomebody 68 = .ok (.ireturn, 1) := by decide +kernel
theorem dX12_wallTold_0 : decode cX12_wallTold 0 = .ok (.aload_n 0, 1) := by decide +kernel
theorem dX12_wallTold_1 : decode cX12_wallTold 1 = .ok (.getfield 201, 3) := by decide +kernel
theorem dX12_wallTold_4 : decode cX12_wallTold 4 = .ok (.ifCond .ne 18, 3) := by decide +kernel
theorem dX12_wallTold_7 : decode cX12_wallTold 7 = .ok (.aload_n 0, 1) := by decide +kernel
theorem dX12_wallTold_8 : decode cX12_wallTold 8 = .ok (.getfield 273, 3) := by decide +kernel
theorem dX12_wallTold_11 : decode cX12_wallTold 11 = .ok (.bipush 15, 2) := by decide +kernel
theorem dX12_wallTold_13 : decode cX12_wallTold 13 = .ok (.if_icmp .ne 9, 3) := by decide +kernel
theorem dX12_wallTold_16 : decode cX12_wallTold 16 = .ok (.aload_n 0, 1) := by decide +kernel
theorem dX12_wallTold_17 : decode cX12_wallTold 17 = .ok (.iconst 5, 1) := by decide +kernel
theorem dX12_wallTold_18 : decode cX12_wallTold 18 = .ok (.iload_n 1, 1) := by decide +kernel
theorem dX12_wallTold_19 : decode cX12_wallTold 19 = .ok (.invokevirtual 231, 3) := by decide +kernel
theorem dX12_wallTold_22 : decode cX12_wallTold 22 = .ok (.aload_n 0, 1) := by decide +kernel
theorem dX12_wallTold_23 : decode cX12_wallTold 23 = .ok (.invokevirtual 276, 3) := by decide +kernel
theorem dX12_wallTold_26 : decode cX12_wallTold 26 = .ok (.istore_n 2, 1) := by decide +kernel
theorem dX12_wallTold_27 : decode cX12_wallTold 27 = .ok (.aload_n 0, 1) := by decide +kernel
theorem dX12_wallTold_28 : decode cX12_wallTold 28 = .ok (.getfield 201, 3) := by decide +kernel
theorem dX12_wallTold_31 : decode cX12_wallTold 31 = .ok (.ifCond .ne 29, 3) := by decide +kernel
theorem dX12_wallTold_34 : decode cX12_wallTold 34 = .ok (.aload_n 0, 1) := by decide +kernel
theorem dX12_wallTold_35 : decode cX12_wallTold 35 = .ok (.iload_n 2, 1) := by decide +kernel
theorem dX12_wallTold_36 : decode cX12_wallTold 36 = .ok (.invokevirtual 279, 3) := by decide +kernel
theorem dX12_wallTold_39 : decode cX12_wallTold 39 = .ok (.iconst (-1), 1) := by decide +kernel
theorem dX12_wallTold_40 : decode cX12_wallTold 40 = .ok (.if_icmp .ne 11, 3) := by decide +kernel
theorem dX12_wallTold_43 : decode cX12_wallTold 43 = .ok (.aload_n 0, 1) := by decide +kernel
theorem dX12_wallTold_44 : decode cX12_wallTold 44 = .ok (.iload_n 2, 1) := by decide +kernel
theorem dX12_wallTold_45 : decode cX12_wallTold 45 = .ok (.invokevirtual 283, 3) := by decide +kernel
theorem dX12_wallTold_48 : decode cX12_wallTold 48 = .ok (.ifCond .eq 12, 3) := by decide +kernel
theorem dX12_wallTold_51 : decode cX12_wallTold 51 = .ok (.aload_n 0, 1) := by decide +kernel
theorem dX12_wallTold_52 : decode cX12_wallTold 52 = .ok (.iconst 2, 1) := by decide +kernel
theorem dX12_wallTold_53 : decode cX12_wallTold 53 = .ok (.aload_n 0, 1) := by decide +kernel
theorem dX12_wallTold_54 : decode cX12_wallTold 54 = .ok (.getfield 241, 3) := by decide +kernel
theorem dX12_wallTold_57 : decode cX12_wallTold 57 = .ok (.invokevirtual 231, 3) := by decide +kernel
theorem dX12_wallTold_60 : decode cX12_wallTold 60 = .ok (.aload_n 0, 1) := by decide +kernel
theorem dX12_wallTold_61 : decode cX12_wallTold 61 = .ok (.getfield 201, 3) := by decide +kernel
theorem dX12_wallTold_64 : decode cX12_wallTold 64 = .ok (.ifCond .eq 4, 3) := by decide +kernel
theorem dX12_wallTold_67 : decode cX12_wallTold 67 = .ok (.return_, 1) := by decide +kernel
theorem dX12_wallTold_68 : decode cX12_wallTold 68 = .ok (.aload_n 0, 1) := by decide +kernel
theorem dX12_wallTold_69 : decode cX12_wallTold 69 = .ok (.getfield 76, 3) := by decide +kernel
theorem dX12_wallTold_72 : decode cX12_wallTold 72 = .ok (.iload_n 2, 1) := by decide +kernel
theorem dX12_wallTold_73 : decode cX12_wallTold 73 = .ok (.iconst 1, 1) := by decide +kernel
theorem dX12_wallTold_74 : decode cX12_wallTold 74 = .ok (.bastore, 1) := by decide +kernel
theorem dX12_wallTold_75 : decode cX12_wallTold 75 = .ok (.aload_n 0, 1) := by decide +kernel
theorem dX12_wallTold_76 : decode cX12_wallTold 76 = .ok (.dup, 1) := by decide +kernel
theorem dX12_wallTold_77 : decode cX12_wallTold 77 = .ok (.getfield 273, 3) := by decide +kernel
theorem dX12_wallTold_80 : decode cX12_wallTold 80 = .ok (.iconst 1, 1) := by decide +kernel
theorem dX12_wallTold_81 : decode cX12_wallTold 81 = .ok (.iadd, 1) := by decide +kernel
theorem dX12_wallTold_82 : decode cX12_wallTold 82 = .ok (.putfield 273, 3) := by decide +kernel
theorem dX12_wallTold_85 : decode cX12_wallTold 85 = .ok (.return_, 1) := by decide +kernel
theorem dX12_doorTold_0 : decode cX12_doorTold 0 = .ok (.aload_n 0, 1) := by decide +kernel
theorem dX12_doorTold_1 : decode cX12_doorTold 1 = .ok (.iconst 2, 1) := by decide +kernel
theorem dX12_doorTold_2 : decode cX12_doorTold 2 = .ok (.bipush 6, 2) := by decide +kernel
theorem dX12_doorTold_4 : decode cX12_doorTold 4 = .ok (.iload_n 1, 1) := by decide +kernel
theorem dX12_doorTold_5 : decode cX12_doorTold 5 = .ok (.invokevirtual 286, 3) := by decide +kernel
theorem dX12_doorTold_8 : decode cX12_doorTold 8 = .ok (.ifCond .eq 4, 3) := by decide +kernel
theorem dX12_doorTold_11 : decode cX12_doorTold 11 = .ok (.return_, 1) := by decide +kernel
theorem dX12_doorTold_12 : decode cX12_doorTold 12 = .ok (.aload_n 0, 1) := by decide +kernel
theorem dX12_doorTold_13 : decode cX12_doorTold 13 = .ok (.invokevirtual 276, 3) := by decide +kernel
theorem dX12_doorTold_16 : decode cX12_doorTold 16 = .ok (.istore_n 2, 1) := by decide +kernel
theorem dX12_doorTold_17 : decode cX12_doorTold 17 = .ok (.aload_n 0, 1) := by decide +kernel
theorem dX12_doorTold_18 : decode cX12_doorTold 18 = .ok (.getfield 201, 3) := by decide +kernel
theorem dX12_doorTold_21 : decode cX12_doorTold 21 = .ok (.ifCond .ne 30, 3) := by decide +kernel
theorem dX12_doorTold_24 : decode cX12_doorTold 24 = .ok (.aload_n 0, 1) := by decide +kernel
theorem dX12_doorTold_25 : decode cX12_doorTold 25 = .ok (.getfield 76, 3) := by decide +kernel
theorem dX12_doorTold_28 : decode cX12_doorTold 28 = .ok (.iload_n 2, 1) := by decide +kernel
theorem dX12_doorTold_29 : decode cX12_doorTold 29 = .ok (.baload, 1) := by decide +kernel
theorem dX12_doorTold_30 : decode cX12_doorTold 30 = .ok (.ifCond .ne 12, 3) := by decide +kernel
theorem dX12_doorTold_33 : decode cX12_doorTold 33 = .ok (.aload_n 0, 1) := by decide +kernel
theorem dX12_doorTold_34 : decode cX12_doorTold 34 = .ok (.iload_n 2, 1) := by decide +kernel
theorem dX12_doorTold_35 : decode cX12_doorTold 35 = .ok (.invokevirtual 279, 3) := by decide +kernel
theorem dX12_doorTold_38 : decode cX12_doorTold 38 = .ok (.iconst (-1), 1) := by decide +kernel
theorem dX12_doorTold_39 : decode cX12_doorTold 39 = .ok (.if_icmp .eq 12, 3) := by decide +kernel
theorem dX12_doorTold_42 : decode cX12_doorTold 42 = .ok (.aload_n 0, 1) := by decide +kernel
theorem dX12_doorTold_43 : decode cX12_doorTold 43 = .ok (.iconst 2, 1) := by decide +kernel
theorem dX12_doorTold_44 : decode cX12_doorTold 44 = .ok (.aload_n 0, 1) := by decide +kernel
theorem dX12_doorTold_45 : decode cX12_doorTold 45 = .ok (.getfield 241, 3) := by decide +kernel
theorem dX12_doorTold_48 : decode cX12_doorTold 48 = .ok (.invokevirtual 231, 3) := by decide +kernel
theorem dX12_doorTold_51 : decode cX12_doorTold 51 = .ok (.aload_n 0, 1) := by decide +kernel
theorem dX12_doorTold_52 : decode cX12_doorTold 52 = .ok (.getfield 201, 3) := by decide +kernel
theorem dX12_doorTold_55 : decode cX12_doorTold 55 = .ok (.ifCond .eq 4, 3) := by decide +kernel
theorem dX12_doorTold_58 : decode cX12_doorTold 58 = .ok (.return_, 1) := by decide +kernel
theorem dX12_doorTold_59 : decode cX12_doorTold 59 = .ok (.aload_n 0, 1) := by decide +kernel
theorem dX12_doorTold_60 : decode cX12_doorTold 60 = .ok (.getfield 86, 3) := by decide +kernel
theorem dX12_doorTold_63 : decode cX12_doorTold 63 = .ok (.aload_n 0, 1) := by decide +kernel
theorem dX12_doorTold_64 : decode cX12_doorTold 64 = .ok (.getfield 69, 3) := by decide +kernel
theorem dX12_doorTold_67 : decode cX12_doorTold 67 = .ok (.iconst 2, 1) := by decide +kernel
theorem dX12_doorTold_68 : decode cX12_doorTold 68 = .ok (.iaload, 1) := by decide +kernel
theorem dX12_doorTold_69 : decode cX12_doorTold 69 = .ok (.iload_n 2, 1) := by decide +kernel
theorem dX12_doorTold_70 : decode cX12_doorTold 70 = .ok (.iastore, 1) := by decide +kernel
theorem dX12_doorTold_71 : decode cX12_doorTold 71 = .ok (.aload_n 0, 1) := by decide +kernel
theorem dX12_doorTold_72 : decode cX12_doorTold 72 = .ok (.getfield 69, 3) := by decide +kernel
theorem dX12_doorTold_75 : decode cX12_doorTold 75 = .ok (.iconst 2, 1) := by decide +kernel
theorem dX12_doorTold_76 : decode cX12_doorTold 76 = .ok (.dup2, 1) := by decide +kernel
theorem dX12_doorTold_77 : decode cX12_doorTold 77 = .ok (.iaload, 1) := by decide +kernel
theorem dX12_doorTold_78 : decode cX12_doorTold 78 = .ok (.iconst 1, 1) := by decide +kernel
theorem dX12_doorTold_79 : decode cX12_doorTold 79 = .ok (.iadd, 1) := by decide +kernel
theorem dX12_doorTold_80 : decode cX12_doorTold 80 = .ok (.iastore, 1) := by decide +kernel
theorem dX12_doorTold_81 : decode cX12_doorTold 81 = .ok (.return_, 1) := by decide +kernel
theorem dX12_stepOf_0 : decode cX12_stepOf 0 = .ok (.iload_n 0, 1) := by decide +kernel
theorem dX12_stepOf_1 : decode cX12_stepOf 1 = .ok (.bipush 110, 2) := by decide +kernel
theorem dX12_stepOf_3 : decode cX12_stepOf 3 = .ok (.if_icmp .ne 7, 3) := by decide +kernel
theorem dX12_stepOf_6 : decode cX12_stepOf 6 = .ok (.iconst 0, 1) := by decide +kernel
theorem dX12_stepOf_7 : decode cX12_stepOf 7 = .ok (.goto 44, 3) := by decide +kernel
theorem dX12_stepOf_10 : decode cX12_stepOf 10 = .ok (.iload_n 0, 1) := by decide +kernel
theorem dX12_stepOf_11 : decode cX12_stepOf 11 = .ok (.bipush 101, 2) := by decide +kernel
theorem dX12_stepOf_13 : decode cX12_stepOf 13 = .ok (.if_icmp .ne 7, 3) := by decide +kernel
theorem dX12_stepOf_16 : decode cX12_stepOf 16 = .ok (.iconst 1, 1) := by decide +kernel
theorem dX12_stepOf_17 : decode cX12_stepOf 17 = .ok (.goto 34, 3) := by decide +kernel
theorem dX12_stepOf_20 : decode cX12_stepOf 20 = .ok (.iload_n 0, 1) := by decide +kernel
theorem dX12_stepOf_21 : decode cX12_stepOf 21 = .ok (.bipush 115, 2) := by decide +kernel
theorem dX12_stepOf_23 : decode cX12_stepOf 23 = .ok (.if_icmp .ne 7, 3) := by decide +kernel
theorem dX12_stepOf_26 : decode cX12_stepOf 26 = .ok (.iconst 2, 1) := by decide +kernel
theorem dX12_stepOf_27 : decode cX12_stepOf 27 = .ok (.goto 24, 3) := by decide +kernel
theorem dX12_stepOf_30 : decode cX12_stepOf 30 = .ok (.iload_n 0, 1) := by decide +kernel
theorem dX12_stepOf_31 : decode cX12_stepOf 31 = .ok (.bipush 119, 2) := by decide +kernel
theorem dX12_stepOf_33 : decode cX12_stepOf 33 = .ok (.if_icmp .ne 7, 3) := by decide +kernel
theorem dX12_stepOf_36 : decode cX12_stepOf 36 = .ok (.iconst 3, 1) := by decide +kernel
theorem dX12_stepOf_37 : decode cX12_stepOf 37 = .ok (.goto 14, 3) := by decide +kernel
theorem dX12_stepOf_40 : decode cX12_stepOf 40 = .ok (.iload_n 0, 1) := by decide +kernel
theorem dX12_stepOf_41 : decode cX12_stepOf 41 = .ok (.bipush 120, 2) := by decide +kernel
theorem dX12_stepOf_43 : decode cX12_stepOf 43 = .ok (.if_icmp .ne 7, 3) := by decide +kernel
theorem dX12_stepOf_46 : decode cX12_stepOf 46 = .ok (.iconst 4, 1) := by decide +kernel
theorem dX12_stepOf_47 : decode cX12_stepOf 47 = .ok (.goto 4, 3) := by decide +kernel
theorem dX12_stepOf_50 : decode cX12_stepOf 50 = .ok (.iconst (-1), 1) := by decide +kernel
theorem dX12_stepOf_51 : decode cX12_stepOf 51 = .ok (.ireturn, 1) := by decide +kernel
theorem dX12_stepsTold_0 : decode cX12_stepsTold 0 = .ok (.aload_n 0, 1) := by decide +kernel
theorem dX12_stepsTold_1 : decode cX12_stepsTold 1 = .ok (.getfield 201, 3) := by decide +kernel
theorem dX12_stepsTold_4 : decode cX12_stepsTold 4 = .ok (.ifCond .eq 5, 3) := by decide +kernel
theorem dX12_stepsTold_7 : decode cX12_stepsTold 7 = .ok (.iconst 0, 1) := by decide +kernel
theorem dX12_stepsTold_8 : decode cX12_stepsTold 8 = .ok (.ireturn, 1) := by decide +kernel
theorem dX12_stepsTold_9 : decode cX12_stepsTold 9 = .ok (.aload_n 0, 1) := by decide +kernel
theorem dX12_stepsTold_10 : decode cX12_stepsTold 10 = .ok (.invokevirtual 213, 3) := by decide +kernel
theorem dX12_stepsTold_13 : decode cX12_stepsTold 13 = .ok (.invokestatic 217, 3) := by decide +kernel
theorem dX12_stepsTold_16 : decode cX12_stepsTold 16 = .ok (.ifCond .eq 14, 3) := by decide +kernel
theorem dX12_stepsTold_19 : decode cX12_stepsTold 19 = .ok (.aload_n 0, 1) := by decide +kernel
theorem dX12_stepsTold_20 : decode cX12_stepsTold 20 = .ok (.getfield 207, 3) := by decide +kernel
theorem dX12_stepsTold_23 : decode cX12_stepsTold 23 = .ok (.aload_n 0, 1) := by decide +kernel
theorem dX12_stepsTold_24 : decode cX12_stepsTold 24 = .ok (.getfield 221, 3) := by decide +kernel
theorem dX12_stepsTold_27 : decode cX12_stepsTold 27 = .ok (.if_icmp .ne 14, 3) := by decide +kernel
theorem dX12_stepsTold_30 : decode cX12_stepsTold 30 = .ok (.aload_n 0, 1) := by decide +kernel
theorem dX12_stepsTold_31 : decode cX12_stepsTold 31 = .ok (.iconst 1, 1) := by decide +kernel
theorem dX12_stepsTold_32 : decode cX12_stepsTold 32 = .ok (.aload_n 0, 1) := by decide +kernel
theorem dX12_stepsTold_33 : decode cX12_stepsTold 33 = .ok (.getfield 207, 3) := by decide +kernel
theorem dX12_stepsTold_36 : decode cX12_stepsTold 36 = .ok (.invokevirtual 231, 3) := by decide +kernel
theorem dX12_stepsTold_39 : decode cX12_stepsTold 39 = .ok (.iconst 0, 1) := by decide +kernel
theorem dX12_stepsTold_40 : decode cX12_stepsTold 40 = .ok (.ireturn, 1) := by decide +kernel
theorem dX12_stepsTold_41 : decode cX12_stepsTold 41 = .ok (.aload_n 0, 1) := by decide +kernel
theorem dX12_stepsTold_42 : decode cX12_stepsTold 42 = .ok (.getfield 207, 3) := by decide +kernel
theorem dX12_stepsTold_45 : decode cX12_stepsTold 45 = .ok (.istore_n 2, 1) := by decide +kernel
theorem dX12_stepsTold_46 : decode cX12_stepsTold 46 = .ok (.iconst 0, 1) := by decide +kernel
theorem dX12_stepsTold_47 : decode cX12_stepsTold 47 = .ok (.istore_n 3, 1) := by decide +kernel
theorem dX12_stepsTold_48 : decode cX12_stepsTold 48 = .ok (.aload_n 0, 1) := by decide +kernel
theorem dX12_stepsTold_49 : decode cX12_stepsTold 49 = .ok (.getfield 207, 3) := by decide +kernel
theorem dX12_stepsTold_52 : decode cX12_stepsTold 52 = .ok (.aload_n 0, 1) := by decide +kernel
theorem dX12_stepsTold_53 : decode cX12_stepsTold 53 = .ok (.getfield 210, 3) := by decide +kernel
theorem dX12_stepsTold_56 : decode cX12_stepsTold 56 = .ok (.if_icmp .ge 84, 3) := by decide +kernel
theorem dX12_stepsTold_59 : decode cX12_stepsTold 59 = .ok (.aload_n 0, 1) := by decide +kernel
theorem dX12_stepsTold_60 : decode cX12_stepsTold 60 = .ok (.getfield 7, 3) := by decide +kernel
theorem dX12_stepsTold_63 : decode cX12_stepsTold 63 = .ok (.aload_n 0, 1) := by decide +kernel
theorem dX12_stepsTold_64 : decode cX12_stepsTold 64 = .ok (.getfield 207, 3) := by decide +kernel
theorem dX12_stepsTold_67 : decode cX12_stepsTold 67 = .ok (.iaload, 1) := by decide +kernel
theorem dX12_stepsTold_68 : decode cX12_stepsTold 68 = .ok (.invokestatic 217, 3) := by decide +kernel
theorem dX12_stepsTold_71 : decode cX12_stepsTold 71 = .ok (.ifCond .eq 69, 3) := by decide +kernel
theorem dX12_stepsTold_74 : decode cX12_stepsTold 74 = .ok (.iload_n 3, 1) := by decide +kernel
theorem dX12_stepsTold_75 : decode cX12_stepsTold 75 = .ok (.bipush 12, 2) := by decide +kernel
theorem dX12_stepsTold_77 : decode cX12_stepsTold 77 = .ok (.if_icmp .eq 19, 3) := by decide +kernel
theorem dX12_stepsTold_80 : decode cX12_stepsTold 80 = .ok (.aload_n 0, 1) := by decide +kernel
theorem dX12_stepsTold_81 : decode cX12_stepsTold 81 = .ok (.getfield 7, 3) := by decide +kernel
theorem dX12_stepsTold_84 : decode cX12_stepsTold 84 = .ok (.aload_n 0, 1) := by decide +kernel
theorem dX12_stepsTold_85 : decode cX12_stepsTold 85 = .ok (.getfield 207, 3) := by decide +kernel
theorem dX12_stepsTold_88 : decode cX12_stepsTold 88 = .ok (.iaload, 1) := by decide +kernel
theorem dX12_stepsTold_89 : decode cX12_stepsTold 89 = .ok (.invokestatic 290, 3) := by decide +kernel
theorem dX12_stepsTold_92 : decode cX12_stepsTold 92 = .ok (.iconst (-1), 1) := by decide +kernel
theorem dX12_stepsTold_93 : decode cX12_stepsTold 93 = .ok (.if_icmp .ne 11, 3) := by decide +kernel
theorem dX12_stepsTold_96 : decode cX12_stepsTold 96 = .ok (.aload_n 0, 1) := by decide +kernel
theorem dX12_stepsTold_97 : decode cX12_stepsTold 97 = .ok (.iconst 1, 1) := by decide +kernel
theorem dX12_stepsTold_98 : decode cX12_stepsTold 98 = .ok (.iload_n 2, 1) := by decide +kernel
theorem dX12_stepsTold_99 : decode cX12_stepsTold 99 = .ok (.invokevirtual 231, 3) := by decide +kernel
theorem dX12_stepsTold_102 : decode cX12_stepsTold 102 = .ok (.iconst 0, 1) := by decide +kernel
theorem dX12_stepsTold_103 : decode cX12_stepsTold 103 = .ok (.ireturn, 1) := by decide +kernel
theorem dX12_stepsTold_104 : decode cX12_stepsTold 104 = .ok (.aload_n 0, 1) := by decide +kernel
theorem dX12_stepsTold_105 : decode cX12_stepsTold 105 = .ok (.getfield 80, 3) := by decide +kernel
theorem dX12_stepsTold_108 : decode cX12_stepsTold 108 = .ok (.iload_n 1, 1) := by decide +kernel
theorem dX12_stepsTold_109 : decode cX12_stepsTold 109 = .ok (.iload_n 3, 1) := by decide +kernel
theorem dX12_stepsTold_110 : decode cX12_stepsTold 110 = .ok (.iadd, 1) := by decide +kernel
theorem dX12_stepsTold_111 : decode cX12_stepsTold 111 = .ok (.aload_n 0, 1) := by decide +kernel
theorem dX12_stepsTold_112 : decode cX12_stepsTold 112 = .ok (.getfield 7, 3) := by decide +kernel
theorem dX12_stepsTold_115 : decode cX12_stepsTold 115 = .ok (.aload_n 0, 1) := by decide +kernel
theorem dX12_stepsTold_116 : decode cX12_stepsTold 116 = .ok (.getfield 207, 3) := by decide +kernel
theorem dX12_stepsTold_119 : decode cX12_stepsTold 119 = .ok (.iaload, 1) := by decide +kernel
theorem dX12_stepsTold_120 : decode cX12_stepsTold 120 = .ok (.invokestatic 290, 3) := by decide +kernel
theorem dX12_stepsTold_123 : decode cX12_stepsTold 123 = .ok (.iastore, 1) := by decide +kernel
theorem dX12_stepsTold_124 : decode cX12_stepsTold 124 = .ok (.iinc 3 1, 3) := by decide +kernel
theorem dX12_stepsTold_127 : decode cX12_stepsTold 127 = .ok (.aload_n 0, 1) := by decide +kernel
theorem dX12_stepsTold_128 : decode cX12_stepsTold 128 = .ok (.dup, 1) := by decide +kernel
theorem dX12_stepsTold_129 : decode cX12_stepsTold 129 = .ok (.getfield 207, 3) := by decide +kernel
theorem dX12_stepsTold_132 : decode cX12_stepsTold 132 = .ok (.iconst 1, 1) := by decide +kernel
theorem dX12_stepsTold_133 : decode cX12_stepsTold 133 = .ok (.iadd, 1) := by decide +kernel
theorem dX12_stepsTold_134 : decode cX12_stepsTold 134 = .ok (.putfield 207, 3) := by decide +kernel
theorem dX12_stepsTold_137 : decode cX12_stepsTold 137 = .ok (.goto (-89), 3) := by decide +kernel
theorem dX12_stepsTold_140 : decode cX12_stepsTold 140 = .ok (.aload_n 0, 1) := by decide +kernel
theorem dX12_stepsTold_141 : decode cX12_stepsTold 141 = .ok (.aload_n 0, 1) := by decide +kernel
theorem dX12_stepsTold_142 : decode cX12_stepsTold 142 = .ok (.getfield 207, 3) := by decide +kernel
theorem dX12_stepsTold_145 : decode cX12_stepsTold 145 = .ok (.putfield 221, 3) := by decide +kernel
theorem dX12_stepsTold_148 : decode cX12_stepsTold 148 = .ok (.iload_n 3, 1) := by decide +kernel
theorem dX12_stepsTold_149 : decode cX12_stepsTold 149 = .ok (.ireturn, 1) := by decide +kernel
theorem dX12_personTold_0 : decode cX12_personTold 0 = .ok (.aload_n 0, 1) := by decide +kernel
theorem dX12_personTold_1 : decode cX12_personTold 1 = .ok (.iconst 0, 1) := by decide +kernel
theorem dX12_personTold_2 : decode cX12_personTold 2 = .ok (.bipush 9, 2) := by decide +kernel
theorem dX12_personTold_4 : decode cX12_personTold 4 = .ok (.iload_n 1, 1) := by decide +kernel
theorem dX12_personTold_5 : decode cX12_personTold 5 = .ok (.invokevirtual 286, 3) := by decide +kernel
theorem dX12_personTold_8 : decode cX12_personTold 8 = .ok (.ifCond .eq 4, 3) := by decide +kernel
theorem dX12_personTold_11 : decode cX12_personTold 11 = .ok (.return_, 1) := by decide +kernel
theorem dX12_personTold_12 : decode cX12_personTold 12 = .ok (.bipush 18, 2) := by decide +kernel
theorem dX12_personTold_14 : decode cX12_personTold 14 = .ok (.aload_n 0, 1) := by decide +kernel
theorem dX12_personTold_15 : decode cX12_personTold 15 = .ok (.getfield 69, 3) := by decide +kernel
theorem dX12_personTold_18 : decode cX12_personTold 18 = .ok (.iconst 0, 1) := by decide +kernel
theorem dX12_personTold_19 : decode cX12_personTold 19 = .ok (.iaload, 1) := by decide +kernel
theorem dX12_personTold_20 : decode cX12_personTold 20 = .ok (.imul, 1) := by decide +kernel
theorem dX12_personTold_21 : decode cX12_personTold 21 = .ok (.istore_n 2, 1) := by decide +kernel
theorem dX12_personTold_22 : decode cX12_personTold 22 = .ok (.aload_n 0, 1) := by decide +kernel
theorem dX12_personTold_23 : decode cX12_personTold 23 = .ok (.invokevirtual 293, 3) := by decide +kernel
theorem dX12_personTold_26 : decode cX12_personTold 26 = .ok (.lstore_n 3, 1) := by decide +kernel
theorem dX12_personTold_27 : decode cX12_personTold 27 = .ok (.aload_n 0, 1) := by decide +kernel
theorem dX12_personTold_28 : decode cX12_personTold 28 = .ok (.aload_n 0, 1) := by decide +kernel
theorem dX12_personTold_29 : decode cX12_personTold 29 = .ok (.getfield 30, 3) := by decide +kernel
theorem dX12_personTold_32 : decode cX12_personTold 32 = .ok (.invokevirtual 296, 3) := by decide +kernel
theorem dX12_personTold_35 : decode cX12_personTold 35 = .ok (.aload_n 0, 1) := by decide +kernel
theorem dX12_personTold_36 : decode cX12_personTold 36 = .ok (.invokevirtual 276, 3) := by decide +kernel
theorem dX12_personTold_39 : decode cX12_personTold 39 = .ok (.istore 5, 2) := by decide +kernel
theorem dX12_personTold_41 : decode cX12_personTold 41 = .ok (.aload_n 0, 1) := by decide +kernel
theorem dX12_personTold_42 : decode cX12_personTold 42 = .ok (.getfield 201, 3) := by decide +kernel
theorem dX12_personTold_45 : decode cX12_personTold 45 = .ok (.ifCond .ne 22, 3) := by decide +kernel
theorem dX12_personTold_48 : decode cX12_personTold 48 = .ok (.aload_n 0, 1) := by decide +kernel
theorem dX12_personTold_49 : decode cX12_personTold 49 = .ok (.getfield 76, 3) := by decide +kernel
theorem dX12_personTold_52 : decode cX12_personTold 52 = .ok (.iload 5, 2) := by decide +kernel
theorem dX12_personTold_54 : decode cX12_personTold 54 = .ok (.baload, 1) := by decide +kernel
theorem dX12_personTold_55 : decode cX12_personTold 55 = .ok (.ifCond .eq 12, 3) := by decide +kernel
theorem dX12_personTold_58 : decode cX12_personTold 58 = .ok (.aload_n 0, 1) := by decide +kernel
theorem dX12_personTold_59 : decode cX12_personTold 59 = .ok (.iconst 2, 1) := by decide +kernel
theorem dX12_personTold_60 : decode cX12_personTold 60 = .ok (.aload_n 0, 1) := by decide +kernel
theorem dX12_personTold_61 : decode cX12_personTold 61 = .ok (.getfield 241, 3) := by decide +kernel
theorem dX12_personTold_64 : decode cX12_personTold 64 = .ok (.invokevirtual 231, 3) := by decide +kernel
theorem dX12_personTold_67 : decode cX12_personTold 67 = .ok (.aload_n 0, 1) := by decide +kernel
theorem dX12_personTold_68 : decode cX12_personTold 68 = .ok (.aload_n 0, 1) := by decide +kernel
theorem dX12_personTold_69 : decode cX12_personTold 69 = .ok (.getfield 33, 3) := by decide +kernel
theorem dX12_personTold_72 : decode cX12_personTold 72 = .ok (.invokevirtual 296, 3) := by decide +kernel
theorem dX12_personTold_75 : decode cX12_personTold 75 = .ok (.aload_n 0, 1) := by decide +kernel
theorem dX12_personTold_76 : decode cX12_personTold 76 = .ok (.bipush 60, 2) := by decide +kernel
theorem dX12_personTold_78 : decode cX12_personTold 78 = .ok (.invokevirtual 300, 3) := by decide +kernel
theorem dX12_personTold_81 : decode cX12_personTold 81 = .ok (.istore 6, 2) := by decide +kernel
theorem dX12_personTold_83 : decode cX12_personTold 83 = .ok (.aload_n 0, 1) := by decide +kernel
theorem dX12_personTold_84 : decode cX12_personTold 84 = .ok (.aload_n 0, 1) := by decide +kernel
theorem dX12_personTold_85 : decode cX12_personTold 85 = .ok (.getfield 36, 3) := by decide +kernel
theorem dX12_personTold_88 : decode cX12_personTold 88 = .ok (.invokevirtual 296, 3) := by decide +kernel
theorem dX12_personTold_91 : decode cX12_personTold 91 = .ok (.aload_n 0, 1) := by decide +kernel
theorem dX12_personTold_92 : decode cX12_personTold 92 = .ok (.iconst 0, 1) := by decide +kernel
theorem dX12_personTold_93 : decode cX12_personTold 93 = .ok (.bipush 9, 2) := by decide +kernel
theorem dX12_personTold_95 : decode cX12_personTold 95 = .ok (.invokevirtual 248, 3) := by decide +kernel
theorem dX12_personTold_98 : decode cX12_personTold 98 = .ok (.istore 7, 2) := by decide +kernel
theorem dX12_personTold_100 : decode cX12_personTold 100 = .ok (.aload_n 0, 1) := by decide +kernel
theorem dX12_personTold_101 : decode cX12_personTold 101 = .ok (.aload_n 0, 1) := by decide +kernel
theorem dX12_personTold_102 : decode cX12_personTold 102 = .ok (.getfield 39, 3) := by decide +kernel
theorem dX12_personTold_105 : decode cX12_personTold 105 = .ok (.invokevirtual 296, 3) := by decide +kernel
theorem dX12_personTold_108 : decode cX12_personTold 108 = .ok (.aload_n 0, 1) := by decide +kernel
theorem dX12_personTold_109 : decode cX12_personTold 109 = .ok (.iconst 0, 1) := by decide +kernel
theorem dX12_personTold_110 : decode cX12_personTold 110 = .ok (.iconst 4, 1) := by decide +kernel
theorem dX12_personTold_111 : decode cX12_personTold 111 = .ok (.invokevirtual 248, 3) := by decide +kernel
theorem dX12_personTold_114 : decode cX12_personTold 114 = .ok (.istore 8, 2) := by decide +kernel
theorem dX12_personTold_116 : decode cX12_personTold 116 = .ok (.aload_n 0, 1) := by decide +kernel
theorem dX12_personTold_117 : decode cX12_personTold 117 = .ok (.aload_n 0, 1) := by decide +kernel
theorem dX12_personTold_118 : decode cX12_personTold 118 = .ok (.getfield 42, 3) := by decide +kernel
theorem dX12_personTold_121 : decode cX12_personTold 121 = .ok (.invokevirtual 296, 3) := by decide +kernel
theorem dX12_personTold_124 : decode cX12_personTold 124 = .ok (.aload_n 0, 1) := by decide +kernel
theorem dX12_personTold_125 : decode cX12_personTold 125 = .ok (.iload_n 2, 1) := by decide +kernel
theorem dX12_personTold_126 : decode cX12_personTold 126 = .ok (.bipush 6, 2) := by decide +kernel
theorem dX12_personTold_128 : decode cX12_personTold 128 = .ok (.iadd, 1) := by decide +kernel
theorem dX12_personTold_129 : decode cX12_personTold 129 = .ok (.invokevirtual 303, 3) := by decide +kernel
theorem dX12_personTold_132 : decode cX12_personTold 132 = .ok (.istore 9, 2) := by decide +kernel
theorem dX12_personTold_134 : decode cX12_personTold 134 = .ok (.aload_n 0, 1) := by decide +kernel
theorem dX12_personTold_135 : decode cX12_personTold 135 = .ok (.aload_n 0, 1) := by decide +kernel
theorem dX12_personTold_136 : decode cX12_personTold 136 = .ok (.getfield 45, 3) := by decide +kernel
theorem dX12_personTold_139 : decode cX12_personTold 139 = .ok (.invokevirtual 228, 3) := by decide +kernel
theorem dX12_personTold_142 : decode cX12_personTold 142 = .ok (.ifCond .eq 7, 3) := by decide +kernel
theorem dX12_personTold_145 : decode cX12_personTold 145 = .ok (.iconst 1, 1) := by decide +kernel
theorem dX12_personTold_146 : decode cX12_personTold 146 = .ok (.goto 4, 3) := by decide +kernel
theorem dX12_personTold_149 : decode cX12_personTold 149 = .ok (.iconst 0, 1) := by decide +kernel
theorem dX12_personTold_150 : decode cX12_personTold 150 = .ok (.istore 10, 2) := by decide +kernel
theorem dX12_personTold_152 : decode cX12_personTold 152 = .ok (.aload_n 0, 1) := by decide +kernel
theorem dX12_personTold_153 : decode cX12_personTold 153 = .ok (.getfield 201, 3) := by decide +kernel
theorem dX12_personTold_156 : decode cX12_personTold 156 = .ok (.ifCond .eq 4, 3) := by decide +kernel
theorem dX12_personTold_159 : decode cX12_personTold 159 = .ok (.return_, 1) := by decide +kernel
theorem dX12_personTold_160 : decode cX12_personTold 160 = .ok (.aload_n 0, 1) := by decide +kernel
theorem dX12_personTold_161 : decode cX12_personTold 161 = .ok (.getfield 72, 3) := by decide +kernel
theorem dX12_personTold_164 : decode cX12_personTold 164 = .ok (.aload_n 0, 1) := by decide +kernel
theorem dX12_personTold_165 : decode cX12_personTold 165 = .ok (.getfield 69, 3) := by decide +kernel
theorem dX12_personTold_168 : decode cX12_personTold 168 = .ok (.iconst 0, 1) := by decide +kernel
theorem dX12_personTold_169 : decode cX12_personTold 169 = .ok (.iaload, 1) := by decide +kernel
theorem dX12_personTold_170 : decode cX12_personTold 170 = .ok (.lload_n 3, 1) := by decide +kernel
theorem dX12_personTold_171 : decode cX12_personTold 171 = .ok (.lastore, 1) := by decide +kernel
theorem dX12_personTold_172 : decode cX12_personTold 172 = .ok (.aload_n 0, 1) := by decide +kernel
theorem dX12_personTold_173 : decode cX12_personTold 173 = .ok (.getfield 80, 3) := by decide +kernel
theorem dX12_personTold_176 : decode cX12_personTold 176 = .ok (.iload_n 2, 1) := by decide +kernel
theorem dX12_personTold_177 : decode cX12_personTold 177 = .ok (.iconst 0, 1) := by decide +kernel
theorem dX12_personTold_178 : decode cX12_personTold 178 = .ok (.iadd, 1) := by decide +kernel
theorem dX12_personTold_179 : decode cX12_personTold 179 = .ok (.iload 5, 2) := by decide +kernel
theorem dX12_personTold_181 : decode cX12_personTold 181 = .ok (.iastore, 1) := by decide +kernel
theorem dX12_personTold_182 : decode cX12_personTold 182 = .ok (.aload_n 0, 1) := by decide +kernel
theorem dX12_personTold_183 : decode cX12_personTold 183 = .ok (.getfield 80, 3) := by decide +kernel
theorem dX12_personTold_186 : decode cX12_personTold 186 = .ok (.iload_n 2, 1) := by decide +kernel
theorem dX12_personTold_187 : decode cX12_personTold 187 = .ok (.iconst 1, 1) := by decide +kernel
theorem dX12_personTold_188 : decode cX12_personTold 188 = .ok (.iadd, 1) := by decide +kernel
theorem dX12_personTold_189 : decode cX12_personTold 189 = .ok (.iload 6, 2) := by decide +kernel
theorem dX12_personTold_191 : decode cX12_personTold 191 = .ok (.iastore, 1) := by decide +kernel
theorem dX12_personTold_192 : decode cX12_personTold 192 = .ok (.aload_n 0, 1) := by decide +kernel
theorem dX12_personTold_193 : decode cX12_personTold 193 = .ok (.getfield 80, 3) := by decide +kernel
theorem dX12_personTold_196 : decode cX12_personTold 196 = .ok (.iload_n 2, 1) := by decide +kernel
theorem dX12_personTold_197 : decode cX12_personTold 197 = .ok (.iconst 2, 1) := by decide +kernel
theorem dX12_personTold_198 : decode cX12_personTold 198 = .ok (.iadd, 1) := by decide +kernel
theorem dX12_personTold_199 : decode cX12_personTold 199 = .ok (.iload 7, 2) := by decide +kernel
theorem dX12_personTold_201 : decode cX12_personTold 201 = .ok (.iastore, 1) := by decide +kernel
theorem dX12_personTold_202 : decode cX12_personTold 202 = .ok (.aload_n 0, 1) := by decide +kernel
theorem dX12_personTold_203 : decode cX12_personTold 203 = .ok (.getfield 80, 3) := by decide +kernel
theorem dX12_personTold_206 : decode cX12_personTold 206 = .ok (.iload_n 2, 1) := by decide +kernel
theorem dX12_personTold_207 : decode cX12_personTold 207 = .ok (.iconst 3, 1) := by decide +kernel
theorem dX12_personTold_208 : decode cX12_personTold 208 = .ok (.iadd, 1) := by decide +kernel
theorem dX12_personTold_209 : decode cX12_personTold 209 = .ok (.iload 8, 2) := by decide +kernel
theorem dX12_personTold_211 : decode cX12_personTold 211 = .ok (.iastore, 1) := by decide +kernel
theorem dX12_personTold_212 : decode cX12_personTold 212 = .ok (.aload_n 0, 1) := by decide +kernel
theorem dX12_personTold_213 : decode cX12_personTold 213 = .ok (.getfield 80, 3) := by decide +kernel
theorem dX12_personTold_216 : decode cX12_personTold 216 = .ok (.iload_n 2, 1) := by decide +kernel
theorem dX12_personTold_217 : decode cX12_personTold 217 = .ok (.iconst 4, 1) := by decide +kernel
theorem dX12_personTold_218 : decode cX12_personTold 218 = .ok (.iadd, 1) := by decide +kernel
theorem dX12_personTold_219 : decode cX12_personTold 219 = .ok (.iload 10, 2) := by decide +kernel
theorem dX12_personTold_221 : decode cX12_personTold 221 = .ok (.iastore, 1) := by decide +kernel
theorem dX12_personTold_222 : decode cX12_personTold 222 = .ok (.aload_n 0, 1) := by decide +kernel
theorem dX12_personTold_223 : decode cX12_personTold 223 = .ok (.getfield 80, 3) := by decide +kernel
theorem dX12_personTold_226 : decode cX12_personTold 226 = .ok (.iload_n 2, 1) := by decide +kernel
theorem dX12_personTold_227 : decode cX12_personTold 227 = .ok (.iconst 5, 1) := by decide +kernel
theorem dX12_personTold_228 : decode cX12_personTold 228 = .ok (.iadd, 1) := by decide +kernel
theorem dX12_personTold_229 : decode cX12_personTold 229 = .ok (.iload 9, 2) := by decide +kernel
theorem dX12_personTold_231 : decode cX12_personTold 231 = .ok (.iastore, 1) := by decide +kernel
theorem dX12_personTold_232 : decode cX12_personTold 232 = .ok (.aload_n 0, 1) := by decide +kernel
theorem dX12_personTold_233 : decode cX12_personTold 233 = .ok (.getfield 69, 3) := by decide +kernel
theorem dX12_personTold_236 : decode cX12_personTold 236 = .ok (.iconst 0, 1) := by decide +kernel
theorem dX12_personTold_237 : decode cX12_personTold 237 = .ok (.dup2, 1) := by decide +kernel
theorem dX12_personTold_238 : decode cX12_personTold 238 = .ok (.iaload, 1) := by decide +kernel
theorem dX12_personTold_239 : decode cX12_personTold 239 = .ok (.iconst 1, 1) := by decide +kernel
theorem dX12_personTold_240 : decode cX12_personTold 240 = .ok (.iadd, 1) := by decide +kernel
theorem dX12_personTold_241 : decode cX12_personTold 241 = .ok (.iastore, 1) := by decide +kernel
theorem dX12_personTold_242 : decode cX12_personTold 242 = .ok (.return_, 1) := by decide +kernel
theorem dX12_guardTold_0 : decode cX12_guardTold 0 = .ok (.aload_n 0, 1) := by decide +kernel
theorem dX12_guardTold_1 : decode cX12_guardTold 1 = .ok (.iconst 1, 1) := by decide +kernel
theorem dX12_guardTold_2 : decode cX12_guardTold 2 = .ok (.iconst 4, 1) := by decide +kernel
theorem dX12_guardTold_3 : decode cX12_guardTold 3 = .ok (.iload_n 1, 1) := by decide +kernel
theorem dX12_guardTold_4 : decode cX12_guardTold 4 = .ok (.invokevirtual 286, 3) := by decide +kernel
theorem dX12_guardTold_7 : decode cX12_guardTold 7 = .ok (.ifCond .eq 4, 3) := by decide +kernel
theorem dX12_guardTold_10 : decode cX12_guardTold 10 = .ok (.return_, 1) := by decide +kernel
theorem dX12_guardTold_11 : decode cX12_guardTold 11 = .ok (.aload_n 0, 1) := by decide +kernel
theorem dX12_guardTold_12 : decode cX12_guardTold 12 = .ok (.getfield 69, 3) := by decide +kernel
theorem dX12_guardTold_15 : decode cX12_guardTold 15 = .ok (.iconst 1, 1) := by decide +kernel
theorem dX12_guardTold_16 : decode cX12_guardTold 16 = .ok (.iaload, 1) := by decide +kernel
