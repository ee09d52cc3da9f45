theorem dX8_again_36 : decode cX8_again 36 = .ok (.invokevirtual 134, 3) := by decide +kernel
theorem dX8_again_39 : decode cX8_again 39 = .ok (.ireturn, 1) := by decide +kernel
theorem dX8_undo_0 : decode cX8_undo 0 = .ok (.aload_n 0, 1) := by decide +kernel
theorem dX8_undo_1 : decode cX8_undo 1 = .ok (.getfield 83, 3) := by decide +kernel
theorem dX8_undo_4 : decode cX8_undo 4 = .ok (.ifCond .ne 6, 3) := by decide +kernel
theorem dX8_undo_7 : decode cX8_undo 7 = .ok (.bipush (-2), 2) := by decide +kernel
theorem dX8_undo_9 : decode cX8_undo 9 = .ok (.ireturn, 1) := by decide +kernel
theorem dX8_undo_10 : decode cX8_undo 10 = .ok (.aload_n 0, 1) := by decide +kernel
theorem dX8_undo_11 : decode cX8_undo 11 = .ok (.dup, 1) := by decide +kernel
theorem dX8_undo_12 : decode cX8_undo 12 = .ok (.getfield 83, 3) := by decide +kernel
theorem dX8_undo_15 : decode cX8_undo 15 = .ok (.iconst 1, 1) := by decide +kernel
theorem dX8_undo_16 : decode cX8_undo 16 = .ok (.isub, 1) := by decide +kernel
theorem dX8_undo_17 : decode cX8_undo 17 = .ok (.putfield 83, 3) := by decide +kernel
theorem dX8_undo_20 : decode cX8_undo 20 = .ok (.aload_n 0, 1) := by decide +kernel
theorem dX8_undo_21 : decode cX8_undo 21 = .ok (.sipush 264, 3) := by decide +kernel
theorem dX8_undo_24 : decode cX8_undo 24 = .ok (.bipush 66, 2) := by decide +kernel
theorem dX8_undo_26 : decode cX8_undo 26 = .ok (.aload_n 0, 1) := by decide +kernel
theorem dX8_undo_27 : decode cX8_undo 27 = .ok (.getfield 83, 3) := by decide +kernel
theorem dX8_undo_30 : decode cX8_undo 30 = .ok (.imul, 1) := by decide +kernel
theorem dX8_undo_31 : decode cX8_undo 31 = .ok (.iadd, 1) := by decide +kernel
theorem dX8_undo_32 : decode cX8_undo 32 = .ok (.iconst 0, 1) := by decide +kernel
theorem dX8_undo_33 : decode cX8_undo 33 = .ok (.invokevirtual 169, 3) := by decide +kernel
theorem dX8_undo_36 : decode cX8_undo 36 = .ok (.aload_n 0, 1) := by decide +kernel
theorem dX8_undo_37 : decode cX8_undo 37 = .ok (.getfield 83, 3) := by decide +kernel
theorem dX8_undo_40 : decode cX8_undo 40 = .ok (.ireturn, 1) := by decide +kernel
theorem dX8_tries_0 : decode cX8_tries 0 = .ok (.aload_n 0, 1) := by decide +kernel
theorem dX8_tries_1 : decode cX8_tries 1 = .ok (.iconst 0, 1) := by decide +kernel
theorem dX8_tries_2 : decode cX8_tries 2 = .ok (.bipush 66, 2) := by decide +kernel
theorem dX8_tries_4 : decode cX8_tries 4 = .ok (.invokevirtual 169, 3) := by decide +kernel
theorem dX8_tries_7 : decode cX8_tries 7 = .ok (.return_, 1) := by decide +kernel
theorem dX8_behind_0 : decode cX8_behind 0 = .ok (.iload_n 1, 1) := by decide +kernel
theorem dX8_behind_1 : decode cX8_behind 1 = .ok (.i2l, 1) := by decide +kernel
theorem dX8_behind_2 : decode cX8_behind 2 = .ok (.lconst 0, 1) := by decide +kernel
theorem dX8_behind_3 : decode cX8_behind 3 = .ok (.ldc2_w 191, 3) := by decide +kernel
theorem dX8_behind_6 : decode cX8_behind 6 = .ok (.invokestatic 70, 3) := by decide +kernel
theorem dX8_behind_9 : decode cX8_behind 9 = .ok (.ifCond .eq 17, 3) := by decide +kernel
theorem dX8_behind_12 : decode cX8_behind 12 = .ok (.iload_n 2, 1) := by decide +kernel
theorem dX8_behind_13 : decode cX8_behind 13 = .ok (.i2l, 1) := by decide +kernel
theorem dX8_behind_14 : decode cX8_behind 14 = .ok (.ldc2_w 193, 3) := by decide +kernel
theorem dX8_behind_17 : decode cX8_behind 17 = .ok (.ldc2_w 195, 3) := by decide +kernel
theorem dX8_behind_20 : decode cX8_behind 20 = .ok (.invokestatic 70, 3) := by decide +kernel
theorem dX8_behind_23 : decode cX8_behind 23 = .ok (.ifCond .ne 5, 3) := by decide +kernel
theorem dX8_behind_26 : decode cX8_behind 26 = .ok (.iconst (-1), 1) := by decide +kernel
theorem dX8_behind_27 : decode cX8_behind 27 = .ok (.ireturn, 1) := by decide +kernel
theorem dX8_behind_28 : decode cX8_behind 28 = .ok (.aload_n 0, 1) := by decide +kernel
theorem dX8_behind_29 : decode cX8_behind 29 = .ok (.invokevirtual 197, 3) := by decide +kernel
theorem dX8_behind_32 : decode cX8_behind 32 = .ok (.iconst 0, 1) := by decide +kernel
theorem dX8_behind_33 : decode cX8_behind 33 = .ok (.istore_n 3, 1) := by decide +kernel
theorem dX8_behind_34 : decode cX8_behind 34 = .ok (.iload_n 3, 1) := by decide +kernel
theorem dX8_behind_35 : decode cX8_behind 35 = .ok (.iload_n 1, 1) := by decide +kernel
theorem dX8_behind_36 : decode cX8_behind 36 = .ok (.if_icmp .ge 15, 3) := by decide +kernel
theorem dX8_behind_39 : decode cX8_behind 39 = .ok (.aload_n 0, 1) := by decide +kernel
theorem dX8_behind_40 : decode cX8_behind 40 = .ok (.bipush 66, 2) := by decide +kernel
theorem dX8_behind_42 : decode cX8_behind 42 = .ok (.invokevirtual 177, 3) := by decide +kernel
theorem dX8_behind_45 : decode cX8_behind 45 = .ok (.iinc 3 1, 3) := by decide +kernel
theorem dX8_behind_48 : decode cX8_behind 48 = .ok (.goto (-14), 3) := by decide +kernel
theorem dX8_behind_51 : decode cX8_behind 51 = .ok (.iload_n 2, 1) := by decide +kernel
theorem dX8_behind_52 : decode cX8_behind 52 = .ok (.ifCond .ge 13, 3) := by decide +kernel
theorem dX8_behind_55 : decode cX8_behind 55 = .ok (.aload_n 0, 1) := by decide +kernel
theorem dX8_behind_56 : decode cX8_behind 56 = .ok (.getfield 7, 3) := by decide +kernel
theorem dX8_behind_59 : decode cX8_behind 59 = .ok (.bipush 68, 2) := by decide +kernel
theorem dX8_behind_61 : decode cX8_behind 61 = .ok (.iaload, 1) := by decide +kernel
theorem dX8_behind_62 : decode cX8_behind 62 = .ok (.goto 28, 3) := by decide +kernel
theorem dX8_behind_65 : decode cX8_behind 65 = .ok (.iload_n 2, 1) := by decide +kernel
theorem dX8_behind_66 : decode cX8_behind 66 = .ok (.aload_n 0, 1) := by decide +kernel
theorem dX8_behind_67 : decode cX8_behind 67 = .ok (.getfield 7, 3) := by decide +kernel
theorem dX8_behind_70 : decode cX8_behind 70 = .ok (.bipush 68, 2) := by decide +kernel
theorem dX8_behind_72 : decode cX8_behind 72 = .ok (.iaload, 1) := by decide +kernel
theorem dX8_behind_73 : decode cX8_behind 73 = .ok (.if_icmp .ge 15, 3) := by decide +kernel
theorem dX8_behind_76 : decode cX8_behind 76 = .ok (.aload_n 0, 1) := by decide +kernel
theorem dX8_behind_77 : decode cX8_behind 77 = .ok (.getfield 7, 3) := by decide +kernel
theorem dX8_behind_80 : decode cX8_behind 80 = .ok (.bipush 69, 2) := by decide +kernel
theorem dX8_behind_82 : decode cX8_behind 82 = .ok (.iload_n 2, 1) := by decide +kernel
theorem dX8_behind_83 : decode cX8_behind 83 = .ok (.iadd, 1) := by decide +kernel
theorem dX8_behind_84 : decode cX8_behind 84 = .ok (.iaload, 1) := by decide +kernel
theorem dX8_behind_85 : decode cX8_behind 85 = .ok (.goto 5, 3) := by decide +kernel
theorem dX8_behind_88 : decode cX8_behind 88 = .ok (.bipush (-4), 2) := by decide +kernel
theorem dX8_behind_90 : decode cX8_behind 90 = .ok (.ireturn, 1) := by decide +kernel
theorem dX8_eats_0 : decode cX8_eats 0 = .ok (.iconst 1, 1) := by decide +kernel
theorem dX8_eats_1 : decode cX8_eats 1 = .ok (.istore_n 3, 1) := by decide +kernel
theorem dX8_eats_2 : decode cX8_eats 2 = .ok (.iload_n 3, 1) := by decide +kernel
theorem dX8_eats_3 : decode cX8_eats 3 = .ok (.bipush 99, 2) := by decide +kernel
theorem dX8_eats_5 : decode cX8_eats 5 = .ok (.if_icmp .gt 35, 3) := by decide +kernel
theorem dX8_eats_8 : decode cX8_eats 8 = .ok (.aload_n 0, 1) := by decide +kernel
theorem dX8_eats_9 : decode cX8_eats 9 = .ok (.bipush 66, 2) := by decide +kernel
theorem dX8_eats_11 : decode cX8_eats 11 = .ok (.iload_n 2, 1) := by decide +kernel
theorem dX8_eats_12 : decode cX8_eats 12 = .ok (.aload_n 0, 1) := by decide +kernel
theorem dX8_eats_13 : decode cX8_eats 13 = .ok (.bipush 66, 2) := by decide +kernel
theorem dX8_eats_15 : decode cX8_eats 15 = .ok (.invokevirtual 155, 3) := by decide +kernel
theorem dX8_eats_18 : decode cX8_eats 18 = .ok (.invokevirtual 159, 3) := by decide +kernel
theorem dX8_eats_21 : decode cX8_eats 21 = .ok (.aload_n 0, 1) := by decide +kernel
theorem dX8_eats_22 : decode cX8_eats 22 = .ok (.bipush 66, 2) := by decide +kernel
theorem dX8_eats_24 : decode cX8_eats 24 = .ok (.iload_n 1, 1) := by decide +kernel
theorem dX8_eats_25 : decode cX8_eats 25 = .ok (.iconst 3, 1) := by decide +kernel
theorem dX8_eats_26 : decode cX8_eats 26 = .ok (.invokevirtual 163, 3) := by decide +kernel
theorem dX8_eats_29 : decode cX8_eats 29 = .ok (.ifCond .eq 5, 3) := by decide +kernel
theorem dX8_eats_32 : decode cX8_eats 32 = .ok (.iload_n 3, 1) := by decide +kernel
theorem dX8_eats_33 : decode cX8_eats 33 = .ok (.ireturn, 1) := by decide +kernel
theorem dX8_eats_34 : decode cX8_eats 34 = .ok (.iinc 3 1, 3) := by decide +kernel
theorem dX8_eats_37 : decode cX8_eats 37 = .ok (.goto (-35), 3) := by decide +kernel
theorem dX8_eats_40 : decode cX8_eats 40 = .ok (.bipush 100, 2) := by decide +kernel
theorem dX8_eats_42 : decode cX8_eats 42 = .ok (.ireturn, 1) := by decide +kernel
theorem dX8_whenOf_0 : decode cX8_whenOf 0 = .ok (.aload_n 0, 1) := by decide +kernel
theorem dX8_whenOf_1 : decode cX8_whenOf 1 = .ok (.iload_n 1, 1) := by decide +kernel
theorem dX8_whenOf_2 : decode cX8_whenOf 2 = .ok (.invokevirtual 166, 3) := by decide +kernel
theorem dX8_whenOf_5 : decode cX8_whenOf 5 = .ok (.ifCond .ne 5, 3) := by decide +kernel
theorem dX8_whenOf_8 : decode cX8_whenOf 8 = .ok (.iconst (-1), 1) := by decide +kernel
theorem dX8_whenOf_9 : decode cX8_whenOf 9 = .ok (.ireturn, 1) := by decide +kernel
theorem dX8_whenOf_10 : decode cX8_whenOf 10 = .ok (.aload_n 0, 1) := by decide +kernel
theorem dX8_whenOf_11 : decode cX8_whenOf 11 = .ok (.iconst 0, 1) := by decide +kernel
theorem dX8_whenOf_12 : decode cX8_whenOf 12 = .ok (.iload_n 1, 1) := by decide +kernel
theorem dX8_whenOf_13 : decode cX8_whenOf 13 = .ok (.iconst 3, 1) := by decide +kernel
theorem dX8_whenOf_14 : decode cX8_whenOf 14 = .ok (.invokevirtual 163, 3) := by decide +kernel
theorem dX8_whenOf_17 : decode cX8_whenOf 17 = .ok (.ifCond .eq 6, 3) := by decide +kernel
theorem dX8_whenOf_20 : decode cX8_whenOf 20 = .ok (.bipush (-2), 2) := by decide +kernel
theorem dX8_whenOf_22 : decode cX8_whenOf 22 = .ok (.ireturn, 1) := by decide +kernel
theorem dX8_whenOf_23 : decode cX8_whenOf 23 = .ok (.aload_n 0, 1) := by decide +kernel
theorem dX8_whenOf_24 : decode cX8_whenOf 24 = .ok (.invokevirtual 197, 3) := by decide +kernel
theorem dX8_whenOf_27 : decode cX8_whenOf 27 = .ok (.aload_n 0, 1) := by decide +kernel
theorem dX8_whenOf_28 : decode cX8_whenOf 28 = .ok (.iload_n 1, 1) := by decide +kernel
theorem dX8_whenOf_29 : decode cX8_whenOf 29 = .ok (.iload_n 2, 1) := by decide +kernel
theorem dX8_whenOf_30 : decode cX8_whenOf 30 = .ok (.invokevirtual 200, 3) := by decide +kernel
theorem dX8_whenOf_33 : decode cX8_whenOf 33 = .ok (.istore_n 3, 1) := by decide +kernel
theorem dX8_whenOf_34 : decode cX8_whenOf 34 = .ok (.iload_n 3, 1) := by decide +kernel
theorem dX8_whenOf_35 : decode cX8_whenOf 35 = .ok (.bipush 99, 2) := by decide +kernel
theorem dX8_whenOf_37 : decode cX8_whenOf 37 = .ok (.if_icmp .le 8, 3) := by decide +kernel
theorem dX8_whenOf_40 : decode cX8_whenOf 40 = .ok (.bipush (-4), 2) := by decide +kernel
theorem dX8_whenOf_42 : decode cX8_whenOf 42 = .ok (.goto 4, 3) := by decide +kernel
theorem dX8_whenOf_45 : decode cX8_whenOf 45 = .ok (.iload_n 3, 1) := by decide +kernel
theorem dX8_whenOf_46 : decode cX8_whenOf 46 = .ok (.ireturn, 1) := by decide +kernel
theorem dX8_when_0 : decode cX8_when 0 = .ok (.aload_n 0, 1) := by decide +kernel
theorem dX8_when_1 : decode cX8_when 1 = .ok (.iload_n 1, 1) := by decide +kernel
theorem dX8_when_2 : decode cX8_when 2 = .ok (.iconst 0, 1) := by decide +kernel
theorem dX8_when_3 : decode cX8_when 3 = .ok (.invokevirtual 204, 3) := by decide +kernel
theorem dX8_when_6 : decode cX8_when 6 = .ok (.ireturn, 1) := by decide +kernel
theorem dX8_besides_0 : decode cX8_besides 0 = .ok (.aload_n 0, 1) := by decide +kernel
theorem dX8_besides_1 : decode cX8_besides 1 = .ok (.iload_n 1, 1) := by decide +kernel
theorem dX8_besides_2 : decode cX8_besides 2 = .ok (.iconst 1, 1) := by decide +kernel
theorem dX8_besides_3 : decode cX8_besides 3 = .ok (.invokevirtual 204, 3) := by decide +kernel
theorem dX8_besides_6 : decode cX8_besides 6 = .ok (.ireturn, 1) := by decide +kernel
theorem dX8_servedBy_0 : decode cX8_servedBy 0 = .ok (.iconst 0, 1) := by decide +kernel
theorem dX8_servedBy_1 : decode cX8_servedBy 1 = .ok (.istore_n 2, 1) := by decide +kernel
theorem dX8_servedBy_2 : decode cX8_servedBy 2 = .ok (.iconst 0, 1) := by decide +kernel
theorem dX8_servedBy_3 : decode cX8_servedBy 3 = .ok (.istore_n 3, 1) := by decide +kernel
theorem dX8_servedBy_4 : decode cX8_servedBy 4 = .ok (.iload_n 3, 1) := by decide +kernel
theorem dX8_servedBy_5 : decode cX8_servedBy 5 = .ok (.aload_n 0, 1) := by decide +kernel
theorem dX8_servedBy_6 : decode cX8_servedBy 6 = .ok (.getfield 67, 3) := by decide +kernel
theorem dX8_servedBy_9 : decode cX8_servedBy 9 = .ok (.if_icmp .ge 85, 3) := by decide +kernel
theorem dX8_servedBy_12 : decode cX8_servedBy 12 = .ok (.aload_n 0, 1) := by decide +kernel
theorem dX8_servedBy_13 : decode cX8_servedBy 13 = .ok (.iconst 0, 1) := by decide +kernel
theorem dX8_servedBy_14 : decode cX8_servedBy 14 = .ok (.iload_n 3, 1) := by decide +kernel
theorem dX8_servedBy_15 : decode cX8_servedBy 15 = .ok (.iconst 1, 1) := by decide +kernel
theorem dX8_servedBy_16 : decode cX8_servedBy 16 = .ok (.invokevirtual 163, 3) := by decide +kernel
theorem dX8_servedBy_19 : decode cX8_servedBy 19 = .ok (.ifCond .eq 69, 3) := by decide +kernel
theorem dX8_servedBy_22 : decode cX8_servedBy 22 = .ok (.aload_n 0, 1) := by decide +kernel
theorem dX8_servedBy_23 : decode cX8_servedBy 23 = .ok (.invokevirtual 197, 3) := by decide +kernel
theorem dX8_servedBy_26 : decode cX8_servedBy 26 = .ok (.aload_n 0, 1) := by decide +kernel
theorem dX8_servedBy_27 : decode cX8_servedBy 27 = .ok (.iload_n 3, 1) := by decide +kernel
theorem dX8_servedBy_28 : decode cX8_servedBy 28 = .ok (.iconst 0, 1) := by decide +kernel
theorem dX8_servedBy_29 : decode cX8_servedBy 29 = .ok (.invokevirtual 200, 3) := by decide +kernel
theorem dX8_servedBy_32 : decode cX8_servedBy 32 = .ok (.istore 4, 2) := by decide +kernel
theorem dX8_servedBy_34 : decode cX8_servedBy 34 = .ok (.aload_n 0, 1) := by decide +kernel
theorem dX8_servedBy_35 : decode cX8_servedBy 35 = .ok (.invokevirtual 197, 3) := by decide +kernel
theorem dX8_servedBy_38 : decode cX8_servedBy 38 = .ok (.iload_n 1, 1) := by decide +kernel
theorem dX8_servedBy_39 : decode cX8_servedBy 39 = .ok (.ifCond .eq 13, 3) := by decide +kernel
theorem dX8_servedBy_42 : decode cX8_servedBy 42 = .ok (.aload_n 0, 1) := by decide +kernel
theorem dX8_servedBy_43 : decode cX8_servedBy 43 = .ok (.bipush 66, 2) := by decide +kernel
theorem dX8_servedBy_45 : decode cX8_servedBy 45 = .ok (.iload_n 3, 1) := by decide +kernel
theorem dX8_servedBy_46 : decode cX8_servedBy 46 = .ok (.invokevirtual 148, 3) := by decide +kernel
theorem dX8_servedBy_49 : decode cX8_servedBy 49 = .ok (.goto 18, 3) := by decide +kernel
theorem dX8_servedBy_52 : decode cX8_servedBy 52 = .ok (.aload_n 0, 1) := by decide +kernel
theorem dX8_servedBy_53 : decode cX8_servedBy 53 = .ok (.bipush 66, 2) := by decide +kernel
theorem dX8_servedBy_55 : decode cX8_servedBy 55 = .ok (.iload_n 3, 1) := by decide +kernel
theorem dX8_servedBy_56 : decode cX8_servedBy 56 = .ok (.iconst 2, 1) := by decide +kernel
theorem dX8_servedBy_57 : decode cX8_servedBy 57 = .ok (.invokevirtual 141, 3) := by decide +kernel
theorem dX8_servedBy_60 : decode cX8_servedBy 60 = .ok (.aload_n 0, 1) := by decide +kernel
theorem dX8_servedBy_61 : decode cX8_servedBy 61 = .ok (.bipush 66, 2) := by decide +kernel
theorem dX8_servedBy_63 : decode cX8_servedBy 63 = .ok (.iload_n 3, 1) := by decide +kernel
theorem dX8_servedBy_64 : decode cX8_servedBy 64 = .ok (.invokevirtual 144, 3) := by decide +kernel
theorem dX8_servedBy_67 : decode cX8_servedBy 67 = .ok (.iload_n 2, 1) := by decide +kernel
theorem dX8_servedBy_68 : decode cX8_servedBy 68 = .ok (.aload_n 0, 1) := by decide +kernel
theorem dX8_servedBy_69 : decode cX8_servedBy 69 = .ok (.iload_n 3, 1) := by decide +kernel
theorem dX8_servedBy_70 : decode cX8_servedBy 70 = .ok (.iconst 0, 1) := by decide +kernel
theorem dX8_servedBy_71 : decode cX8_servedBy 71 = .ok (.invokevirtual 200, 3) := by decide +kernel
theorem dX8_servedBy_74 : decode cX8_servedBy 74 = .ok (.iload 4, 2) := by decide +kernel
theorem dX8_servedBy_76 : decode cX8_servedBy 76 = .ok (.if_icmp .ge 9, 3) := by decide +kernel
theorem dX8_servedBy_79 : decode cX8_servedBy 79 = .ok (.iconst 1, 1) := by decide +kernel
theorem dX8_servedBy_80 : decode cX8_servedBy 80 = .ok (.iload_n 3, 1) := by decide +kernel
theorem dX8_servedBy_81 : decode cX8_servedBy 81 = .ok (.ishl, 1) := by decide +kernel
theorem dX8_servedBy_82 : decode cX8_servedBy 82 = .ok (.goto 4, 3) := by decide +kernel
theorem dX8_servedBy_85 : decode cX8_servedBy 85 = .ok (.iconst 0, 1) := by decide +kernel
theorem dX8_servedBy_86 : decode cX8_servedBy 86 = .ok (.ior, 1) := by decide +kernel
theorem dX8_servedBy_87 : decode cX8_servedBy 87 = .ok (.istore_n 2, 1) := by decide +kernel
theorem dX8_servedBy_88 : decode cX8_servedBy 88 = .ok (.iinc 3 1, 3) := by decide +kernel
theorem dX8_servedBy_91 : decode cX8_servedBy 91 = .ok (.goto (-87), 3) := by decide +kernel
theorem dX8_servedBy_94 : decode cX8_servedBy 94 = .ok (.iload_n 2, 1) := by decide +kernel
theorem dX8_servedBy_95 : decode cX8_servedBy 95 = .ok (.ireturn, 1) := by decide +kernel
theorem dX8_pays_0 : decode cX8_pays 0 = .ok (.aload_n 0, 1) := by decide +kernel
theorem dX8_pays_1 : decode cX8_pays 1 = .ok (.iconst 0, 1) := by decide +kernel
theorem dX8_pays_2 : decode cX8_pays 2 = .ok (.invokevirtual 207, 3) := by decide +kernel
theorem dX8_pays_5 : decode cX8_pays 5 = .ok (.ireturn, 1) := by decide +kernel
theorem dX8_gains_0 : decode cX8_gains 0 = .ok (.aload_n 0, 1) := by decide +kernel
theorem dX8_gains_1 : decode cX8_gains 1 = .ok (.iconst 1, 1) := by decide +kernel
theorem dX8_gains_2 : decode cX8_gains 2 = .ok (.invokevirtual 207, 3) := by decide +kernel
theorem dX8_gains_5 : decode cX8_gains 5 = .ok (.ireturn, 1) := by decide +kernel
theorem dX8_waitBy_0 : decode cX8_waitBy 0 = .ok (.aload_n 0, 1) := by decide +kernel
theorem dX8_waitBy_1 : decode cX8_waitBy 1 = .ok (.invokevirtual 197, 3) := by decide +kernel
theorem dX8_waitBy_4 : decode cX8_waitBy 4 = .ok (.iconst 0, 1) := by decide +kernel
theorem dX8_waitBy_5 : decode cX8_waitBy 5 = .ok (.istore_n 2, 1) := by decide +kernel
theorem dX8_waitBy_6 : decode cX8_waitBy 6 = .ok (.iload_n 2, 1) := by decide +kernel
theorem dX8_waitBy_7 : decode cX8_waitBy 7 = .ok (.iload_n 1, 1) := by decide +kernel
theorem dX8_waitBy_8 : decode cX8_waitBy 8 = .ok (.if_icmp .ge 31, 3) := by decide +kernel
theorem dX8_waitBy_11 : decode cX8_waitBy 11 = .ok (.aload_n 0, 1) := by decide +kernel
theorem dX8_waitBy_12 : decode cX8_waitBy 12 = .ok (.getfield 7, 3) := by decide +kernel
theorem dX8_waitBy_15 : decode cX8_waitBy 15 = .ok (.bipush 114, 2) := by decide +kernel
theorem dX8_waitBy_17 : decode cX8_waitBy 17 = .ok (.aload_n 0, 1) := by decide +kernel
theorem dX8_waitBy_18 : decode cX8_waitBy 18 = .ok (.getfield 41, 3) := by decide +kernel
theorem dX8_waitBy_21 : decode cX8_waitBy 21 = .ok (.iload_n 2, 1) := by decide +kernel
theorem dX8_waitBy_22 : decode cX8_waitBy 22 = .ok (.iaload, 1) := by decide +kernel
theorem dX8_waitBy_23 : decode cX8_waitBy 23 = .ok (.iadd, 1) := by decide +kernel
theorem dX8_waitBy_24 : decode cX8_waitBy 24 = .ok (.aload_n 0, 1) := by decide +kernel
theorem dX8_waitBy_25 : decode cX8_waitBy 25 = .ok (.getfield 7, 3) := by decide +kernel
theorem dX8_waitBy_28 : decode cX8_waitBy 28 = .ok (.iconst 0, 1) := by decide +kernel
theorem dX8_waitBy_29 : decode cX8_waitBy 29 = .ok (.iaload, 1) := by decide +kernel
theorem dX8_waitBy_30 : decode cX8_waitBy 30 = .ok (.iload_n 2, 1) := by decide +kernel
theorem dX8_waitBy_31 : decode cX8_waitBy 31 = .ok (.iadd, 1) := by decide +kernel
theorem dX8_waitBy_32 : decode cX8_waitBy 32 = .ok (.iastore, 1) := by decide +kernel
theorem dX8_waitBy_33 : decode cX8_waitBy 33 = .ok (.iinc 2 1, 3) := by decide +kernel
theorem dX8_waitBy_36 : decode cX8_waitBy 36 = .ok (.goto (-30), 3) := by decide +kernel
theorem dX8_waitBy_39 : decode cX8_waitBy 39 = .ok (.iconst 0, 1) := by decide +kernel
theorem dX8_waitBy_40 : decode cX8_waitBy 40 = .ok (.istore_n 2, 1) := by decide +kernel
theorem dX8_waitBy_41 : decode cX8_waitBy 41 = .ok (.iload_n 2, 1) := by decide +kernel
theorem dX8_waitBy_42 : decode cX8_waitBy 42 = .ok (.bipush 99, 2) := by decide +kernel
theorem dX8_waitBy_44 : decode cX8_waitBy 44 = .ok (.if_icmp .ge 15, 3) := by decide +kernel
theorem dX8_waitBy_47 : decode cX8_waitBy 47 = .ok (.aload_n 0, 1) := by decide +kernel
theorem dX8_waitBy_48 : decode cX8_waitBy 48 = .ok (.bipush 66, 2) := by decide +kernel
theorem dX8_waitBy_50 : decode cX8_waitBy 50 = .ok (.invokevirtual 177, 3) := by decide +kernel
theorem dX8_waitBy_53 : decode cX8_waitBy 53 = .ok (.iinc 2 1, 3) := by decide +kernel
theorem dX8_waitBy_56 : decode cX8_waitBy 56 = .ok (.goto (-15), 3) := by decide +kernel
theorem dX8_waitBy_59 : decode cX8_waitBy 59 = .ok (.iconst 0, 1) := by decide +kernel
theorem dX8_waitBy_60 : decode cX8_waitBy 60 = .ok (.istore_n 2, 1) := by decide +kernel
theorem dX8_waitBy_61 : decode cX8_waitBy 61 = .ok (.iconst 0, 1) := by decide +kernel
theorem dX8_waitBy_62 : decode cX8_waitBy 62 = .ok (.istore_n 3, 1) := by decide +kernel
theorem dX8_waitBy_63 : decode cX8_waitBy 63 = .ok (.iload_n 3, 1) := by decide +kernel
theorem dX8_waitBy_64 : decode cX8_waitBy 64 = .ok (.iload_n 1, 1) := by decide +kernel
theorem dX8_waitBy_65 : decode cX8_waitBy 65 = .ok (.if_icmp .ge 72, 3) := by decide +kernel
theorem dX8_waitBy_68 : decode cX8_waitBy 68 = .ok (.aload_n 0, 1) := by decide +kernel
theorem dX8_waitBy_69 : decode cX8_waitBy 69 = .ok (.bipush 66, 2) := by decide +kernel
theorem dX8_waitBy_71 : decode cX8_waitBy 71 = .ok (.aload_n 0, 1) := by decide +kernel
theorem dX8_waitBy_72 : decode cX8_waitBy 72 = .ok (.getfield 41, 3) := by decide +kernel
theorem dX8_waitBy_75 : decode cX8_waitBy 75 = .ok (.iload_n 3, 1) := by decide +kernel
theorem dX8_waitBy_76 : decode cX8_waitBy 76 = .ok (.iaload, 1) := by decide +kernel
theorem dX8_waitBy_77 : decode cX8_waitBy 77 = .ok (.iconst 3, 1) := by decide +kernel
theorem dX8_waitBy_78 : decode cX8_waitBy 78 = .ok (.invokevirtual 163, 3) := by decide +kernel
theorem dX8_waitBy_81 : decode cX8_waitBy 81 = .ok (.istore 4, 2) := by decide +kernel
theorem dX8_waitBy_83 : decode cX8_waitBy 83 = .ok (.iload 4, 2) := by decide +kernel
theorem dX8_waitBy_85 : decode cX8_waitBy 85 = .ok (.ifCond .eq 29, 3) := by decide +kernel
theorem dX8_waitBy_88 : decode cX8_waitBy 88 = .ok (.aload_n 0, 1) := by decide +kernel
theorem dX8_waitBy_89 : decode cX8_waitBy 89 = .ok (.getfield 7, 3) := by decide +kernel
theorem dX8_waitBy_92 : decode cX8_waitBy 92 = .ok (.bipush 96, 2) := by decide +kernel
theorem dX8_waitBy_94 : decode cX8_waitBy 94 = .ok (.aload_n 0, 1) := by decide +kernel
theorem dX8_waitBy_95 : decode cX8_waitBy 95 = .ok (.getfield 41, 3) := by decide +kernel
theorem dX8_waitBy_98 : decode cX8_waitBy 98 = .ok (.iload_n 3, 1) := by decide +kernel
theorem dX8_waitBy_99 : decode cX8_waitBy 99 = .ok (.iaload, 1) := by decide +kernel
theorem dX8_waitBy_100 : decode cX8_waitBy 100 = .ok (.iadd, 1) := by decide +kernel
theorem dX8_waitBy_101 : decode cX8_waitBy 101 = .ok (.iaload, 1) := by decide +kernel
theorem dX8_waitBy_102 : decode cX8_waitBy 102 = .ok (.aload_n 0, 1) := by decide +kernel
theorem dX8_waitBy_103 : decode cX8_waitBy 103 = .ok (.getfield 7, 3) := by decide +kernel
theorem dX8_waitBy_106 : decode cX8_waitBy 106 = .ok (.iconst 0, 1) := by decide +kernel
theorem dX8_waitBy_107 : decode cX8_waitBy 107 = .ok (.iaload, 1) := by decide +kernel
theorem dX8_waitBy_108 : decode cX8_waitBy 108 = .ok (.isub, 1) := by decide +kernel
theorem dX8_waitBy_109 : decode cX8_waitBy 109 = .ok (.iload_n 3, 1) := by decide +kernel
theorem dX8_waitBy_110 : decode cX8_waitBy 110 = .ok (.isub, 1) := by decide +kernel
theorem dX8_waitBy_111 : decode cX8_waitBy 111 = .ok (.goto 5, 3) := by decide +kernel
theorem dX8_waitBy_114 : decode cX8_waitBy 114 = .ok (.bipush 99, 2) := by decide +kernel
theorem dX8_waitBy_116 : decode cX8_waitBy 116 = .ok (.istore 5, 2) := by decide +kernel
theorem dX8_waitBy_118 : decode cX8_waitBy 118 = .ok (.iload 5, 2) := by decide +kernel
theorem dX8_waitBy_120 : decode cX8_waitBy 120 = .ok (.iload_n 2, 1) := by decide +kernel
theorem dX8_waitBy_121 : decode cX8_waitBy 121 = .ok (.if_icmp .le 8, 3) := by decide +kernel
theorem dX8_waitBy_124 : decode cX8_waitBy 124 = .ok (.iload 5, 2) := by decide +kernel
theorem dX8_waitBy_126 : decode cX8_waitBy 126 = .ok (.goto 4, 3) := by decide +kernel
theorem dX8_waitBy_129 : decode cX8_waitBy 129 = .ok (.iload_n 2, 1) := by decide +kernel
theorem dX8_waitBy_130 : decode cX8_waitBy 130 = .ok (.istore_n 2, 1) := by decide +kernel
theorem dX8_waitBy_131 : decode cX8_waitBy 131 = .ok (.iinc 3 1, 3) := by decide +kernel
theorem dX8_waitBy_134 : decode cX8_waitBy 134 = .ok (.goto (-71), 3) := by decide +kernel
theorem dX8_waitBy_137 : decode cX8_waitBy 137 = .ok (.iload_n 2, 1) := by decide +kernel
theorem dX8_waitBy_138 : decode cX8_waitBy 138 = .ok (.ireturn, 1) := by decide +kernel
theorem dX8_family_0 : decode cX8_family 0 = .ok (.iload_n 1, 1) := by decide +kernel
theorem dX8_family_1 : decode cX8_family 1 = .ok (.i2l, 1) := by decide +kernel
theorem dX8_family_2 : decode cX8_family 2 = .ok (.lconst 1, 1) := by decide +kernel
theorem dX8_family_3 : decode cX8_family 3 = .ok (.ldc2_w 211, 3) := by decide +kernel
theorem dX8_family_6 : decode cX8_family 6 = .ok (.invokestatic 70, 3) := by decide +kernel
theorem dX8_family_9 : decode cX8_family 9 = .ok (.ifCond .eq 15, 3) := by decide +kernel
theorem dX8_family_12 : decode cX8_family 12 = .ok (.iload_n 2, 1) := by decide +kernel
theorem dX8_family_13 : decode cX8_family 13 = .ok (.i2l, 1) := by decide +kernel
theorem dX8_family_14 : decode cX8_family 14 = .ok (.lconst 0, 1) := by decide +kernel
theorem dX8_family_15 : decode cX8_family 15 = .ok (.ldc2_w 213, 3) := by decide +kernel
theorem dX8_family_18 : decode cX8_family 18 = .ok (.invokestatic 70, 3) := by decide +kernel
theorem dX8_family_21 : decode cX8_family 21 = .ok (.ifCond .ne 5, 3) := by decide +kernel
theorem dX8_family_24 : decode cX8_family 24 = .ok (.iconst (-1), 1) := by decide +kernel
theorem dX8_family_25 : decode cX8_family 25 = .ok (.ireturn, 1) := by decide +kernel
theorem dX8_family_26 : decode cX8_family 26 = .ok (.iconst 0, 1) := by decide +kernel
theorem dX8_family_27 : decode cX8_family 27 = .ok (.istore_n 3, 1) := by decide +kernel
theorem dX8_family_28 : decode cX8_family 28 = .ok (.iconst 0, 1) := by decide +kernel
theorem dX8_family_29 : decode cX8_family 29 = .ok (.istore 4, 2) := by decide +kernel
theorem dX8_family_31 : decode cX8_family 31 = .ok (.iload 4, 2) := by decide +kernel
theorem dX8_family_33 : decode cX8_family 33 = .ok (.aload_n 0, 1) := by decide +kernel
theorem dX8_family_34 : decode cX8_family 34 = .ok (.getfield 67, 3) := by decide +kernel
theorem dX8_family_37 : decode cX8_family 37 = .ok (.if_icmp .ge 42, 3) := by decide +kernel
theorem dX8_family_40 : decode cX8_family 40 = .ok (.aload_n 0, 1) := by decide +kernel
theorem dX8_family_41 : decode cX8_family 41 = .ok (.getfield 13, 3) := by decide +kernel
theorem dX8_family_44 : decode cX8_family 44 = .ok (.iload 4, 2) := by decide +kernel
theorem dX8_family_46 : decode cX8_family 46 = .ok (.iaload, 1) := by decide +kernel
theorem dX8_family_47 : decode cX8_family 47 = .ok (.iload_n 1, 1) := by decide +kernel
theorem dX8_family_48 : decode cX8_family 48 = .ok (.if_icmp .ne 25, 3) := by decide +kernel
theorem dX8_family_51 : decode cX8_family 51 = .ok (.aload_n 0, 1) := by decide +kernel
theorem dX8_family_52 : decode cX8_family 52 = .ok (.iconst 0, 1) := by decide +kernel
theorem dX8_family_53 : decode cX8_family 53 = .ok (.iload 4, 2) := by decide +kernel
theorem dX8_family_55 : decode cX8_family 55 = .ok (.iconst 0, 1) := by decide +kernel
theorem dX8_family_56 : decode cX8_family 56 = .ok (.invokevirtual 163, 3) := by decide +kernel
theorem dX8_family_59 : decode cX8_family 59 = .ok (.ifCond .eq 14, 3) := by decide +kernel
theorem dX8_family_62 : decode cX8_family 62 = .ok (.aload_n 0, 1) := by decide +kernel
theorem dX8_family_63 : decode cX8_family 63 = .ok (.getfield 38, 3) := by decide +kernel
theorem dX8_family_66 : decode cX8_family 66 = .ok (.iload_n 3, 1) := by decide +kernel
theorem dX8_family_67 : decode cX8_family 67 = .ok (.iload 4, 2) := by decide +kernel
theorem dX8_family_69 : decode cX8_family 69 = .ok (.iastore, 1) := by decide +kernel
theorem dX8_family_70 : decode cX8_family 70 = .ok (.iinc 3 1, 3) := by decide +kernel
theorem dX8_family_73 : decode cX8_family 73 = .ok (.iinc 4 1, 3) := by decide +kernel
theorem dX8_family_76 : decode cX8_family 76 = .ok (.goto (-45), 3) := by decide +kernel
theorem dX8_family_79 : decode cX8_family 79 = .ok (.iload_n 3, 1) := by decide +kernel
theorem dX8_family_80 : decode cX8_family 80 = .ok (.ifCond .ne 6, 3) := by decide +kernel
theorem dX8_family_83 : decode cX8_family 83 = .ok (.bipush (-2), 2) := by decide +kernel
theorem dX8_family_85 : decode cX8_family 85 = .ok (.ireturn, 1) := by decide +kernel
theorem dX8_family_86 : decode cX8_family 86 = .ok (.iconst 1, 1) := by decide +kernel
theorem dX8_family_87 : decode cX8_family 87 = .ok (.istore 4, 2) := by decide +kernel
theorem dX8_family_89 : decode cX8_family 89 = .ok (.iconst 0, 1) := by decide +kernel
theorem dX8_family_90 : decode cX8_family 90 = .ok (.istore 5, 2) := by decide +kernel
theorem dX8_family_92 : decode cX8_family 92 = .ok (.iload 5, 2) := by decide +kernel
theorem dX8_family_94 : decode cX8_family 94 = .ok (.iload_n 3, 1) := by decide +kernel
theorem dX8_family_95 : decode cX8_family 95 = .ok (.if_icmp .ge 15, 3) := by decide +kernel
theorem dX8_family_98 : decode cX8_family 98 = .ok (.iload 4, 2) := by decide +kernel
theorem dX8_family_100 : decode cX8_family 100 = .ok (.iload_n 3, 1) := by decide +kernel
theorem dX8_family_101 : decode cX8_family 101 = .ok (.imul, 1) := by decide +kernel
theorem dX8_family_102 : decode cX8_family 102 = .ok (.istore 4, 2) := by decide +kernel
theorem dX8_family_104 : decode cX8_family 104 = .ok (.iinc 5 1, 3) := by decide +kernel
theorem dX8_family_107 : decode cX8_family 107 = .ok (.goto (-15), 3) := by decide +kernel
theorem dX8_family_110 : decode cX8_family 110 = .ok (.bipush 100, 2) := by decide +kernel
theorem dX8_family_112 : decode cX8_family 112 = .ok (.istore 5, 2) := by decide +kernel
theorem dX8_family_114 : decode cX8_family 114 = .ok (.iconst 0, 1) := by decide +kernel
theorem dX8_family_115 : decode cX8_family 115 = .ok (.istore 6, 2) := by decide +kernel
theorem dX8_family_117 : decode cX8_family 117 = .ok (.iload 6, 2) := by decide +kernel
theorem dX8_family_119 : decode cX8_family 119 = .ok (.iload 4, 2) := by decide +kernel
theorem dX8_family_121 : decode cX8_family 121 = .ok (.if_icmp .ge 127, 3) := by decide +kernel
theorem dX8_family_124 : decode cX8_family 124 = .ok (.iload 6, 2) := by decide +kernel
theorem dX8_family_126 : decode cX8_family 126 = .ok (.istore 7, 2) := by decide +kernel
theorem dX8_family_128 : decode cX8_family 128 = .ok (.iconst 0, 1) := by decide +kernel
theorem dX8_family_129 : decode cX8_family 129 = .ok (.istore 8, 2) := by decide +kernel
theorem dX8_family_131 : decode cX8_family 131 = .ok (.iload_n 3, 1) := by decide +kernel
theorem dX8_family_132 : decode cX8_family 132 = .ok (.iconst 1, 1) := by decide +kernel
theorem dX8_family_133 : decode cX8_family 133 = .ok (.isub, 1) := by decide +kernel
theorem dX8_family_134 : decode cX8_family 134 = .ok (.istore 9, 2) := by decide +kernel
theorem dX8_family_136 : decode cX8_family 136 = .ok (.iload 9, 2) := by decide +kernel
theorem dX8_family_138 : decode cX8_family 138 = .ok (.ifCond .lt 42, 3) := by decide +kernel
theorem dX8_family_141 : decode cX8_family 141 = .ok (.aload_n 0, 1) := by decide +kernel
theorem dX8_family_142 : decode cX8_family 142 = .ok (.getfield 41, 3) := by decide +kernel
theorem dX8_family_145 : decode cX8_family 145 = .ok (.iload 9, 2) := by decide +kernel
theorem dX8_family_147 : decode cX8_family 147 = .ok (.aload_n 0, 1) := by decide +kernel
theorem dX8_family_148 : decode cX8_family 148 = .ok (.getfield 38, 3) := by decide +kernel
theorem dX8_family_151 : decode cX8_family 151 = .ok (.iload 7, 2) := by decide +kernel
theorem dX8_family_153 : decode cX8_family 153 = .ok (.iload_n 3, 1) := by decide +kernel
theorem dX8_family_154 : decode cX8_family 154 = .ok (.irem, 1) := by decide +kernel
theorem dX8_family_155 : decode cX8_family 155 = .ok (.iaload, 1) := by decide +kernel
theorem dX8_family_156 : decode cX8_family 156 = .ok (.iastore, 1) := by decide +kernel
theorem dX8_family_157 : decode cX8_family 157 = .ok (.iload 8, 2) := by decide +kernel
theorem dX8_family_159 : decode cX8_family 159 = .ok (.iconst 1, 1) := by decide +kernel
theorem dX8_family_160 : decode cX8_family 160 = .ok (.iload 7, 2) := by decide +kernel
theorem dX8_family_162 : decode cX8_family 162 = .ok (.iload_n 3, 1) := by decide +kernel
theorem dX8_family_163 : decode cX8_family 163 = .ok (.irem, 1) := by decide +kernel
theorem dX8_family_164 : decode cX8_family 164 = .ok (.ishl, 1) := by decide +kernel
theorem dX8_family_165 : decode cX8_family 165 = .ok (.ior, 1) := by decide +kernel
theorem dX8_family_166 : decode cX8_family 166 = .ok (.istore 8, 2) := by decide +kernel
theorem dX8_family_168 : decode cX8_family 168 = .ok (.iload 7, 2) := by decide +kernel
theorem dX8_family_170 : decode cX8_family 170 = .ok (.iload_n 3, 1) := by decide +kernel
theorem dX8_family_171 : decode cX8_family 171 = .ok (.idiv, 1) := by decide +kernel
theorem dX8_family_172 : decode cX8_family 172 = .ok (.istore 7, 2) := by decide +kernel
theorem dX8_family_174 : decode cX8_family 174 = .ok (.iinc 9 (-1), 3) := by decide +kernel
theorem dX8_family_177 : decode cX8_family 177 = .ok (.goto (-41), 3) := by decide +kernel
theorem dX8_family_180 : decode cX8_family 180 = .ok (.iload 8, 2) := by decide +kernel
theorem dX8_family_182 : decode cX8_family 182 = .ok (.iconst 1, 1) := by decide +kernel
theorem dX8_family_183 : decode cX8_family 183 = .ok (.iload_n 3, 1) := by decide +kernel
theorem dX8_family_184 : decode cX8_family 184 = .ok (.ishl, 1) := by decide +kernel
theorem dX8_family_185 : decode cX8_family 185 = .ok (.iconst 1, 1) := by decide +kernel
theorem dX8_family_186 : decode cX8_family 186 = .ok (.isub, 1) := by decide +kernel
theorem dX8_family_187 : decode cX8_family 187 = .ok (.if_icmp .ne 11, 3) := by decide +kernel
theorem dX8_family_190 : decode cX8_family 190 = .ok (.aload_n 0, 1) := by decide +kernel
theorem dX8_family_191 : decode cX8_family 191 = .ok (.iload_n 3, 1) := by decide +kernel
theorem dX8_family_192 : decode cX8_family 192 = .ok (.invokevirtual 215, 3) := by decide +kernel
theorem dX8_family_195 : decode cX8_family 195 = .ok (.goto 5, 3) := by decide +kernel
theorem dX8_family_198 : decode cX8_family 198 = .ok (.bipush 100, 2) := by decide +kernel
theorem dX8_family_200 : decode cX8_family 200 = .ok (.istore 9, 2) := by decide +kernel
theorem dX8_family_202 : decode cX8_family 202 = .ok (.iload 9, 2) := by decide +kernel
theorem dX8_family_204 : decode cX8_family 204 = .ok (.iload 5, 2) := by decide +kernel
theorem dX8_family_206 : decode cX8_family 206 = .ok (.if_icmp .ge 36, 3) := by decide +kernel
theorem dX8_family_209 : decode cX8_family 209 = .ok (.iload 9, 2) := by decide +kernel
theorem dX8_family_211 : decode cX8_family 211 = .ok (.istore 5, 2) := by decide +kernel
theorem dX8_family_213 : decode cX8_family 213 = .ok (.iconst 0, 1) := by decide +kernel
theorem dX8_family_214 : decode cX8_family 214 = .ok (.istore 10, 2) := by decide +kernel
theorem dX8_family_216 : decode cX8_family 216 = .ok (.iload 10, 2) := by decide +kernel
theorem dX8_family_218 : decode cX8_family 218 = .ok (.iload_n 3, 1) := by decide +kernel
theorem dX8_family_219 : decode cX8_family 219 = .ok (.if_icmp .ge 23, 3) := by decide +kernel
theorem dX8_family_222 : decode cX8_family 222 = .ok (.aload_n 0, 1) := by decide +kernel
theorem dX8_family_223 : decode cX8_family 223 = .ok (.getfield 44, 3) := by decide +kernel
theorem dX8_family_226 : decode cX8_family 226 = .ok (.iload 10, 2) := by decide +kernel
theorem dX8_family_228 : decode cX8_family 228 = .ok (.aload_n 0, 1) := by decide +kernel
theorem dX8_family_229 : decode cX8_family 229 = .ok (.getfield 41, 3) := by decide +kernel
theorem dX8_family_232 : decode cX8_family 232 = .ok (.iload 10, 2) := by decide +kernel
theorem dX8_family_234 : decode cX8_family 234 = .ok (.iaload, 1) := by decide +kernel
theorem dX8_family_235 : decode cX8_family 235 = .ok (.iastore, 1) := by decide +kernel
theorem dX8_family_236 : decode cX8_family 236 = .ok (.iinc 10 1, 3) := by decide +kernel
theorem dX8_family_239 : decode cX8_family 239 = .ok (.goto (-23), 3) := by decide +kernel
theorem dX8_family_242 : decode cX8_family 242 = .ok (.iinc 6 1, 3) := by decide +kernel
theorem dX8_family_245 : decode cX8_family 245 = .ok (.goto (-128), 3) := by decide +kernel
theorem dX8_family_248 : decode cX8_family 248 = .ok (.iload_n 2, 1) := by decide +kernel
theorem dX8_family_249 : decode cX8_family 249 = .ok (.ifCond .ne 8, 3) := by decide +kernel
theorem dX8_family_252 : decode cX8_family 252 = .ok (.iload 5, 2) := by decide +kernel
theorem dX8_family_254 : decode cX8_family 254 = .ok (.goto 21, 3) := by decide +kernel
theorem dX8_family_257 : decode cX8_family 257 = .ok (.iload_n 2, 1) := by decide +kernel
theorem dX8_family_258 : decode cX8_family 258 = .ok (.iload_n 3, 1) := by decide +kernel
theorem dX8_family_259 : decode cX8_family 259 = .ok (.if_icmp .gt 14, 3) := by decide +kernel
theorem dX8_family_262 : decode cX8_family 262 = .ok (.aload_n 0, 1) := by decide +kernel
theorem dX8_family_263 : decode cX8_family 263 = .ok (.getfield 44, 3) := by decide +kernel
theorem dX8_family_266 : decode cX8_family 266 = .ok (.iload_n 2, 1) := by decide +kernel
theorem dX8_family_267 : decode cX8_family 267 = .ok (.iconst 1, 1) := by decide +kernel
theorem dX8_family_268 : decode cX8_family 268 = .ok (.isub, 1) := by decide +kernel
theorem dX8_family_269 : decode cX8_family 269 = .ok (.iaload, 1) := by decide +kernel
theorem dX8_family_270 : decode cX8_family 270 = .ok (.goto 5, 3) := by decide +kernel
theorem dX8_family_273 : decode cX8_family 273 = .ok (.bipush (-4), 2) := by decide +kernel
theorem dX8_family_275 : decode cX8_family 275 = .ok (.ireturn, 1) := by decide +kernel
theorem dX8_warmthOf_0 : decode cX8_warmthOf 0 = .ok (.iconst 0, 1) := by decide +kernel
theorem dX8_warmthOf_1 : decode cX8_warmthOf 1 = .ok (.istore_n 3, 1) := by decide +kernel
theorem dX8_warmthOf_2 : decode cX8_warmthOf 2 = .ok (.iload_n 1, 1) := by decide +kernel
theorem dX8_warmthOf_3 : decode cX8_warmthOf 3 = .ok (.istore 4, 2) := by decide +kernel
theorem dX8_warmthOf_5 : decode cX8_warmthOf 5 = .ok (.iload 4, 2) := by decide +kernel
theorem dX8_warmthOf_7 : decode cX8_warmthOf 7 = .ok (.iload_n 2, 1) := by decide +kernel
theorem dX8_warmthOf_8 : decode cX8_warmthOf 8 = .ok (.if_icmp .ge 32, 3) := by decide +kernel
theorem dX8_warmthOf_11 : decode cX8_warmthOf 11 = .ok (.iload_n 3, 1) := by decide +kernel
theorem dX8_warmthOf_12 : decode cX8_warmthOf 12 = .ok (.aload_n 0, 1) := by decide +kernel
theorem dX8_warmthOf_13 : decode cX8_warmthOf 13 = .ok (.getfield 77, 3) := by decide +kernel
theorem dX8_warmthOf_16 : decode cX8_warmthOf 16 = .ok (.iload 4, 2) := by decide +kernel
theorem dX8_warmthOf_18 : decode cX8_warmthOf 18 = .ok (.if_icmp .le 13, 3) := by decide +kernel
theorem dX8_warmthOf_21 : decode cX8_warmthOf 21 = .ok (.aload_n 0, 1) := by decide +kernel
theorem dX8_warmthOf_22 : decode cX8_warmthOf 22 = .ok (.getfield 77, 3) := by decide +kernel
theorem dX8_warmthOf_25 : decode cX8_warmthOf 25 = .ok (.iload 4, 2) := by decide +kernel
theorem dX8_warmthOf_27 : decode cX8_warmthOf 27 = .ok (.isub, 1) := by decide +kernel
theorem dX8_warmthOf_28 : decode cX8_warmthOf 28 = .ok (.goto 4, 3) := by decide +kernel
theorem dX8_warmthOf_31 : decode cX8_warmthOf 31 = .ok (.iconst 0, 1) := by decide +kernel
theorem dX8_warmthOf_32 : decode cX8_warmthOf 32 = .ok (.iadd, 1) := by decide +kernel
theorem dX8_warmthOf_33 : decode cX8_warmthOf 33 = .ok (.istore_n 3, 1) := by decide +kernel
theorem dX8_warmthOf_34 : decode cX8_warmthOf 34 = .ok (.iinc 4 1, 3) := by decide +kernel
theorem dX8_warmthOf_37 : decode cX8_warmthOf 37 = .ok (.goto (-32), 3) := by decide +kernel
theorem dX8_warmthOf_40 : decode cX8_warmthOf 40 = .ok (.iload_n 3, 1) := by decide +kernel
theorem dX8_warmthOf_41 : decode cX8_warmthOf 41 = .ok (.ireturn, 1) := by decide +kernel
theorem dX8_warmth_0 : decode cX8_warmth 0 = .ok (.iload_n 1, 1) := by decide +kernel
theorem dX8_warmth_1 : decode cX8_warmth 1 = .ok (.i2l, 1) := by decide +kernel
theorem dX8_warmth_2 : decode cX8_warmth 2 = .ok (.lconst 0, 1) := by decide +kernel
theorem dX8_warmth_3 : decode cX8_warmth 3 = .ok (.ldc2_w 191, 3) := by decide +kernel
theorem dX8_warmth_6 : decode cX8_warmth 6 = .ok (.invokestatic 70, 3) := by decide +kernel
theorem dX8_warmth_9 : decode cX8_warmth 9 = .ok (.ifCond .ne 5, 3) := by decide +kernel
theorem dX8_warmth_12 : decode cX8_warmth 12 = .ok (.iconst (-1), 1) := by decide +kernel
theorem dX8_warmth_13 : decode cX8_warmth 13 = .ok (.ireturn, 1) := by decide +kernel
theorem dX8_warmth_14 : decode cX8_warmth 14 = .ok (.aload_n 0, 1) := by decide +kernel
theorem dX8_warmth_15 : decode cX8_warmth 15 = .ok (.invokevirtual 197, 3) := by decide +kernel
theorem dX8_warmth_18 : decode cX8_warmth 18 = .ok (.iconst 0, 1) := by decide +kernel
theorem dX8_warmth_19 : decode cX8_warmth 19 = .ok (.istore_n 2, 1) := by decide +kernel
theorem dX8_warmth_20 : decode cX8_warmth 20 = .ok (.iload_n 2, 1) := by decide +kernel
theorem dX8_warmth_21 : decode cX8_warmth 21 = .ok (.iload_n 1, 1) := by decide +kernel
theorem dX8_warmth_22 : decode cX8_warmth 22 = .ok (.if_icmp .ge 15, 3) := by decide +kernel
theorem dX8_warmth_25 : decode cX8_warmth 25 = .ok (.aload_n 0, 1) := by decide +kernel
theorem dX8_warmth_26 : decode cX8_warmth 26 = .ok (.bipush 66, 2) := by decide +kernel
theorem dX8_warmth_28 : decode cX8_warmth 28 = .ok (.invokevirtual 177, 3) := by decide +kernel
theorem dX8_warmth_31 : decode cX8_warmth 31 = .ok (.iinc 2 1, 3) := by decide +kernel
theorem dX8_warmth_34 : decode cX8_warmth 34 = .ok (.goto (-14), 3) := by decide +kernel
theorem dX8_warmth_37 : decode cX8_warmth 37 = .ok (.aload_n 0, 1) := by decide +kernel
theorem dX8_warmth_38 : decode cX8_warmth 38 = .ok (.aload_n 0, 1) := by decide +kernel
theorem dX8_warmth_39 : decode cX8_warmth 39 = .ok (.getfield 7, 3) := by decide +kernel
theorem dX8_warmth_42 : decode cX8_warmth 42 = .ok (.iconst 1, 1) := by decide +kernel
theorem dX8_warmth_43 : decode cX8_warmth 43 = .ok (.iaload, 1) := by decide +kernel
theorem dX8_warmth_44 : decode cX8_warmth 44 = .ok (.aload_n 0, 1) := by decide +kernel
theorem dX8_warmth_45 : decode cX8_warmth 45 = .ok (.getfield 7, 3) := by decide +kernel
theorem dX8_warmth_48 : decode cX8_warmth 48 = .ok (.bipush 67, 2) := by decide +kernel
theorem dX8_warmth_50 : decode cX8_warmth 50 = .ok (.iaload, 1) := by decide +kernel
theorem dX8_warmth_51 : decode cX8_warmth 51 = .ok (.invokevirtual 218, 3) := by decide +kernel
theorem dX8_warmth_54 : decode cX8_warmth 54 = .ok (.ireturn, 1) := by decide +kernel
theorem dX8_see_0 : decode cX8_see 0 = .ok (.aload_n 0, 1) := by decide +kernel
theorem dX8_see_1 : decode cX8_see 1 = .ok (.iload_n 1, 1) := by decide +kernel
theorem dX8_see_2 : decode cX8_see 2 = .ok (.invokevirtual 166, 3) := by decide +kernel
theorem dX8_see_5 : decode cX8_see 5 = .ok (.ifCond .eq 15, 3) := by decide +kernel
theorem dX8_see_8 : decode cX8_see 8 = .ok (.iload_n 2, 1) := by decide +kernel
theorem dX8_see_9 : decode cX8_see 9 = .ok (.i2l, 1) := by decide +kernel
theorem dX8_see_10 : decode cX8_see 10 = .ok (.lconst 1, 1) := by decide +kernel
theorem dX8_see_11 : decode cX8_see 11 = .ok (.ldc2_w 191, 3) := by decide +kernel
theorem dX8_see_14 : decode cX8_see 14 = .ok (.invokestatic 70, 3) := by decide +kernel
theorem dX8_see_17 : decode cX8_see 17 = .ok (.ifCond .ne 5, 3) := by decide +kernel
theorem dX8_see_20 : decode cX8_see 20 = .ok (.iconst (-1), 1) := by decide +kernel
theorem dX8_see_21 : decode cX8_see 21 = .ok (.ireturn, 1) := by decide +kernel
theorem dX8_see_22 : decode cX8_see 22 = .ok (.aload_n 0, 1) := by decide +kernel
theorem dX8_see_23 : decode cX8_see 23 = .ok (.getfield 89, 3) := by decide +kernel
theorem dX8_see_26 : decode cX8_see 26 = .ok (.bipush 6, 2) := by decide +kernel
theorem dX8_see_28 : decode cX8_see 28 = .ok (.if_icmp .ne 6, 3) := by decide +kernel
theorem dX8_see_31 : decode cX8_see 31 = .ok (.bipush (-3), 2) := by decide +kernel
theorem dX8_see_33 : decode cX8_see 33 = .ok (.ireturn, 1) := by decide +kernel
theorem dX8_see_34 : decode cX8_see 34 = .ok (.aload_n 0, 1) := by decide +kernel
theorem dX8_see_35 : decode cX8_see 35 = .ok (.getfield 16, 3) := by decide +kernel
theorem dX8_see_38 : decode cX8_see 38 = .ok (.aload_n 0, 1) := by decide +kernel
theorem dX8_see_39 : decode cX8_see 39 = .ok (.getfield 89, 3) := by decide +kernel
theorem dX8_see_42 : decode cX8_see 42 = .ok (.iload_n 1, 1) := by decide +kernel
theorem dX8_see_43 : decode cX8_see 43 = .ok (.iastore, 1) := by decide +kernel
theorem dX8_see_44 : decode cX8_see 44 = .ok (.aload_n 0, 1) := by decide +kernel
theorem dX8_see_45 : decode cX8_see 45 = .ok (.getfield 19, 3) := by decide +kernel
theorem dX8_see_48 : decode cX8_see 48 = .ok (.aload_n 0, 1) := by decide +kernel
theorem dX8_see_49 : decode cX8_see 49 = .ok (.getfield 89, 3) := by decide +kernel
theorem dX8_see_52 : decode cX8_see 52 = .ok (.iload_n 2, 1) := by decide +kernel
theorem dX8_see_53 : decode cX8_see 53 = .ok (.iastore, 1) := by decide +kernel
theorem dX8_see_54 : decode cX8_see 54 = .ok (.aload_n 0, 1) := by decide +kernel
theorem dX8_see_55 : decode cX8_see 55 = .ok (.getfield 22, 3) := by decide +kernel
theorem dX8_see_58 : decode cX8_see 58 = .ok (.aload_n 0, 1) := by decide +kernel
theorem dX8_see_59 : decode cX8_see 59 = .ok (.getfield 89, 3) := by decide +kernel
theorem dX8_see_62 : decode cX8_see 62 = .ok (.iload_n 3, 1) := by decide +kernel
theorem dX8_see_63 : decode cX8_see 63 = .ok (.bastore, 1) := by decide +kernel
theorem dX8_see_64 : decode cX8_see 64 = .ok (.aload_n 0, 1) := by decide +kernel
theorem dX8_see_65 : decode cX8_see 65 = .ok (.dup, 1) := by decide +kernel
theorem dX8_see_66 : decode cX8_see 66 = .ok (.getfield 89, 3) := by decide +kernel
theorem dX8_see_69 : decode cX8_see 69 = .ok (.iconst 1, 1) := by decide +kernel
theorem dX8_see_70 : decode cX8_see 70 = .ok (.iadd, 1) := by decide +kernel
theorem dX8_see_71 : decode cX8_see 71 = .ok (.putfield 89, 3) := by decide +kernel
theorem dX8_see_74 : decode cX8_see 74 = .ok (.aload_n 0, 1) := by decide +kernel
theorem dX8_see_75 : decode cX8_see 75 = .ok (.getfield 89, 3) := by decide +kernel
theorem dX8_see_78 : decode cX8_see 78 = .ok (.ireturn, 1) := by decide +kernel
theorem dX8_forget_0 : decode cX8_forget 0 = .ok (.aload_n 0, 1) := by decide +kernel
theorem dX8_forget_1 : decode cX8_forget 1 = .ok (.getfield 89, 3) := by decide +kernel
theorem dX8_forget_4 : decode cX8_forget 4 = .ok (.istore_n 1, 1) := by decide +kernel
theorem dX8_forget_5 : decode cX8_forget 5 = .ok (.aload_n 0, 1) := by decide +kernel
theorem dX8_forget_6 : decode cX8_forget 6 = .ok (.iconst 0, 1) := by decide +kernel
theorem dX8_forget_7 : decode cX8_forget 7 = .ok (.putfield 89, 3) := by decide +kernel
theorem dX8_forget_10 : decode cX8_forget 10 = .ok (.iload_n 1, 1) := by decide +kernel
theorem dX8_forget_11 : decode cX8_forget 11 = .ok (.ireturn, 1) := by decide +kernel
theorem dX8_isSeen_0 : decode cX8_isSeen 0 = .ok (.iconst 1, 1) := by decide +kernel
theorem dX8_isSeen_1 : decode cX8_isSeen 1 = .ok (.istore_n 1, 1) := by decide +kernel
theorem dX8_isSeen_2 : decode cX8_isSeen 2 = .ok (.iconst 1, 1) := by decide +kernel
theorem dX8_isSeen_3 : decode cX8_isSeen 3 = .ok (.istore_n 2, 1) := by decide +kernel
theorem dX8_isSeen_4 : decode cX8_isSeen 4 = .ok (.iload_n 2, 1) := by decide +kernel
theorem dX8_isSeen_5 : decode cX8_isSeen 5 = .ok (.bipush 60, 2) := by decide +kernel
theorem dX8_isSeen_7 : decode cX8_isSeen 7 = .ok (.if_icmp .gt 73, 3) := by decide +kernel
theorem dX8_isSeen_10 : decode cX8_isSeen 10 = .ok (.aload_n 0, 1) := by decide +kernel
theorem dX8_isSeen_11 : decode cX8_isSeen 11 = .ok (.bipush 66, 2) := by decide +kernel
theorem dX8_isSeen_13 : decode cX8_isSeen 13 = .ok (.invokevirtual 177, 3) := by decide +kernel
theorem dX8_isSeen_16 : decode cX8_isSeen 16 = .ok (.iconst 0, 1) := by decide +kernel
theorem dX8_isSeen_17 : decode cX8_isSeen 17 = .ok (.istore_n 3, 1) := by decide +kernel
theorem dX8_isSeen_18 : decode cX8_isSeen 18 = .ok (.iload_n 3, 1) := by decide +kernel
theorem dX8_isSeen_19 : decode cX8_isSeen 19 = .ok (.aload_n 0, 1) := by decide +kernel
theorem dX8_isSeen_20 : decode cX8_isSeen 20 = .ok (.getfield 89, 3) := by decide +kernel
theorem dX8_isSeen_23 : decode cX8_isSeen 23 = .ok (.if_icmp .ge 51, 3) := by decide +kernel
theorem dX8_isSeen_26 : decode cX8_isSeen 26 = .ok (.iload_n 1, 1) := by decide +kernel
theorem dX8_isSeen_27 : decode cX8_isSeen 27 = .ok (.ifCond .eq 39, 3) := by decide +kernel
theorem dX8_isSeen_30 : decode cX8_isSeen 30 = .ok (.aload_n 0, 1) := by decide +kernel
theorem dX8_isSeen_31 : decode cX8_isSeen 31 = .ok (.getfield 19, 3) := by decide +kernel
theorem dX8_isSeen_34 : decode cX8_isSeen 34 = .ok (.iload_n 3, 1) := by decide +kernel
theorem dX8_isSeen_35 : decode cX8_isSeen 35 = .ok (.iaload, 1) := by decide +kernel
theorem dX8_isSeen_36 : decode cX8_isSeen 36 = .ok (.iload_n 2, 1) := by decide +kernel
theorem dX8_isSeen_37 : decode cX8_isSeen 37 = .ok (.if_icmp .ne 25, 3) := by decide +kernel
theorem dX8_isSeen_40 : decode cX8_isSeen 40 = .ok (.aload_n 0, 1) := by decide +kernel
theorem dX8_isSeen_41 : decode cX8_isSeen 41 = .ok (.bipush 66, 2) := by decide +kernel
theorem dX8_isSeen_43 : decode cX8_isSeen 43 = .ok (.aload_n 0, 1) := by decide +kernel
theorem dX8_isSeen_44 : decode cX8_isSeen 44 = .ok (.getfield 16, 3) := by decide +kernel
theorem dX8_isSeen_47 : decode cX8_isSeen 47 = .ok (.iload_n 3, 1) := by decide +kernel
theorem dX8_isSeen_48 : decode cX8_isSeen 48 = .ok (.iaload, 1) := by decide +kernel
theorem dX8_isSeen_49 : decode cX8_isSeen 49 = .ok (.iconst 3, 1) := by decide +kernel
theorem dX8_isSeen_50 : decode cX8_isSeen 50 = .ok (.invokevirtual 163, 3) := by decide +kernel
theorem dX8_isSeen_53 : decode cX8_isSeen 53 = .ok (.aload_n 0, 1) := by decide +kernel
theorem dX8_isSeen_54 : decode cX8_isSeen 54 = .ok (.getfield 22, 3) := by decide +kernel
theorem dX8_isSeen_57 : decode cX8_isSeen 57 = .ok (.iload_n 3, 1) := by decide +kernel
theorem dX8_isSeen_58 : decode cX8_isSeen 58 = .ok (.baload, 1) := by decide +kernel
theorem dX8_isSeen_59 : decode cX8_isSeen 59 = .ok (.if_icmp .ne 7, 3) := by decide +kernel
theorem dX8_isSeen_62 : decode cX8_isSeen 62 = .ok (.iconst 1, 1) := by decide +kernel
theorem dX8_isSeen_63 : decode cX8_isSeen 63 = .ok (.goto 4, 3) := by decide +kernel
theorem dX8_isSeen_66 : decode cX8_isSeen 66 = .ok (.iconst 0, 1) := by decide +kernel
theorem dX8_isSeen_67 : decode cX8_isSeen 67 = .ok (.istore_n 1, 1) := by decide +kernel
theorem dX8_isSeen_68 : decode cX8_isSeen 68 = .ok (.iinc 3 1, 3) := by decide +kernel
theorem dX8_isSeen_71 : decode cX8_isSeen 71 = .ok (.goto (-53), 3) := by decide +kernel
theorem dX8_isSeen_74 : decode cX8_isSeen 74 = .ok (.iinc 2 1, 3) := by decide +kernel
theorem dX8_isSeen_77 : decode cX8_isSeen 77 = .ok (.goto (-73), 3) := by decide +kernel
theorem dX8_isSeen_80 : decode cX8_isSeen 80 = .ok (.iload_n 1, 1) := by decide +kernel
theorem dX8_isSeen_81 : decode cX8_isSeen 81 = .ok (.ireturn, 1) := by decide +kernel
theorem dX8_sneezed_0 : decode cX8_sneezed 0 = .ok (.aload_n 0, 1) := by decide +kernel
theorem dX8_sneezed_1 : decode cX8_sneezed 1 = .ok (.invokevirtual 197, 3) := by decide +kernel
theorem dX8_sneezed_4 : decode cX8_sneezed 4 = .ok (.aload_n 0, 1) := by decide +kernel
theorem dX8_sneezed_5 : decode cX8_sneezed 5 = .ok (.invokevirtual 221, 3) := by decide +kernel
theorem dX8_sneezed_8 : decode cX8_sneezed 8 = .ok (.ifCond .eq 9, 3) := by decide +kernel
theorem dX8_sneezed_11 : decode cX8_sneezed 11 = .ok (.sipush 512, 3) := by decide +kernel
theorem dX8_sneezed_14 : decode cX8_sneezed 14 = .ok (.goto 4, 3) := by decide +kernel
theorem dX8_sneezed_17 : decode cX8_sneezed 17 = .ok (.iconst 0, 1) := by decide +kernel
theorem dX8_sneezed_18 : decode cX8_sneezed 18 = .ok (.istore_n 1, 1) := by decide +kernel
theorem dX8_sneezed_19 : decode cX8_sneezed 19 = .ok (.iconst 0, 1) := by decide +kernel
theorem dX8_sneezed_20 : decode cX8_sneezed 20 = .ok (.istore_n 2, 1) := by decide +kernel
theorem dX8_sneezed_21 : decode cX8_sneezed 21 = .ok (.iload_n 2, 1) := by decide +kernel
theorem dX8_sneezed_22 : decode cX8_sneezed 22 = .ok (.aload_n 0, 1) := by decide +kernel
theorem dX8_sneezed_23 : decode cX8_sneezed 23 = .ok (.getfield 67, 3) := by decide +kernel
theorem dX8_sneezed_26 : decode cX8_sneezed 26 = .ok (.if_icmp .ge 47, 3) := by decide +kernel
theorem dX8_sneezed_29 : decode cX8_sneezed 29 = .ok (.aload_n 0, 1) := by decide +kernel
theorem dX8_sneezed_30 : decode cX8_sneezed 30 = .ok (.iconst 0, 1) := by decide +kernel
theorem dX8_sneezed_31 : decode cX8_sneezed 31 = .ok (.iload_n 2, 1) := by decide +kernel
theorem dX8_sneezed_32 : decode cX8_sneezed 32 = .ok (.iconst 1, 1) := by decide +kernel
theorem dX8_sneezed_33 : decode cX8_sneezed 33 = .ok (.invokevirtual 163, 3) := by decide +kernel
theorem dX8_sneezed_36 : decode cX8_sneezed 36 = .ok (.ifCond .eq 31, 3) := by decide +kernel
theorem dX8_sneezed_39 : decode cX8_sneezed 39 = .ok (.aload_n 0, 1) := by decide +kernel
theorem dX8_sneezed_40 : decode cX8_sneezed 40 = .ok (.invokevirtual 197, 3) := by decide +kernel
theorem dX8_sneezed_43 : decode cX8_sneezed 43 = .ok (.aload_n 0, 1) := by decide +kernel
theorem dX8_sneezed_44 : decode cX8_sneezed 44 = .ok (.bipush 66, 2) := by decide +kernel
theorem dX8_sneezed_46 : decode cX8_sneezed 46 = .ok (.iload_n 2, 1) := by decide +kernel
theorem dX8_sneezed_47 : decode cX8_sneezed 47 = .ok (.invokevirtual 148, 3) := by decide +kernel
theorem dX8_sneezed_50 : decode cX8_sneezed 50 = .ok (.iload_n 1, 1) := by decide +kernel
theorem dX8_sneezed_51 : decode cX8_sneezed 51 = .ok (.aload_n 0, 1) := by decide +kernel
theorem dX8_sneezed_52 : decode cX8_sneezed 52 = .ok (.invokevirtual 221, 3) := by decide +kernel
theorem dX8_sneezed_55 : decode cX8_sneezed 55 = .ok (.ifCond .eq 9, 3) := by decide +kernel
theorem dX8_sneezed_58 : decode cX8_sneezed 58 = .ok (.iconst 1, 1) := by decide +kernel
theorem dX8_sneezed_59 : decode cX8_sneezed 59 = .ok (.iload_n 2, 1) := by decide +kernel
theorem dX8_sneezed_60 : decode cX8_sneezed 60 = .ok (.ishl, 1) := by decide +kernel
theorem dX8_sneezed_61 : decode cX8_sneezed 61 = .ok (.goto 4, 3) := by decide +kernel
theorem dX8_sneezed_64 : decode cX8_sneezed 64 = .ok (.iconst 0, 1) := by decide +kernel
theorem dX8_sneezed_65 : decode cX8_sneezed 65 = .ok (.ior, 1) := by decide +kernel
theorem dX8_sneezed_66 : decode cX8_sneezed 66 = .ok (.istore_n 1, 1) := by decide +kernel
theorem dX8_sneezed_67 : decode cX8_sneezed 67 = .ok (.iinc 2 1, 3) := by decide +kernel
theorem dX8_sneezed_70 : decode cX8_sneezed 70 = .ok (.goto (-49), 3) := by decide +kernel
theorem dX8_sneezed_73 : decode cX8_sneezed 73 = .ok (.iload_n 1, 1) := by decide +kernel
theorem dX8_sneezed_74 : decode cX8_sneezed 74 = .ok (.ireturn, 1) := by decide +kernel
theorem dX8_kinds_0 : decode cX8_kinds 0 = .ok (.aload_n 0, 1) := by decide +kernel
theorem dX8_kinds_1 : decode cX8_kinds 1 = .ok (.iload_n 1, 1) := by decide +kernel
theorem dX8_kinds_2 : decode cX8_kinds 2 = .ok (.invokevirtual 166, 3) := by decide +kernel
theorem dX8_kinds_5 : decode cX8_kinds 5 = .ok (.ifCond .ne 5, 3) := by decide +kernel
theorem dX8_kinds_8 : decode cX8_kinds 8 = .ok (.iconst (-1), 1) := by decide +kernel
theorem dX8_kinds_9 : decode cX8_kinds 9 = .ok (.ireturn, 1) := by decide +kernel
theorem dX8_kinds_10 : decode cX8_kinds 10 = .ok (.iconst 0, 1) := by decide +kernel
theorem dX8_kinds_11 : decode cX8_kinds 11 = .ok (.istore_n 2, 1) := by decide +kernel
theorem dX8_kinds_12 : decode cX8_kinds 12 = .ok (.iconst 0, 1) := by decide +kernel
theorem dX8_kinds_13 : decode cX8_kinds 13 = .ok (.istore_n 3, 1) := by decide +kernel
theorem dX8_kinds_14 : decode cX8_kinds 14 = .ok (.iload_n 3, 1) := by decide +kernel
theorem dX8_kinds_15 : decode cX8_kinds 15 = .ok (.iconst 3, 1) := by decide +kernel
theorem dX8_kinds_16 : decode cX8_kinds 16 = .ok (.if_icmp .gt 40, 3) := by decide +kernel
theorem dX8_kinds_19 : decode cX8_kinds 19 = .ok (.aload_n 0, 1) := by decide +kernel
theorem dX8_kinds_20 : decode cX8_kinds 20 = .ok (.invokevirtual 197, 3) := by decide +kernel
theorem dX8_kinds_23 : decode cX8_kinds 23 = .ok (.aload_n 0, 1) := by decide +kernel
theorem dX8_kinds_24 : decode cX8_kinds 24 = .ok (.getfield 7, 3) := by decide +kernel
theorem dX8_kinds_27 : decode cX8_kinds 27 = .ok (.bipush 123, 2) := by decide +kernel
theorem dX8_kinds_29 : decode cX8_kinds 29 = .ok (.iload_n 1, 1) := by decide +kernel
theorem dX8_kinds_30 : decode cX8_kinds 30 = .ok (.iadd, 1) := by decide +kernel
theorem dX8_kinds_31 : decode cX8_kinds 31 = .ok (.iload_n 3, 1) := by decide +kernel
theorem dX8_kinds_32 : decode cX8_kinds 32 = .ok (.iastore, 1) := by decide +kernel
theorem dX8_kinds_33 : decode cX8_kinds 33 = .ok (.iload_n 2, 1) := by decide +kernel
theorem dX8_kinds_34 : decode cX8_kinds 34 = .ok (.aload_n 0, 1) := by decide +kernel
theorem dX8_kinds_35 : decode cX8_kinds 35 = .ok (.invokevirtual 221, 3) := by decide +kernel
theorem dX8_kinds_38 : decode cX8_kinds 38 = .ok (.ifCond .eq 9, 3) := by decide +kernel
theorem dX8_kinds_41 : decode cX8_kinds 41 = .ok (.iconst 1, 1) := by decide +kernel
theorem dX8_kinds_42 : decode cX8_kinds 42 = .ok (.iload_n 3, 1) := by decide +kernel
theorem dX8_kinds_43 : decode cX8_kinds 43 = .ok (.ishl, 1) := by decide +kernel
theorem dX8_kinds_44 : decode cX8_kinds 44 = .ok (.goto 4, 3) := by decide +kernel
theorem dX8_kinds_47 : decode cX8_kinds 47 = .ok (.iconst 0, 1) := by decide +kernel
theorem dX8_kinds_48 : decode cX8_kinds 48 = .ok (.ior, 1) := by decide +kernel
theorem dX8_kinds_49 : decode cX8_kinds 49 = .ok (.istore_n 2, 1) := by decide +kernel
theorem dX8_kinds_50 : decode cX8_kinds 50 = .ok (.iinc 3 1, 3) := by decide +kernel
theorem dX8_kinds_53 : decode cX8_kinds 53 = .ok (.goto (-39), 3) := by decide +kernel
theorem dX8_kinds_56 : decode cX8_kinds 56 = .ok (.iload_n 2, 1) := by decide +kernel
theorem dX8_kinds_57 : decode cX8_kinds 57 = .ok (.ireturn, 1) := by decide +kernel
theorem dX8_rumours_0 : decode cX8_rumours 0 = .ok (.aload_n 0, 1) := by decide +kernel
theorem dX8_rumours_1 : decode cX8_rumours 1 = .ok (.iload_n 1, 1) := by decide +kernel
theorem dX8_rumours_2 : decode cX8_rumours 2 = .ok (.invokevirtual 166, 3) := by decide +kernel
theorem dX8_rumours_5 : decode cX8_rumours 5 = .ok (.ifCond .eq 38, 3) := by decide +kernel
theorem dX8_rumours_8 : decode cX8_rumours 8 = .ok (.iload_n 2, 1) := by decide +kernel
theorem dX8_rumours_9 : decode cX8_rumours 9 = .ok (.i2l, 1) := by decide +kernel
theorem dX8_rumours_10 : decode cX8_rumours 10 = .ok (.lconst 0, 1) := by decide +kernel
theorem dX8_rumours_11 : decode cX8_rumours 11 = .ok (.ldc2_w 195, 3) := by decide +kernel
theorem dX8_rumours_14 : decode cX8_rumours 14 = .ok (.invokestatic 70, 3) := by decide +kernel
theorem dX8_rumours_17 : decode cX8_rumours 17 = .ok (.ifCond .eq 26, 3) := by decide +kernel
theorem dX8_rumours_20 : decode cX8_rumours 20 = .ok (.iload_n 3, 1) := by decide +kernel
theorem dX8_rumours_21 : decode cX8_rumours 21 = .ok (.i2l, 1) := by decide +kernel
theorem dX8_rumours_22 : decode cX8_rumours 22 = .ok (.lconst 0, 1) := by decide +kernel
theorem dX8_rumours_23 : decode cX8_rumours 23 = .ok (.ldc2_w 224, 3) := by decide +kernel
theorem dX8_rumours_26 : decode cX8_rumours 26 = .ok (.invokestatic 70, 3) := by decide +kernel
theorem dX8_rumours_29 : decode cX8_rumours 29 = .ok (.ifCond .eq 14, 3) := by decide +kernel
theorem dX8_rumours_32 : decode cX8_rumours 32 = .ok (.iload 4, 2) := by decide +kernel
theorem dX8_rumours_34 : decode cX8_rumours 34 = .ok (.i2l, 1) := by decide +kernel
theorem dX8_rumours_35 : decode cX8_rumours 35 = .ok (.lconst 0, 1) := by decide +kernel
theorem dX8_rumours_36 : decode cX8_rumours 36 = .ok (.lconst 1, 1) := by decide +kernel
theorem dX8_rumours_37 : decode cX8_rumours 37 = .ok (.invokestatic 70, 3) := by decide +kernel
theorem dX8_rumours_40 : decode cX8_rumours 40 = .ok (.ifCond .ne 5, 3) := by decide +kernel
theorem dX8_rumours_43 : decode cX8_rumours 43 = .ok (.iconst (-1), 1) := by decide +kernel
theorem dX8_rumours_44 : decode cX8_rumours 44 = .ok (.ireturn, 1) := by decide +kernel
theorem dX8_rumours_45 : decode cX8_rumours 45 = .ok (.iconst 0, 1) := by decide +kernel
theorem dX8_rumours_46 : decode cX8_rumours 46 = .ok (.istore 5, 2) := by decide +kernel
theorem dX8_rumours_48 : decode cX8_rumours 48 = .ok (.iconst 1, 1) := by decide +kernel
theorem dX8_rumours_49 : decode cX8_rumours 49 = .ok (.istore 6, 2) := by decide +kernel
theorem dX8_rumours_51 : decode cX8_rumours 51 = .ok (.iconst 0, 1) := by decide +kernel
theorem dX8_rumours_52 : decode cX8_rumours 52 = .ok (.istore 7, 2) := by decide +kernel
theorem dX8_rumours_54 : decode cX8_rumours 54 = .ok (.iload 7, 2) := by decide +kernel
theorem dX8_rumours_56 : decode cX8_rumours 56 = .ok (.iload_n 2, 1) := by decide +kernel
theorem dX8_rumours_57 : decode cX8_rumours 57 = .ok (.if_icmp .ge 16, 3) := by decide +kernel
theorem dX8_rumours_60 : decode cX8_rumours 60 = .ok (.iload 6, 2) := by decide +kernel
theorem dX8_rumours_62 : decode cX8_rumours 62 = .ok (.bipush 10, 2) := by decide +kernel
theorem dX8_rumours_64 : decode cX8_rumours 64 = .ok (.imul, 1) := by decide +kernel
theorem dX8_rumours_65 : decode cX8_rumours 65 = .ok (.istore 6, 2) := by decide +kernel
theorem dX8_rumours_67 : decode cX8_rumours 67 = .ok (.iinc 7 1, 3) := by decide +kernel
theorem dX8_rumours_70 : decode cX8_rumours 70 = .ok (.goto (-16), 3) := by decide +kernel
theorem dX8_rumours_73 : decode cX8_rumours 73 = .ok (.iconst 0, 1) := by decide +kernel
theorem dX8_rumours_74 : decode cX8_rumours 74 = .ok (.istore 7, 2) := by decide +kernel
theorem dX8_rumours_76 : decode cX8_rumours 76 = .ok (.iload 7, 2) := by decide +kernel
theorem dX8_rumours_78 : decode cX8_rumours 78 = .ok (.iconst 1, 1) := by decide +kernel
theorem dX8_rumours_79 : decode cX8_rumours 79 = .ok (.iload_n 2, 1) := by decide +kernel
theorem dX8_rumours_80 : decode cX8_rumours 80 = .ok (.ishl, 1) := by decide +kernel
theorem dX8_rumours_81 : decode cX8_rumours 81 = .ok (.if_icmp .ge 90, 3) := by decide +kernel
theorem dX8_rumours_84 : decode cX8_rumours 84 = .ok (.iconst 1, 1) := by decide +kernel
theorem dX8_rumours_85 : decode cX8_rumours 85 = .ok (.istore 8, 2) := by decide +kernel
theorem dX8_rumours_87 : decode cX8_rumours 87 = .ok (.aload_n 0, 1) := by decide +kernel
theorem dX8_rumours_88 : decode cX8_rumours 88 = .ok (.invokevirtual 197, 3) := by decide +kernel
theorem dX8_rumours_91 : decode cX8_rumours 91 = .ok (.iconst 0, 1) := by decide +kernel
theorem dX8_rumours_92 : decode cX8_rumours 92 = .ok (.istore 9, 2) := by decide +kernel
theorem dX8_rumours_94 : decode cX8_rumours 94 = .ok (.iload 9, 2) := by decide +kernel
theorem dX8_rumours_96 : decode cX8_rumours 96 = .ok (.iload_n 2, 1) := by decide +kernel
theorem dX8_rumours_97 : decode cX8_rumours 97 = .ok (.if_icmp .ge 46, 3) := by decide +kernel
theorem dX8_rumours_100 : decode cX8_rumours 100 = .ok (.iload 8, 2) := by decide +kernel
theorem dX8_rumours_102 : decode cX8_rumours 102 = .ok (.iload 7, 2) := by decide +kernel
theorem dX8_rumours_104 : decode cX8_rumours 104 = .ok (.iload 9, 2) := by decide +kernel
theorem dX8_rumours_106 : decode cX8_rumours 106 = .ok (.invokestatic 226, 3) := by decide +kernel
theorem dX8_rumours_109 : decode cX8_rumours 109 = .ok (.ifCond .eq 7, 3) := by decide +kernel
theorem dX8_rumours_112 : decode cX8_rumours 112 = .ok (.iload_n 3, 1) := by decide +kernel
theorem dX8_rumours_113 : decode cX8_rumours 113 = .ok (.goto 7, 3) := by decide +kernel
theorem dX8_rumours_116 : decode cX8_rumours 116 = .ok (.bipush 10, 2) := by decide +kernel
theorem dX8_rumours_118 : decode cX8_rumours 118 = .ok (.iload_n 3, 1) := by decide +kernel
theorem dX8_rumours_119 : decode cX8_rumours 119 = .ok (.isub, 1) := by decide +kernel
theorem dX8_rumours_120 : decode cX8_rumours 120 = .ok (.imul, 1) := by decide +kernel
theorem dX8_rumours_121 : decode cX8_rumours 121 = .ok (.istore 8, 2) := by decide +kernel
theorem dX8_rumours_123 : decode cX8_rumours 123 = .ok (.aload_n 0, 1) := by decide +kernel
theorem dX8_rumours_124 : decode cX8_rumours 124 = .ok (.bipush 66, 2) := by decide +kernel
theorem dX8_rumours_126 : decode cX8_rumours 126 = .ok (.iconst 0, 1) := by decide +kernel
theorem dX8_rumours_127 : decode cX8_rumours 127 = .ok (.iload 7, 2) := by decide +kernel
theorem dX8_rumours_129 : decode cX8_rumours 129 = .ok (.iload 9, 2) := by decide +kernel
theorem dX8_rumours_131 : decode cX8_rumours 131 = .ok (.invokestatic 226, 3) := by decide +kernel
theorem dX8_rumours_134 : decode cX8_rumours 134 = .ok (.invokevirtual 159, 3) := by decide +kernel
theorem dX8_rumours_137 : decode cX8_rumours 137 = .ok (.iinc 9 1, 3) := by decide +kernel
theorem dX8_rumours_140 : decode cX8_rumours 140 = .ok (.goto (-46), 3) := by decide +kernel
theorem dX8_rumours_143 : decode cX8_rumours 143 = .ok (.iload 5, 2) := by decide +kernel
theorem dX8_rumours_145 : decode cX8_rumours 145 = .ok (.aload_n 0, 1) := by decide +kernel
theorem dX8_rumours_146 : decode cX8_rumours 146 = .ok (.bipush 66, 2) := by decide +kernel
theorem dX8_rumours_148 : decode cX8_rumours 148 = .ok (.iload_n 1, 1) := by decide +kernel
theorem dX8_rumours_149 : decode cX8_rumours 149 = .ok (.iconst 3, 1) := by decide +kernel
theorem dX8_rumours_150 : decode cX8_rumours 150 = .ok (.invokevirtual 163, 3) := by decide +kernel
theorem dX8_rumours_153 : decode cX8_rumours 153 = .ok (.ifCond .eq 8, 3) := by decide +kernel
theorem dX8_rumours_156 : decode cX8_rumours 156 = .ok (.iload 8, 2) := by decide +kernel
theorem dX8_rumours_158 : decode cX8_rumours 158 = .ok (.goto 4, 3) := by decide +kernel
theorem dX8_rumours_161 : decode cX8_rumours 161 = .ok (.iconst 0, 1) := by decide +kernel
theorem dX8_rumours_162 : decode cX8_rumours 162 = .ok (.iadd, 1) := by decide +kernel
theorem dX8_rumours_163 : decode cX8_rumours 163 = .ok (.istore 5, 2) := by decide +kernel
theorem dX8_rumours_165 : decode cX8_rumours 165 = .ok (.iinc 7 1, 3) := by decide +kernel
theorem dX8_rumours_168 : decode cX8_rumours 168 = .ok (.goto (-92), 3) := by decide +kernel
theorem dX8_rumours_171 : decode cX8_rumours 171 = .ok (.iload 5, 2) := by decide +kernel
theorem dX8_rumours_173 : decode cX8_rumours 173 = .ok (.istore 7, 2) := by decide +kernel
theorem dX8_rumours_175 : decode cX8_rumours 175 = .ok (.iload 6, 2) := by decide +kernel
theorem dX8_rumours_177 : decode cX8_rumours 177 = .ok (.istore 8, 2) := by decide +kernel
theorem dX8_rumours_179 : decode cX8_rumours 179 = .ok (.iload 8, 2) := by decide +kernel
theorem dX8_rumours_181 : decode cX8_rumours 181 = .ok (.ifCond .eq 21, 3) := by decide +kernel
theorem dX8_rumours_184 : decode cX8_rumours 184 = .ok (.iload 7, 2) := by decide +kernel
theorem dX8_rumours_186 : decode cX8_rumours 186 = .ok (.iload 8, 2) := by decide +kernel
theorem dX8_rumours_188 : decode cX8_rumours 188 = .ok (.irem, 1) := by decide +kernel
theorem dX8_rumours_189 : decode cX8_rumours 189 = .ok (.istore 9, 2) := by decide +kernel
theorem dX8_rumours_191 : decode cX8_rumours 191 = .ok (.iload 8, 2) := by decide +kernel
theorem dX8_rumours_193 : decode cX8_rumours 193 = .ok (.istore 7, 2) := by decide +kernel
theorem dX8_rumours_195 : decode cX8_rumours 195 = .ok (.iload 9, 2) := by decide +kernel
theorem dX8_rumours_197 : decode cX8_rumours 197 = .ok (.istore 8, 2) := by decide +kernel
theorem dX8_rumours_199 : decode cX8_rumours 199 = .ok (.goto (-20), 3) := by decide +kernel
theorem dX8_rumours_202 : decode cX8_rumours 202 = .ok (.iload 4, 2) := by decide +kernel
theorem dX8_rumours_204 : decode cX8_rumours 204 = .ok (.ifCond .ne 11, 3) := by decide +kernel
theorem dX8_rumours_207 : decode cX8_rumours 207 = .ok (.iload 5, 2) := by decide +kernel
theorem dX8_rumours_209 : decode cX8_rumours 209 = .ok (.iload 7, 2) := by decide +kernel
theorem dX8_rumours_211 : decode cX8_rumours 211 = .ok (.idiv, 1) := by decide +kernel
theorem dX8_rumours_212 : decode cX8_rumours 212 = .ok (.goto 8, 3) := by decide +kernel
theorem dX8_rumours_215 : decode cX8_rumours 215 = .ok (.iload 6, 2) := by decide +kernel
theorem dX8_rumours_217 : decode cX8_rumours 217 = .ok (.iload 7, 2) := by decide +kernel
theorem dX8_rumours_219 : decode cX8_rumours 219 = .ok (.idiv, 1) := by decide +kernel
theorem dX8_rumours_220 : decode cX8_rumours 220 = .ok (.ireturn, 1) := by decide +kernel
theorem dX8_doesBy_0 : decode cX8_doesBy 0 = .ok (.iload_n 1, 1) := by decide +kernel
theorem dX8_doesBy_1 : decode cX8_doesBy 1 = .ok (.bipush 8, 2) := by decide +kernel
theorem dX8_doesBy_3 : decode cX8_doesBy 3 = .ok (.idiv, 1) := by decide +kernel
theorem dX8_doesBy_4 : decode cX8_doesBy 4 = .ok (.aload_n 0, 1) := by decide +kernel
theorem dX8_doesBy_5 : decode cX8_doesBy 5 = .ok (.getfield 67, 3) := by decide +kernel
theorem dX8_doesBy_8 : decode cX8_doesBy 8 = .ok (.irem, 1) := by decide +kernel
theorem dX8_doesBy_9 : decode cX8_doesBy 9 = .ok (.istore_n 2, 1) := by decide +kernel
theorem dX8_doesBy_10 : decode cX8_doesBy 10 = .ok (.aload_n 0, 1) := by decide +kernel
theorem dX8_doesBy_11 : decode cX8_doesBy 11 = .ok (.bipush 66, 2) := by decide +kernel
theorem dX8_doesBy_13 : decode cX8_doesBy 13 = .ok (.iload_n 2, 1) := by decide +kernel
theorem dX8_doesBy_14 : decode cX8_doesBy 14 = .ok (.iconst 1, 1) := by decide +kernel
theorem dX8_doesBy_15 : decode cX8_doesBy 15 = .ok (.invokevirtual 163, 3) := by decide +kernel
theorem dX8_doesBy_18 : decode cX8_doesBy 18 = .ok (.istore_n 3, 1) := by decide +kernel
theorem dX8_doesBy_19 : decode cX8_doesBy 19 = .ok (.iload_n 1, 1) := by decide +kernel
theorem dX8_doesBy_20 : decode cX8_doesBy 20 = .ok (.iconst 5, 1) := by decide +kernel
theorem dX8_doesBy_21 : decode cX8_doesBy 21 = .ok (.irem, 1) := by decide +kernel
theorem dX8_doesBy_22 : decode cX8_doesBy 22 = .ok (.tableswitch 100 0 3 #[30, 50, 64, 79], 30) := by decide +kernel
theorem dX8_doesBy_52 : decode cX8_doesBy 52 = .ok (.aload_n 0, 1) := by decide +kernel
theorem dX8_doesBy_53 : decode cX8_doesBy 53 = .ok (.bipush 66, 2) := by decide +kernel
theorem dX8_doesBy_55 : decode cX8_doesBy 55 = .ok (.iload_n 2, 1) := by decide +kernel
theorem dX8_doesBy_56 : decode cX8_doesBy 56 = .ok (.invokevirtual 184, 3) := by decide +kernel
theorem dX8_doesBy_59 : decode cX8_doesBy 59 = .ok (.ifCond .eq 63, 3) := by decide +kernel
theorem dX8_doesBy_62 : decode cX8_doesBy 62 = .ok (.aload_n 0, 1) := by decide +kernel
theorem dX8_doesBy_63 : decode cX8_doesBy 63 = .ok (.bipush 66, 2) := by decide +kernel
theorem dX8_doesBy_65 : decode cX8_doesBy 65 = .ok (.iload_n 2, 1) := by decide +kernel
theorem dX8_doesBy_66 : decode cX8_doesBy 66 = .ok (.invokevirtual 188, 3) := by decide +kernel
theorem dX8_doesBy_69 : decode cX8_doesBy 69 = .ok (.goto 53, 3) := by decide +kernel
theorem dX8_doesBy_72 : decode cX8_doesBy 72 = .ok (.iload_n 3, 1) := by decide +kernel
theorem dX8_doesBy_73 : decode cX8_doesBy 73 = .ok (.ifCond .eq 49, 3) := by decide +kernel
theorem dX8_doesBy_76 : decode cX8_doesBy 76 = .ok (.aload_n 0, 1) := by decide +kernel
theorem dX8_doesBy_77 : decode cX8_doesBy 77 = .ok (.bipush 66, 2) := by decide +kernel
theorem dX8_doesBy_79 : decode cX8_doesBy 79 = .ok (.iload_n 2, 1) := by decide +kernel
theorem dX8_doesBy_80 : decode cX8_doesBy 80 = .ok (.invokevirtual 148, 3) := by decide +kernel
theorem dX8_doesBy_83 : decode cX8_doesBy 83 = .ok (.goto 39, 3) := by decide +kernel
theorem dX8_doesBy_86 : decode cX8_doesBy 86 = .ok (.iload_n 3, 1) := by decide +kernel
theorem dX8_doesBy_87 : decode cX8_doesBy 87 = .ok (.ifCond .eq 35, 3) := by decide +kernel
theorem dX8_doesBy_90 : decode cX8_doesBy 90 = .ok (.aload_n 0, 1) := by decide +kernel
theorem dX8_doesBy_91 : decode cX8_doesBy 91 = .ok (.bipush 66, 2) := by decide +kernel
theorem dX8_doesBy_93 : decode cX8_doesBy 93 = .ok (.iload_n 2, 1) := by decide +kernel
theorem dX8_doesBy_94 : decode cX8_doesBy 94 = .ok (.iconst 2, 1) := by decide +kernel
theorem dX8_doesBy_95 : decode cX8_doesBy 95 = .ok (.invokevirtual 141, 3) := by decide +kernel
theorem dX8_doesBy_98 : decode cX8_doesBy 98 = .ok (.goto 24, 3) := by decide +kernel
theorem dX8_doesBy_101 : decode cX8_doesBy 101 = .ok (.aload_n 0, 1) := by decide +kernel
theorem dX8_doesBy_102 : decode cX8_doesBy 102 = .ok (.bipush 66, 2) := by decide +kernel
theorem dX8_doesBy_104 : decode cX8_doesBy 104 = .ok (.iload_n 2, 1) := by decide +kernel
theorem dX8_doesBy_105 : decode cX8_doesBy 105 = .ok (.iconst 2, 1) := by decide +kernel
theorem dX8_doesBy_106 : decode cX8_doesBy 106 = .ok (.invokevirtual 163, 3) := by decide +kernel
theorem dX8_doesBy_109 : decode cX8_doesBy 109 = .ok (.ifCond .eq 13, 3) := by decide +kernel
theorem dX8_doesBy_112 : decode cX8_doesBy 112 = .ok (.aload_n 0, 1) := by decide +kernel
theorem dX8_doesBy_113 : decode cX8_doesBy 113 = .ok (.bipush 66, 2) := by decide +kernel
theorem dX8_doesBy_115 : decode cX8_doesBy 115 = .ok (.iload_n 2, 1) := by decide +kernel
theorem dX8_doesBy_116 : decode cX8_doesBy 116 = .ok (.invokevirtual 144, 3) := by decide +kernel
theorem dX8_doesBy_119 : decode cX8_doesBy 119 = .ok (.goto 3, 3) := by decide +kernel
theorem dX8_doesBy_122 : decode cX8_doesBy 122 = .ok (.return_, 1) := by decide +kernel
theorem dX8_day_0 : decode cX8_day 0 = .ok (.iload_n 1, 1) := by decide +kernel
theorem dX8_day_1 : decode cX8_day 1 = .ok (.i2l, 1) := by decide +kernel
theorem dX8_day_2 : decode cX8_day 2 = .ok (.lconst 0, 1) := by decide +kernel
theorem dX8_day_3 : decode cX8_day 3 = .ok (.ldc2_w 229, 3) := by decide +kernel
theorem dX8_day_6 : decode cX8_day 6 = .ok (.invokestatic 70, 3) := by decide +kernel
theorem dX8_day_9 : decode cX8_day 9 = .ok (.ifCond .eq 25, 3) := by decide +kernel
theorem dX8_day_12 : decode cX8_day 12 = .ok (.iload_n 2, 1) := by decide +kernel
theorem dX8_day_13 : decode cX8_day 13 = .ok (.i2l, 1) := by decide +kernel
theorem dX8_day_14 : decode cX8_day 14 = .ok (.lconst 1, 1) := by decide +kernel
theorem dX8_day_15 : decode cX8_day 15 = .ok (.ldc2_w 191, 3) := by decide +kernel
theorem dX8_day_18 : decode cX8_day 18 = .ok (.invokestatic 70, 3) := by decide +kernel
theorem dX8_day_21 : decode cX8_day 21 = .ok (.ifCond .eq 13, 3) := by decide +kernel
theorem dX8_day_24 : decode cX8_day 24 = .ok (.iload_n 3, 1) := by decide +kernel
theorem dX8_day_25 : decode cX8_day 25 = .ok (.i2l, 1) := by decide +kernel
theorem dX8_day_26 : decode cX8_day 26 = .ok (.lconst 0, 1) := by decide +kernel
theorem dX8_day_27 : decode cX8_day 27 = .ok (.lconst 1, 1) := by decide +kernel
theorem dX8_day_28 : decode cX8_day 28 = .ok (.invokestatic 70, 3) := by decide +kernel
theorem dX8_day_31 : decode cX8_day 31 = .ok (.ifCond .ne 5, 3) := by decide +kernel
theorem dX8_day_34 : decode cX8_day 34 = .ok (.iconst (-1), 1) := by decide +kernel
theorem dX8_day_35 : decode cX8_day 35 = .ok (.ireturn, 1) := by decide +kernel
theorem dX8_day_36 : decode cX8_day 36 = .ok (.aload_n 0, 1) := by decide +kernel
theorem dX8_day_37 : decode cX8_day 37 = .ok (.invokevirtual 197, 3) := by decide +kernel
theorem dX8_day_40 : decode cX8_day 40 = .ok (.iconst 0, 1) := by decide +kernel
theorem dX8_day_41 : decode cX8_day 41 = .ok (.istore 4, 2) := by decide +kernel
theorem dX8_day_43 : decode cX8_day 43 = .ok (.iload 4, 2) := by decide +kernel
theorem dX8_day_45 : decode cX8_day 45 = .ok (.iload_n 2, 1) := by decide +kernel
theorem dX8_day_46 : decode cX8_day 46 = .ok (.if_icmp .ge 47, 3) := by decide +kernel
theorem dX8_day_49 : decode cX8_day 49 = .ok (.ldc2_w 231, 3) := by decide +kernel
theorem dX8_day_52 : decode cX8_day 52 = .ok (.iload_n 1, 1) := by decide +kernel
theorem dX8_day_53 : decode cX8_day 53 = .ok (.i2l, 1) := by decide +kernel
theorem dX8_day_54 : decode cX8_day 54 = .ok (.lmul, 1) := by decide +kernel
theorem dX8_day_55 : decode cX8_day 55 = .ok (.ldc2_w 233, 3) := by decide +kernel
theorem dX8_day_58 : decode cX8_day 58 = .ok (.iload 4, 2) := by decide +kernel
theorem dX8_day_60 : decode cX8_day 60 = .ok (.i2l, 1) := by decide +kernel
theorem dX8_day_61 : decode cX8_day 61 = .ok (.lmul, 1) := by decide +kernel
theorem dX8_day_62 : decode cX8_day 62 = .ok (.ladd, 1) := by decide +kernel
theorem dX8_day_63 : decode cX8_day 63 = .ok (.lconst 1, 1) := by decide +kernel
theorem dX8_day_64 : decode cX8_day 64 = .ok (.ladd, 1) := by decide +kernel
theorem dX8_day_65 : decode cX8_day 65 = .ok (.lstore 5, 2) := by decide +kernel
theorem dX8_day_67 : decode cX8_day 67 = .ok (.aload_n 0, 1) := by decide +kernel
theorem dX8_day_68 : decode cX8_day 68 = .ok (.lload 5, 2) := by decide +kernel
theorem dX8_day_70 : decode cX8_day 70 = .ok (.lload 5, 2) := by decide +kernel
theorem dX8_day_72 : decode cX8_day 72 = .ok (.lmul, 1) := by decide +kernel
theorem dX8_day_73 : decode cX8_day 73 = .ok (.ldc2_w 235, 3) := by decide +kernel
theorem dX8_day_76 : decode cX8_day 76 = .ok (.lrem, 1) := by decide +kernel
theorem dX8_day_77 : decode cX8_day 77 = .ok (.l2i, 1) := by decide +kernel
theorem dX8_day_78 : decode cX8_day 78 = .ok (.invokevirtual 237, 3) := by decide +kernel
theorem dX8_day_81 : decode cX8_day 81 = .ok (.aload_n 0, 1) := by decide +kernel
theorem dX8_day_82 : decode cX8_day 82 = .ok (.bipush 66, 2) := by decide +kernel
theorem dX8_day_84 : decode cX8_day 84 = .ok (.invokevirtual 177, 3) := by decide +kernel
theorem dX8_day_87 : decode cX8_day 87 = .ok (.iinc 4 1, 3) := by decide +kernel
theorem dX8_day_90 : decode cX8_day 90 = .ok (.goto (-47), 3) := by decide +kernel
theorem dX8_day_93 : decode cX8_day 93 = .ok (.iconst 0, 1) := by decide +kernel
theorem dX8_day_94 : decode cX8_day 94 = .ok (.istore 4, 2) := by decide +kernel
theorem dX8_day_96 : decode cX8_day 96 = .ok (.iconst 0, 1) := by decide +kernel
theorem dX8_day_97 : decode cX8_day 97 = .ok (.istore 5, 2) := by decide +kernel
theorem dX8_day_99 : decode cX8_day 99 = .ok (.iload 5, 2) := by decide +kernel
theorem dX8_day_101 : decode cX8_day 101 = .ok (.aload_n 0, 1) := by decide +kernel
theorem dX8_day_102 : decode cX8_day 102 = .ok (.getfield 67, 3) := by decide +kernel
theorem dX8_day_105 : decode cX8_day 105 = .ok (.if_icmp .ge 31, 3) := by decide +kernel
theorem dX8_day_108 : decode cX8_day 108 = .ok (.iload 4, 2) := by decide +kernel
theorem dX8_day_110 : decode cX8_day 110 = .ok (.aload_n 0, 1) := by decide +kernel
theorem dX8_day_111 : decode cX8_day 111 = .ok (.bipush 66, 2) := by decide +kernel
theorem dX8_day_113 : decode cX8_day 113 = .ok (.iload 5, 2) := by decide +kernel
theorem dX8_day_115 : decode cX8_day 115 = .ok (.iconst 3, 1) := by decide +kernel
theorem dX8_day_116 : decode cX8_day 116 = .ok (.invokevirtual 163, 3) := by decide +kernel
theorem dX8_day_119 : decode cX8_day 119 = .ok (.ifCond .eq 7, 3) := by decide +kernel
theorem dX8_day_122 : decode cX8_day 122 = .ok (.iconst 1, 1) := by decide +kernel
theorem dX8_day_123 : decode cX8_day 123 = .ok (.goto 4, 3) := by decide +kernel
theorem dX8_day_126 : decode cX8_day 126 = .ok (.iconst 0, 1) := by decide +kernel
theorem dX8_day_127 : decode cX8_day 127 = .ok (.iadd, 1) := by decide +kernel
theorem dX8_day_128 : decode cX8_day 128 = .ok (.istore 4, 2) := by decide +kernel
theorem dX8_day_130 : decode cX8_day 130 = .ok (.iinc 5 1, 3) := by decide +kernel
theorem dX8_day_133 : decode cX8_day 133 = .ok (.goto (-34), 3) := by decide +kernel
theorem dX8_day_136 : decode cX8_day 136 = .ok (.iload_n 3, 1) := by decide +kernel
theorem dX8_day_137 : decode cX8_day 137 = .ok (.ifCond .ne 8, 3) := by decide +kernel
theorem dX8_day_140 : decode cX8_day 140 = .ok (.iload 4, 2) := by decide +kernel
theorem dX8_day_142 : decode cX8_day 142 = .ok (.goto 20, 3) := by decide +kernel
theorem dX8_day_145 : decode cX8_day 145 = .ok (.aload_n 0, 1) := by decide +kernel
theorem dX8_day_146 : decode cX8_day 146 = .ok (.aload_n 0, 1) := by decide +kernel
theorem dX8_day_147 : decode cX8_day 147 = .ok (.getfield 7, 3) := by decide +kernel
theorem dX8_day_150 : decode cX8_day 150 = .ok (.iconst 1, 1) := by decide +kernel
theorem dX8_day_151 : decode cX8_day 151 = .ok (.iaload, 1) := by decide +kernel
theorem dX8_day_152 : decode cX8_day 152 = .ok (.aload_n 0, 1) := by decide +kernel
theorem dX8_day_153 : decode cX8_day 153 = .ok (.getfield 7, 3) := by decide +kernel
theorem dX8_day_156 : decode cX8_day 156 = .ok (.bipush 67, 2) := by decide +kernel
theorem dX8_day_158 : decode cX8_day 158 = .ok (.iaload, 1) := by decide +kernel
theorem dX8_day_159 : decode cX8_day 159 = .ok (.invokevirtual 218, 3) := by decide +kernel
theorem dX8_day_162 : decode cX8_day 162 = .ok (.ireturn, 1) := by decide +kernel
theorem dX8_keep_0 : decode cX8_keep 0 = .ok (.aload_n 0, 1) := by decide +kernel
theorem dX8_keep_1 : decode cX8_keep 1 = .ok (.getfield 86, 3) := by decide +kernel
theorem dX8_keep_4 : decode cX8_keep 4 = .ok (.iconst 2, 1) := by decide +kernel
theorem dX8_keep_5 : decode cX8_keep 5 = .ok (.if_icmp .ne 6, 3) := by decide +kernel
theorem dX8_keep_8 : decode cX8_keep 8 = .ok (.bipush (-3), 2) := by decide +kernel
theorem dX8_keep_10 : decode cX8_keep 10 = .ok (.ireturn, 1) := by decide +kernel
theorem dX8_keep_11 : decode cX8_keep 11 = .ok (.aload_n 0, 1) := by decide +kernel
theorem dX8_keep_12 : decode cX8_keep 12 = .ok (.iconst 0, 1) := by decide +kernel
theorem dX8_keep_13 : decode cX8_keep 13 = .ok (.sipush 132, 3) := by decide +kernel
theorem dX8_keep_16 : decode cX8_keep 16 = .ok (.bipush 66, 2) := by decide +kernel
theorem dX8_keep_18 : decode cX8_keep 18 = .ok (.aload_n 0, 1) := by decide +kernel
theorem dX8_keep_19 : decode cX8_keep 19 = .ok (.getfield 86, 3) := by decide +kernel
theorem dX8_keep_22 : decode cX8_keep 22 = .ok (.imul, 1) := by decide +kernel
theorem dX8_keep_23 : decode cX8_keep 23 = .ok (.iadd, 1) := by decide +kernel
theorem dX8_keep_24 : decode cX8_keep 24 = .ok (.invokevirtual 169, 3) := by decide +kernel
theorem dX8_keep_27 : decode cX8_keep 27 = .ok (.aload_n 0, 1) := by decide +kernel
theorem dX8_keep_28 : decode cX8_keep 28 = .ok (.dup, 1) := by decide +kernel
theorem dX8_keep_29 : decode cX8_keep 29 = .ok (.getfield 86, 3) := by decide +kernel
theorem dX8_keep_32 : decode cX8_keep 32 = .ok (.iconst 1, 1) := by decide +kernel
theorem dX8_keep_33 : decode cX8_keep 33 = .ok (.iadd, 1) := by decide +kernel
theorem dX8_keep_34 : decode cX8_keep 34 = .ok (.putfield 86, 3) := by decide +kernel
theorem dX8_keep_37 : decode cX8_keep 37 = .ok (.aload_n 0, 1) := by decide +kernel
theorem dX8_keep_38 : decode cX8_keep 38 = .ok (.getfield 86, 3) := by decide +kernel
theorem dX8_keep_41 : decode cX8_keep 41 = .ok (.ireturn, 1) := by decide +kernel
theorem dX8_back_0 : decode cX8_back 0 = .ok (.aload_n 0, 1) := by decide +kernel
theorem dX8_back_1 : decode cX8_back 1 = .ok (.getfield 86, 3) := by decide +kernel
theorem dX8_back_4 : decode cX8_back 4 = .ok (.ifCond .ne 6, 3) := by decide +kernel
theorem dX8_back_7 : decode cX8_back 7 = .ok (.bipush (-2), 2) := by decide +kernel
theorem dX8_back_9 : decode cX8_back 9 = .ok (.ireturn, 1) := by decide +kernel
theorem dX8_back_10 : decode cX8_back 10 = .ok (.aload_n 0, 1) := by decide +kernel
theorem dX8_back_11 : decode cX8_back 11 = .ok (.dup, 1) := by decide +kernel
theorem dX8_back_12 : decode cX8_back 12 = .ok (.getfield 86, 3) := by decide +kernel
theorem dX8_back_15 : decode cX8_back 15 = .ok (.iconst 1, 1) := by decide +kernel
theorem dX8_back_16 : decode cX8_back 16 = .ok (.isub, 1) := by decide +kernel
theorem dX8_back_17 : decode cX8_back 17 = .ok (.putfield 86, 3) := by decide +kernel
theorem dX8_back_20 : decode cX8_back 20 = .ok (.aload_n 0, 1) := by decide +kernel
theorem dX8_back_21 : decode cX8_back 21 = .ok (.sipush 132, 3) := by decide +kernel
theorem dX8_back_24 : decode cX8_back 24 = .ok (.bipush 66, 2) := by decide +kernel
theorem dX8_back_26 : decode cX8_back 26 = .ok (.aload_n 0, 1) := by decide +kernel
theorem dX8_back_27 : decode cX8_back 27 = .ok (.getfield 86, 3) := by decide +kernel
theorem dX8_back_30 : decode cX8_back 30 = .ok (.imul, 1) := by decide +kernel
theorem dX8_back_31 : decode cX8_back 31 = .ok (.iadd, 1) := by decide +kernel
theorem dX8_back_32 : decode cX8_back 32 = .ok (.iconst 0, 1) := by decide +kernel
theorem dX8_back_33 : decode cX8_back 33 = .ok (.invokevirtual 169, 3) := by decide +kernel
theorem dX8_back_36 : decode cX8_back 36 = .ok (.aload_n 0, 1) := by decide +kernel
theorem dX8_back_37 : decode cX8_back 37 = .ok (.iconst 0, 1) := by decide +kernel
theorem dX8_back_38 : decode cX8_back 38 = .ok (.putfield 83, 3) := by decide +kernel
theorem dX8_back_41 : decode cX8_back 41 = .ok (.aload_n 0, 1) := by decide +kernel
theorem dX8_back_42 : decode cX8_back 42 = .ok (.getfield 86, 3) := by decide +kernel
theorem dX8_back_45 : decode cX8_back 45 = .ok (.ireturn, 1) := by decide +kernel
theorem dX8_count_0 : decode cX8_count 0 = .ok (.iload_n 1, 1) := by decide +kernel
theorem dX8_count_1 : decode cX8_count 1 = .ok (.tableswitch 113 0 9 #[55, 60, 67, 74, 80, 86, 93, 98, 103, 108], 55) := by decide +kernel
theorem dX8_count_56 : decode cX8_count 56 = .ok (.aload_n 0, 1) := by decide +kernel
theorem dX8_count_57 : decode cX8_count 57 = .ok (.getfield 67, 3) := by decide +kernel
theorem dX8_count_60 : decode cX8_count 60 = .ok (.ireturn, 1) := by decide +kernel
theorem dX8_count_61 : decode cX8_count 61 = .ok (.aload_n 0, 1) := by decide +kernel
theorem dX8_count_62 : decode cX8_count 62 = .ok (.getfield 7, 3) := by decide +kernel
theorem dX8_count_65 : decode cX8_count 65 = .ok (.iconst 0, 1) := by decide +kernel
theorem dX8_count_66 : decode cX8_count 66 = .ok (.iaload, 1) := by decide +kernel
theorem dX8_count_67 : decode cX8_count 67 = .ok (.ireturn, 1) := by decide +kernel
theorem dX8_count_68 : decode cX8_count 68 = .ok (.aload_n 0, 1) := by decide +kernel
theorem dX8_count_69 : decode cX8_count 69 = .ok (.getfield 7, 3) := by decide +kernel
theorem dX8_count_72 : decode cX8_count 72 = .ok (.iconst 2, 1) := by decide +kernel
theorem dX8_count_73 : decode cX8_count 73 = .ok (.iaload, 1) := by decide +kernel
theorem dX8_count_74 : decode cX8_count 74 = .ok (.ireturn, 1) := by decide +kernel
theorem dX8_count_75 : decode cX8_count 75 = .ok (.aload_n 0, 1) := by decide +kernel
theorem dX8_count_76 : decode cX8_count 76 = .ok (.iconst 2, 1) := by decide +kernel
theorem dX8_count_77 : decode cX8_count 77 = .ok (.invokevirtual 181, 3) := by decide +kernel
theorem dX8_count_80 : decode cX8_count 80 = .ok (.ireturn, 1) := by decide +kernel
theorem dX8_count_81 : decode cX8_count 81 = .ok (.aload_n 0, 1) := by decide +kernel
theorem dX8_count_82 : decode cX8_count 82 = .ok (.iconst 3, 1) := by decide +kernel
theorem dX8_count_83 : decode cX8_count 83 = .ok (.invokevirtual 181, 3) := by decide +kernel
theorem dX8_count_86 : decode cX8_count 86 = .ok (.ireturn, 1) := by decide +kernel
theorem dX8_count_87 : decode cX8_count 87 = .ok (.aload_n 0, 1) := by decide +kernel
theorem dX8_count_88 : decode cX8_count 88 = .ok (.getfield 7, 3) := by decide +kernel
theorem dX8_count_91 : decode cX8_count 91 = .ok (.iconst 1, 1) := by decide +kernel
theorem dX8_count_92 : decode cX8_count 92 = .ok (.iaload, 1) := by decide +kernel
theorem dX8_count_93 : decode cX8_count 93 = .ok (.ireturn, 1) := by decide +kernel
theorem dX8_count_94 : decode cX8_count 94 = .ok (.aload_n 0, 1) := by decide +kernel
theorem dX8_count_95 : decode cX8_count 95 = .ok (.getfield 89, 3) := by decide +kernel
theorem dX8_count_98 : decode cX8_count 98 = .ok (.ireturn, 1) := by decide +kernel
theorem dX8_count_99 : decode cX8_count 99 = .ok (.aload_n 0, 1) := by decide +kernel
theorem dX8_count_100 : decode cX8_count 100 = .ok (.getfield 83, 3) := by decide +kernel
theorem dX8_count_103 : decode cX8_count 103 = .ok (.ireturn, 1) := by decide +kernel
theorem dX8_count_104 : decode cX8_count 104 = .ok (.aload_n 0, 1) := by decide +kernel
theorem dX8_count_105 : decode cX8_count 105 = .ok (.getfield 86, 3) := by decide +kernel
theorem dX8_count_108 : decode cX8_count 108 = .ok (.ireturn, 1) := by decide +kernel
theorem dX8_count_109 : decode cX8_count 109 = .ok (.aload_n 0, 1) := by decide +kernel
theorem dX8_count_110 : decode cX8_count 110 = .ok (.getfield 96, 3) := by decide +kernel
theorem dX8_count_113 : decode cX8_count 113 = .ok (.ireturn, 1) := by decide +kernel
theorem dX8_count_114 : decode cX8_count 114 = .ok (.iconst (-1), 1) := by decide +kernel
theorem dX8_count_115 : decode cX8_count 115 = .ok (.ireturn, 1) := by decide +kernel
theorem dJ6_bitCount_0f7a4_0 : decode cJ6_bitCount_0f7a4 0 = .ok (.iload_n 0, 1) := by decide +kernel
theorem dJ6_bitCount_0f7a4_1 : decode cJ6_bitCount_0f7a4 1 = .ok (.iload_n 0, 1) := by decide +kernel
theorem dJ6_bitCount_0f7a4_2 : decode cJ6_bitCount_0f7a4 2 = .ok (.iconst 1, 1) := by decide +kernel
theorem dJ6_bitCount_0f7a4_3 : decode cJ6_bitCount_0f7a4 3 = .ok (.iushr, 1) := by decide +kernel
theorem dJ6_bitCount_0f7a4_4 : decode cJ6_bitCount_0f7a4 4 = .ok (.ldc_w 265, 3) := by decide +kernel
theorem dJ6_bitCount_0f7a4_7 : decode cJ6_bitCount_0f7a4 7 = .ok (.iand, 1) := by decide +kernel
theorem dJ6_bitCount_0f7a4_8 : decode cJ6_bitCount_0f7a4 8 = .ok (.isub, 1) := by decide +kernel
theorem dJ6_bitCount_0f7a4_9 : decode cJ6_bitCount_0f7a4 9 = .ok (.istore_n 0, 1) := by decide +kernel
theorem dJ6_bitCount_0f7a4_10 : decode cJ6_bitCount_0f7a4 10 = .ok (.iload_n 0, 1) := by decide +kernel
theorem dJ6_bitCount_0f7a4_11 : decode cJ6_bitCount_0f7a4 11 = .ok (.ldc_w 266, 3) := by decide +kernel
theorem dJ6_bitCount_0f7a4_14 : decode cJ6_bitCount_0f7a4 14 = .ok (.iand, 1) := by decide +kernel
theorem dJ6_bitCount_0f7a4_15 : decode cJ6_bitCount_0f7a4 15 = .ok (.iload_n 0, 1) := by decide +kernel
theorem dJ6_bitCount_0f7a4_16 : decode cJ6_bitCount_0f7a4 16 = .ok (.iconst 2, 1) := by decide +kernel
theorem dJ6_bitCount_0f7a4_17 : decode cJ6_bitCount_0f7a4 17 = .ok (.iushr, 1) := by decide +kernel
theorem dJ6_bitCount_0f7a4_18 : decode cJ6_bitCount_0f7a4 18 = .ok (.ldc_w 266, 3) := by decide +kernel
theorem dJ6_bitCount_0f7a4_21 : decode cJ6_bitCount_0f7a4 21 = .ok (.iand, 1) := by decide +kernel
theorem dJ6_bitCount_0f7a4_22 : decode cJ6_bitCount_0f7a4 22 = .ok (.iadd, 1) := by decide +kernel
theorem dJ6_bitCount_0f7a4_23 : decode cJ6_bitCount_0f7a4 23 = .ok (.istore_n 0, 1) := by decide +kernel
theorem dJ6_bitCount_0f7a4_24 : decode cJ6_bitCount_0f7a4 24 = .ok (.iload_n 0, 1) := by decide +kernel
theorem dJ6_bitCount_0f7a4_25 : decode cJ6_bitCount_0f7a4 25 = .ok (.iload_n 0, 1) := by decide +kernel
theorem dJ6_bitCount_0f7a4_26 : decode cJ6_bitCount_0f7a4 26 = .ok (.iconst 4, 1) := by decide +kernel
theorem dJ6_bitCount_0f7a4_27 : decode cJ6_bitCount_0f7a4 27 = .ok (.iushr, 1) := by decide +kernel
theorem dJ6_bitCount_0f7a4_28 : decode cJ6_bitCount_0f7a4 28 = .ok (.iadd, 1) := by decide +kernel
theorem dJ6_bitCount_0f7a4_29 : decode cJ6_bitCount_0f7a4 29 = .ok (.ldc_w 267, 3) := by decide +kernel
theorem dJ6_bitCount_0f7a4_32 : decode cJ6_bitCount_0f7a4 32 = .ok (.iand, 1) := by decide +kernel
theorem dJ6_bitCount_0f7a4_33 : decode cJ6_bitCount_0f7a4 33 = .ok (.istore_n 0, 1) := by decide +kernel
theorem dJ6_bitCount_0f7a4_34 : decode cJ6_bitCount_0f7a4 34 = .ok (.iload_n 0, 1) := by decide +kernel
theorem dJ6_bitCount_0f7a4_35 : decode cJ6_bitCount_0f7a4 35 = .ok (.iload_n 0, 1) := by decide +kernel
theorem dJ6_bitCount_0f7a4_36 : decode cJ6_bitCount_0f7a4 36 = .ok (.bipush 8, 2) := by decide +kernel
theorem dJ6_bitCount_0f7a4_38 : decode cJ6_bitCount_0f7a4 38 = .ok (.iushr, 1) := by decide +kernel
theorem dJ6_bitCount_0f7a4_39 : decode cJ6_bitCount_0f7a4 39 = .ok (.iadd, 1) := by decide +kernel
theorem dJ6_bitCount_0f7a4_40 : decode cJ6_bitCount_0f7a4 40 = .ok (.istore_n 0, 1) := by decide +kernel
theorem dJ6_bitCount_0f7a4_41 : decode cJ6_bitCount_0f7a4 41 = .ok (.iload_n 0, 1) := by decide +kernel
theorem dJ6_bitCount_0f7a4_42 : decode cJ6_bitCount_0f7a4 42 = .ok (.iload_n 0, 1) := by decide +kernel
theorem dJ6_bitCount_0f7a4_43 : decode cJ6_bitCount_0f7a4 43 = .ok (.bipush 16, 2) := by decide +kernel
theorem dJ6_bitCount_0f7a4_45 : decode cJ6_bitCount_0f7a4 45 = .ok (.iushr, 1) := by decide +kernel
theorem dJ6_bitCount_0f7a4_46 : decode cJ6_bitCount_0f7a4 46 = .ok (.iadd, 1) := by decide +kernel
theorem dJ6_bitCount_0f7a4_47 : decode cJ6_bitCount_0f7a4 47 = .ok (.istore_n 0, 1) := by decide +kernel
theorem dJ6_bitCount_0f7a4_48 : decode cJ6_bitCount_0f7a4 48 = .ok (.iload_n 0, 1) := by decide +kernel
theorem dJ6_bitCount_0f7a4_49 : decode cJ6_bitCount_0f7a4 49 = .ok (.bipush 63, 2) := by decide +kernel
theorem dJ6_bitCount_0f7a4_51 : decode cJ6_bitCount_0f7a4 51 = .ok (.iand, 1) := by decide +kernel
theorem dJ6_bitCount_0f7a4_52 : decode cJ6_bitCount_0f7a4 52 = .ok (.ireturn, 1) := by decide +kernel
theorem dJ9_max_7cf53_0 : decode cJ9_max_7cf53 0 = .ok (.iload_n 0, 1) := by decide +kernel
theorem dJ9_max_7cf53_1 : decode cJ9_max_7cf53 1 = .ok (.iload_n 1, 1) := by decide +kernel
theorem dJ9_max_7cf53_2 : decode cJ9_max_7cf53 2 = .ok (.if_icmp .lt 7, 3) := by decide +kernel
theorem dJ9_max_7cf53_5 : decode cJ9_max_7cf53 5 = .ok (.iload_n 0, 1) := by decide +kernel
theorem dJ9_max_7cf53_6 : decode cJ9_max_7cf53 6 = .ok (.goto 4, 3) := by decide +kernel
theorem dJ9_max_7cf53_9 : decode cJ9_max_7cf53 9 = .ok (.iload_n 1, 1) := by decide +kernel
theorem dJ9_max_7cf53_10 : decode cJ9_max_7cf53 10 = .ok (.ireturn, 1) := by decide +kernel
theorem dJ9_min_7cf53_0 : decode cJ9_min_7cf53 0 = .ok (.iload_n 0, 1) := by decide +kernel
theorem dJ9_min_7cf53_1 : decode cJ9_min_7cf53 1 = .ok (.iload_n 1, 1) := by decide +kernel
theorem dJ9_min_7cf53_2 : decode cJ9_min_7cf53 2 = .ok (.if_icmp .gt 7, 3) := by decide +kernel
theorem dJ9_min_7cf53_5 : decode cJ9_min_7cf53 5 = .ok (.iload_n 0, 1) := by decide +kernel
theorem dJ9_min_7cf53_6 : decode cJ9_min_7cf53 6 = .ok (.goto 4, 3) := by decide +kernel
theorem dJ9_min_7cf53_9 : decode cJ9_min_7cf53 9 = .ok (.iload_n 1, 1) := by decide +kernel
theorem dJ9_min_7cf53_10 : decode cJ9_min_7cf53 10 = .ok (.ireturn, 1) := by decide +kernel
theorem dJ0_length_8abf5_0 : decode cJ0_length_8abf5 0 = .ok (.aload_n 0, 1) := by decide +kernel
theorem dJ0_length_8abf5_1 : decode cJ0_length_8abf5 1 = .ok (.getfield 9, 3) := by decide +kernel
theorem dJ0_length_8abf5_4 : decode cJ0_length_8abf5 4 = .ok (.arraylength, 1) := by decide +kernel
theorem dJ0_length_8abf5_5 : decode cJ0_length_8abf5 5 = .ok (.aload_n 0, 1) := by decide +kernel
theorem dJ0_length_8abf5_6 : decode cJ0_length_8abf5 6 = .ok (.invokevirtual 335, 3) := by decide +kernel
theorem dJ0_length_8abf5_9 : decode cJ0_length_8abf5 9 = .ok (.ishr, 1) := by decide +kernel
theorem dJ0_length_8abf5_10 : decode cJ0_length_8abf5 10 = .ok (.ireturn, 1) := by decide +kernel
theorem dJ0_charAt_5068e_0 : decode cJ0_charAt_5068e 0 = .ok (.aload_n 0, 1) := by decide +kernel
theorem dJ0_charAt_5068e_1 : decode cJ0_charAt_5068e 1 = .ok (.invokevirtual 492, 3) := by decide +kernel
theorem dJ0_charAt_5068e_4 : decode cJ0_charAt_5068e 4 = .ok (.ifCond .eq 12, 3) := by decide +kernel
theorem dJ0_charAt_5068e_7 : decode cJ0_charAt_5068e 7 = .ok (.aload_n 0, 1) := by decide +kernel
theorem dJ0_charAt_5068e_8 : decode cJ0_charAt_5068e 8 = .ok (.getfield 9, 3) := by decide +kernel
theorem dJ0_charAt_5068e_11 : decode cJ0_charAt_5068e 11 = .ok (.iload_n 1, 1) := by decide +kernel
theorem dJ0_charAt_5068e_12 : decode cJ0_charAt_5068e 12 = .ok (.invokestatic 495, 3) := by decide +kernel
theorem dJ0_charAt_5068e_15 : decode cJ0_charAt_5068e 15 = .ok (.ireturn, 1) := by decide +kernel
theorem dJ0_charAt_5068e_16 : decode cJ0_charAt_5068e 16 = .ok (.aload_n 0, 1) := by decide +kernel
theorem dJ0_charAt_5068e_17 : decode cJ0_charAt_5068e 17 = .ok (.getfield 9, 3) := by decide +kernel
theorem dJ0_charAt_5068e_20 : decode cJ0_charAt_5068e 20 = .ok (.iload_n 1, 1) := by decide +kernel
theorem dJ0_charAt_5068e_21 : decode cJ0_charAt_5068e 21 = .ok (.invokestatic 498, 3) := by decide +kernel
theorem dJ0_charAt_5068e_24 : decode cJ0_charAt_5068e 24 = .ok (.ireturn, 1) := by decide +kernel
theorem dJ0_coder_7d493_0 : decode cJ0_coder_7d493 0 = .ok (.getstatic 38, 3) := by decide +kernel
theorem dJ0_coder_7d493_3 : decode cJ0_coder_7d493 3 = .ok (.ifCond .eq 10, 3) := by decide +kernel
theorem dJ0_coder_7d493_6 : decode cJ0_coder_7d493 6 = .ok (.aload_n 0, 1) := by decide +kernel
theorem dJ0_coder_7d493_7 : decode cJ0_coder_7d493 7 = .ok (.getfield 15, 3) := by decide +kernel
theorem dJ0_coder_7d493_10 : decode cJ0_coder_7d493 10 = .ok (.goto 4, 3) := by decide +kernel
theorem dJ0_coder_7d493_13 : decode cJ0_coder_7d493 13 = .ok (.iconst 1, 1) := by decide +kernel
theorem dJ0_coder_7d493_14 : decode cJ0_coder_7d493 14 = .ok (.ireturn, 1) := by decide +kernel
theorem dJ0_isLatin1_aae02_0 : decode cJ0_isLatin1_aae02 0 = .ok (.getstatic 38, 3) := by decide +kernel
theorem dJ0_isLatin1_aae02_3 : decode cJ0_isLatin1_aae02 3 = .ok (.ifCond .eq 14, 3) := by decide +kernel
theorem dJ0_isLatin1_aae02_6 : decode cJ0_isLatin1_aae02 6 = .ok (.aload_n 0, 1) := by decide +kernel
theorem dJ0_isLatin1_aae02_7 : decode cJ0_isLatin1_aae02 7 = .ok (.getfield 15, 3) := by decide +kernel
theorem dJ0_isLatin1_aae02_10 : decode cJ0_isLatin1_aae02 10 = .ok (.ifCond .ne 7, 3) := by decide +kernel
theorem dJ0_isLatin1_aae02_13 : decode cJ0_isLatin1_aae02 13 = .ok (.iconst 1, 1) := by decide +kernel
theorem dJ0_isLatin1_aae02_14 : decode cJ0_isLatin1_aae02 14 = .ok (.goto 4, 3) := by decide +kernel
theorem dJ0_isLatin1_aae02_17 : decode cJ0_isLatin1_aae02 17 = .ok (.iconst 0, 1) := by decide +kernel
theorem dJ0_isLatin1_aae02_18 : decode cJ0_isLatin1_aae02 18 = .ok (.ireturn, 1) := by decide +kernel
theorem dJ0_checkIndex_df160_0 : decode cJ0_checkIndex_df160 0 = .ok (.iload_n 0, 1) := by decide +kernel
theorem dJ0_checkIndex_df160_1 : decode cJ0_checkIndex_df160 1 = .ok (.iload_n 1, 1) := by decide +kernel
theorem dJ0_checkIndex_df160_2 : decode cJ0_checkIndex_df160 2 = .ok (.getstatic 1053, 3) := by decide +kernel
theorem dJ0_checkIndex_df160_5 : decode cJ0_checkIndex_df160 5 = .ok (.invokestatic 1059, 3) := by decide +kernel
theorem dJ0_checkIndex_df160_8 : decode cJ0_checkIndex_df160 8 = .ok (.pop, 1) := by decide +kernel
theorem dJ0_checkIndex_df160_9 : decode cJ0_checkIndex_df160 9 = .ok (.return_, 1) := by decide +kernel
theorem dJ1_charAt_3b067_0 : decode cJ1_charAt_3b067 0 = .ok (.iload_n 1, 1) := by decide +kernel
theorem dJ1_charAt_3b067_1 : decode cJ1_charAt_3b067 1 = .ok (.aload_n 0, 1) := by decide +kernel
theorem dJ1_charAt_3b067_2 : decode cJ1_charAt_3b067 2 = .ok (.arraylength, 1) := by decide +kernel
theorem dJ1_charAt_3b067_3 : decode cJ1_charAt_3b067 3 = .ok (.invokestatic 9, 3) := by decide +kernel
theorem dJ1_charAt_3b067_6 : decode cJ1_charAt_3b067 6 = .ok (.aload_n 0, 1) := by decide +kernel
theorem dJ1_charAt_3b067_7 : decode cJ1_charAt_3b067 7 = .ok (.iload_n 1, 1) := by decide +kernel
theorem dJ1_charAt_3b067_8 : decode cJ1_charAt_3b067 8 = .ok (.baload, 1) := by decide +kernel
theorem dJ1_charAt_3b067_9 : decode cJ1_charAt_3b067 9 = .ok (.sipush 255, 3) := by decide +kernel
theorem dJ1_charAt_3b067_12 : decode cJ1_charAt_3b067 12 = .ok (.iand, 1) := by decide +kernel
theorem dJ1_charAt_3b067_13 : decode cJ1_charAt_3b067 13 = .ok (.i2c, 1) := by decide +kernel
theorem dJ1_charAt_3b067_14 : decode cJ1_charAt_3b067 14 = .ok (.ireturn, 1) := by decide +kernel
theorem dJ2_getChar_3b067_0 : decode cJ2_getChar_3b067 0 = .ok (.getstatic 44, 3) := by decide +kernel
theorem dJ2_getChar_3b067_3 : decode cJ2_getChar_3b067 3 = .ok (.ifCond .ne 25, 3) := by decide +kernel
theorem dJ2_getChar_3b067_6 : decode cJ2_getChar_3b067 6 = .ok (.iload_n 1, 1) := by decide +kernel
theorem dJ2_getChar_3b067_7 : decode cJ2_getChar_3b067 7 = .ok (.ifCond .lt 11, 3) := by decide +kernel
theorem dJ2_getChar_3b067_10 : decode cJ2_getChar_3b067 10 = .ok (.iload_n 1, 1) := by decide +kernel
theorem dJ2_getChar_3b067_11 : decode cJ2_getChar_3b067 11 = .ok (.aload_n 0, 1) := by decide +kernel
theorem dJ2_getChar_3b067_12 : decode cJ2_getChar_3b067 12 = .ok (.invokestatic 48, 3) := by decide +kernel
theorem dJ2_getChar_3b067_15 : decode cJ2_getChar_3b067 15 = .ok (.if_icmp .lt 13, 3) := by decide +kernel
theorem dJ2_getChar_3b067_18 : decode cJ2_getChar_3b067 18 = .ok (.new 52, 3) := by decide +kernel
theorem dJ2_getChar_3b067_21 : decode cJ2_getChar_3b067 21 = .ok (.dup, 1) := by decide +kernel
theorem dJ2_getChar_3b067_22 : decode cJ2_getChar_3b067 22 = .ok (.ldc 54, 2) := by decide +kernel
theorem dJ2_getChar_3b067_24 : decode cJ2_getChar_3b067 24 = .ok (.invokespecial 56, 3) := by decide +kernel
theorem dJ2_getChar_3b067_27 : decode cJ2_getChar_3b067 27 = .ok (.athrow, 1) := by decide +kernel
theorem dJ2_getChar_3b067_28 : decode cJ2_getChar_3b067 28 = .ok (.iload_n 1, 1) := by decide +kernel
theorem dJ2_getChar_3b067_29 : decode cJ2_getChar_3b067 29 = .ok (.iconst 1, 1) := by decide +kernel
theorem dJ2_getChar_3b067_30 : decode cJ2_getChar_3b067 30 = .ok (.ishl, 1) := by decide +kernel
theorem dJ2_getChar_3b067_31 : decode cJ2_getChar_3b067 31 = .ok (.istore_n 1, 1) := by decide +kernel
theorem dJ2_getChar_3b067_32 : decode cJ2_getChar_3b067 32 = .ok (.aload_n 0, 1) := by decide +kernel
theorem dJ2_getChar_3b067_33 : decode cJ2_getChar_3b067 33 = .ok (.iload_n 1, 1) := by decide +kernel
theorem dJ2_getChar_3b067_34 : decode cJ2_getChar_3b067 34 = .ok (.iinc 1 1, 3) := by decide +kernel
theorem dJ2_getChar_3b067_37 : decode cJ2_getChar_3b067 37 = .ok (.baload, 1) := by decide +kernel
theorem dJ2_getChar_3b067_38 : decode cJ2_getChar_3b067 38 = .ok (.sipush 255, 3) := by decide +kernel
theorem dJ2_getChar_3b067_41 : decode cJ2_getChar_3b067 41 = .ok (.iand, 1) := by decide +kernel
theorem dJ2_getChar_3b067_42 : decode cJ2_getChar_3b067 42 = .ok (.getstatic 59, 3) := by decide +kernel
theorem dJ2_getChar_3b067_45 : decode cJ2_getChar_3b067 45 = .ok (.ishl, 1) := by decide +kernel
theorem dJ2_getChar_3b067_46 : decode cJ2_getChar_3b067 46 = .ok (.aload_n 0, 1) := by decide +kernel
theorem dJ2_getChar_3b067_47 : decode cJ2_getChar_3b067 47 = .ok (.iload_n 1, 1) := by decide +kernel
theorem dJ2_getChar_3b067_48 : decode cJ2_getChar_3b067 48 = .ok (.baload, 1) := by decide +kernel
theorem dJ2_getChar_3b067_49 : decode cJ2_getChar_3b067 49 = .ok (.sipush 255, 3) := by decide +kernel
theorem dJ2_getChar_3b067_52 : decode cJ2_getChar_3b067 52 = .ok (.iand, 1) := by decide +kernel
theorem dJ2_getChar_3b067_53 : decode cJ2_getChar_3b067 53 = .ok (.getstatic 63, 3) := by decide +kernel
theorem dJ2_getChar_3b067_56 : decode cJ2_getChar_3b067 56 = .ok (.ishl, 1) := by decide +kernel
theorem dJ2_getChar_3b067_57 : decode cJ2_getChar_3b067 57 = .ok (.ior, 1) := by decide +kernel
theorem dJ2_getChar_3b067_58 : decode cJ2_getChar_3b067 58 = .ok (.i2c, 1) := by decide +kernel
theorem dJ2_getChar_3b067_59 : decode cJ2_getChar_3b067 59 = .ok (.ireturn, 1) := by decide +kernel
theorem dJ2_length_9d52b_0 : decode cJ2_length_9d52b 0 = .ok (.aload_n 0, 1) := by decide +kernel
theorem dJ2_length_9d52b_1 : decode cJ2_length_9d52b 1 = .ok (.arraylength, 1) := by decide +kernel
theorem dJ2_length_9d52b_2 : decode cJ2_length_9d52b 2 = .ok (.iconst 1, 1) := by decide +kernel
theorem dJ2_length_9d52b_3 : decode cJ2_length_9d52b 3 = .ok (.ishr, 1) := by decide +kernel
theorem dJ2_length_9d52b_4 : decode cJ2_length_9d52b 4 = .ok (.ireturn, 1) := by decide +kernel
theorem dJ2_charAt_3b067_0 : decode cJ2_charAt_3b067 0 = .ok (.iload_n 1, 1) := by decide +kernel
theorem dJ2_charAt_3b067_1 : decode cJ2_charAt_3b067 1 = .ok (.aload_n 0, 1) := by decide +kernel
theorem dJ2_charAt_3b067_2 : decode cJ2_charAt_3b067 2 = .ok (.invokestatic 67, 3) := by decide +kernel
theorem dJ2_charAt_3b067_5 : decode cJ2_charAt_3b067 5 = .ok (.aload_n 0, 1) := by decide +kernel
theorem dJ2_charAt_3b067_6 : decode cJ2_charAt_3b067 6 = .ok (.iload_n 1, 1) := by decide +kernel
theorem dJ2_charAt_3b067_7 : decode cJ2_charAt_3b067 7 = .ok (.invokestatic 71, 3) := by decide +kernel
theorem dJ2_charAt_3b067_10 : decode cJ2_charAt_3b067 10 = .ok (.ireturn, 1) := by decide +kernel
theorem dJ2_checkIndex_2214a_0 : decode cJ2_checkIndex_2214a 0 = .ok (.iload_n 0, 1) := by decide +kernel
theorem dJ2_checkIndex_2214a_1 : decode cJ2_checkIndex_2214a 1 = .ok (.aload_n 1, 1) := by decide +kernel
theorem dJ2_checkIndex_2214a_2 : decode cJ2_checkIndex_2214a 2 = .ok (.invokestatic 48, 3) := by decide +kernel
theorem dJ2_checkIndex_2214a_5 : decode cJ2_checkIndex_2214a 5 = .ok (.invokestatic 414, 3) := by decide +kernel
theorem dJ2_checkIndex_2214a_8 : decode cJ2_checkIndex_2214a 8 = .ok (.return_, 1) := by decide +kernel
theorem dJ3_checkIndex_8e157_0 : decode cJ3_checkIndex_8e157 0 = .ok (.iload_n 0, 1) := by decide +kernel
theorem dJ3_checkIndex_8e157_1 : decode cJ3_checkIndex_8e157 1 = .ok (.ifCond .lt 8, 3) := by decide +kernel
theorem dJ3_checkIndex_8e157_4 : decode cJ3_checkIndex_8e157 4 = .ok (.iload_n 0, 1) := by decide +kernel
theorem dJ3_checkIndex_8e157_5 : decode cJ3_checkIndex_8e157 5 = .ok (.iload_n 1, 1) := by decide +kernel
theorem dJ3_checkIndex_8e157_6 : decode cJ3_checkIndex_8e157 6 = .ok (.if_icmp .lt 10, 3) := by decide +kernel
theorem dJ3_checkIndex_8e157_9 : decode cJ3_checkIndex_8e157 9 = .ok (.aload_n 2, 1) := by decide +kernel
theorem dJ3_checkIndex_8e157_10 : decode cJ3_checkIndex_8e157 10 = .ok (.iload_n 0, 1) := by decide +kernel
theorem dJ3_checkIndex_8e157_11 : decode cJ3_checkIndex_8e157 11 = .ok (.iload_n 1, 1) := by decide +kernel
theorem dJ3_checkIndex_8e157_12 : decode cJ3_checkIndex_8e157 12 = .ok (.invokestatic 95, 3) := by decide +kernel
theorem dJ3_checkIndex_8e157_15 : decode cJ3_checkIndex_8e157 15 = .ok (.athrow, 1) := by decide +kernel
theorem dJ3_checkIndex_8e157_16 : decode cJ3_checkIndex_8e157 16 = .ok (.iload_n 0, 1) := by decide +kernel
theorem dJ3_checkIndex_8e157_17 : decode cJ3_checkIndex_8e157 17 = .ok (.ireturn, 1) := by decide +kernel
theorem dL_law_0 : decode cL_law 0 = .ok (.new 7, 3) := by decide +kernel
theorem dL_law_3 : decode cL_law 3 = .ok (.dup, 1) := by decide +kernel
theorem dL_law_4 : decode cL_law 4 = .ok (.invokespecial 9, 3) := by decide +kernel
theorem dL_law_7 : decode cL_law 7 = .ok (.astore_n 1, 1) := by decide +kernel
theorem dL_law_8 : decode cL_law 8 = .ok (.new 10, 3) := by decide +kernel
theorem dL_law_11 : decode cL_law 11 = .ok (.dup, 1) := by decide +kernel
theorem dL_law_12 : decode cL_law 12 = .ok (.invokespecial 12, 3) := by decide +kernel
theorem dL_law_15 : decode cL_law 15 = .ok (.astore_n 2, 1) := by decide +kernel
theorem dL_law_16 : decode cL_law 16 = .ok (.iconst 0, 1) := by decide +kernel
theorem dL_law_17 : decode cL_law 17 = .ok (.istore_n 3, 1) := by decide +kernel
theorem dL_law_18 : decode cL_law 18 = .ok (.iload_n 3, 1) := by decide +kernel
theorem dL_law_19 : decode cL_law 19 = .ok (.aload_n 0, 1) := by decide +kernel
theorem dL_law_20 : decode cL_law 20 = .ok (.arraylength, 1) := by decide +kernel
theorem dL_law_21 : decode cL_law 21 = .ok (.iconst 5, 1) := by decide +kernel
theorem dL_law_22 : decode cL_law 22 = .ok (.isub, 1) := by decide +kernel
theorem dL_law_23 : decode cL_law 23 = .ok (.if_icmp .gt 803, 3) := by decide +kernel
theorem dL_law_26 : decode cL_law 26 = .ok (.aload_n 0, 1) := by decide +kernel
theorem dL_law_27 : decode cL_law 27 = .ok (.iload_n 3, 1) := by decide +kernel
theorem dL_law_28 : decode cL_law 28 = .ok (.iaload, 1) := by decide +kernel
theorem dL_law_29 : decode cL_law 29 = .ok (.bipush 31, 2) := by decide +kernel
theorem dL_law_31 : decode cL_law 31 = .ok (.iand, 1) := by decide +kernel
theorem dL_law_32 : decode cL_law 32 = .ok (.tableswitch 788 0 27 #[128, 151, 164, 177, 190, 223, 246, 269, 292, 315, 338, 361, 374, 407, 430, 443, 456, 479, 512, 535, 594, 607, 620, 643, 696, 739, 752, 765], 128) := by decide +kernel
theorem dL_law_160 : decode cL_law 160 = .ok (.aload_n 1, 1) := by decide +kernel
theorem dL_law_161 : decode cL_law 161 = .ok (.aload_n 0, 1) := by decide +kernel
theorem dL_law_162 : decode cL_law 162 = .ok (.iload_n 3, 1) := by decide +kernel
theorem dL_law_163 : decode cL_law 163 = .ok (.iconst 1, 1) := by decide +kernel
theorem dL_law_164 : decode cL_law 164 = .ok (.iadd, 1) := by decide +kernel
theorem dL_law_165 : decode cL_law 165 = .ok (.iaload, 1) := by decide +kernel
theorem dL_law_166 : decode cL_law 166 = .ok (.invokevirtual 13, 3) := by decide +kernel
theorem dL_law_169 : decode cL_law 169 = .ok (.aload_n 2, 1) := by decide +kernel
theorem dL_law_170 : decode cL_law 170 = .ok (.aload_n 0, 1) := by decide +kernel
theorem dL_law_171 : decode cL_law 171 = .ok (.iload_n 3, 1) := by decide +kernel
theorem dL_law_172 : decode cL_law 172 = .ok (.iconst 1, 1) := by decide +kernel
theorem dL_law_173 : decode cL_law 173 = .ok (.iadd, 1) := by decide +kernel
theorem dL_law_174 : decode cL_law 174 = .ok (.iaload, 1) := by decide +kernel
theorem dL_law_175 : decode cL_law 175 = .ok (.invokevirtual 17, 3) := by decide +kernel
theorem dL_law_178 : decode cL_law 178 = .ok (.if_icmp .eq 642, 3) := by decide +kernel
theorem dL_law_181 : decode cL_law 181 = .ok (.iconst 0, 1) := by decide +kernel
theorem dL_law_182 : decode cL_law 182 = .ok (.ireturn, 1) := by decide +kernel
theorem dL_law_183 : decode cL_law 183 = .ok (.aload_n 1, 1) := by decide +kernel
theorem dL_law_184 : decode cL_law 184 = .ok (.invokevirtual 18, 3) := by decide +kernel
theorem dL_law_187 : decode cL_law 187 = .ok (.aload_n 2, 1) := by decide +kernel
theorem dL_law_188 : decode cL_law 188 = .ok (.invokevirtual 22, 3) := by decide +kernel
theorem dL_law_191 : decode cL_law 191 = .ok (.if_icmp .eq 629, 3) := by decide +kernel
theorem dL_law_194 : decode cL_law 194 = .ok (.iconst 0, 1) := by decide +kernel
theorem dL_law_195 : decode cL_law 195 = .ok (.ireturn, 1) := by decide +kernel
theorem dL_law_196 : decode cL_law 196 = .ok (.aload_n 1, 1) := by decide +kernel
theorem dL_law_197 : decode cL_law 197 = .ok (.invokevirtual 23, 3) := by decide +kernel
theorem dL_law_200 : decode cL_law 200 = .ok (.aload_n 2, 1) := by decide +kernel
theorem dL_law_201 : decode cL_law 201 = .ok (.invokevirtual 26, 3) := by decide +kernel
theorem dL_law_204 : decode cL_law 204 = .ok (.if_icmp .eq 616, 3) := by decide +kernel
theorem dL_law_207 : decode cL_law 207 = .ok (.iconst 0, 1) := by decide +kernel
theorem dL_law_208 : decode cL_law 208 = .ok (.ireturn, 1) := by decide +kernel
theorem dL_law_209 : decode cL_law 209 = .ok (.aload_n 1, 1) := by decide +kernel
theorem dL_law_210 : decode cL_law 210 = .ok (.invokevirtual 27, 3) := by decide +kernel
theorem dL_law_213 : decode cL_law 213 = .ok (.aload_n 2, 1) := by decide +kernel
theorem dL_law_214 : decode cL_law 214 = .ok (.invokevirtual 30, 3) := by decide +kernel
theorem dL_law_217 : decode cL_law 217 = .ok (.if_icmp .eq 603, 3) := by decide +kernel
theorem dL_law_220 : decode cL_law 220 = .ok (.iconst 0, 1) := by decide +kernel
theorem dL_law_221 : decode cL_law 221 = .ok (.ireturn, 1) := by decide +kernel
theorem dL_law_222 : decode cL_law 222 = .ok (.aload_n 1, 1) := by decide +kernel
theorem dL_law_223 : decode cL_law 223 = .ok (.aload_n 0, 1) := by decide +kernel
theorem dL_law_224 : decode cL_law 224 = .ok (.iload_n 3, 1) := by decide +kernel
theorem dL_law_225 : decode cL_law 225 = .ok (.iconst 1, 1) := by decide +kernel
theorem dL_law_226 : decode cL_law 226 = .ok (.iadd, 1) := by decide +kernel
theorem dL_law_227 : decode cL_law 227 = .ok (.iaload, 1) := by decide +kernel
theorem dL_law_228 : decode cL_law 228 = .ok (.aload_n 0, 1) := by decide +kernel
theorem dL_law_229 : decode cL_law 229 = .ok (.iload_n 3, 1) := by decide +kernel
theorem dL_law_230 : decode cL_law 230 = .ok (.iconst 2, 1) := by decide +kernel
theorem dL_law_231 : decode cL_law 231 = .ok (.iadd, 1) := by decide +kernel
theorem dL_law_232 : decode cL_law 232 = .ok (.iaload, 1) := by decide +kernel
theorem dL_law_233 : decode cL_law 233 = .ok (.invokevirtual 31, 3) := by decide +kernel
theorem dL_law_236 : decode cL_law 236 = .ok (.aload_n 2, 1) := by decide +kernel
theorem dL_law_237 : decode cL_law 237 = .ok (.aload_n 0, 1) := by decide +kernel
theorem dL_law_238 : decode cL_law 238 = .ok (.iload_n 3, 1) := by decide +kernel
theorem dL_law_239 : decode cL_law 239 = .ok (.iconst 1, 1) := by decide +kernel
theorem dL_law_240 : decode cL_law 240 = .ok (.iadd, 1) := by decide +kernel
theorem dL_law_241 : decode cL_law 241 = .ok (.iaload, 1) := by decide +kernel
theorem dL_law_242 : decode cL_law 242 = .ok (.aload_n 0, 1) := by decide +kernel
theorem dL_law_243 : decode cL_law 243 = .ok (.iload_n 3, 1) := by decide +kernel
theorem dL_law_244 : decode cL_law 244 = .ok (.iconst 2, 1) := by decide +kernel
theorem dL_law_245 : decode cL_law 245 = .ok (.iadd, 1) := by decide +kernel
theorem dL_law_246 : decode cL_law 246 = .ok (.iaload, 1) := by decide +kernel
theorem dL_law_247 : decode cL_law 247 = .ok (.invokevirtual 35, 3) := by decide +kernel
theorem dL_law_250 : decode cL_law 250 = .ok (.if_icmp .eq 570, 3) := by decide +kernel
theorem dL_law_253 : decode cL_law 253 = .ok (.iconst 0, 1) := by decide +kernel
theorem dL_law_254 : decode cL_law 254 = .ok (.ireturn, 1) := by decide +kernel
theorem dL_law_255 : decode cL_law 255 = .ok (.aload_n 1, 1) := by decide +kernel
theorem dL_law_256 : decode cL_law 256 = .ok (.aload_n 0, 1) := by decide +kernel
theorem dL_law_257 : decode cL_law 257 = .ok (.iload_n 3, 1) := by decide +kernel
theorem dL_law_258 : decode cL_law 258 = .ok (.iconst 1, 1) := by decide +kernel
theorem dL_law_259 : decode cL_law 259 = .ok (.iadd, 1) := by decide +kernel
theorem dL_law_260 : decode cL_law 260 = .ok (.iaload, 1) := by decide +kernel
theorem dL_law_261 : decode cL_law 261 = .ok (.invokevirtual 36, 3) := by decide +kernel
theorem dL_law_264 : decode cL_law 264 = .ok (.aload_n 2, 1) := by decide +kernel
theorem dL_law_265 : decode cL_law 265 = .ok (.aload_n 0, 1) := by decide +kernel
theorem dL_law_266 : decode cL_law 266 = .ok (.iload_n 3, 1) := by decide +kernel
theorem dL_law_267 : decode cL_law 267 = .ok (.iconst 1, 1) := by decide +kernel
theorem dL_law_268 : decode cL_law 268 = .ok (.iadd, 1) := by decide +kernel
theorem dL_law_269 : decode cL_law 269 = .ok (.iaload, 1) := by decide +kernel
theorem dL_law_270 : decode cL_law 270 = .ok (.invokevirtual 39, 3) := by decide +kernel
theorem dL_law_273 : decode cL_law 273 = .ok (.if_icmp .eq 547, 3) := by decide +kernel
theorem dL_law_276 : decode cL_law 276 = .ok (.iconst 0, 1) := by decide +kernel
theorem dL_law_277 : decode cL_law 277 = .ok (.ireturn, 1) := by decide +kernel
theorem dL_law_278 : decode cL_law 278 = .ok (.aload_n 1, 1) := by decide +kernel
theorem dL_law_279 : decode cL_law 279 = .ok (.aload_n 0, 1) := by decide +kernel
theorem dL_law_280 : decode cL_law 280 = .ok (.iload_n 3, 1) := by decide +kernel
theorem dL_law_281 : decode cL_law 281 = .ok (.iconst 1, 1) := by decide +kernel
theorem dL_law_282 : decode cL_law 282 = .ok (.iadd, 1) := by decide +kernel
theorem dL_law_283 : decode cL_law 283 = .ok (.iaload, 1) := by decide +kernel
theorem dL_law_284 : decode cL_law 284 = .ok (.invokevirtual 40, 3) := by decide +kernel
theorem dL_law_287 : decode cL_law 287 = .ok (.aload_n 2, 1) := by decide +kernel
theorem dL_law_288 : decode cL_law 288 = .ok (.aload_n 0, 1) := by decide +kernel
theorem dL_law_289 : decode cL_law 289 = .ok (.iload_n 3, 1) := by decide +kernel
theorem dL_law_290 : decode cL_law 290 = .ok (.iconst 1, 1) := by decide +kernel
theorem dL_law_291 : decode cL_law 291 = .ok (.iadd, 1) := by decide +kernel
theorem dL_law_292 : decode cL_law 292 = .ok (.iaload, 1) := by decide +kernel
theorem dL_law_293 : decode cL_law 293 = .ok (.invokevirtual 43, 3) := by decide +kernel
theorem dL_law_296 : decode cL_law 296 = .ok (.if_icmp .eq 524, 3) := by decide +kernel
theorem dL_law_299 : decode cL_law 299 = .ok (.iconst 0, 1) := by decide +kernel
theorem dL_law_300 : decode cL_law 300 = .ok (.ireturn, 1) := by decide +kernel
theorem dL_law_301 : decode cL_law 301 = .ok (.aload_n 1, 1) := by decide +kernel
theorem dL_law_302 : decode cL_law 302 = .ok (.aload_n 0, 1) := by decide +kernel
theorem dL_law_303 : decode cL_law 303 = .ok (.iload_n 3, 1) := by decide +kernel
theorem dL_law_304 : decode cL_law 304 = .ok (.iconst 1, 1) := by decide +kernel
theorem dL_law_305 : decode cL_law 305 = .ok (.iadd, 1) := by decide +kernel
theorem dL_law_306 : decode cL_law 306 = .ok (.iaload, 1) := by decide +kernel
theorem dL_law_307 : decode cL_law 307 = .ok (.invokevirtual 44, 3) := by decide +kernel
theorem dL_law_310 : decode cL_law 310 = .ok (.aload_n 2, 1) := by decide +kernel
theorem dL_law_311 : decode cL_law 311 = .ok (.aload_n 0, 1) := by decide +kernel
theorem dL_law_312 : decode cL_law 312 = .ok (.iload_n 3, 1) := by decide +kernel
theorem dL_law_313 : decode cL_law 313 = .ok (.iconst 1, 1) := by decide +kernel
theorem dL_law_314 : decode cL_law 314 = .ok (.iadd, 1) := by decide +kernel
theorem dL_law_315 : decode cL_law 315 = .ok (.iaload, 1) := by decide +kernel
theorem dL_law_316 : decode cL_law 316 = .ok (.invokevirtual 47, 3) := by decide +kernel
theorem dL_law_319 : decode cL_law 319 = .ok (.if_icmp .eq 501, 3) := by decide +kernel
theorem dL_law_322 : decode cL_law 322 = .ok (.iconst 0, 1) := by decide +kernel
theorem dL_law_323 : decode cL_law 323 = .ok (.ireturn, 1) := by decide +kernel
theorem dL_law_324 : decode cL_law 324 = .ok (.aload_n 1, 1) := by decide +kernel
theorem dL_law_325 : decode cL_law 325 = .ok (.aload_n 0, 1) := by decide +kernel
theorem dL_law_326 : decode cL_law 326 = .ok (.iload_n 3, 1) := by decide +kernel
theorem dL_law_327 : decode cL_law 327 = .ok (.iconst 1, 1) := by decide +kernel
theorem dL_law_328 : decode cL_law 328 = .ok (.iadd, 1) := by decide +kernel
theorem dL_law_329 : decode cL_law 329 = .ok (.iaload, 1) := by decide +kernel
theorem dL_law_330 : decode cL_law 330 = .ok (.invokevirtual 48, 3) := by decide +kernel
theorem dL_law_333 : decode cL_law 333 = .ok (.aload_n 2, 1) := by decide +kernel
theorem dL_law_334 : decode cL_law 334 = .ok (.aload_n 0, 1) := by decide +kernel
theorem dL_law_335 : decode cL_law 335 = .ok (.iload_n 3, 1) := by decide +kernel
theorem dL_law_336 : decode cL_law 336 = .ok (.iconst 1, 1) := by decide +kernel
theorem dL_law_337 : decode cL_law 337 = .ok (.iadd, 1) := by decide +kernel
theorem dL_law_338 : decode cL_law 338 = .ok (.iaload, 1) := by decide +kernel
theorem dL_law_339 : decode cL_law 339 = .ok (.invokevirtual 51, 3) := by decide +kernel
theorem dL_law_342 : decode cL_law 342 = .ok (.if_icmp .eq 478, 3) := by decide +kernel
theorem dL_law_345 : decode cL_law 345 = .ok (.iconst 0, 1) := by decide +kernel
theorem dL_law_346 : decode cL_law 346 = .ok (.ireturn, 1) := by decide +kernel
theorem dL_law_347 : decode cL_law 347 = .ok (.aload_n 1, 1) := by decide +kernel
theorem dL_law_348 : decode cL_law 348 = .ok (.aload_n 0, 1) := by decide +kernel
theorem dL_law_349 : decode cL_law 349 = .ok (.iload_n 3, 1) := by decide +kernel
theorem dL_law_350 : decode cL_law 350 = .ok (.iconst 1, 1) := by decide +kernel
theorem dL_law_351 : decode cL_law 351 = .ok (.iadd, 1) := by decide +kernel
theorem dL_law_352 : decode cL_law 352 = .ok (.iaload, 1) := by decide +kernel
theorem dL_law_353 : decode cL_law 353 = .ok (.invokevirtual 52, 3) := by decide +kernel
theorem dL_law_356 : decode cL_law 356 = .ok (.aload_n 2, 1) := by decide +kernel
theorem dL_law_357 : decode cL_law 357 = .ok (.aload_n 0, 1) := by decide +kernel
theorem dL_law_358 : decode cL_law 358 = .ok (.iload_n 3, 1) := by decide +kernel
theorem dL_law_359 : decode cL_law 359 = .ok (.iconst 1, 1) := by decide +kernel
theorem dL_law_360 : decode cL_law 360 = .ok (.iadd, 1) := by decide +kernel
theorem dL_law_361 : decode cL_law 361 = .ok (.iaload, 1) := by decide +kernel
theorem dL_law_362 : decode cL_law 362 = .ok (.invokevirtual 55, 3) := by decide +kernel
theorem dL_law_365 : decode cL_law 365 = .ok (.if_icmp .eq 455, 3) := by decide +kernel
theorem dL_law_368 : decode cL_law 368 = .ok (.iconst 0, 1) := by decide +kernel
theorem dL_law_369 : decode cL_law 369 = .ok (.ireturn, 1) := by decide +kernel
theorem dL_law_370 : decode cL_law 370 = .ok (.aload_n 1, 1) := by decide +kernel
theorem dL_law_371 : decode cL_law 371 = .ok (.aload_n 0, 1) := by decide +kernel
theorem dL_law_372 : decode cL_law 372 = .ok (.iload_n 3, 1) := by decide +kernel
theorem dL_law_373 : decode cL_law 373 = .ok (.iconst 1, 1) := by decide +kernel
theorem dL_law_374 : decode cL_law 374 = .ok (.iadd, 1) := by decide +kernel
theorem dL_law_375 : decode cL_law 375 = .ok (.iaload, 1) := by decide +kernel
theorem dL_law_376 : decode cL_law 376 = .ok (.invokevirtual 56, 3) := by decide +kernel
theorem dL_law_379 : decode cL_law 379 = .ok (.aload_n 2, 1) := by decide +kernel
theorem dL_law_380 : decode cL_law 380 = .ok (.aload_n 0, 1) := by decide +kernel
theorem dL_law_381 : decode cL_law 381 = .ok (.iload_n 3, 1) := by decide +kernel
theorem dL_law_382 : decode cL_law 382 = .ok (.iconst 1, 1) := by decide +kernel
theorem dL_law_383 : decode cL_law 383 = .ok (.iadd, 1) := by decide +kernel
theorem dL_law_384 : decode cL_law 384 = .ok (.iaload, 1) := by decide +kernel
theorem dL_law_385 : decode cL_law 385 = .ok (.invokevirtual 59, 3) := by decide +kernel
theorem dL_law_388 : decode cL_law 388 = .ok (.if_icmp .eq 432, 3) := by decide +kernel
theorem dL_law_391 : decode cL_law 391 = .ok (.iconst 0, 1) := by decide +kernel
theorem dL_law_392 : decode cL_law 392 = .ok (.ireturn, 1) := by decide +kernel
theorem dL_law_393 : decode cL_law 393 = .ok (.aload_n 1, 1) := by decide +kernel
theorem dL_law_394 : decode cL_law 394 = .ok (.invokevirtual 60, 3) := by decide +kernel
theorem dL_law_397 : decode cL_law 397 = .ok (.aload_n 2, 1) := by decide +kernel
theorem dL_law_398 : decode cL_law 398 = .ok (.invokevirtual 63, 3) := by decide +kernel
theorem dL_law_401 : decode cL_law 401 = .ok (.if_icmp .eq 419, 3) := by decide +kernel
theorem dL_law_404 : decode cL_law 404 = .ok (.iconst 0, 1) := by decide +kernel
theorem dL_law_405 : decode cL_law 405 = .ok (.ireturn, 1) := by decide +kernel
theorem dL_law_406 : decode cL_law 406 = .ok (.aload_n 1, 1) := by decide +kernel
theorem dL_law_407 : decode cL_law 407 = .ok (.aload_n 0, 1) := by decide +kernel
theorem dL_law_408 : decode cL_law 408 = .ok (.iload_n 3, 1) := by decide +kernel
theorem dL_law_409 : decode cL_law 409 = .ok (.iconst 1, 1) := by decide +kernel
theorem dL_law_410 : decode cL_law 410 = .ok (.iadd, 1) := by decide +kernel
theorem dL_law_411 : decode cL_law 411 = .ok (.iaload, 1) := by decide +kernel
theorem dL_law_412 : decode cL_law 412 = .ok (.aload_n 0, 1) := by decide +kernel
theorem dL_law_413 : decode cL_law 413 = .ok (.iload_n 3, 1) := by decide +kernel
theorem dL_law_414 : decode cL_law 414 = .ok (.iconst 2, 1) := by decide +kernel
theorem dL_law_415 : decode cL_law 415 = .ok (.iadd, 1) := by decide +kernel
theorem dL_law_416 : decode cL_law 416 = .ok (.iaload, 1) := by decide +kernel
theorem dL_law_417 : decode cL_law 417 = .ok (.invokevirtual 64, 3) := by decide +kernel
theorem dL_law_420 : decode cL_law 420 = .ok (.aload_n 2, 1) := by decide +kernel
theorem dL_law_421 : decode cL_law 421 = .ok (.aload_n 0, 1) := by decide +kernel
theorem dL_law_422 : decode cL_law 422 = .ok (.iload_n 3, 1) := by decide +kernel
theorem dL_law_423 : decode cL_law 423 = .ok (.iconst 1, 1) := by decide +kernel
theorem dL_law_424 : decode cL_law 424 = .ok (.iadd, 1) := by decide +kernel
theorem dL_law_425 : decode cL_law 425 = .ok (.iaload, 1) := by decide +kernel
theorem dL_law_426 : decode cL_law 426 = .ok (.aload_n 0, 1) := by decide +kernel
theorem dL_law_427 : decode cL_law 427 = .ok (.iload_n 3, 1) := by decide +kernel
theorem dL_law_428 : decode cL_law 428 = .ok (.iconst 2, 1) := by decide +kernel
theorem dL_law_429 : decode cL_law 429 = .ok (.iadd, 1) := by decide +kernel
theorem dL_law_430 : decode cL_law 430 = .ok (.iaload, 1) := by decide +kernel
theorem dL_law_431 : decode cL_law 431 = .ok (.invokevirtual 67, 3) := by decide +kernel
theorem dL_law_434 : decode cL_law 434 = .ok (.if_icmp .eq 386, 3) := by decide +kernel
theorem dL_law_437 : decode cL_law 437 = .ok (.iconst 0, 1) := by decide +kernel
theorem dL_law_438 : decode cL_law 438 = .ok (.ireturn, 1) := by decide +kernel
theorem dL_law_439 : decode cL_law 439 = .ok (.aload_n 1, 1) := by decide +kernel
theorem dL_law_440 : decode cL_law 440 = .ok (.aload_n 0, 1) := by decide +kernel
theorem dL_law_441 : decode cL_law 441 = .ok (.iload_n 3, 1) := by decide +kernel
theorem dL_law_442 : decode cL_law 442 = .ok (.iconst 1, 1) := by decide +kernel
theorem dL_law_443 : decode cL_law 443 = .ok (.iadd, 1) := by decide +kernel
theorem dL_law_444 : decode cL_law 444 = .ok (.iaload, 1) := by decide +kernel
theorem dL_law_445 : decode cL_law 445 = .ok (.invokevirtual 68, 3) := by decide +kernel
theorem dL_law_448 : decode cL_law 448 = .ok (.aload_n 2, 1) := by decide +kernel
theorem dL_law_449 : decode cL_law 449 = .ok (.aload_n 0, 1) := by decide +kernel
theorem dL_law_450 : decode cL_law 450 = .ok (.iload_n 3, 1) := by decide +kernel
theorem dL_law_451 : decode cL_law 451 = .ok (.iconst 1, 1) := by decide +kernel
theorem dL_law_452 : decode cL_law 452 = .ok (.iadd, 1) := by decide +kernel
theorem dL_law_453 : decode cL_law 453 = .ok (.iaload, 1) := by decide +kernel
theorem dL_law_454 : decode cL_law 454 = .ok (.invokevirtual 71, 3) := by decide +kernel
theorem dL_law_457 : decode cL_law 457 = .ok (.if_icmp .eq 363, 3) := by decide +kernel
theorem dL_law_460 : decode cL_law 460 = .ok (.iconst 0, 1) := by decide +kernel
theorem dL_law_461 : decode cL_law 461 = .ok (.ireturn, 1) := by decide +kernel
theorem dL_law_462 : decode cL_law 462 = .ok (.aload_n 1, 1) := by decide +kernel
theorem dL_law_463 : decode cL_law 463 = .ok (.invokevirtual 72, 3) := by decide +kernel
theorem dL_law_466 : decode cL_law 466 = .ok (.aload_n 2, 1) := by decide +kernel
theorem dL_law_467 : decode cL_law 467 = .ok (.invokevirtual 75, 3) := by decide +kernel
theorem dL_law_470 : decode cL_law 470 = .ok (.if_icmp .eq 350, 3) := by decide +kernel
theorem dL_law_473 : decode cL_law 473 = .ok (.iconst 0, 1) := by decide +kernel
theorem dL_law_474 : decode cL_law 474 = .ok (.ireturn, 1) := by decide +kernel
theorem dL_law_475 : decode cL_law 475 = .ok (.aload_n 1, 1) := by decide +kernel
theorem dL_law_476 : decode cL_law 476 = .ok (.invokevirtual 76, 3) := by decide +kernel
theorem dL_law_479 : decode cL_law 479 = .ok (.aload_n 2, 1) := by decide +kernel
theorem dL_law_480 : decode cL_law 480 = .ok (.invokevirtual 79, 3) := by decide +kernel
theorem dL_law_483 : decode cL_law 483 = .ok (.if_icmp .eq 337, 3) := by decide +kernel
theorem dL_law_486 : decode cL_law 486 = .ok (.iconst 0, 1) := by decide +kernel
theorem dL_law_487 : decode cL_law 487 = .ok (.ireturn, 1) := by decide +kernel
theorem dL_law_488 : decode cL_law 488 = .ok (.aload_n 1, 1) := by decide +kernel
theorem dL_law_489 : decode cL_law 489 = .ok (.aload_n 0, 1) := by decide +kernel
theorem dL_law_490 : decode cL_law 490 = .ok (.iload_n 3, 1) := by decide +kernel
theorem dL_law_491 : decode cL_law 491 = .ok (.iconst 1, 1) := by decide +kernel
theorem dL_law_492 : decode cL_law 492 = .ok (.iadd, 1) := by decide +kernel
theorem dL_law_493 : decode cL_law 493 = .ok (.iaload, 1) := by decide +kernel
theorem dL_law_494 : decode cL_law 494 = .ok (.invokevirtual 80, 3) := by decide +kernel
theorem dL_law_497 : decode cL_law 497 = .ok (.aload_n 2, 1) := by decide +kernel
theorem dL_law_498 : decode cL_law 498 = .ok (.aload_n 0, 1) := by decide +kernel
theorem dL_law_499 : decode cL_law 499 = .ok (.iload_n 3, 1) := by decide +kernel
theorem dL_law_500 : decode cL_law 500 = .ok (.iconst 1, 1) := by decide +kernel
theorem dL_law_501 : decode cL_law 501 = .ok (.iadd, 1) := by decide +kernel
theorem dL_law_502 : decode cL_law 502 = .ok (.iaload, 1) := by decide +kernel
theorem dL_law_503 : decode cL_law 503 = .ok (.invokevirtual 83, 3) := by decide +kernel
theorem dL_law_506 : decode cL_law 506 = .ok (.if_icmp .eq 314, 3) := by decide +kernel
theorem dL_law_509 : decode cL_law 509 = .ok (.iconst 0, 1) := by decide +kernel
theorem dL_law_510 : decode cL_law 510 = .ok (.ireturn, 1) := by decide +kernel
theorem dL_law_511 : decode cL_law 511 = .ok (.aload_n 1, 1) := by decide +kernel
theorem dL_law_512 : decode cL_law 512 = .ok (.aload_n 0, 1) := by decide +kernel
theorem dL_law_513 : decode cL_law 513 = .ok (.iload_n 3, 1) := by decide +kernel
theorem dL_law_514 : decode cL_law 514 = .ok (.iconst 1, 1) := by decide +kernel
theorem dL_law_515 : decode cL_law 515 = .ok (.iadd, 1) := by decide +kernel
theorem dL_law_516 : decode cL_law 516 = .ok (.iaload, 1) := by decide +kernel
theorem dL_law_517 : decode cL_law 517 = .ok (.aload_n 0, 1) := by decide +kernel
theorem dL_law_518 : decode cL_law 518 = .ok (.iload_n 3, 1) := by decide +kernel
theorem dL_law_519 : decode cL_law 519 = .ok (.iconst 2, 1) := by decide +kernel
theorem dL_law_520 : decode cL_law 520 = .ok (.iadd, 1) := by decide +kernel
theorem dL_law_521 : decode cL_law 521 = .ok (.iaload, 1) := by decide +kernel
theorem dL_law_522 : decode cL_law 522 = .ok (.invokevirtual 84, 3) := by decide +kernel
theorem dL_law_525 : decode cL_law 525 = .ok (.aload_n 2, 1) := by decide +kernel
theorem dL_law_526 : decode cL_law 526 = .ok (.aload_n 0, 1) := by decide +kernel
theorem dL_law_527 : decode cL_law 527 = .ok (.iload_n 3, 1) := by decide +kernel
theorem dL_law_528 : decode cL_law 528 = .ok (.iconst 1, 1) := by decide +kernel
theorem dL_law_529 : decode cL_law 529 = .ok (.iadd, 1) := by decide +kernel
theorem dL_law_530 : decode cL_law 530 = .ok (.iaload, 1) := by decide +kernel
theorem dL_law_531 : decode cL_law 531 = .ok (.aload_n 0, 1) := by decide +kernel
theorem dL_law_532 : decode cL_law 532 = .ok (.iload_n 3, 1) := by decide +kernel
theorem dL_law_533 : decode cL_law 533 = .ok (.iconst 2, 1) := by decide +kernel
theorem dL_law_534 : decode cL_law 534 = .ok (.iadd, 1) := by decide +kernel
theorem dL_law_535 : decode cL_law 535 = .ok (.iaload, 1) := by decide +kernel
theorem dL_law_536 : decode cL_law 536 = .ok (.invokevirtual 87, 3) := by decide +kernel
theorem dL_law_539 : decode cL_law 539 = .ok (.if_icmp .eq 281, 3) := by decide +kernel
theorem dL_law_542 : decode cL_law 542 = .ok (.iconst 0, 1) := by decide +kernel
theorem dL_law_543 : decode cL_law 543 = .ok (.ireturn, 1) := by decide +kernel
theorem dL_law_544 : decode cL_law 544 = .ok (.aload_n 1, 1) := by decide +kernel
theorem dL_law_545 : decode cL_law 545 = .ok (.aload_n 0, 1) := by decide +kernel
theorem dL_law_546 : decode cL_law 546 = .ok (.iload_n 3, 1) := by decide +kernel
theorem dL_law_547 : decode cL_law 547 = .ok (.iconst 1, 1) := by decide +kernel
theorem dL_law_548 : decode cL_law 548 = .ok (.iadd, 1) := by decide +kernel
theorem dL_law_549 : decode cL_law 549 = .ok (.iaload, 1) := by decide +kernel
theorem dL_law_550 : decode cL_law 550 = .ok (.invokevirtual 88, 3) := by decide +kernel
