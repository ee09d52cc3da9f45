theorem dX0_init_0 : decode cX0_init 0 = .ok (.aload_n 0, 1) := by decide +kernel
theorem dX0_init_1 : decode cX0_init 1 = .ok (.invokespecial 3, 3) := by decide +kernel
theorem dX0_init_4 : decode cX0_init 4 = .ok (.aload_n 0, 1) := by decide +kernel
theorem dX0_init_5 : decode cX0_init 5 = .ok (.new 9, 3) := by decide +kernel
theorem dX0_init_8 : decode cX0_init 8 = .ok (.dup, 1) := by decide +kernel
theorem dX0_init_9 : decode cX0_init 9 = .ok (.invokespecial 11, 3) := by decide +kernel
theorem dX0_init_12 : decode cX0_init 12 = .ok (.putfield 12, 3) := by decide +kernel
theorem dX0_init_15 : decode cX0_init 15 = .ok (.aload_n 0, 1) := by decide +kernel
theorem dX0_init_16 : decode cX0_init 16 = .ok (.new 18, 3) := by decide +kernel
theorem dX0_init_19 : decode cX0_init 19 = .ok (.dup, 1) := by decide +kernel
theorem dX0_init_20 : decode cX0_init 20 = .ok (.invokespecial 20, 3) := by decide +kernel
theorem dX0_init_23 : decode cX0_init 23 = .ok (.putfield 21, 3) := by decide +kernel
theorem dX0_init_26 : decode cX0_init 26 = .ok (.aload_n 0, 1) := by decide +kernel
theorem dX0_init_27 : decode cX0_init 27 = .ok (.new 9, 3) := by decide +kernel
theorem dX0_init_30 : decode cX0_init 30 = .ok (.dup, 1) := by decide +kernel
theorem dX0_init_31 : decode cX0_init 31 = .ok (.invokespecial 11, 3) := by decide +kernel
theorem dX0_init_34 : decode cX0_init 34 = .ok (.putfield 25, 3) := by decide +kernel
theorem dX0_init_37 : decode cX0_init 37 = .ok (.aload_n 0, 1) := by decide +kernel
theorem dX0_init_38 : decode cX0_init 38 = .ok (.new 18, 3) := by decide +kernel
theorem dX0_init_41 : decode cX0_init 41 = .ok (.dup, 1) := by decide +kernel
theorem dX0_init_42 : decode cX0_init 42 = .ok (.invokespecial 20, 3) := by decide +kernel
theorem dX0_init_45 : decode cX0_init 45 = .ok (.putfield 28, 3) := by decide +kernel
theorem dX0_init_48 : decode cX0_init 48 = .ok (.aload_n 0, 1) := by decide +kernel
theorem dX0_init_49 : decode cX0_init 49 = .ok (.new 31, 3) := by decide +kernel
theorem dX0_init_52 : decode cX0_init 52 = .ok (.dup, 1) := by decide +kernel
theorem dX0_init_53 : decode cX0_init 53 = .ok (.invokespecial 33, 3) := by decide +kernel
theorem dX0_init_56 : decode cX0_init 56 = .ok (.putfield 34, 3) := by decide +kernel
theorem dX0_init_59 : decode cX0_init 59 = .ok (.return_, 1) := by decide +kernel
theorem dX0_startTrial_0 : decode cX0_startTrial 0 = .ok (.aload_n 0, 1) := by decide +kernel
theorem dX0_startTrial_1 : decode cX0_startTrial 1 = .ok (.getfield 28, 3) := by decide +kernel
theorem dX0_startTrial_4 : decode cX0_startTrial 4 = .ok (.aload_n 0, 1) := by decide +kernel
theorem dX0_startTrial_5 : decode cX0_startTrial 5 = .ok (.getfield 21, 3) := by decide +kernel
theorem dX0_startTrial_8 : decode cX0_startTrial 8 = .ok (.invokevirtual 38, 3) := by decide +kernel
theorem dX0_startTrial_11 : decode cX0_startTrial 11 = .ok (.return_, 1) := by decide +kernel
theorem dX0_lineBehind_0 : decode cX0_lineBehind 0 = .ok (.aload_n 0, 1) := by decide +kernel
theorem dX0_lineBehind_1 : decode cX0_lineBehind 1 = .ok (.invokevirtual 42, 3) := by decide +kernel
theorem dX0_lineBehind_4 : decode cX0_lineBehind 4 = .ok (.aload_n 0, 1) := by decide +kernel
theorem dX0_lineBehind_5 : decode cX0_lineBehind 5 = .ok (.getfield 28, 3) := by decide +kernel
theorem dX0_lineBehind_8 : decode cX0_lineBehind 8 = .ok (.aload_n 0, 1) := by decide +kernel
theorem dX0_lineBehind_9 : decode cX0_lineBehind 9 = .ok (.getfield 12, 3) := by decide +kernel
theorem dX0_lineBehind_12 : decode cX0_lineBehind 12 = .ok (.iload_n 1, 1) := by decide +kernel
theorem dX0_lineBehind_13 : decode cX0_lineBehind 13 = .ok (.invokevirtual 45, 3) := by decide +kernel
theorem dX0_lineBehind_16 : decode cX0_lineBehind 16 = .ok (.aload_n 0, 1) := by decide +kernel
theorem dX0_lineBehind_17 : decode cX0_lineBehind 17 = .ok (.getfield 28, 3) := by decide +kernel
theorem dX0_lineBehind_20 : decode cX0_lineBehind 20 = .ok (.areturn, 1) := by decide +kernel
theorem dX0_whenEaten_0 : decode cX0_whenEaten 0 = .ok (.iconst 1, 1) := by decide +kernel
theorem dX0_whenEaten_1 : decode cX0_whenEaten 1 = .ok (.istore_n 3, 1) := by decide +kernel
theorem dX0_whenEaten_2 : decode cX0_whenEaten 2 = .ok (.iload_n 3, 1) := by decide +kernel
theorem dX0_whenEaten_3 : decode cX0_whenEaten 3 = .ok (.bipush 99, 2) := by decide +kernel
theorem dX0_whenEaten_5 : decode cX0_whenEaten 5 = .ok (.if_icmp .gt 61, 3) := by decide +kernel
theorem dX0_whenEaten_8 : decode cX0_whenEaten 8 = .ok (.aload_n 0, 1) := by decide +kernel
theorem dX0_whenEaten_9 : decode cX0_whenEaten 9 = .ok (.getfield 28, 3) := by decide +kernel
theorem dX0_whenEaten_12 : decode cX0_whenEaten 12 = .ok (.iload_n 1, 1) := by decide +kernel
theorem dX0_whenEaten_13 : decode cX0_whenEaten 13 = .ok (.invokevirtual 49, 3) := by decide +kernel
theorem dX0_whenEaten_16 : decode cX0_whenEaten 16 = .ok (.iconst 2, 1) := by decide +kernel
theorem dX0_whenEaten_17 : decode cX0_whenEaten 17 = .ok (.if_icmp .eq 49, 3) := by decide +kernel
theorem dX0_whenEaten_20 : decode cX0_whenEaten 20 = .ok (.aload_n 0, 1) := by decide +kernel
theorem dX0_whenEaten_21 : decode cX0_whenEaten 21 = .ok (.getfield 28, 3) := by decide +kernel
theorem dX0_whenEaten_24 : decode cX0_whenEaten 24 = .ok (.aload_n 0, 1) := by decide +kernel
theorem dX0_whenEaten_25 : decode cX0_whenEaten 25 = .ok (.getfield 12, 3) := by decide +kernel
theorem dX0_whenEaten_28 : decode cX0_whenEaten 28 = .ok (.aload_n 0, 1) := by decide +kernel
theorem dX0_whenEaten_29 : decode cX0_whenEaten 29 = .ok (.getfield 12, 3) := by decide +kernel
theorem dX0_whenEaten_32 : decode cX0_whenEaten 32 = .ok (.aload_n 0, 1) := by decide +kernel
theorem dX0_whenEaten_33 : decode cX0_whenEaten 33 = .ok (.getfield 28, 3) := by decide +kernel
theorem dX0_whenEaten_36 : decode cX0_whenEaten 36 = .ok (.getfield 53, 3) := by decide +kernel
theorem dX0_whenEaten_39 : decode cX0_whenEaten 39 = .ok (.invokevirtual 57, 3) := by decide +kernel
theorem dX0_whenEaten_42 : decode cX0_whenEaten 42 = .ok (.iload_n 2, 1) := by decide +kernel
theorem dX0_whenEaten_43 : decode cX0_whenEaten 43 = .ok (.invokevirtual 61, 3) := by decide +kernel
theorem dX0_whenEaten_46 : decode cX0_whenEaten 46 = .ok (.aload_n 0, 1) := by decide +kernel
theorem dX0_whenEaten_47 : decode cX0_whenEaten 47 = .ok (.getfield 28, 3) := by decide +kernel
theorem dX0_whenEaten_50 : decode cX0_whenEaten 50 = .ok (.iload_n 1, 1) := by decide +kernel
theorem dX0_whenEaten_51 : decode cX0_whenEaten 51 = .ok (.invokevirtual 49, 3) := by decide +kernel
theorem dX0_whenEaten_54 : decode cX0_whenEaten 54 = .ok (.iconst 3, 1) := by decide +kernel
theorem dX0_whenEaten_55 : decode cX0_whenEaten 55 = .ok (.if_icmp .ne 5, 3) := by decide +kernel
theorem dX0_whenEaten_58 : decode cX0_whenEaten 58 = .ok (.iload_n 3, 1) := by decide +kernel
theorem dX0_whenEaten_59 : decode cX0_whenEaten 59 = .ok (.ireturn, 1) := by decide +kernel
theorem dX0_whenEaten_60 : decode cX0_whenEaten 60 = .ok (.iinc 3 1, 3) := by decide +kernel
theorem dX0_whenEaten_63 : decode cX0_whenEaten 63 = .ok (.goto (-61), 3) := by decide +kernel
theorem dX0_whenEaten_66 : decode cX0_whenEaten 66 = .ok (.bipush 100, 2) := by decide +kernel
theorem dX0_whenEaten_68 : decode cX0_whenEaten 68 = .ok (.ireturn, 1) := by decide +kernel
theorem dX0_whoGains_0 : decode cX0_whoGains 0 = .ok (.iconst 0, 1) := by decide +kernel
theorem dX0_whoGains_1 : decode cX0_whoGains 1 = .ok (.istore_n 2, 1) := by decide +kernel
theorem dX0_whoGains_2 : decode cX0_whoGains 2 = .ok (.iconst 0, 1) := by decide +kernel
theorem dX0_whoGains_3 : decode cX0_whoGains 3 = .ok (.istore_n 3, 1) := by decide +kernel
theorem dX0_whoGains_4 : decode cX0_whoGains 4 = .ok (.iload_n 3, 1) := by decide +kernel
theorem dX0_whoGains_5 : decode cX0_whoGains 5 = .ok (.aload_n 0, 1) := by decide +kernel
theorem dX0_whoGains_6 : decode cX0_whoGains 6 = .ok (.getfield 12, 3) := by decide +kernel
theorem dX0_whoGains_9 : decode cX0_whoGains 9 = .ok (.getfield 65, 3) := by decide +kernel
theorem dX0_whoGains_12 : decode cX0_whoGains 12 = .ok (.if_icmp .ge 63, 3) := by decide +kernel
theorem dX0_whoGains_15 : decode cX0_whoGains 15 = .ok (.aload_n 0, 1) := by decide +kernel
theorem dX0_whoGains_16 : decode cX0_whoGains 16 = .ok (.getfield 21, 3) := by decide +kernel
theorem dX0_whoGains_19 : decode cX0_whoGains 19 = .ok (.iload_n 3, 1) := by decide +kernel
theorem dX0_whoGains_20 : decode cX0_whoGains 20 = .ok (.invokevirtual 49, 3) := by decide +kernel
theorem dX0_whoGains_23 : decode cX0_whoGains 23 = .ok (.iconst 1, 1) := by decide +kernel
theorem dX0_whoGains_24 : decode cX0_whoGains 24 = .ok (.if_icmp .eq 6, 3) := by decide +kernel
theorem dX0_whoGains_27 : decode cX0_whoGains 27 = .ok (.goto 42, 3) := by decide +kernel
theorem dX0_whoGains_30 : decode cX0_whoGains 30 = .ok (.aload_n 0, 1) := by decide +kernel
theorem dX0_whoGains_31 : decode cX0_whoGains 31 = .ok (.invokevirtual 42, 3) := by decide +kernel
theorem dX0_whoGains_34 : decode cX0_whoGains 34 = .ok (.aload_n 0, 1) := by decide +kernel
theorem dX0_whoGains_35 : decode cX0_whoGains 35 = .ok (.iload_n 3, 1) := by decide +kernel
theorem dX0_whoGains_36 : decode cX0_whoGains 36 = .ok (.iconst 0, 1) := by decide +kernel
theorem dX0_whoGains_37 : decode cX0_whoGains 37 = .ok (.invokevirtual 68, 3) := by decide +kernel
theorem dX0_whoGains_40 : decode cX0_whoGains 40 = .ok (.istore 4, 2) := by decide +kernel
theorem dX0_whoGains_42 : decode cX0_whoGains 42 = .ok (.aload_n 0, 1) := by decide +kernel
theorem dX0_whoGains_43 : decode cX0_whoGains 43 = .ok (.invokevirtual 42, 3) := by decide +kernel
theorem dX0_whoGains_46 : decode cX0_whoGains 46 = .ok (.aload_n 0, 1) := by decide +kernel
theorem dX0_whoGains_47 : decode cX0_whoGains 47 = .ok (.iload_n 3, 1) := by decide +kernel
theorem dX0_whoGains_48 : decode cX0_whoGains 48 = .ok (.iload_n 1, 1) := by decide +kernel
theorem dX0_whoGains_49 : decode cX0_whoGains 49 = .ok (.invokevirtual 72, 3) := by decide +kernel
theorem dX0_whoGains_52 : decode cX0_whoGains 52 = .ok (.aload_n 0, 1) := by decide +kernel
theorem dX0_whoGains_53 : decode cX0_whoGains 53 = .ok (.iload_n 3, 1) := by decide +kernel
theorem dX0_whoGains_54 : decode cX0_whoGains 54 = .ok (.iconst 0, 1) := by decide +kernel
theorem dX0_whoGains_55 : decode cX0_whoGains 55 = .ok (.invokevirtual 68, 3) := by decide +kernel
theorem dX0_whoGains_58 : decode cX0_whoGains 58 = .ok (.iload 4, 2) := by decide +kernel
theorem dX0_whoGains_60 : decode cX0_whoGains 60 = .ok (.if_icmp .ge 9, 3) := by decide +kernel
theorem dX0_whoGains_63 : decode cX0_whoGains 63 = .ok (.iload_n 2, 1) := by decide +kernel
theorem dX0_whoGains_64 : decode cX0_whoGains 64 = .ok (.iconst 1, 1) := by decide +kernel
theorem dX0_whoGains_65 : decode cX0_whoGains 65 = .ok (.iload_n 3, 1) := by decide +kernel
theorem dX0_whoGains_66 : decode cX0_whoGains 66 = .ok (.ishl, 1) := by decide +kernel
theorem dX0_whoGains_67 : decode cX0_whoGains 67 = .ok (.ior, 1) := by decide +kernel
theorem dX0_whoGains_68 : decode cX0_whoGains 68 = .ok (.istore_n 2, 1) := by decide +kernel
theorem dX0_whoGains_69 : decode cX0_whoGains 69 = .ok (.iinc 3 1, 3) := by decide +kernel
theorem dX0_whoGains_72 : decode cX0_whoGains 72 = .ok (.goto (-68), 3) := by decide +kernel
theorem dX0_whoGains_75 : decode cX0_whoGains 75 = .ok (.iload_n 2, 1) := by decide +kernel
theorem dX0_whoGains_76 : decode cX0_whoGains 76 = .ok (.ireturn, 1) := by decide +kernel
theorem dX0_move_0 : decode cX0_move 0 = .ok (.iload_n 2, 1) := by decide +kernel
theorem dX0_move_1 : decode cX0_move 1 = .ok (.ifCond .eq 26, 3) := by decide +kernel
theorem dX0_move_4 : decode cX0_move 4 = .ok (.aload_n 0, 1) := by decide +kernel
theorem dX0_move_5 : decode cX0_move 5 = .ok (.getfield 28, 3) := by decide +kernel
theorem dX0_move_8 : decode cX0_move 8 = .ok (.iload_n 1, 1) := by decide +kernel
theorem dX0_move_9 : decode cX0_move 9 = .ok (.invokevirtual 76, 3) := by decide +kernel
theorem dX0_move_12 : decode cX0_move 12 = .ok (.aload_n 0, 1) := by decide +kernel
theorem dX0_move_13 : decode cX0_move 13 = .ok (.getfield 28, 3) := by decide +kernel
theorem dX0_move_16 : decode cX0_move 16 = .ok (.aload_n 0, 1) := by decide +kernel
theorem dX0_move_17 : decode cX0_move 17 = .ok (.getfield 12, 3) := by decide +kernel
theorem dX0_move_20 : decode cX0_move 20 = .ok (.iload_n 1, 1) := by decide +kernel
theorem dX0_move_21 : decode cX0_move 21 = .ok (.invokevirtual 80, 3) := by decide +kernel
theorem dX0_move_24 : decode cX0_move 24 = .ok (.goto 11, 3) := by decide +kernel
theorem dX0_move_27 : decode cX0_move 27 = .ok (.aload_n 0, 1) := by decide +kernel
theorem dX0_move_28 : decode cX0_move 28 = .ok (.getfield 28, 3) := by decide +kernel
theorem dX0_move_31 : decode cX0_move 31 = .ok (.iload_n 1, 1) := by decide +kernel
theorem dX0_move_32 : decode cX0_move 32 = .ok (.invokevirtual 83, 3) := by decide +kernel
theorem dX0_move_35 : decode cX0_move 35 = .ok (.return_, 1) := by decide +kernel
theorem dX0_bestOrder_0 : decode cX0_bestOrder 0 = .ok (.bipush 100, 2) := by decide +kernel
theorem dX0_bestOrder_2 : decode cX0_bestOrder 2 = .ok (.istore_n 1, 1) := by decide +kernel
theorem dX0_bestOrder_3 : decode cX0_bestOrder 3 = .ok (.aload_n 0, 1) := by decide +kernel
theorem dX0_bestOrder_4 : decode cX0_bestOrder 4 = .ok (.getfield 25, 3) := by decide +kernel
theorem dX0_bestOrder_7 : decode cX0_bestOrder 7 = .ok (.aload_n 0, 1) := by decide +kernel
theorem dX0_bestOrder_8 : decode cX0_bestOrder 8 = .ok (.getfield 12, 3) := by decide +kernel
theorem dX0_bestOrder_11 : decode cX0_bestOrder 11 = .ok (.invokevirtual 86, 3) := by decide +kernel
theorem dX0_bestOrder_14 : decode cX0_bestOrder 14 = .ok (.iconst 0, 1) := by decide +kernel
theorem dX0_bestOrder_15 : decode cX0_bestOrder 15 = .ok (.istore_n 2, 1) := by decide +kernel
theorem dX0_bestOrder_16 : decode cX0_bestOrder 16 = .ok (.iload_n 2, 1) := by decide +kernel
theorem dX0_bestOrder_17 : decode cX0_bestOrder 17 = .ok (.bipush 120, 2) := by decide +kernel
theorem dX0_bestOrder_19 : decode cX0_bestOrder 19 = .ok (.if_icmp .ge 41, 3) := by decide +kernel
theorem dX0_bestOrder_22 : decode cX0_bestOrder 22 = .ok (.aload_n 0, 1) := by decide +kernel
theorem dX0_bestOrder_23 : decode cX0_bestOrder 23 = .ok (.invokevirtual 89, 3) := by decide +kernel
theorem dX0_bestOrder_26 : decode cX0_bestOrder 26 = .ok (.istore_n 3, 1) := by decide +kernel
theorem dX0_bestOrder_27 : decode cX0_bestOrder 27 = .ok (.iload_n 3, 1) := by decide +kernel
theorem dX0_bestOrder_28 : decode cX0_bestOrder 28 = .ok (.iload_n 1, 1) := by decide +kernel
theorem dX0_bestOrder_29 : decode cX0_bestOrder 29 = .ok (.if_icmp .ge 12, 3) := by decide +kernel
theorem dX0_bestOrder_32 : decode cX0_bestOrder 32 = .ok (.iload_n 3, 1) := by decide +kernel
theorem dX0_bestOrder_33 : decode cX0_bestOrder 33 = .ok (.istore_n 1, 1) := by decide +kernel
theorem dX0_bestOrder_34 : decode cX0_bestOrder 34 = .ok (.aload_n 0, 1) := by decide +kernel
theorem dX0_bestOrder_35 : decode cX0_bestOrder 35 = .ok (.getfield 34, 3) := by decide +kernel
theorem dX0_bestOrder_38 : decode cX0_bestOrder 38 = .ok (.invokevirtual 93, 3) := by decide +kernel
theorem dX0_bestOrder_41 : decode cX0_bestOrder 41 = .ok (.aload_n 0, 1) := by decide +kernel
theorem dX0_bestOrder_42 : decode cX0_bestOrder 42 = .ok (.getfield 34, 3) := by decide +kernel
theorem dX0_bestOrder_45 : decode cX0_bestOrder 45 = .ok (.invokevirtual 96, 3) := by decide +kernel
theorem dX0_bestOrder_48 : decode cX0_bestOrder 48 = .ok (.ifCond .ne 6, 3) := by decide +kernel
theorem dX0_bestOrder_51 : decode cX0_bestOrder 51 = .ok (.goto 9, 3) := by decide +kernel
theorem dX0_bestOrder_54 : decode cX0_bestOrder 54 = .ok (.iinc 2 1, 3) := by decide +kernel
theorem dX0_bestOrder_57 : decode cX0_bestOrder 57 = .ok (.goto (-41), 3) := by decide +kernel
theorem dX0_bestOrder_60 : decode cX0_bestOrder 60 = .ok (.iload_n 1, 1) := by decide +kernel
theorem dX0_bestOrder_61 : decode cX0_bestOrder 61 = .ok (.ireturn, 1) := by decide +kernel
theorem dX0_longestWaitInOrder_0 : decode cX0_longestWaitInOrder 0 = .ok (.aload_n 0, 1) := by decide +kernel
theorem dX0_longestWaitInOrder_1 : decode cX0_longestWaitInOrder 1 = .ok (.getfield 34, 3) := by decide +kernel
theorem dX0_longestWaitInOrder_4 : decode cX0_longestWaitInOrder 4 = .ok (.aload_n 0, 1) := by decide +kernel
theorem dX0_longestWaitInOrder_5 : decode cX0_longestWaitInOrder 5 = .ok (.getfield 25, 3) := by decide +kernel
theorem dX0_longestWaitInOrder_8 : decode cX0_longestWaitInOrder 8 = .ok (.aload_n 0, 1) := by decide +kernel
theorem dX0_longestWaitInOrder_9 : decode cX0_longestWaitInOrder 9 = .ok (.getfield 21, 3) := by decide +kernel
theorem dX0_longestWaitInOrder_12 : decode cX0_longestWaitInOrder 12 = .ok (.getfield 53, 3) := by decide +kernel
theorem dX0_longestWaitInOrder_15 : decode cX0_longestWaitInOrder 15 = .ok (.invokevirtual 100, 3) := by decide +kernel
theorem dX0_longestWaitInOrder_18 : decode cX0_longestWaitInOrder 18 = .ok (.aload_n 0, 1) := by decide +kernel
theorem dX0_longestWaitInOrder_19 : decode cX0_longestWaitInOrder 19 = .ok (.invokevirtual 42, 3) := by decide +kernel
theorem dX0_longestWaitInOrder_22 : decode cX0_longestWaitInOrder 22 = .ok (.iconst 0, 1) := by decide +kernel
theorem dX0_longestWaitInOrder_23 : decode cX0_longestWaitInOrder 23 = .ok (.istore_n 1, 1) := by decide +kernel
theorem dX0_longestWaitInOrder_24 : decode cX0_longestWaitInOrder 24 = .ok (.iload_n 1, 1) := by decide +kernel
theorem dX0_longestWaitInOrder_25 : decode cX0_longestWaitInOrder 25 = .ok (.bipush 99, 2) := by decide +kernel
theorem dX0_longestWaitInOrder_27 : decode cX0_longestWaitInOrder 27 = .ok (.if_icmp .ge 49, 3) := by decide +kernel
theorem dX0_longestWaitInOrder_30 : decode cX0_longestWaitInOrder 30 = .ok (.aload_n 0, 1) := by decide +kernel
theorem dX0_longestWaitInOrder_31 : decode cX0_longestWaitInOrder 31 = .ok (.getfield 34, 3) := by decide +kernel
theorem dX0_longestWaitInOrder_34 : decode cX0_longestWaitInOrder 34 = .ok (.aload_n 0, 1) := by decide +kernel
theorem dX0_longestWaitInOrder_35 : decode cX0_longestWaitInOrder 35 = .ok (.getfield 28, 3) := by decide +kernel
theorem dX0_longestWaitInOrder_38 : decode cX0_longestWaitInOrder 38 = .ok (.invokevirtual 103, 3) := by decide +kernel
theorem dX0_longestWaitInOrder_41 : decode cX0_longestWaitInOrder 41 = .ok (.ifCond .ne 35, 3) := by decide +kernel
theorem dX0_longestWaitInOrder_44 : decode cX0_longestWaitInOrder 44 = .ok (.aload_n 0, 1) := by decide +kernel
theorem dX0_longestWaitInOrder_45 : decode cX0_longestWaitInOrder 45 = .ok (.getfield 28, 3) := by decide +kernel
theorem dX0_longestWaitInOrder_48 : decode cX0_longestWaitInOrder 48 = .ok (.aload_n 0, 1) := by decide +kernel
theorem dX0_longestWaitInOrder_49 : decode cX0_longestWaitInOrder 49 = .ok (.getfield 25, 3) := by decide +kernel
theorem dX0_longestWaitInOrder_52 : decode cX0_longestWaitInOrder 52 = .ok (.aload_n 0, 1) := by decide +kernel
theorem dX0_longestWaitInOrder_53 : decode cX0_longestWaitInOrder 53 = .ok (.getfield 25, 3) := by decide +kernel
theorem dX0_longestWaitInOrder_56 : decode cX0_longestWaitInOrder 56 = .ok (.aload_n 0, 1) := by decide +kernel
theorem dX0_longestWaitInOrder_57 : decode cX0_longestWaitInOrder 57 = .ok (.getfield 28, 3) := by decide +kernel
theorem dX0_longestWaitInOrder_60 : decode cX0_longestWaitInOrder 60 = .ok (.getfield 53, 3) := by decide +kernel
theorem dX0_longestWaitInOrder_63 : decode cX0_longestWaitInOrder 63 = .ok (.invokevirtual 57, 3) := by decide +kernel
theorem dX0_longestWaitInOrder_66 : decode cX0_longestWaitInOrder 66 = .ok (.iconst 0, 1) := by decide +kernel
theorem dX0_longestWaitInOrder_67 : decode cX0_longestWaitInOrder 67 = .ok (.invokevirtual 61, 3) := by decide +kernel
theorem dX0_longestWaitInOrder_70 : decode cX0_longestWaitInOrder 70 = .ok (.iinc 1 1, 3) := by decide +kernel
theorem dX0_longestWaitInOrder_73 : decode cX0_longestWaitInOrder 73 = .ok (.goto (-49), 3) := by decide +kernel
theorem dX0_longestWaitInOrder_76 : decode cX0_longestWaitInOrder 76 = .ok (.aload_n 0, 1) := by decide +kernel
theorem dX0_longestWaitInOrder_77 : decode cX0_longestWaitInOrder 77 = .ok (.getfield 34, 3) := by decide +kernel
theorem dX0_longestWaitInOrder_80 : decode cX0_longestWaitInOrder 80 = .ok (.aload_n 0, 1) := by decide +kernel
theorem dX0_longestWaitInOrder_81 : decode cX0_longestWaitInOrder 81 = .ok (.getfield 28, 3) := by decide +kernel
theorem dX0_longestWaitInOrder_84 : decode cX0_longestWaitInOrder 84 = .ok (.aload_n 0, 1) := by decide +kernel
theorem dX0_longestWaitInOrder_85 : decode cX0_longestWaitInOrder 85 = .ok (.getfield 21, 3) := by decide +kernel
theorem dX0_longestWaitInOrder_88 : decode cX0_longestWaitInOrder 88 = .ok (.getfield 53, 3) := by decide +kernel
theorem dX0_longestWaitInOrder_91 : decode cX0_longestWaitInOrder 91 = .ok (.invokevirtual 107, 3) := by decide +kernel
theorem dX0_longestWaitInOrder_94 : decode cX0_longestWaitInOrder 94 = .ok (.ireturn, 1) := by decide +kernel
theorem dX0_whoSneezed_0 : decode cX0_whoSneezed 0 = .ok (.aload_n 0, 1) := by decide +kernel
theorem dX0_whoSneezed_1 : decode cX0_whoSneezed 1 = .ok (.invokevirtual 42, 3) := by decide +kernel
theorem dX0_whoSneezed_4 : decode cX0_whoSneezed 4 = .ok (.aload_n 1, 1) := by decide +kernel
theorem dX0_whoSneezed_5 : decode cX0_whoSneezed 5 = .ok (.aload_n 0, 1) := by decide +kernel
theorem dX0_whoSneezed_6 : decode cX0_whoSneezed 6 = .ok (.getfield 12, 3) := by decide +kernel
theorem dX0_whoSneezed_9 : decode cX0_whoSneezed 9 = .ok (.aload_n 0, 1) := by decide +kernel
theorem dX0_whoSneezed_10 : decode cX0_whoSneezed 10 = .ok (.getfield 28, 3) := by decide +kernel
theorem dX0_whoSneezed_13 : decode cX0_whoSneezed 13 = .ok (.invokevirtual 111, 3) := by decide +kernel
theorem dX0_whoSneezed_16 : decode cX0_whoSneezed 16 = .ok (.ifCond .eq 9, 3) := by decide +kernel
theorem dX0_whoSneezed_19 : decode cX0_whoSneezed 19 = .ok (.sipush 512, 3) := by decide +kernel
theorem dX0_whoSneezed_22 : decode cX0_whoSneezed 22 = .ok (.goto 4, 3) := by decide +kernel
theorem dX0_whoSneezed_25 : decode cX0_whoSneezed 25 = .ok (.iconst 0, 1) := by decide +kernel
theorem dX0_whoSneezed_26 : decode cX0_whoSneezed 26 = .ok (.istore_n 2, 1) := by decide +kernel
theorem dX0_whoSneezed_27 : decode cX0_whoSneezed 27 = .ok (.iconst 0, 1) := by decide +kernel
theorem dX0_whoSneezed_28 : decode cX0_whoSneezed 28 = .ok (.istore_n 3, 1) := by decide +kernel
theorem dX0_whoSneezed_29 : decode cX0_whoSneezed 29 = .ok (.iload_n 3, 1) := by decide +kernel
theorem dX0_whoSneezed_30 : decode cX0_whoSneezed 30 = .ok (.aload_n 0, 1) := by decide +kernel
theorem dX0_whoSneezed_31 : decode cX0_whoSneezed 31 = .ok (.getfield 12, 3) := by decide +kernel
theorem dX0_whoSneezed_34 : decode cX0_whoSneezed 34 = .ok (.getfield 65, 3) := by decide +kernel
theorem dX0_whoSneezed_37 : decode cX0_whoSneezed 37 = .ok (.if_icmp .ge 57, 3) := by decide +kernel
theorem dX0_whoSneezed_40 : decode cX0_whoSneezed 40 = .ok (.aload_n 0, 1) := by decide +kernel
theorem dX0_whoSneezed_41 : decode cX0_whoSneezed 41 = .ok (.getfield 21, 3) := by decide +kernel
theorem dX0_whoSneezed_44 : decode cX0_whoSneezed 44 = .ok (.iload_n 3, 1) := by decide +kernel
theorem dX0_whoSneezed_45 : decode cX0_whoSneezed 45 = .ok (.invokevirtual 49, 3) := by decide +kernel
theorem dX0_whoSneezed_48 : decode cX0_whoSneezed 48 = .ok (.iconst 1, 1) := by decide +kernel
theorem dX0_whoSneezed_49 : decode cX0_whoSneezed 49 = .ok (.if_icmp .eq 6, 3) := by decide +kernel
theorem dX0_whoSneezed_52 : decode cX0_whoSneezed 52 = .ok (.goto 36, 3) := by decide +kernel
theorem dX0_whoSneezed_55 : decode cX0_whoSneezed 55 = .ok (.aload_n 0, 1) := by decide +kernel
theorem dX0_whoSneezed_56 : decode cX0_whoSneezed 56 = .ok (.invokevirtual 42, 3) := by decide +kernel
theorem dX0_whoSneezed_59 : decode cX0_whoSneezed 59 = .ok (.aload_n 0, 1) := by decide +kernel
theorem dX0_whoSneezed_60 : decode cX0_whoSneezed 60 = .ok (.getfield 28, 3) := by decide +kernel
theorem dX0_whoSneezed_63 : decode cX0_whoSneezed 63 = .ok (.iload_n 3, 1) := by decide +kernel
theorem dX0_whoSneezed_64 : decode cX0_whoSneezed 64 = .ok (.invokevirtual 83, 3) := by decide +kernel
theorem dX0_whoSneezed_67 : decode cX0_whoSneezed 67 = .ok (.aload_n 1, 1) := by decide +kernel
theorem dX0_whoSneezed_68 : decode cX0_whoSneezed 68 = .ok (.aload_n 0, 1) := by decide +kernel
theorem dX0_whoSneezed_69 : decode cX0_whoSneezed 69 = .ok (.getfield 12, 3) := by decide +kernel
theorem dX0_whoSneezed_72 : decode cX0_whoSneezed 72 = .ok (.aload_n 0, 1) := by decide +kernel
theorem dX0_whoSneezed_73 : decode cX0_whoSneezed 73 = .ok (.getfield 28, 3) := by decide +kernel
theorem dX0_whoSneezed_76 : decode cX0_whoSneezed 76 = .ok (.invokevirtual 111, 3) := by decide +kernel
theorem dX0_whoSneezed_79 : decode cX0_whoSneezed 79 = .ok (.ifCond .eq 9, 3) := by decide +kernel
theorem dX0_whoSneezed_82 : decode cX0_whoSneezed 82 = .ok (.iload_n 2, 1) := by decide +kernel
theorem dX0_whoSneezed_83 : decode cX0_whoSneezed 83 = .ok (.iconst 1, 1) := by decide +kernel
theorem dX0_whoSneezed_84 : decode cX0_whoSneezed 84 = .ok (.iload_n 3, 1) := by decide +kernel
theorem dX0_whoSneezed_85 : decode cX0_whoSneezed 85 = .ok (.ishl, 1) := by decide +kernel
theorem dX0_whoSneezed_86 : decode cX0_whoSneezed 86 = .ok (.ior, 1) := by decide +kernel
theorem dX0_whoSneezed_87 : decode cX0_whoSneezed 87 = .ok (.istore_n 2, 1) := by decide +kernel
theorem dX0_whoSneezed_88 : decode cX0_whoSneezed 88 = .ok (.iinc 3 1, 3) := by decide +kernel
theorem dX0_whoSneezed_91 : decode cX0_whoSneezed 91 = .ok (.goto (-62), 3) := by decide +kernel
theorem dX0_whoSneezed_94 : decode cX0_whoSneezed 94 = .ok (.iload_n 2, 1) := by decide +kernel
theorem dX0_whoSneezed_95 : decode cX0_whoSneezed 95 = .ok (.ireturn, 1) := by decide +kernel
theorem dX0_whichKinds_0 : decode cX0_whichKinds 0 = .ok (.iconst 0, 1) := by decide +kernel
theorem dX0_whichKinds_1 : decode cX0_whichKinds 1 = .ok (.istore_n 3, 1) := by decide +kernel
theorem dX0_whichKinds_2 : decode cX0_whichKinds 2 = .ok (.aload_n 0, 1) := by decide +kernel
theorem dX0_whichKinds_3 : decode cX0_whichKinds 3 = .ok (.getfield 25, 3) := by decide +kernel
theorem dX0_whichKinds_6 : decode cX0_whichKinds 6 = .ok (.aload_n 0, 1) := by decide +kernel
theorem dX0_whichKinds_7 : decode cX0_whichKinds 7 = .ok (.getfield 12, 3) := by decide +kernel
theorem dX0_whichKinds_10 : decode cX0_whichKinds 10 = .ok (.invokevirtual 86, 3) := by decide +kernel
theorem dX0_whichKinds_13 : decode cX0_whichKinds 13 = .ok (.iconst 0, 1) := by decide +kernel
theorem dX0_whichKinds_14 : decode cX0_whichKinds 14 = .ok (.istore 4, 2) := by decide +kernel
theorem dX0_whichKinds_16 : decode cX0_whichKinds 16 = .ok (.iload 4, 2) := by decide +kernel
theorem dX0_whichKinds_18 : decode cX0_whichKinds 18 = .ok (.iconst 4, 1) := by decide +kernel
theorem dX0_whichKinds_19 : decode cX0_whichKinds 19 = .ok (.if_icmp .ge 45, 3) := by decide +kernel
theorem dX0_whichKinds_22 : decode cX0_whichKinds 22 = .ok (.aload_n 0, 1) := by decide +kernel
theorem dX0_whichKinds_23 : decode cX0_whichKinds 23 = .ok (.getfield 25, 3) := by decide +kernel
theorem dX0_whichKinds_26 : decode cX0_whichKinds 26 = .ok (.iload_n 2, 1) := by decide +kernel
theorem dX0_whichKinds_27 : decode cX0_whichKinds 27 = .ok (.iload 4, 2) := by decide +kernel
theorem dX0_whichKinds_29 : decode cX0_whichKinds 29 = .ok (.invokevirtual 117, 3) := by decide +kernel
theorem dX0_whichKinds_32 : decode cX0_whichKinds 32 = .ok (.aload_n 0, 1) := by decide +kernel
theorem dX0_whichKinds_33 : decode cX0_whichKinds 33 = .ok (.invokevirtual 42, 3) := by decide +kernel
theorem dX0_whichKinds_36 : decode cX0_whichKinds 36 = .ok (.aload_n 1, 1) := by decide +kernel
theorem dX0_whichKinds_37 : decode cX0_whichKinds 37 = .ok (.aload_n 0, 1) := by decide +kernel
theorem dX0_whichKinds_38 : decode cX0_whichKinds 38 = .ok (.getfield 25, 3) := by decide +kernel
theorem dX0_whichKinds_41 : decode cX0_whichKinds 41 = .ok (.aload_n 0, 1) := by decide +kernel
theorem dX0_whichKinds_42 : decode cX0_whichKinds 42 = .ok (.getfield 28, 3) := by decide +kernel
theorem dX0_whichKinds_45 : decode cX0_whichKinds 45 = .ok (.invokevirtual 111, 3) := by decide +kernel
theorem dX0_whichKinds_48 : decode cX0_whichKinds 48 = .ok (.ifCond .eq 10, 3) := by decide +kernel
theorem dX0_whichKinds_51 : decode cX0_whichKinds 51 = .ok (.iload_n 3, 1) := by decide +kernel
theorem dX0_whichKinds_52 : decode cX0_whichKinds 52 = .ok (.iconst 1, 1) := by decide +kernel
theorem dX0_whichKinds_53 : decode cX0_whichKinds 53 = .ok (.iload 4, 2) := by decide +kernel
theorem dX0_whichKinds_55 : decode cX0_whichKinds 55 = .ok (.ishl, 1) := by decide +kernel
theorem dX0_whichKinds_56 : decode cX0_whichKinds 56 = .ok (.ior, 1) := by decide +kernel
theorem dX0_whichKinds_57 : decode cX0_whichKinds 57 = .ok (.istore_n 3, 1) := by decide +kernel
theorem dX0_whichKinds_58 : decode cX0_whichKinds 58 = .ok (.iinc 4 1, 3) := by decide +kernel
theorem dX0_whichKinds_61 : decode cX0_whichKinds 61 = .ok (.goto (-45), 3) := by decide +kernel
theorem dX0_whichKinds_64 : decode cX0_whichKinds 64 = .ok (.iload_n 3, 1) := by decide +kernel
theorem dX0_whichKinds_65 : decode cX0_whichKinds 65 = .ok (.ireturn, 1) := by decide +kernel
theorem dX0_chanceOfTenths_0 : decode cX0_chanceOfTenths 0 = .ok (.iconst 0, 1) := by decide +kernel
theorem dX0_chanceOfTenths_1 : decode cX0_chanceOfTenths 1 = .ok (.istore 4, 2) := by decide +kernel
theorem dX0_chanceOfTenths_3 : decode cX0_chanceOfTenths 3 = .ok (.iconst 0, 1) := by decide +kernel
theorem dX0_chanceOfTenths_4 : decode cX0_chanceOfTenths 4 = .ok (.istore 5, 2) := by decide +kernel
theorem dX0_chanceOfTenths_6 : decode cX0_chanceOfTenths 6 = .ok (.iload 5, 2) := by decide +kernel
theorem dX0_chanceOfTenths_8 : decode cX0_chanceOfTenths 8 = .ok (.iconst 1, 1) := by decide +kernel
theorem dX0_chanceOfTenths_9 : decode cX0_chanceOfTenths 9 = .ok (.iload_n 2, 1) := by decide +kernel
theorem dX0_chanceOfTenths_10 : decode cX0_chanceOfTenths 10 = .ok (.ishl, 1) := by decide +kernel
theorem dX0_chanceOfTenths_11 : decode cX0_chanceOfTenths 11 = .ok (.if_icmp .ge 59, 3) := by decide +kernel
theorem dX0_chanceOfTenths_14 : decode cX0_chanceOfTenths 14 = .ok (.iload 5, 2) := by decide +kernel
theorem dX0_chanceOfTenths_16 : decode cX0_chanceOfTenths 16 = .ok (.invokestatic 121, 3) := by decide +kernel
theorem dX0_chanceOfTenths_19 : decode cX0_chanceOfTenths 19 = .ok (.istore 6, 2) := by decide +kernel
theorem dX0_chanceOfTenths_21 : decode cX0_chanceOfTenths 21 = .ok (.iload_n 3, 1) := by decide +kernel
theorem dX0_chanceOfTenths_22 : decode cX0_chanceOfTenths 22 = .ok (.iload 6, 2) := by decide +kernel
theorem dX0_chanceOfTenths_24 : decode cX0_chanceOfTenths 24 = .ok (.invokestatic 126, 3) := by decide +kernel
theorem dX0_chanceOfTenths_27 : decode cX0_chanceOfTenths 27 = .ok (.bipush 10, 2) := by decide +kernel
theorem dX0_chanceOfTenths_29 : decode cX0_chanceOfTenths 29 = .ok (.iload_n 3, 1) := by decide +kernel
theorem dX0_chanceOfTenths_30 : decode cX0_chanceOfTenths 30 = .ok (.isub, 1) := by decide +kernel
theorem dX0_chanceOfTenths_31 : decode cX0_chanceOfTenths 31 = .ok (.iload_n 2, 1) := by decide +kernel
theorem dX0_chanceOfTenths_32 : decode cX0_chanceOfTenths 32 = .ok (.iload 6, 2) := by decide +kernel
theorem dX0_chanceOfTenths_34 : decode cX0_chanceOfTenths 34 = .ok (.isub, 1) := by decide +kernel
theorem dX0_chanceOfTenths_35 : decode cX0_chanceOfTenths 35 = .ok (.invokestatic 126, 3) := by decide +kernel
theorem dX0_chanceOfTenths_38 : decode cX0_chanceOfTenths 38 = .ok (.imul, 1) := by decide +kernel
theorem dX0_chanceOfTenths_39 : decode cX0_chanceOfTenths 39 = .ok (.istore 7, 2) := by decide +kernel
theorem dX0_chanceOfTenths_41 : decode cX0_chanceOfTenths 41 = .ok (.iload 7, 2) := by decide +kernel
theorem dX0_chanceOfTenths_43 : decode cX0_chanceOfTenths 43 = .ok (.ifCond .le 21, 3) := by decide +kernel
theorem dX0_chanceOfTenths_46 : decode cX0_chanceOfTenths 46 = .ok (.aload_n 0, 1) := by decide +kernel
theorem dX0_chanceOfTenths_47 : decode cX0_chanceOfTenths 47 = .ok (.iload_n 1, 1) := by decide +kernel
theorem dX0_chanceOfTenths_48 : decode cX0_chanceOfTenths 48 = .ok (.iload_n 2, 1) := by decide +kernel
theorem dX0_chanceOfTenths_49 : decode cX0_chanceOfTenths 49 = .ok (.iload 5, 2) := by decide +kernel
theorem dX0_chanceOfTenths_51 : decode cX0_chanceOfTenths 51 = .ok (.invokevirtual 130, 3) := by decide +kernel
theorem dX0_chanceOfTenths_54 : decode cX0_chanceOfTenths 54 = .ok (.ifCond .eq 10, 3) := by decide +kernel
theorem dX0_chanceOfTenths_57 : decode cX0_chanceOfTenths 57 = .ok (.iload 4, 2) := by decide +kernel
theorem dX0_chanceOfTenths_59 : decode cX0_chanceOfTenths 59 = .ok (.iload 7, 2) := by decide +kernel
theorem dX0_chanceOfTenths_61 : decode cX0_chanceOfTenths 61 = .ok (.iadd, 1) := by decide +kernel
theorem dX0_chanceOfTenths_62 : decode cX0_chanceOfTenths 62 = .ok (.istore 4, 2) := by decide +kernel
theorem dX0_chanceOfTenths_64 : decode cX0_chanceOfTenths 64 = .ok (.iinc 5 1, 3) := by decide +kernel
theorem dX0_chanceOfTenths_67 : decode cX0_chanceOfTenths 67 = .ok (.goto (-61), 3) := by decide +kernel
theorem dX0_chanceOfTenths_70 : decode cX0_chanceOfTenths 70 = .ok (.iload 4, 2) := by decide +kernel
theorem dX0_chanceOfTenths_72 : decode cX0_chanceOfTenths 72 = .ok (.ireturn, 1) := by decide +kernel
theorem dX0_isFedByRumours_0 : decode cX0_isFedByRumours 0 = .ok (.aload_n 0, 1) := by decide +kernel
theorem dX0_isFedByRumours_1 : decode cX0_isFedByRumours 1 = .ok (.invokevirtual 42, 3) := by decide +kernel
theorem dX0_isFedByRumours_4 : decode cX0_isFedByRumours 4 = .ok (.iconst 0, 1) := by decide +kernel
theorem dX0_isFedByRumours_5 : decode cX0_isFedByRumours 5 = .ok (.istore 4, 2) := by decide +kernel
theorem dX0_isFedByRumours_7 : decode cX0_isFedByRumours 7 = .ok (.iload 4, 2) := by decide +kernel
theorem dX0_isFedByRumours_9 : decode cX0_isFedByRumours 9 = .ok (.iload_n 2, 1) := by decide +kernel
theorem dX0_isFedByRumours_10 : decode cX0_isFedByRumours 10 = .ok (.if_icmp .ge 36, 3) := by decide +kernel
theorem dX0_isFedByRumours_13 : decode cX0_isFedByRumours 13 = .ok (.aload_n 0, 1) := by decide +kernel
theorem dX0_isFedByRumours_14 : decode cX0_isFedByRumours 14 = .ok (.getfield 28, 3) := by decide +kernel
theorem dX0_isFedByRumours_17 : decode cX0_isFedByRumours 17 = .ok (.aload_n 0, 1) := by decide +kernel
theorem dX0_isFedByRumours_18 : decode cX0_isFedByRumours 18 = .ok (.getfield 12, 3) := by decide +kernel
theorem dX0_isFedByRumours_21 : decode cX0_isFedByRumours 21 = .ok (.iload_n 3, 1) := by decide +kernel
theorem dX0_isFedByRumours_22 : decode cX0_isFedByRumours 22 = .ok (.iload 4, 2) := by decide +kernel
theorem dX0_isFedByRumours_24 : decode cX0_isFedByRumours 24 = .ok (.ishr, 1) := by decide +kernel
theorem dX0_isFedByRumours_25 : decode cX0_isFedByRumours 25 = .ok (.iconst 1, 1) := by decide +kernel
theorem dX0_isFedByRumours_26 : decode cX0_isFedByRumours 26 = .ok (.iand, 1) := by decide +kernel
theorem dX0_isFedByRumours_27 : decode cX0_isFedByRumours 27 = .ok (.iconst 1, 1) := by decide +kernel
theorem dX0_isFedByRumours_28 : decode cX0_isFedByRumours 28 = .ok (.if_icmp .ne 7, 3) := by decide +kernel
theorem dX0_isFedByRumours_31 : decode cX0_isFedByRumours 31 = .ok (.iconst 1, 1) := by decide +kernel
theorem dX0_isFedByRumours_32 : decode cX0_isFedByRumours 32 = .ok (.goto 4, 3) := by decide +kernel
theorem dX0_isFedByRumours_35 : decode cX0_isFedByRumours 35 = .ok (.iconst 0, 1) := by decide +kernel
theorem dX0_isFedByRumours_36 : decode cX0_isFedByRumours 36 = .ok (.iconst 0, 1) := by decide +kernel
theorem dX0_isFedByRumours_37 : decode cX0_isFedByRumours 37 = .ok (.invokevirtual 61, 3) := by decide +kernel
theorem dX0_isFedByRumours_40 : decode cX0_isFedByRumours 40 = .ok (.iinc 4 1, 3) := by decide +kernel
theorem dX0_isFedByRumours_43 : decode cX0_isFedByRumours 43 = .ok (.goto (-36), 3) := by decide +kernel
theorem dX0_isFedByRumours_46 : decode cX0_isFedByRumours 46 = .ok (.aload_n 0, 1) := by decide +kernel
theorem dX0_isFedByRumours_47 : decode cX0_isFedByRumours 47 = .ok (.getfield 28, 3) := by decide +kernel
theorem dX0_isFedByRumours_50 : decode cX0_isFedByRumours 50 = .ok (.iload_n 1, 1) := by decide +kernel
theorem dX0_isFedByRumours_51 : decode cX0_isFedByRumours 51 = .ok (.invokevirtual 49, 3) := by decide +kernel
theorem dX0_isFedByRumours_54 : decode cX0_isFedByRumours 54 = .ok (.iconst 3, 1) := by decide +kernel
theorem dX0_isFedByRumours_55 : decode cX0_isFedByRumours 55 = .ok (.if_icmp .ne 7, 3) := by decide +kernel
theorem dX0_isFedByRumours_58 : decode cX0_isFedByRumours 58 = .ok (.iconst 1, 1) := by decide +kernel
theorem dX0_isFedByRumours_59 : decode cX0_isFedByRumours 59 = .ok (.goto 4, 3) := by decide +kernel
theorem dX0_isFedByRumours_62 : decode cX0_isFedByRumours 62 = .ok (.iconst 0, 1) := by decide +kernel
theorem dX0_isFedByRumours_63 : decode cX0_isFedByRumours 63 = .ok (.ireturn, 1) := by decide +kernel
theorem dX0_lineBehindDay_0 : decode cX0_lineBehindDay 0 = .ok (.aload_n 0, 1) := by decide +kernel
theorem dX0_lineBehindDay_1 : decode cX0_lineBehindDay 1 = .ok (.invokevirtual 42, 3) := by decide +kernel
theorem dX0_lineBehindDay_4 : decode cX0_lineBehindDay 4 = .ok (.iconst 0, 1) := by decide +kernel
theorem dX0_lineBehindDay_5 : decode cX0_lineBehindDay 5 = .ok (.istore_n 3, 1) := by decide +kernel
theorem dX0_lineBehindDay_6 : decode cX0_lineBehindDay 6 = .ok (.iload_n 3, 1) := by decide +kernel
theorem dX0_lineBehindDay_7 : decode cX0_lineBehindDay 7 = .ok (.iload_n 2, 1) := by decide +kernel
theorem dX0_lineBehindDay_8 : decode cX0_lineBehindDay 8 = .ok (.if_icmp .ge 41, 3) := by decide +kernel
theorem dX0_lineBehindDay_11 : decode cX0_lineBehindDay 11 = .ok (.aload_n 0, 1) := by decide +kernel
theorem dX0_lineBehindDay_12 : decode cX0_lineBehindDay 12 = .ok (.iload_n 1, 1) := by decide +kernel
theorem dX0_lineBehindDay_13 : decode cX0_lineBehindDay 13 = .ok (.iload_n 3, 1) := by decide +kernel
theorem dX0_lineBehindDay_14 : decode cX0_lineBehindDay 14 = .ok (.invokevirtual 134, 3) := by decide +kernel
theorem dX0_lineBehindDay_17 : decode cX0_lineBehindDay 17 = .ok (.aload_n 0, 1) := by decide +kernel
theorem dX0_lineBehindDay_18 : decode cX0_lineBehindDay 18 = .ok (.getfield 28, 3) := by decide +kernel
theorem dX0_lineBehindDay_21 : decode cX0_lineBehindDay 21 = .ok (.aload_n 0, 1) := by decide +kernel
theorem dX0_lineBehindDay_22 : decode cX0_lineBehindDay 22 = .ok (.getfield 12, 3) := by decide +kernel
theorem dX0_lineBehindDay_25 : decode cX0_lineBehindDay 25 = .ok (.aload_n 0, 1) := by decide +kernel
theorem dX0_lineBehindDay_26 : decode cX0_lineBehindDay 26 = .ok (.getfield 12, 3) := by decide +kernel
theorem dX0_lineBehindDay_29 : decode cX0_lineBehindDay 29 = .ok (.aload_n 0, 1) := by decide +kernel
theorem dX0_lineBehindDay_30 : decode cX0_lineBehindDay 30 = .ok (.getfield 28, 3) := by decide +kernel
theorem dX0_lineBehindDay_33 : decode cX0_lineBehindDay 33 = .ok (.getfield 53, 3) := by decide +kernel
theorem dX0_lineBehindDay_36 : decode cX0_lineBehindDay 36 = .ok (.invokevirtual 57, 3) := by decide +kernel
theorem dX0_lineBehindDay_39 : decode cX0_lineBehindDay 39 = .ok (.iconst 0, 1) := by decide +kernel
theorem dX0_lineBehindDay_40 : decode cX0_lineBehindDay 40 = .ok (.invokevirtual 61, 3) := by decide +kernel
theorem dX0_lineBehindDay_43 : decode cX0_lineBehindDay 43 = .ok (.iinc 3 1, 3) := by decide +kernel
theorem dX0_lineBehindDay_46 : decode cX0_lineBehindDay 46 = .ok (.goto (-40), 3) := by decide +kernel
theorem dX0_lineBehindDay_49 : decode cX0_lineBehindDay 49 = .ok (.aload_n 0, 1) := by decide +kernel
theorem dX0_lineBehindDay_50 : decode cX0_lineBehindDay 50 = .ok (.getfield 28, 3) := by decide +kernel
theorem dX0_lineBehindDay_53 : decode cX0_lineBehindDay 53 = .ok (.areturn, 1) := by decide +kernel
theorem dX0_drawOne_0 : decode cX0_drawOne 0 = .ok (.aload_n 0, 1) := by decide +kernel
theorem dX0_drawOne_1 : decode cX0_drawOne 1 = .ok (.getfield 12, 3) := by decide +kernel
theorem dX0_drawOne_4 : decode cX0_drawOne 4 = .ok (.getfield 65, 3) := by decide +kernel
theorem dX0_drawOne_7 : decode cX0_drawOne 7 = .ok (.iconst 1, 1) := by decide +kernel
theorem dX0_drawOne_8 : decode cX0_drawOne 8 = .ok (.if_icmp .ge 4, 3) := by decide +kernel
theorem dX0_drawOne_11 : decode cX0_drawOne 11 = .ok (.return_, 1) := by decide +kernel
theorem dX0_drawOne_12 : decode cX0_drawOne 12 = .ok (.ldc2_w 137, 3) := by decide +kernel
theorem dX0_drawOne_15 : decode cX0_drawOne 15 = .ok (.iload_n 1, 1) := by decide +kernel
theorem dX0_drawOne_16 : decode cX0_drawOne 16 = .ok (.i2l, 1) := by decide +kernel
theorem dX0_drawOne_17 : decode cX0_drawOne 17 = .ok (.lmul, 1) := by decide +kernel
theorem dX0_drawOne_18 : decode cX0_drawOne 18 = .ok (.ldc2_w 139, 3) := by decide +kernel
theorem dX0_drawOne_21 : decode cX0_drawOne 21 = .ok (.iload_n 2, 1) := by decide +kernel
theorem dX0_drawOne_22 : decode cX0_drawOne 22 = .ok (.i2l, 1) := by decide +kernel
theorem dX0_drawOne_23 : decode cX0_drawOne 23 = .ok (.lmul, 1) := by decide +kernel
theorem dX0_drawOne_24 : decode cX0_drawOne 24 = .ok (.ladd, 1) := by decide +kernel
theorem dX0_drawOne_25 : decode cX0_drawOne 25 = .ok (.lconst 1, 1) := by decide +kernel
theorem dX0_drawOne_26 : decode cX0_drawOne 26 = .ok (.ladd, 1) := by decide +kernel
theorem dX0_drawOne_27 : decode cX0_drawOne 27 = .ok (.lstore_n 3, 1) := by decide +kernel
theorem dX0_drawOne_28 : decode cX0_drawOne 28 = .ok (.lload_n 3, 1) := by decide +kernel
theorem dX0_drawOne_29 : decode cX0_drawOne 29 = .ok (.lload_n 3, 1) := by decide +kernel
theorem dX0_drawOne_30 : decode cX0_drawOne 30 = .ok (.lmul, 1) := by decide +kernel
theorem dX0_drawOne_31 : decode cX0_drawOne 31 = .ok (.ldc2_w 141, 3) := by decide +kernel
theorem dX0_drawOne_34 : decode cX0_drawOne 34 = .ok (.lrem, 1) := by decide +kernel
theorem dX0_drawOne_35 : decode cX0_drawOne 35 = .ok (.l2i, 1) := by decide +kernel
theorem dX0_drawOne_36 : decode cX0_drawOne 36 = .ok (.istore 5, 2) := by decide +kernel
theorem dX0_drawOne_38 : decode cX0_drawOne 38 = .ok (.iload 5, 2) := by decide +kernel
theorem dX0_drawOne_40 : decode cX0_drawOne 40 = .ok (.bipush 8, 2) := by decide +kernel
theorem dX0_drawOne_42 : decode cX0_drawOne 42 = .ok (.idiv, 1) := by decide +kernel
theorem dX0_drawOne_43 : decode cX0_drawOne 43 = .ok (.aload_n 0, 1) := by decide +kernel
theorem dX0_drawOne_44 : decode cX0_drawOne 44 = .ok (.getfield 12, 3) := by decide +kernel
theorem dX0_drawOne_47 : decode cX0_drawOne 47 = .ok (.getfield 65, 3) := by decide +kernel
theorem dX0_drawOne_50 : decode cX0_drawOne 50 = .ok (.irem, 1) := by decide +kernel
theorem dX0_drawOne_51 : decode cX0_drawOne 51 = .ok (.istore 6, 2) := by decide +kernel
theorem dX0_drawOne_53 : decode cX0_drawOne 53 = .ok (.iload 5, 2) := by decide +kernel
theorem dX0_drawOne_55 : decode cX0_drawOne 55 = .ok (.iconst 5, 1) := by decide +kernel
theorem dX0_drawOne_56 : decode cX0_drawOne 56 = .ok (.irem, 1) := by decide +kernel
theorem dX0_drawOne_57 : decode cX0_drawOne 57 = .ok (.tableswitch 76 0 3 #[31, 43, 55, 67], 31) := by decide +kernel
theorem dX0_drawOne_88 : decode cX0_drawOne 88 = .ok (.aload_n 0, 1) := by decide +kernel
theorem dX0_drawOne_89 : decode cX0_drawOne 89 = .ok (.getfield 28, 3) := by decide +kernel
theorem dX0_drawOne_92 : decode cX0_drawOne 92 = .ok (.iload 6, 2) := by decide +kernel
theorem dX0_drawOne_94 : decode cX0_drawOne 94 = .ok (.invokevirtual 143, 3) := by decide +kernel
theorem dX0_drawOne_97 : decode cX0_drawOne 97 = .ok (.goto 36, 3) := by decide +kernel
theorem dX0_drawOne_100 : decode cX0_drawOne 100 = .ok (.aload_n 0, 1) := by decide +kernel
theorem dX0_drawOne_101 : decode cX0_drawOne 101 = .ok (.getfield 28, 3) := by decide +kernel
theorem dX0_drawOne_104 : decode cX0_drawOne 104 = .ok (.iload 6, 2) := by decide +kernel
theorem dX0_drawOne_106 : decode cX0_drawOne 106 = .ok (.invokevirtual 83, 3) := by decide +kernel
theorem dX0_drawOne_109 : decode cX0_drawOne 109 = .ok (.goto 24, 3) := by decide +kernel
theorem dX0_drawOne_112 : decode cX0_drawOne 112 = .ok (.aload_n 0, 1) := by decide +kernel
theorem dX0_drawOne_113 : decode cX0_drawOne 113 = .ok (.getfield 28, 3) := by decide +kernel
theorem dX0_drawOne_116 : decode cX0_drawOne 116 = .ok (.iload 6, 2) := by decide +kernel
theorem dX0_drawOne_118 : decode cX0_drawOne 118 = .ok (.invokevirtual 76, 3) := by decide +kernel
theorem dX0_drawOne_121 : decode cX0_drawOne 121 = .ok (.goto 12, 3) := by decide +kernel
theorem dX0_drawOne_124 : decode cX0_drawOne 124 = .ok (.aload_n 0, 1) := by decide +kernel
theorem dX0_drawOne_125 : decode cX0_drawOne 125 = .ok (.iload 6, 2) := by decide +kernel
theorem dX0_drawOne_127 : decode cX0_drawOne 127 = .ok (.invokevirtual 146, 3) := by decide +kernel
theorem dX0_drawOne_130 : decode cX0_drawOne 130 = .ok (.goto 3, 3) := by decide +kernel
theorem dX0_drawOne_133 : decode cX0_drawOne 133 = .ok (.return_, 1) := by decide +kernel
theorem dX0_comeAgain_0 : decode cX0_comeAgain 0 = .ok (.aload_n 0, 1) := by decide +kernel
theorem dX0_comeAgain_1 : decode cX0_comeAgain 1 = .ok (.getfield 28, 3) := by decide +kernel
theorem dX0_comeAgain_4 : decode cX0_comeAgain 4 = .ok (.iload_n 1, 1) := by decide +kernel
theorem dX0_comeAgain_5 : decode cX0_comeAgain 5 = .ok (.invokevirtual 49, 3) := by decide +kernel
theorem dX0_comeAgain_8 : decode cX0_comeAgain 8 = .ok (.iconst 2, 1) := by decide +kernel
theorem dX0_comeAgain_9 : decode cX0_comeAgain 9 = .ok (.if_icmp .ne 15, 3) := by decide +kernel
theorem dX0_comeAgain_12 : decode cX0_comeAgain 12 = .ok (.aload_n 0, 1) := by decide +kernel
theorem dX0_comeAgain_13 : decode cX0_comeAgain 13 = .ok (.getfield 28, 3) := by decide +kernel
theorem dX0_comeAgain_16 : decode cX0_comeAgain 16 = .ok (.aload_n 0, 1) := by decide +kernel
theorem dX0_comeAgain_17 : decode cX0_comeAgain 17 = .ok (.getfield 12, 3) := by decide +kernel
theorem dX0_comeAgain_20 : decode cX0_comeAgain 20 = .ok (.iload_n 1, 1) := by decide +kernel
theorem dX0_comeAgain_21 : decode cX0_comeAgain 21 = .ok (.invokevirtual 80, 3) := by decide +kernel
theorem dX0_comeAgain_24 : decode cX0_comeAgain 24 = .ok (.return_, 1) := by decide +kernel
theorem dX1_init_0 : decode cX1_init 0 = .ok (.aload_n 0, 1) := by decide +kernel
theorem dX1_init_1 : decode cX1_init 1 = .ok (.invokespecial 3, 3) := by decide +kernel
theorem dX1_init_4 : decode cX1_init 4 = .ok (.aload_n 0, 1) := by decide +kernel
theorem dX1_init_5 : decode cX1_init 5 = .ok (.bipush 9, 2) := by decide +kernel
theorem dX1_init_7 : decode cX1_init 7 = .ok (.newarray .int, 2) := by decide +kernel
theorem dX1_init_9 : decode cX1_init 9 = .ok (.putfield 9, 3) := by decide +kernel
theorem dX1_init_12 : decode cX1_init 12 = .ok (.aload_n 0, 1) := by decide +kernel
theorem dX1_init_13 : decode cX1_init 13 = .ok (.bipush 9, 2) := by decide +kernel
theorem dX1_init_15 : decode cX1_init 15 = .ok (.newarray .int, 2) := by decide +kernel
theorem dX1_init_17 : decode cX1_init 17 = .ok (.putfield 15, 3) := by decide +kernel
theorem dX1_init_20 : decode cX1_init 20 = .ok (.aload_n 0, 1) := by decide +kernel
theorem dX1_init_21 : decode cX1_init 21 = .ok (.bipush 9, 2) := by decide +kernel
theorem dX1_init_23 : decode cX1_init 23 = .ok (.newarray .int, 2) := by decide +kernel
theorem dX1_init_25 : decode cX1_init 25 = .ok (.putfield 18, 3) := by decide +kernel
theorem dX1_init_28 : decode cX1_init 28 = .ok (.aload_n 0, 1) := by decide +kernel
theorem dX1_init_29 : decode cX1_init 29 = .ok (.bipush 9, 2) := by decide +kernel
theorem dX1_init_31 : decode cX1_init 31 = .ok (.newarray .int, 2) := by decide +kernel
theorem dX1_init_33 : decode cX1_init 33 = .ok (.putfield 21, 3) := by decide +kernel
theorem dX1_init_36 : decode cX1_init 36 = .ok (.aload_n 0, 1) := by decide +kernel
theorem dX1_init_37 : decode cX1_init 37 = .ok (.bipush 9, 2) := by decide +kernel
theorem dX1_init_39 : decode cX1_init 39 = .ok (.newarray .int, 2) := by decide +kernel
theorem dX1_init_41 : decode cX1_init 41 = .ok (.putfield 24, 3) := by decide +kernel
theorem dX1_init_44 : decode cX1_init 44 = .ok (.return_, 1) := by decide +kernel
theorem dX1_clear_0 : decode cX1_clear 0 = .ok (.iconst 0, 1) := by decide +kernel
theorem dX1_clear_1 : decode cX1_clear 1 = .ok (.istore_n 1, 1) := by decide +kernel
theorem dX1_clear_2 : decode cX1_clear 2 = .ok (.iload_n 1, 1) := by decide +kernel
theorem dX1_clear_3 : decode cX1_clear 3 = .ok (.bipush 9, 2) := by decide +kernel
theorem dX1_clear_5 : decode cX1_clear 5 = .ok (.if_icmp .ge 44, 3) := by decide +kernel
theorem dX1_clear_8 : decode cX1_clear 8 = .ok (.aload_n 0, 1) := by decide +kernel
theorem dX1_clear_9 : decode cX1_clear 9 = .ok (.getfield 9, 3) := by decide +kernel
theorem dX1_clear_12 : decode cX1_clear 12 = .ok (.iload_n 1, 1) := by decide +kernel
theorem dX1_clear_13 : decode cX1_clear 13 = .ok (.iconst 0, 1) := by decide +kernel
theorem dX1_clear_14 : decode cX1_clear 14 = .ok (.iastore, 1) := by decide +kernel
theorem dX1_clear_15 : decode cX1_clear 15 = .ok (.aload_n 0, 1) := by decide +kernel
theorem dX1_clear_16 : decode cX1_clear 16 = .ok (.getfield 15, 3) := by decide +kernel
theorem dX1_clear_19 : decode cX1_clear 19 = .ok (.iload_n 1, 1) := by decide +kernel
theorem dX1_clear_20 : decode cX1_clear 20 = .ok (.iconst 0, 1) := by decide +kernel
theorem dX1_clear_21 : decode cX1_clear 21 = .ok (.iastore, 1) := by decide +kernel
theorem dX1_clear_22 : decode cX1_clear 22 = .ok (.aload_n 0, 1) := by decide +kernel
theorem dX1_clear_23 : decode cX1_clear 23 = .ok (.getfield 18, 3) := by decide +kernel
theorem dX1_clear_26 : decode cX1_clear 26 = .ok (.iload_n 1, 1) := by decide +kernel
theorem dX1_clear_27 : decode cX1_clear 27 = .ok (.iconst 0, 1) := by decide +kernel
theorem dX1_clear_28 : decode cX1_clear 28 = .ok (.iastore, 1) := by decide +kernel
theorem dX1_clear_29 : decode cX1_clear 29 = .ok (.aload_n 0, 1) := by decide +kernel
theorem dX1_clear_30 : decode cX1_clear 30 = .ok (.getfield 21, 3) := by decide +kernel
theorem dX1_clear_33 : decode cX1_clear 33 = .ok (.iload_n 1, 1) := by decide +kernel
theorem dX1_clear_34 : decode cX1_clear 34 = .ok (.iconst 0, 1) := by decide +kernel
theorem dX1_clear_35 : decode cX1_clear 35 = .ok (.iastore, 1) := by decide +kernel
theorem dX1_clear_36 : decode cX1_clear 36 = .ok (.aload_n 0, 1) := by decide +kernel
theorem dX1_clear_37 : decode cX1_clear 37 = .ok (.getfield 24, 3) := by decide +kernel
theorem dX1_clear_40 : decode cX1_clear 40 = .ok (.iload_n 1, 1) := by decide +kernel
theorem dX1_clear_41 : decode cX1_clear 41 = .ok (.iconst 0, 1) := by decide +kernel
theorem dX1_clear_42 : decode cX1_clear 42 = .ok (.iastore, 1) := by decide +kernel
theorem dX1_clear_43 : decode cX1_clear 43 = .ok (.iinc 1 1, 3) := by decide +kernel
theorem dX1_clear_46 : decode cX1_clear 46 = .ok (.goto (-44), 3) := by decide +kernel
theorem dX1_clear_49 : decode cX1_clear 49 = .ok (.aload_n 0, 1) := by decide +kernel
theorem dX1_clear_50 : decode cX1_clear 50 = .ok (.iconst 0, 1) := by decide +kernel
theorem dX1_clear_51 : decode cX1_clear 51 = .ok (.putfield 27, 3) := by decide +kernel
theorem dX1_clear_54 : decode cX1_clear 54 = .ok (.aload_n 0, 1) := by decide +kernel
theorem dX1_clear_55 : decode cX1_clear 55 = .ok (.iconst 0, 1) := by decide +kernel
theorem dX1_clear_56 : decode cX1_clear 56 = .ok (.putfield 31, 3) := by decide +kernel
theorem dX1_clear_59 : decode cX1_clear 59 = .ok (.aload_n 0, 1) := by decide +kernel
theorem dX1_clear_60 : decode cX1_clear 60 = .ok (.iconst 0, 1) := by decide +kernel
theorem dX1_clear_61 : decode cX1_clear 61 = .ok (.putfield 34, 3) := by decide +kernel
theorem dX1_clear_64 : decode cX1_clear 64 = .ok (.aload_n 0, 1) := by decide +kernel
theorem dX1_clear_65 : decode cX1_clear 65 = .ok (.iconst 0, 1) := by decide +kernel
theorem dX1_clear_66 : decode cX1_clear 66 = .ok (.putfield 37, 3) := by decide +kernel
theorem dX1_clear_69 : decode cX1_clear 69 = .ok (.return_, 1) := by decide +kernel
theorem dX1_copyFrom_0 : decode cX1_copyFrom 0 = .ok (.aload_n 1, 1) := by decide +kernel
theorem dX1_copyFrom_1 : decode cX1_copyFrom 1 = .ok (.getfield 9, 3) := by decide +kernel
theorem dX1_copyFrom_4 : decode cX1_copyFrom 4 = .ok (.iconst 0, 1) := by decide +kernel
theorem dX1_copyFrom_5 : decode cX1_copyFrom 5 = .ok (.aload_n 0, 1) := by decide +kernel
theorem dX1_copyFrom_6 : decode cX1_copyFrom 6 = .ok (.getfield 9, 3) := by decide +kernel
theorem dX1_copyFrom_9 : decode cX1_copyFrom 9 = .ok (.iconst 0, 1) := by decide +kernel
theorem dX1_copyFrom_10 : decode cX1_copyFrom 10 = .ok (.bipush 9, 2) := by decide +kernel
theorem dX1_copyFrom_12 : decode cX1_copyFrom 12 = .ok (.invokestatic 40, 3) := by decide +kernel
theorem dX1_copyFrom_15 : decode cX1_copyFrom 15 = .ok (.aload_n 1, 1) := by decide +kernel
theorem dX1_copyFrom_16 : decode cX1_copyFrom 16 = .ok (.getfield 15, 3) := by decide +kernel
theorem dX1_copyFrom_19 : decode cX1_copyFrom 19 = .ok (.iconst 0, 1) := by decide +kernel
theorem dX1_copyFrom_20 : decode cX1_copyFrom 20 = .ok (.aload_n 0, 1) := by decide +kernel
theorem dX1_copyFrom_21 : decode cX1_copyFrom 21 = .ok (.getfield 15, 3) := by decide +kernel
theorem dX1_copyFrom_24 : decode cX1_copyFrom 24 = .ok (.iconst 0, 1) := by decide +kernel
theorem dX1_copyFrom_25 : decode cX1_copyFrom 25 = .ok (.bipush 9, 2) := by decide +kernel
theorem dX1_copyFrom_27 : decode cX1_copyFrom 27 = .ok (.invokestatic 40, 3) := by decide +kernel
theorem dX1_copyFrom_30 : decode cX1_copyFrom 30 = .ok (.aload_n 1, 1) := by decide +kernel
theorem dX1_copyFrom_31 : decode cX1_copyFrom 31 = .ok (.getfield 18, 3) := by decide +kernel
theorem dX1_copyFrom_34 : decode cX1_copyFrom 34 = .ok (.iconst 0, 1) := by decide +kernel
theorem dX1_copyFrom_35 : decode cX1_copyFrom 35 = .ok (.aload_n 0, 1) := by decide +kernel
theorem dX1_copyFrom_36 : decode cX1_copyFrom 36 = .ok (.getfield 18, 3) := by decide +kernel
theorem dX1_copyFrom_39 : decode cX1_copyFrom 39 = .ok (.iconst 0, 1) := by decide +kernel
theorem dX1_copyFrom_40 : decode cX1_copyFrom 40 = .ok (.bipush 9, 2) := by decide +kernel
theorem dX1_copyFrom_42 : decode cX1_copyFrom 42 = .ok (.invokestatic 40, 3) := by decide +kernel
theorem dX1_copyFrom_45 : decode cX1_copyFrom 45 = .ok (.aload_n 1, 1) := by decide +kernel
theorem dX1_copyFrom_46 : decode cX1_copyFrom 46 = .ok (.getfield 21, 3) := by decide +kernel
theorem dX1_copyFrom_49 : decode cX1_copyFrom 49 = .ok (.iconst 0, 1) := by decide +kernel
theorem dX1_copyFrom_50 : decode cX1_copyFrom 50 = .ok (.aload_n 0, 1) := by decide +kernel
theorem dX1_copyFrom_51 : decode cX1_copyFrom 51 = .ok (.getfield 21, 3) := by decide +kernel
theorem dX1_copyFrom_54 : decode cX1_copyFrom 54 = .ok (.iconst 0, 1) := by decide +kernel
theorem dX1_copyFrom_55 : decode cX1_copyFrom 55 = .ok (.bipush 9, 2) := by decide +kernel
theorem dX1_copyFrom_57 : decode cX1_copyFrom 57 = .ok (.invokestatic 40, 3) := by decide +kernel
theorem dX1_copyFrom_60 : decode cX1_copyFrom 60 = .ok (.aload_n 1, 1) := by decide +kernel
theorem dX1_copyFrom_61 : decode cX1_copyFrom 61 = .ok (.getfield 24, 3) := by decide +kernel
theorem dX1_copyFrom_64 : decode cX1_copyFrom 64 = .ok (.iconst 0, 1) := by decide +kernel
theorem dX1_copyFrom_65 : decode cX1_copyFrom 65 = .ok (.aload_n 0, 1) := by decide +kernel
theorem dX1_copyFrom_66 : decode cX1_copyFrom 66 = .ok (.getfield 24, 3) := by decide +kernel
theorem dX1_copyFrom_69 : decode cX1_copyFrom 69 = .ok (.iconst 0, 1) := by decide +kernel
theorem dX1_copyFrom_70 : decode cX1_copyFrom 70 = .ok (.bipush 9, 2) := by decide +kernel
theorem dX1_copyFrom_72 : decode cX1_copyFrom 72 = .ok (.invokestatic 40, 3) := by decide +kernel
theorem dX1_copyFrom_75 : decode cX1_copyFrom 75 = .ok (.aload_n 0, 1) := by decide +kernel
theorem dX1_copyFrom_76 : decode cX1_copyFrom 76 = .ok (.aload_n 1, 1) := by decide +kernel
theorem dX1_copyFrom_77 : decode cX1_copyFrom 77 = .ok (.getfield 27, 3) := by decide +kernel
theorem dX1_copyFrom_80 : decode cX1_copyFrom 80 = .ok (.putfield 27, 3) := by decide +kernel
theorem dX1_copyFrom_83 : decode cX1_copyFrom 83 = .ok (.aload_n 0, 1) := by decide +kernel
theorem dX1_copyFrom_84 : decode cX1_copyFrom 84 = .ok (.aload_n 1, 1) := by decide +kernel
theorem dX1_copyFrom_85 : decode cX1_copyFrom 85 = .ok (.getfield 31, 3) := by decide +kernel
theorem dX1_copyFrom_88 : decode cX1_copyFrom 88 = .ok (.putfield 31, 3) := by decide +kernel
theorem dX1_copyFrom_91 : decode cX1_copyFrom 91 = .ok (.aload_n 0, 1) := by decide +kernel
theorem dX1_copyFrom_92 : decode cX1_copyFrom 92 = .ok (.aload_n 1, 1) := by decide +kernel
theorem dX1_copyFrom_93 : decode cX1_copyFrom 93 = .ok (.getfield 34, 3) := by decide +kernel
theorem dX1_copyFrom_96 : decode cX1_copyFrom 96 = .ok (.putfield 34, 3) := by decide +kernel
theorem dX1_copyFrom_99 : decode cX1_copyFrom 99 = .ok (.aload_n 0, 1) := by decide +kernel
theorem dX1_copyFrom_100 : decode cX1_copyFrom 100 = .ok (.aload_n 1, 1) := by decide +kernel
theorem dX1_copyFrom_101 : decode cX1_copyFrom 101 = .ok (.getfield 37, 3) := by decide +kernel
theorem dX1_copyFrom_104 : decode cX1_copyFrom 104 = .ok (.putfield 37, 3) := by decide +kernel
theorem dX1_copyFrom_107 : decode cX1_copyFrom 107 = .ok (.return_, 1) := by decide +kernel
theorem dX1_whoAt_0 : decode cX1_whoAt 0 = .ok (.iload_n 1, 1) := by decide +kernel
theorem dX1_whoAt_1 : decode cX1_whoAt 1 = .ok (.ifCond .lt 26, 3) := by decide +kernel
theorem dX1_whoAt_4 : decode cX1_whoAt 4 = .ok (.iload_n 1, 1) := by decide +kernel
theorem dX1_whoAt_5 : decode cX1_whoAt 5 = .ok (.aload_n 0, 1) := by decide +kernel
theorem dX1_whoAt_6 : decode cX1_whoAt 6 = .ok (.getfield 27, 3) := by decide +kernel
theorem dX1_whoAt_9 : decode cX1_whoAt 9 = .ok (.if_icmp .ge 18, 3) := by decide +kernel
theorem dX1_whoAt_12 : decode cX1_whoAt 12 = .ok (.iload_n 1, 1) := by decide +kernel
theorem dX1_whoAt_13 : decode cX1_whoAt 13 = .ok (.bipush 9, 2) := by decide +kernel
theorem dX1_whoAt_15 : decode cX1_whoAt 15 = .ok (.if_icmp .ge 12, 3) := by decide +kernel
theorem dX1_whoAt_18 : decode cX1_whoAt 18 = .ok (.aload_n 0, 1) := by decide +kernel
theorem dX1_whoAt_19 : decode cX1_whoAt 19 = .ok (.getfield 9, 3) := by decide +kernel
theorem dX1_whoAt_22 : decode cX1_whoAt 22 = .ok (.iload_n 1, 1) := by decide +kernel
theorem dX1_whoAt_23 : decode cX1_whoAt 23 = .ok (.iaload, 1) := by decide +kernel
theorem dX1_whoAt_24 : decode cX1_whoAt 24 = .ok (.goto 5, 3) := by decide +kernel
theorem dX1_whoAt_27 : decode cX1_whoAt 27 = .ok (.bipush (-4), 2) := by decide +kernel
theorem dX1_whoAt_29 : decode cX1_whoAt 29 = .ok (.ireturn, 1) := by decide +kernel
theorem dX1_placeOf_0 : decode cX1_placeOf 0 = .ok (.iconst 0, 1) := by decide +kernel
theorem dX1_placeOf_1 : decode cX1_placeOf 1 = .ok (.istore_n 2, 1) := by decide +kernel
theorem dX1_placeOf_2 : decode cX1_placeOf 2 = .ok (.iload_n 2, 1) := by decide +kernel
theorem dX1_placeOf_3 : decode cX1_placeOf 3 = .ok (.aload_n 0, 1) := by decide +kernel
theorem dX1_placeOf_4 : decode cX1_placeOf 4 = .ok (.getfield 27, 3) := by decide +kernel
theorem dX1_placeOf_7 : decode cX1_placeOf 7 = .ok (.if_icmp .ge 27, 3) := by decide +kernel
theorem dX1_placeOf_10 : decode cX1_placeOf 10 = .ok (.iload_n 2, 1) := by decide +kernel
theorem dX1_placeOf_11 : decode cX1_placeOf 11 = .ok (.bipush 9, 2) := by decide +kernel
theorem dX1_placeOf_13 : decode cX1_placeOf 13 = .ok (.if_icmp .ge 21, 3) := by decide +kernel
theorem dX1_placeOf_16 : decode cX1_placeOf 16 = .ok (.aload_n 0, 1) := by decide +kernel
theorem dX1_placeOf_17 : decode cX1_placeOf 17 = .ok (.getfield 9, 3) := by decide +kernel
theorem dX1_placeOf_20 : decode cX1_placeOf 20 = .ok (.iload_n 2, 1) := by decide +kernel
theorem dX1_placeOf_21 : decode cX1_placeOf 21 = .ok (.iaload, 1) := by decide +kernel
theorem dX1_placeOf_22 : decode cX1_placeOf 22 = .ok (.iload_n 1, 1) := by decide +kernel
theorem dX1_placeOf_23 : decode cX1_placeOf 23 = .ok (.if_icmp .ne 5, 3) := by decide +kernel
theorem dX1_placeOf_26 : decode cX1_placeOf 26 = .ok (.iload_n 2, 1) := by decide +kernel
theorem dX1_placeOf_27 : decode cX1_placeOf 27 = .ok (.ireturn, 1) := by decide +kernel
theorem dX1_placeOf_28 : decode cX1_placeOf 28 = .ok (.iinc 2 1, 3) := by decide +kernel
theorem dX1_placeOf_31 : decode cX1_placeOf 31 = .ok (.goto (-29), 3) := by decide +kernel
theorem dX1_placeOf_34 : decode cX1_placeOf 34 = .ok (.bipush (-4), 2) := by decide +kernel
theorem dX1_placeOf_36 : decode cX1_placeOf 36 = .ok (.ireturn, 1) := by decide +kernel
theorem dX1_whereIs_0 : decode cX1_whereIs 0 = .ok (.iload_n 1, 1) := by decide +kernel
theorem dX1_whereIs_1 : decode cX1_whereIs 1 = .ok (.ifCond .lt 18, 3) := by decide +kernel
theorem dX1_whereIs_4 : decode cX1_whereIs 4 = .ok (.iload_n 1, 1) := by decide +kernel
theorem dX1_whereIs_5 : decode cX1_whereIs 5 = .ok (.bipush 9, 2) := by decide +kernel
theorem dX1_whereIs_7 : decode cX1_whereIs 7 = .ok (.if_icmp .ge 12, 3) := by decide +kernel
theorem dX1_whereIs_10 : decode cX1_whereIs 10 = .ok (.aload_n 0, 1) := by decide +kernel
theorem dX1_whereIs_11 : decode cX1_whereIs 11 = .ok (.getfield 15, 3) := by decide +kernel
theorem dX1_whereIs_14 : decode cX1_whereIs 14 = .ok (.iload_n 1, 1) := by decide +kernel
theorem dX1_whereIs_15 : decode cX1_whereIs 15 = .ok (.iaload, 1) := by decide +kernel
theorem dX1_whereIs_16 : decode cX1_whereIs 16 = .ok (.goto 4, 3) := by decide +kernel
theorem dX1_whereIs_19 : decode cX1_whereIs 19 = .ok (.iconst 0, 1) := by decide +kernel
theorem dX1_whereIs_20 : decode cX1_whereIs 20 = .ok (.ireturn, 1) := by decide +kernel
theorem dX1_stoodOf_0 : decode cX1_stoodOf 0 = .ok (.iload_n 1, 1) := by decide +kernel
theorem dX1_stoodOf_1 : decode cX1_stoodOf 1 = .ok (.ifCond .lt 28, 3) := by decide +kernel
theorem dX1_stoodOf_4 : decode cX1_stoodOf 4 = .ok (.iload_n 1, 1) := by decide +kernel
theorem dX1_stoodOf_5 : decode cX1_stoodOf 5 = .ok (.bipush 9, 2) := by decide +kernel
theorem dX1_stoodOf_7 : decode cX1_stoodOf 7 = .ok (.if_icmp .ge 22, 3) := by decide +kernel
theorem dX1_stoodOf_10 : decode cX1_stoodOf 10 = .ok (.aload_n 0, 1) := by decide +kernel
theorem dX1_stoodOf_11 : decode cX1_stoodOf 11 = .ok (.getfield 15, 3) := by decide +kernel
theorem dX1_stoodOf_14 : decode cX1_stoodOf 14 = .ok (.iload_n 1, 1) := by decide +kernel
theorem dX1_stoodOf_15 : decode cX1_stoodOf 15 = .ok (.iaload, 1) := by decide +kernel
theorem dX1_stoodOf_16 : decode cX1_stoodOf 16 = .ok (.iconst 1, 1) := by decide +kernel
theorem dX1_stoodOf_17 : decode cX1_stoodOf 17 = .ok (.if_icmp .ne 12, 3) := by decide +kernel
theorem dX1_stoodOf_20 : decode cX1_stoodOf 20 = .ok (.aload_n 0, 1) := by decide +kernel
theorem dX1_stoodOf_21 : decode cX1_stoodOf 21 = .ok (.getfield 18, 3) := by decide +kernel
theorem dX1_stoodOf_24 : decode cX1_stoodOf 24 = .ok (.iload_n 1, 1) := by decide +kernel
theorem dX1_stoodOf_25 : decode cX1_stoodOf 25 = .ok (.iaload, 1) := by decide +kernel
theorem dX1_stoodOf_26 : decode cX1_stoodOf 26 = .ok (.goto 4, 3) := by decide +kernel
theorem dX1_stoodOf_29 : decode cX1_stoodOf 29 = .ok (.iconst 0, 1) := by decide +kernel
theorem dX1_stoodOf_30 : decode cX1_stoodOf 30 = .ok (.ireturn, 1) := by decide +kernel
theorem dX1_ateInOf_0 : decode cX1_ateInOf 0 = .ok (.iload_n 1, 1) := by decide +kernel
theorem dX1_ateInOf_1 : decode cX1_ateInOf 1 = .ok (.ifCond .lt 28, 3) := by decide +kernel
theorem dX1_ateInOf_4 : decode cX1_ateInOf 4 = .ok (.iload_n 1, 1) := by decide +kernel
theorem dX1_ateInOf_5 : decode cX1_ateInOf 5 = .ok (.bipush 9, 2) := by decide +kernel
theorem dX1_ateInOf_7 : decode cX1_ateInOf 7 = .ok (.if_icmp .ge 22, 3) := by decide +kernel
theorem dX1_ateInOf_10 : decode cX1_ateInOf 10 = .ok (.aload_n 0, 1) := by decide +kernel
theorem dX1_ateInOf_11 : decode cX1_ateInOf 11 = .ok (.getfield 15, 3) := by decide +kernel
theorem dX1_ateInOf_14 : decode cX1_ateInOf 14 = .ok (.iload_n 1, 1) := by decide +kernel
theorem dX1_ateInOf_15 : decode cX1_ateInOf 15 = .ok (.iaload, 1) := by decide +kernel
theorem dX1_ateInOf_16 : decode cX1_ateInOf 16 = .ok (.iconst 3, 1) := by decide +kernel
theorem dX1_ateInOf_17 : decode cX1_ateInOf 17 = .ok (.if_icmp .ne 12, 3) := by decide +kernel
theorem dX1_ateInOf_20 : decode cX1_ateInOf 20 = .ok (.aload_n 0, 1) := by decide +kernel
theorem dX1_ateInOf_21 : decode cX1_ateInOf 21 = .ok (.getfield 21, 3) := by decide +kernel
theorem dX1_ateInOf_24 : decode cX1_ateInOf 24 = .ok (.iload_n 1, 1) := by decide +kernel
theorem dX1_ateInOf_25 : decode cX1_ateInOf 25 = .ok (.iaload, 1) := by decide +kernel
theorem dX1_ateInOf_26 : decode cX1_ateInOf 26 = .ok (.goto 5, 3) := by decide +kernel
theorem dX1_ateInOf_29 : decode cX1_ateInOf 29 = .ok (.bipush (-4), 2) := by decide +kernel
theorem dX1_ateInOf_31 : decode cX1_ateInOf 31 = .ok (.ireturn, 1) := by decide +kernel
theorem dX1_warmOf_0 : decode cX1_warmOf 0 = .ok (.iload_n 1, 1) := by decide +kernel
theorem dX1_warmOf_1 : decode cX1_warmOf 1 = .ok (.ifCond .lt 28, 3) := by decide +kernel
theorem dX1_warmOf_4 : decode cX1_warmOf 4 = .ok (.iload_n 1, 1) := by decide +kernel
theorem dX1_warmOf_5 : decode cX1_warmOf 5 = .ok (.bipush 9, 2) := by decide +kernel
theorem dX1_warmOf_7 : decode cX1_warmOf 7 = .ok (.if_icmp .ge 22, 3) := by decide +kernel
theorem dX1_warmOf_10 : decode cX1_warmOf 10 = .ok (.aload_n 0, 1) := by decide +kernel
theorem dX1_warmOf_11 : decode cX1_warmOf 11 = .ok (.getfield 15, 3) := by decide +kernel
theorem dX1_warmOf_14 : decode cX1_warmOf 14 = .ok (.iload_n 1, 1) := by decide +kernel
theorem dX1_warmOf_15 : decode cX1_warmOf 15 = .ok (.iaload, 1) := by decide +kernel
theorem dX1_warmOf_16 : decode cX1_warmOf 16 = .ok (.iconst 3, 1) := by decide +kernel
theorem dX1_warmOf_17 : decode cX1_warmOf 17 = .ok (.if_icmp .ne 12, 3) := by decide +kernel
theorem dX1_warmOf_20 : decode cX1_warmOf 20 = .ok (.aload_n 0, 1) := by decide +kernel
theorem dX1_warmOf_21 : decode cX1_warmOf 21 = .ok (.getfield 24, 3) := by decide +kernel
theorem dX1_warmOf_24 : decode cX1_warmOf 24 = .ok (.iload_n 1, 1) := by decide +kernel
theorem dX1_warmOf_25 : decode cX1_warmOf 25 = .ok (.iaload, 1) := by decide +kernel
theorem dX1_warmOf_26 : decode cX1_warmOf 26 = .ok (.goto 5, 3) := by decide +kernel
theorem dX1_warmOf_29 : decode cX1_warmOf 29 = .ok (.bipush (-4), 2) := by decide +kernel
theorem dX1_warmOf_31 : decode cX1_warmOf 31 = .ok (.ireturn, 1) := by decide +kernel
theorem dX1_howMany_0 : decode cX1_howMany 0 = .ok (.iconst 0, 1) := by decide +kernel
theorem dX1_howMany_1 : decode cX1_howMany 1 = .ok (.istore_n 2, 1) := by decide +kernel
theorem dX1_howMany_2 : decode cX1_howMany 2 = .ok (.iconst 0, 1) := by decide +kernel
theorem dX1_howMany_3 : decode cX1_howMany 3 = .ok (.istore_n 3, 1) := by decide +kernel
theorem dX1_howMany_4 : decode cX1_howMany 4 = .ok (.iload_n 3, 1) := by decide +kernel
theorem dX1_howMany_5 : decode cX1_howMany 5 = .ok (.bipush 9, 2) := by decide +kernel
theorem dX1_howMany_7 : decode cX1_howMany 7 = .ok (.if_icmp .ge 22, 3) := by decide +kernel
theorem dX1_howMany_10 : decode cX1_howMany 10 = .ok (.aload_n 0, 1) := by decide +kernel
theorem dX1_howMany_11 : decode cX1_howMany 11 = .ok (.getfield 15, 3) := by decide +kernel
theorem dX1_howMany_14 : decode cX1_howMany 14 = .ok (.iload_n 3, 1) := by decide +kernel
theorem dX1_howMany_15 : decode cX1_howMany 15 = .ok (.iaload, 1) := by decide +kernel
theorem dX1_howMany_16 : decode cX1_howMany 16 = .ok (.iload_n 1, 1) := by decide +kernel
theorem dX1_howMany_17 : decode cX1_howMany 17 = .ok (.if_icmp .ne 6, 3) := by decide +kernel
theorem dX1_howMany_20 : decode cX1_howMany 20 = .ok (.iinc 2 1, 3) := by decide +kernel
theorem dX1_howMany_23 : decode cX1_howMany 23 = .ok (.iinc 3 1, 3) := by decide +kernel
theorem dX1_howMany_26 : decode cX1_howMany 26 = .ok (.goto (-22), 3) := by decide +kernel
theorem dX1_howMany_29 : decode cX1_howMany 29 = .ok (.iload_n 2, 1) := by decide +kernel
theorem dX1_howMany_30 : decode cX1_howMany 30 = .ok (.ireturn, 1) := by decide +kernel
theorem dX1_run_0 : decode cX1_run 0 = .ok (.iconst 0, 1) := by decide +kernel
theorem dX1_run_1 : decode cX1_run 1 = .ok (.istore_n 3, 1) := by decide +kernel
theorem dX1_run_2 : decode cX1_run 2 = .ok (.iload_n 3, 1) := by decide +kernel
theorem dX1_run_3 : decode cX1_run 3 = .ok (.iload_n 2, 1) := by decide +kernel
theorem dX1_run_4 : decode cX1_run 4 = .ok (.if_icmp .ge 23, 3) := by decide +kernel
theorem dX1_run_7 : decode cX1_run 7 = .ok (.aload_n 0, 1) := by decide +kernel
theorem dX1_run_8 : decode cX1_run 8 = .ok (.aload_n 1, 1) := by decide +kernel
theorem dX1_run_9 : decode cX1_run 9 = .ok (.aload_n 1, 1) := by decide +kernel
theorem dX1_run_10 : decode cX1_run 10 = .ok (.aload_n 0, 1) := by decide +kernel
theorem dX1_run_11 : decode cX1_run 11 = .ok (.getfield 31, 3) := by decide +kernel
theorem dX1_run_14 : decode cX1_run 14 = .ok (.invokevirtual 46, 3) := by decide +kernel
theorem dX1_run_17 : decode cX1_run 17 = .ok (.iconst 0, 1) := by decide +kernel
theorem dX1_run_18 : decode cX1_run 18 = .ok (.invokevirtual 52, 3) := by decide +kernel
theorem dX1_run_21 : decode cX1_run 21 = .ok (.iinc 3 1, 3) := by decide +kernel
theorem dX1_run_24 : decode cX1_run 24 = .ok (.goto (-22), 3) := by decide +kernel
theorem dX1_run_27 : decode cX1_run 27 = .ok (.return_, 1) := by decide +kernel
theorem dX1_goOn_0 : decode cX1_goOn 0 = .ok (.aload_n 0, 1) := by decide +kernel
theorem dX1_goOn_1 : decode cX1_goOn 1 = .ok (.aload_n 1, 1) := by decide +kernel
theorem dX1_goOn_2 : decode cX1_goOn 2 = .ok (.invokevirtual 56, 3) := by decide +kernel
theorem dX1_goOn_5 : decode cX1_goOn 5 = .ok (.aload_n 0, 1) := by decide +kernel
theorem dX1_goOn_6 : decode cX1_goOn 6 = .ok (.aload_n 1, 1) := by decide +kernel
theorem dX1_goOn_7 : decode cX1_goOn 7 = .ok (.invokevirtual 60, 3) := by decide +kernel
theorem dX1_goOn_10 : decode cX1_goOn 10 = .ok (.aload_n 1, 1) := by decide +kernel
theorem dX1_goOn_11 : decode cX1_goOn 11 = .ok (.aload_n 0, 1) := by decide +kernel
theorem dX1_goOn_12 : decode cX1_goOn 12 = .ok (.getfield 31, 3) := by decide +kernel
theorem dX1_goOn_15 : decode cX1_goOn 15 = .ok (.invokevirtual 63, 3) := by decide +kernel
theorem dX1_goOn_18 : decode cX1_goOn 18 = .ok (.ifCond .eq 27, 3) := by decide +kernel
theorem dX1_goOn_21 : decode cX1_goOn 21 = .ok (.aload_n 0, 1) := by decide +kernel
theorem dX1_goOn_22 : decode cX1_goOn 22 = .ok (.aload_n 1, 1) := by decide +kernel
theorem dX1_goOn_23 : decode cX1_goOn 23 = .ok (.iload_n 2, 1) := by decide +kernel
theorem dX1_goOn_24 : decode cX1_goOn 24 = .ok (.invokevirtual 66, 3) := by decide +kernel
theorem dX1_goOn_27 : decode cX1_goOn 27 = .ok (.iload_n 3, 1) := by decide +kernel
theorem dX1_goOn_28 : decode cX1_goOn 28 = .ok (.ifCond .eq 17, 3) := by decide +kernel
theorem dX1_goOn_31 : decode cX1_goOn 31 = .ok (.aload_n 0, 1) := by decide +kernel
theorem dX1_goOn_32 : decode cX1_goOn 32 = .ok (.aload_n 1, 1) := by decide +kernel
theorem dX1_goOn_33 : decode cX1_goOn 33 = .ok (.iload_n 2, 1) := by decide +kernel
theorem dX1_goOn_34 : decode cX1_goOn 34 = .ok (.ifCond .ne 7, 3) := by decide +kernel
theorem dX1_goOn_37 : decode cX1_goOn 37 = .ok (.iconst 1, 1) := by decide +kernel
theorem dX1_goOn_38 : decode cX1_goOn 38 = .ok (.goto 4, 3) := by decide +kernel
theorem dX1_goOn_41 : decode cX1_goOn 41 = .ok (.iconst 0, 1) := by decide +kernel
theorem dX1_goOn_42 : decode cX1_goOn 42 = .ok (.invokevirtual 66, 3) := by decide +kernel
theorem dX1_goOn_45 : decode cX1_goOn 45 = .ok (.aload_n 0, 1) := by decide +kernel
theorem dX1_goOn_46 : decode cX1_goOn 46 = .ok (.invokevirtual 70, 3) := by decide +kernel
theorem dX1_goOn_49 : decode cX1_goOn 49 = .ok (.aload_n 0, 1) := by decide +kernel
theorem dX1_goOn_50 : decode cX1_goOn 50 = .ok (.dup, 1) := by decide +kernel
theorem dX1_goOn_51 : decode cX1_goOn 51 = .ok (.getfield 31, 3) := by decide +kernel
theorem dX1_goOn_54 : decode cX1_goOn 54 = .ok (.iconst 1, 1) := by decide +kernel
theorem dX1_goOn_55 : decode cX1_goOn 55 = .ok (.iadd, 1) := by decide +kernel
theorem dX1_goOn_56 : decode cX1_goOn 56 = .ok (.putfield 31, 3) := by decide +kernel
theorem dX1_goOn_59 : decode cX1_goOn 59 = .ok (.return_, 1) := by decide +kernel
theorem dX1_joinAll_0 : decode cX1_joinAll 0 = .ok (.iconst 0, 1) := by decide +kernel
theorem dX1_joinAll_1 : decode cX1_joinAll 1 = .ok (.istore_n 2, 1) := by decide +kernel
theorem dX1_joinAll_2 : decode cX1_joinAll 2 = .ok (.iload_n 2, 1) := by decide +kernel
theorem dX1_joinAll_3 : decode cX1_joinAll 3 = .ok (.aload_n 1, 1) := by decide +kernel
theorem dX1_joinAll_4 : decode cX1_joinAll 4 = .ok (.getfield 73, 3) := by decide +kernel
theorem dX1_joinAll_7 : decode cX1_joinAll 7 = .ok (.if_icmp .ge 43, 3) := by decide +kernel
theorem dX1_joinAll_10 : decode cX1_joinAll 10 = .ok (.iload_n 2, 1) := by decide +kernel
theorem dX1_joinAll_11 : decode cX1_joinAll 11 = .ok (.bipush 9, 2) := by decide +kernel
theorem dX1_joinAll_13 : decode cX1_joinAll 13 = .ok (.if_icmp .ge 37, 3) := by decide +kernel
theorem dX1_joinAll_16 : decode cX1_joinAll 16 = .ok (.aload_n 0, 1) := by decide +kernel
theorem dX1_joinAll_17 : decode cX1_joinAll 17 = .ok (.getfield 15, 3) := by decide +kernel
theorem dX1_joinAll_20 : decode cX1_joinAll 20 = .ok (.iload_n 2, 1) := by decide +kernel
theorem dX1_joinAll_21 : decode cX1_joinAll 21 = .ok (.iaload, 1) := by decide +kernel
theorem dX1_joinAll_22 : decode cX1_joinAll 22 = .ok (.ifCond .ne 22, 3) := by decide +kernel
theorem dX1_joinAll_25 : decode cX1_joinAll 25 = .ok (.aload_n 1, 1) := by decide +kernel
theorem dX1_joinAll_26 : decode cX1_joinAll 26 = .ok (.getfield 76, 3) := by decide +kernel
theorem dX1_joinAll_29 : decode cX1_joinAll 29 = .ok (.iload_n 2, 1) := by decide +kernel
theorem dX1_joinAll_30 : decode cX1_joinAll 30 = .ok (.iaload, 1) := by decide +kernel
theorem dX1_joinAll_31 : decode cX1_joinAll 31 = .ok (.aload_n 0, 1) := by decide +kernel
theorem dX1_joinAll_32 : decode cX1_joinAll 32 = .ok (.getfield 31, 3) := by decide +kernel
theorem dX1_joinAll_35 : decode cX1_joinAll 35 = .ok (.if_icmp .ne 9, 3) := by decide +kernel
theorem dX1_joinAll_38 : decode cX1_joinAll 38 = .ok (.aload_n 0, 1) := by decide +kernel
theorem dX1_joinAll_39 : decode cX1_joinAll 39 = .ok (.aload_n 1, 1) := by decide +kernel
theorem dX1_joinAll_40 : decode cX1_joinAll 40 = .ok (.iload_n 2, 1) := by decide +kernel
theorem dX1_joinAll_41 : decode cX1_joinAll 41 = .ok (.invokevirtual 79, 3) := by decide +kernel
theorem dX1_joinAll_44 : decode cX1_joinAll 44 = .ok (.iinc 2 1, 3) := by decide +kernel
theorem dX1_joinAll_47 : decode cX1_joinAll 47 = .ok (.goto (-45), 3) := by decide +kernel
theorem dX1_joinAll_50 : decode cX1_joinAll 50 = .ok (.return_, 1) := by decide +kernel
theorem dX1_sneezeAll_0 : decode cX1_sneezeAll 0 = .ok (.iconst 0, 1) := by decide +kernel
theorem dX1_sneezeAll_1 : decode cX1_sneezeAll 1 = .ok (.istore_n 2, 1) := by decide +kernel
theorem dX1_sneezeAll_2 : decode cX1_sneezeAll 2 = .ok (.iload_n 2, 1) := by decide +kernel
theorem dX1_sneezeAll_3 : decode cX1_sneezeAll 3 = .ok (.aload_n 1, 1) := by decide +kernel
theorem dX1_sneezeAll_4 : decode cX1_sneezeAll 4 = .ok (.getfield 73, 3) := by decide +kernel
theorem dX1_sneezeAll_7 : decode cX1_sneezeAll 7 = .ok (.if_icmp .ge 50, 3) := by decide +kernel
theorem dX1_sneezeAll_10 : decode cX1_sneezeAll 10 = .ok (.iload_n 2, 1) := by decide +kernel
theorem dX1_sneezeAll_11 : decode cX1_sneezeAll 11 = .ok (.bipush 9, 2) := by decide +kernel
theorem dX1_sneezeAll_13 : decode cX1_sneezeAll 13 = .ok (.if_icmp .ge 44, 3) := by decide +kernel
theorem dX1_sneezeAll_16 : decode cX1_sneezeAll 16 = .ok (.aload_n 0, 1) := by decide +kernel
theorem dX1_sneezeAll_17 : decode cX1_sneezeAll 17 = .ok (.getfield 15, 3) := by decide +kernel
theorem dX1_sneezeAll_20 : decode cX1_sneezeAll 20 = .ok (.iload_n 2, 1) := by decide +kernel
theorem dX1_sneezeAll_21 : decode cX1_sneezeAll 21 = .ok (.iaload, 1) := by decide +kernel
theorem dX1_sneezeAll_22 : decode cX1_sneezeAll 22 = .ok (.iconst 1, 1) := by decide +kernel
theorem dX1_sneezeAll_23 : decode cX1_sneezeAll 23 = .ok (.if_icmp .ne 28, 3) := by decide +kernel
theorem dX1_sneezeAll_26 : decode cX1_sneezeAll 26 = .ok (.aload_n 1, 1) := by decide +kernel
theorem dX1_sneezeAll_27 : decode cX1_sneezeAll 27 = .ok (.getfield 83, 3) := by decide +kernel
theorem dX1_sneezeAll_30 : decode cX1_sneezeAll 30 = .ok (.iload_n 2, 1) := by decide +kernel
theorem dX1_sneezeAll_31 : decode cX1_sneezeAll 31 = .ok (.iaload, 1) := by decide +kernel
theorem dX1_sneezeAll_32 : decode cX1_sneezeAll 32 = .ok (.iconst 2, 1) := by decide +kernel
theorem dX1_sneezeAll_33 : decode cX1_sneezeAll 33 = .ok (.if_icmp .ne 18, 3) := by decide +kernel
theorem dX1_sneezeAll_36 : decode cX1_sneezeAll 36 = .ok (.aload_n 0, 1) := by decide +kernel
theorem dX1_sneezeAll_37 : decode cX1_sneezeAll 37 = .ok (.getfield 18, 3) := by decide +kernel
theorem dX1_sneezeAll_40 : decode cX1_sneezeAll 40 = .ok (.iload_n 2, 1) := by decide +kernel
theorem dX1_sneezeAll_41 : decode cX1_sneezeAll 41 = .ok (.iaload, 1) := by decide +kernel
theorem dX1_sneezeAll_42 : decode cX1_sneezeAll 42 = .ok (.iconst 4, 1) := by decide +kernel
theorem dX1_sneezeAll_43 : decode cX1_sneezeAll 43 = .ok (.if_icmp .lt 8, 3) := by decide +kernel
theorem dX1_sneezeAll_46 : decode cX1_sneezeAll 46 = .ok (.aload_n 0, 1) := by decide +kernel
theorem dX1_sneezeAll_47 : decode cX1_sneezeAll 47 = .ok (.iload_n 2, 1) := by decide +kernel
theorem dX1_sneezeAll_48 : decode cX1_sneezeAll 48 = .ok (.invokevirtual 86, 3) := by decide +kernel
theorem dX1_sneezeAll_51 : decode cX1_sneezeAll 51 = .ok (.iinc 2 1, 3) := by decide +kernel
theorem dX1_sneezeAll_54 : decode cX1_sneezeAll 54 = .ok (.goto (-52), 3) := by decide +kernel
theorem dX1_sneezeAll_57 : decode cX1_sneezeAll 57 = .ok (.return_, 1) := by decide +kernel
theorem dX1_standOn_0 : decode cX1_standOn 0 = .ok (.iconst 0, 1) := by decide +kernel
theorem dX1_standOn_1 : decode cX1_standOn 1 = .ok (.istore_n 1, 1) := by decide +kernel
theorem dX1_standOn_2 : decode cX1_standOn 2 = .ok (.iload_n 1, 1) := by decide +kernel
theorem dX1_standOn_3 : decode cX1_standOn 3 = .ok (.bipush 9, 2) := by decide +kernel
theorem dX1_standOn_5 : decode cX1_standOn 5 = .ok (.if_icmp .ge 29, 3) := by decide +kernel
theorem dX1_standOn_8 : decode cX1_standOn 8 = .ok (.aload_n 0, 1) := by decide +kernel
theorem dX1_standOn_9 : decode cX1_standOn 9 = .ok (.getfield 15, 3) := by decide +kernel
theorem dX1_standOn_12 : decode cX1_standOn 12 = .ok (.iload_n 1, 1) := by decide +kernel
theorem dX1_standOn_13 : decode cX1_standOn 13 = .ok (.iaload, 1) := by decide +kernel
theorem dX1_standOn_14 : decode cX1_standOn 14 = .ok (.iconst 1, 1) := by decide +kernel
theorem dX1_standOn_15 : decode cX1_standOn 15 = .ok (.if_icmp .ne 13, 3) := by decide +kernel
theorem dX1_standOn_18 : decode cX1_standOn 18 = .ok (.aload_n 0, 1) := by decide +kernel
theorem dX1_standOn_19 : decode cX1_standOn 19 = .ok (.getfield 18, 3) := by decide +kernel
theorem dX1_standOn_22 : decode cX1_standOn 22 = .ok (.iload_n 1, 1) := by decide +kernel
theorem dX1_standOn_23 : decode cX1_standOn 23 = .ok (.dup2, 1) := by decide +kernel
theorem dX1_standOn_24 : decode cX1_standOn 24 = .ok (.iaload, 1) := by decide +kernel
theorem dX1_standOn_25 : decode cX1_standOn 25 = .ok (.iconst 1, 1) := by decide +kernel
theorem dX1_standOn_26 : decode cX1_standOn 26 = .ok (.iadd, 1) := by decide +kernel
theorem dX1_standOn_27 : decode cX1_standOn 27 = .ok (.iastore, 1) := by decide +kernel
theorem dX1_standOn_28 : decode cX1_standOn 28 = .ok (.iinc 1 1, 3) := by decide +kernel
theorem dX1_standOn_31 : decode cX1_standOn 31 = .ok (.goto (-29), 3) := by decide +kernel
theorem dX1_standOn_34 : decode cX1_standOn 34 = .ok (.return_, 1) := by decide +kernel
theorem dX1_join_0 : decode cX1_join 0 = .ok (.iload_n 2, 1) := by decide +kernel
theorem dX1_join_1 : decode cX1_join 1 = .ok (.ifCond .lt 25, 3) := by decide +kernel
theorem dX1_join_4 : decode cX1_join 4 = .ok (.iload_n 2, 1) := by decide +kernel
theorem dX1_join_5 : decode cX1_join 5 = .ok (.bipush 9, 2) := by decide +kernel
theorem dX1_join_7 : decode cX1_join 7 = .ok (.if_icmp .ge 19, 3) := by decide +kernel
theorem dX1_join_10 : decode cX1_join 10 = .ok (.aload_n 0, 1) := by decide +kernel
theorem dX1_join_11 : decode cX1_join 11 = .ok (.getfield 27, 3) := by decide +kernel
theorem dX1_join_14 : decode cX1_join 14 = .ok (.ifCond .lt 12, 3) := by decide +kernel
theorem dX1_join_17 : decode cX1_join 17 = .ok (.aload_n 0, 1) := by decide +kernel
theorem dX1_join_18 : decode cX1_join 18 = .ok (.getfield 27, 3) := by decide +kernel
theorem dX1_join_21 : decode cX1_join 21 = .ok (.bipush 9, 2) := by decide +kernel
theorem dX1_join_23 : decode cX1_join 23 = .ok (.if_icmp .lt 4, 3) := by decide +kernel
theorem dX1_join_26 : decode cX1_join 26 = .ok (.return_, 1) := by decide +kernel
theorem dX1_join_27 : decode cX1_join 27 = .ok (.aload_n 0, 1) := by decide +kernel
theorem dX1_join_28 : decode cX1_join 28 = .ok (.getfield 27, 3) := by decide +kernel
theorem dX1_join_31 : decode cX1_join 31 = .ok (.ifCond .le 21, 3) := by decide +kernel
theorem dX1_join_34 : decode cX1_join 34 = .ok (.aload_n 1, 1) := by decide +kernel
theorem dX1_join_35 : decode cX1_join 35 = .ok (.aload_n 0, 1) := by decide +kernel
theorem dX1_join_36 : decode cX1_join 36 = .ok (.getfield 9, 3) := by decide +kernel
theorem dX1_join_39 : decode cX1_join 39 = .ok (.iconst 0, 1) := by decide +kernel
theorem dX1_join_40 : decode cX1_join 40 = .ok (.iaload, 1) := by decide +kernel
theorem dX1_join_41 : decode cX1_join 41 = .ok (.iload_n 2, 1) := by decide +kernel
theorem dX1_join_42 : decode cX1_join 42 = .ok (.invokevirtual 90, 3) := by decide +kernel
theorem dX1_join_45 : decode cX1_join 45 = .ok (.ifCond .eq 7, 3) := by decide +kernel
theorem dX1_join_48 : decode cX1_join 48 = .ok (.iconst 1, 1) := by decide +kernel
theorem dX1_join_49 : decode cX1_join 49 = .ok (.goto 4, 3) := by decide +kernel
theorem dX1_join_52 : decode cX1_join 52 = .ok (.iconst 0, 1) := by decide +kernel
theorem dX1_join_53 : decode cX1_join 53 = .ok (.istore_n 3, 1) := by decide +kernel
theorem dX1_join_54 : decode cX1_join 54 = .ok (.aload_n 0, 1) := by decide +kernel
theorem dX1_join_55 : decode cX1_join 55 = .ok (.getfield 27, 3) := by decide +kernel
theorem dX1_join_58 : decode cX1_join 58 = .ok (.istore 4, 2) := by decide +kernel
theorem dX1_join_60 : decode cX1_join 60 = .ok (.iload 4, 2) := by decide +kernel
theorem dX1_join_62 : decode cX1_join 62 = .ok (.iload_n 3, 1) := by decide +kernel
theorem dX1_join_63 : decode cX1_join 63 = .ok (.if_icmp .le 25, 3) := by decide +kernel
theorem dX1_join_66 : decode cX1_join 66 = .ok (.aload_n 0, 1) := by decide +kernel
theorem dX1_join_67 : decode cX1_join 67 = .ok (.getfield 9, 3) := by decide +kernel
theorem dX1_join_70 : decode cX1_join 70 = .ok (.iload 4, 2) := by decide +kernel
theorem dX1_join_72 : decode cX1_join 72 = .ok (.aload_n 0, 1) := by decide +kernel
theorem dX1_join_73 : decode cX1_join 73 = .ok (.getfield 9, 3) := by decide +kernel
theorem dX1_join_76 : decode cX1_join 76 = .ok (.iload 4, 2) := by decide +kernel
theorem dX1_join_78 : decode cX1_join 78 = .ok (.iconst 1, 1) := by decide +kernel
theorem dX1_join_79 : decode cX1_join 79 = .ok (.isub, 1) := by decide +kernel
theorem dX1_join_80 : decode cX1_join 80 = .ok (.iaload, 1) := by decide +kernel
theorem dX1_join_81 : decode cX1_join 81 = .ok (.iastore, 1) := by decide +kernel
theorem dX1_join_82 : decode cX1_join 82 = .ok (.iinc 4 (-1), 3) := by decide +kernel
theorem dX1_join_85 : decode cX1_join 85 = .ok (.goto (-25), 3) := by decide +kernel
theorem dX1_join_88 : decode cX1_join 88 = .ok (.aload_n 0, 1) := by decide +kernel
theorem dX1_join_89 : decode cX1_join 89 = .ok (.getfield 9, 3) := by decide +kernel
theorem dX1_join_92 : decode cX1_join 92 = .ok (.iload_n 3, 1) := by decide +kernel
theorem dX1_join_93 : decode cX1_join 93 = .ok (.iload_n 2, 1) := by decide +kernel
theorem dX1_join_94 : decode cX1_join 94 = .ok (.iastore, 1) := by decide +kernel
theorem dX1_join_95 : decode cX1_join 95 = .ok (.aload_n 0, 1) := by decide +kernel
theorem dX1_join_96 : decode cX1_join 96 = .ok (.dup, 1) := by decide +kernel
theorem dX1_join_97 : decode cX1_join 97 = .ok (.getfield 27, 3) := by decide +kernel
theorem dX1_join_100 : decode cX1_join 100 = .ok (.iconst 1, 1) := by decide +kernel
theorem dX1_join_101 : decode cX1_join 101 = .ok (.iadd, 1) := by decide +kernel
theorem dX1_join_102 : decode cX1_join 102 = .ok (.putfield 27, 3) := by decide +kernel
theorem dX1_join_105 : decode cX1_join 105 = .ok (.aload_n 0, 1) := by decide +kernel
theorem dX1_join_106 : decode cX1_join 106 = .ok (.getfield 15, 3) := by decide +kernel
theorem dX1_join_109 : decode cX1_join 109 = .ok (.iload_n 2, 1) := by decide +kernel
theorem dX1_join_110 : decode cX1_join 110 = .ok (.iconst 1, 1) := by decide +kernel
theorem dX1_join_111 : decode cX1_join 111 = .ok (.iastore, 1) := by decide +kernel
theorem dX1_join_112 : decode cX1_join 112 = .ok (.aload_n 0, 1) := by decide +kernel
theorem dX1_join_113 : decode cX1_join 113 = .ok (.getfield 18, 3) := by decide +kernel
theorem dX1_join_116 : decode cX1_join 116 = .ok (.iload_n 2, 1) := by decide +kernel
theorem dX1_join_117 : decode cX1_join 117 = .ok (.iconst 0, 1) := by decide +kernel
theorem dX1_join_118 : decode cX1_join 118 = .ok (.iastore, 1) := by decide +kernel
theorem dX1_join_119 : decode cX1_join 119 = .ok (.return_, 1) := by decide +kernel
theorem dX1_goToHead_0 : decode cX1_goToHead 0 = .ok (.aload_n 0, 1) := by decide +kernel
theorem dX1_goToHead_1 : decode cX1_goToHead 1 = .ok (.iload_n 1, 1) := by decide +kernel
theorem dX1_goToHead_2 : decode cX1_goToHead 2 = .ok (.invokevirtual 94, 3) := by decide +kernel
theorem dX1_goToHead_5 : decode cX1_goToHead 5 = .ok (.istore_n 2, 1) := by decide +kernel
theorem dX1_goToHead_6 : decode cX1_goToHead 6 = .ok (.iload_n 1, 1) := by decide +kernel
theorem dX1_goToHead_7 : decode cX1_goToHead 7 = .ok (.ifCond .lt 22, 3) := by decide +kernel
theorem dX1_goToHead_10 : decode cX1_goToHead 10 = .ok (.iload_n 1, 1) := by decide +kernel
theorem dX1_goToHead_11 : decode cX1_goToHead 11 = .ok (.bipush 9, 2) := by decide +kernel
theorem dX1_goToHead_13 : decode cX1_goToHead 13 = .ok (.if_icmp .ge 16, 3) := by decide +kernel
theorem dX1_goToHead_16 : decode cX1_goToHead 16 = .ok (.iload_n 2, 1) := by decide +kernel
theorem dX1_goToHead_17 : decode cX1_goToHead 17 = .ok (.ifCond .lt 12, 3) := by decide +kernel
theorem dX1_goToHead_20 : decode cX1_goToHead 20 = .ok (.aload_n 0, 1) := by decide +kernel
theorem dX1_goToHead_21 : decode cX1_goToHead 21 = .ok (.getfield 27, 3) := by decide +kernel
theorem dX1_goToHead_24 : decode cX1_goToHead 24 = .ok (.bipush 9, 2) := by decide +kernel
theorem dX1_goToHead_26 : decode cX1_goToHead 26 = .ok (.if_icmp .le 4, 3) := by decide +kernel
theorem dX1_goToHead_29 : decode cX1_goToHead 29 = .ok (.return_, 1) := by decide +kernel
theorem dX1_goToHead_30 : decode cX1_goToHead 30 = .ok (.iload_n 2, 1) := by decide +kernel
theorem dX1_goToHead_31 : decode cX1_goToHead 31 = .ok (.istore_n 3, 1) := by decide +kernel
theorem dX1_goToHead_32 : decode cX1_goToHead 32 = .ok (.iload_n 3, 1) := by decide +kernel
theorem dX1_goToHead_33 : decode cX1_goToHead 33 = .ok (.aload_n 0, 1) := by decide +kernel
theorem dX1_goToHead_34 : decode cX1_goToHead 34 = .ok (.getfield 27, 3) := by decide +kernel
theorem dX1_goToHead_37 : decode cX1_goToHead 37 = .ok (.iconst 1, 1) := by decide +kernel
theorem dX1_goToHead_38 : decode cX1_goToHead 38 = .ok (.isub, 1) := by decide +kernel
theorem dX1_goToHead_39 : decode cX1_goToHead 39 = .ok (.if_icmp .ge 23, 3) := by decide +kernel
theorem dX1_goToHead_42 : decode cX1_goToHead 42 = .ok (.aload_n 0, 1) := by decide +kernel
theorem dX1_goToHead_43 : decode cX1_goToHead 43 = .ok (.getfield 9, 3) := by decide +kernel
theorem dX1_goToHead_46 : decode cX1_goToHead 46 = .ok (.iload_n 3, 1) := by decide +kernel
theorem dX1_goToHead_47 : decode cX1_goToHead 47 = .ok (.aload_n 0, 1) := by decide +kernel
theorem dX1_goToHead_48 : decode cX1_goToHead 48 = .ok (.getfield 9, 3) := by decide +kernel
theorem dX1_goToHead_51 : decode cX1_goToHead 51 = .ok (.iload_n 3, 1) := by decide +kernel
theorem dX1_goToHead_52 : decode cX1_goToHead 52 = .ok (.iconst 1, 1) := by decide +kernel
theorem dX1_goToHead_53 : decode cX1_goToHead 53 = .ok (.iadd, 1) := by decide +kernel
theorem dX1_goToHead_54 : decode cX1_goToHead 54 = .ok (.iaload, 1) := by decide +kernel
theorem dX1_goToHead_55 : decode cX1_goToHead 55 = .ok (.iastore, 1) := by decide +kernel
theorem dX1_goToHead_56 : decode cX1_goToHead 56 = .ok (.iinc 3 1, 3) := by decide +kernel
theorem dX1_goToHead_59 : decode cX1_goToHead 59 = .ok (.goto (-27), 3) := by decide +kernel
theorem dX1_goToHead_62 : decode cX1_goToHead 62 = .ok (.aload_n 0, 1) := by decide +kernel
theorem dX1_goToHead_63 : decode cX1_goToHead 63 = .ok (.getfield 9, 3) := by decide +kernel
theorem dX1_goToHead_66 : decode cX1_goToHead 66 = .ok (.aload_n 0, 1) := by decide +kernel
theorem dX1_goToHead_67 : decode cX1_goToHead 67 = .ok (.getfield 27, 3) := by decide +kernel
theorem dX1_goToHead_70 : decode cX1_goToHead 70 = .ok (.iconst 1, 1) := by decide +kernel
theorem dX1_goToHead_71 : decode cX1_goToHead 71 = .ok (.isub, 1) := by decide +kernel
theorem dX1_goToHead_72 : decode cX1_goToHead 72 = .ok (.iload_n 1, 1) := by decide +kernel
theorem dX1_goToHead_73 : decode cX1_goToHead 73 = .ok (.iastore, 1) := by decide +kernel
theorem dX1_goToHead_74 : decode cX1_goToHead 74 = .ok (.aload_n 0, 1) := by decide +kernel
theorem dX1_goToHead_75 : decode cX1_goToHead 75 = .ok (.getfield 18, 3) := by decide +kernel
theorem dX1_goToHead_78 : decode cX1_goToHead 78 = .ok (.iload_n 1, 1) := by decide +kernel
theorem dX1_goToHead_79 : decode cX1_goToHead 79 = .ok (.iconst 0, 1) := by decide +kernel
theorem dX1_goToHead_80 : decode cX1_goToHead 80 = .ok (.iastore, 1) := by decide +kernel
theorem dX1_goToHead_81 : decode cX1_goToHead 81 = .ok (.return_, 1) := by decide +kernel
theorem dX1_goAway_0 : decode cX1_goAway 0 = .ok (.aload_n 0, 1) := by decide +kernel
theorem dX1_goAway_1 : decode cX1_goAway 1 = .ok (.iload_n 1, 1) := by decide +kernel
theorem dX1_goAway_2 : decode cX1_goAway 2 = .ok (.invokevirtual 94, 3) := by decide +kernel
theorem dX1_goAway_5 : decode cX1_goAway 5 = .ok (.istore_n 2, 1) := by decide +kernel
theorem dX1_goAway_6 : decode cX1_goAway 6 = .ok (.iload_n 1, 1) := by decide +kernel
theorem dX1_goAway_7 : decode cX1_goAway 7 = .ok (.ifCond .lt 13, 3) := by decide +kernel
theorem dX1_goAway_10 : decode cX1_goAway 10 = .ok (.iload_n 1, 1) := by decide +kernel
theorem dX1_goAway_11 : decode cX1_goAway 11 = .ok (.bipush 9, 2) := by decide +kernel
theorem dX1_goAway_13 : decode cX1_goAway 13 = .ok (.if_icmp .ge 7, 3) := by decide +kernel
theorem dX1_goAway_16 : decode cX1_goAway 16 = .ok (.iload_n 2, 1) := by decide +kernel
theorem dX1_goAway_17 : decode cX1_goAway 17 = .ok (.ifCond .ge 4, 3) := by decide +kernel
theorem dX1_goAway_20 : decode cX1_goAway 20 = .ok (.return_, 1) := by decide +kernel
theorem dX1_goAway_21 : decode cX1_goAway 21 = .ok (.aload_n 0, 1) := by decide +kernel
theorem dX1_goAway_22 : decode cX1_goAway 22 = .ok (.iload_n 2, 1) := by decide +kernel
theorem dX1_goAway_23 : decode cX1_goAway 23 = .ok (.invokevirtual 98, 3) := by decide +kernel
theorem dX1_goAway_26 : decode cX1_goAway 26 = .ok (.aload_n 0, 1) := by decide +kernel
theorem dX1_goAway_27 : decode cX1_goAway 27 = .ok (.getfield 15, 3) := by decide +kernel
theorem dX1_goAway_30 : decode cX1_goAway 30 = .ok (.iload_n 1, 1) := by decide +kernel
theorem dX1_goAway_31 : decode cX1_goAway 31 = .ok (.iconst 2, 1) := by decide +kernel
theorem dX1_goAway_32 : decode cX1_goAway 32 = .ok (.iastore, 1) := by decide +kernel
theorem dX1_goAway_33 : decode cX1_goAway 33 = .ok (.return_, 1) := by decide +kernel
theorem dX1_canYield_0 : decode cX1_canYield 0 = .ok (.aload_n 0, 1) := by decide +kernel
theorem dX1_canYield_1 : decode cX1_canYield 1 = .ok (.iload_n 1, 1) := by decide +kernel
theorem dX1_canYield_2 : decode cX1_canYield 2 = .ok (.invokevirtual 94, 3) := by decide +kernel
theorem dX1_canYield_5 : decode cX1_canYield 5 = .ok (.istore_n 2, 1) := by decide +kernel
theorem dX1_canYield_6 : decode cX1_canYield 6 = .ok (.iload_n 2, 1) := by decide +kernel
theorem dX1_canYield_7 : decode cX1_canYield 7 = .ok (.ifCond .lt 17, 3) := by decide +kernel
theorem dX1_canYield_10 : decode cX1_canYield 10 = .ok (.iload_n 2, 1) := by decide +kernel
theorem dX1_canYield_11 : decode cX1_canYield 11 = .ok (.aload_n 0, 1) := by decide +kernel
theorem dX1_canYield_12 : decode cX1_canYield 12 = .ok (.getfield 27, 3) := by decide +kernel
theorem dX1_canYield_15 : decode cX1_canYield 15 = .ok (.iconst 1, 1) := by decide +kernel
theorem dX1_canYield_16 : decode cX1_canYield 16 = .ok (.isub, 1) := by decide +kernel
theorem dX1_canYield_17 : decode cX1_canYield 17 = .ok (.if_icmp .ge 7, 3) := by decide +kernel
theorem dX1_canYield_20 : decode cX1_canYield 20 = .ok (.iconst 1, 1) := by decide +kernel
theorem dX1_canYield_21 : decode cX1_canYield 21 = .ok (.goto 4, 3) := by decide +kernel
theorem dX1_canYield_24 : decode cX1_canYield 24 = .ok (.iconst 0, 1) := by decide +kernel
theorem dX1_canYield_25 : decode cX1_canYield 25 = .ok (.ireturn, 1) := by decide +kernel
theorem dX1_yieldPlace_0 : decode cX1_yieldPlace 0 = .ok (.aload_n 0, 1) := by decide +kernel
theorem dX1_yieldPlace_1 : decode cX1_yieldPlace 1 = .ok (.iload_n 1, 1) := by decide +kernel
theorem dX1_yieldPlace_2 : decode cX1_yieldPlace 2 = .ok (.invokevirtual 94, 3) := by decide +kernel
theorem dX1_yieldPlace_5 : decode cX1_yieldPlace 5 = .ok (.istore_n 2, 1) := by decide +kernel
theorem dX1_yieldPlace_6 : decode cX1_yieldPlace 6 = .ok (.iload_n 2, 1) := by decide +kernel
theorem dX1_yieldPlace_7 : decode cX1_yieldPlace 7 = .ok (.ifCond .lt 22, 3) := by decide +kernel
theorem dX1_yieldPlace_10 : decode cX1_yieldPlace 10 = .ok (.iload_n 2, 1) := by decide +kernel
theorem dX1_yieldPlace_11 : decode cX1_yieldPlace 11 = .ok (.aload_n 0, 1) := by decide +kernel
theorem dX1_yieldPlace_12 : decode cX1_yieldPlace 12 = .ok (.getfield 27, 3) := by decide +kernel
theorem dX1_yieldPlace_15 : decode cX1_yieldPlace 15 = .ok (.iconst 1, 1) := by decide +kernel
theorem dX1_yieldPlace_16 : decode cX1_yieldPlace 16 = .ok (.isub, 1) := by decide +kernel
theorem dX1_yieldPlace_17 : decode cX1_yieldPlace 17 = .ok (.if_icmp .ge 12, 3) := by decide +kernel
theorem dX1_yieldPlace_20 : decode cX1_yieldPlace 20 = .ok (.aload_n 0, 1) := by decide +kernel
theorem dX1_yieldPlace_21 : decode cX1_yieldPlace 21 = .ok (.getfield 27, 3) := by decide +kernel
theorem dX1_yieldPlace_24 : decode cX1_yieldPlace 24 = .ok (.bipush 9, 2) := by decide +kernel
theorem dX1_yieldPlace_26 : decode cX1_yieldPlace 26 = .ok (.if_icmp .le 4, 3) := by decide +kernel
theorem dX1_yieldPlace_29 : decode cX1_yieldPlace 29 = .ok (.return_, 1) := by decide +kernel
theorem dX1_yieldPlace_30 : decode cX1_yieldPlace 30 = .ok (.aload_n 0, 1) := by decide +kernel
theorem dX1_yieldPlace_31 : decode cX1_yieldPlace 31 = .ok (.getfield 9, 3) := by decide +kernel
theorem dX1_yieldPlace_34 : decode cX1_yieldPlace 34 = .ok (.iload_n 2, 1) := by decide +kernel
theorem dX1_yieldPlace_35 : decode cX1_yieldPlace 35 = .ok (.aload_n 0, 1) := by decide +kernel
theorem dX1_yieldPlace_36 : decode cX1_yieldPlace 36 = .ok (.getfield 9, 3) := by decide +kernel
theorem dX1_yieldPlace_39 : decode cX1_yieldPlace 39 = .ok (.iload_n 2, 1) := by decide +kernel
theorem dX1_yieldPlace_40 : decode cX1_yieldPlace 40 = .ok (.iconst 1, 1) := by decide +kernel
theorem dX1_yieldPlace_41 : decode cX1_yieldPlace 41 = .ok (.iadd, 1) := by decide +kernel
theorem dX1_yieldPlace_42 : decode cX1_yieldPlace 42 = .ok (.iaload, 1) := by decide +kernel
theorem dX1_yieldPlace_43 : decode cX1_yieldPlace 43 = .ok (.iastore, 1) := by decide +kernel
theorem dX1_yieldPlace_44 : decode cX1_yieldPlace 44 = .ok (.aload_n 0, 1) := by decide +kernel
theorem dX1_yieldPlace_45 : decode cX1_yieldPlace 45 = .ok (.getfield 9, 3) := by decide +kernel
theorem dX1_yieldPlace_48 : decode cX1_yieldPlace 48 = .ok (.iload_n 2, 1) := by decide +kernel
theorem dX1_yieldPlace_49 : decode cX1_yieldPlace 49 = .ok (.iconst 1, 1) := by decide +kernel
theorem dX1_yieldPlace_50 : decode cX1_yieldPlace 50 = .ok (.iadd, 1) := by decide +kernel
theorem dX1_yieldPlace_51 : decode cX1_yieldPlace 51 = .ok (.iload_n 1, 1) := by decide +kernel
theorem dX1_yieldPlace_52 : decode cX1_yieldPlace 52 = .ok (.iastore, 1) := by decide +kernel
theorem dX1_yieldPlace_53 : decode cX1_yieldPlace 53 = .ok (.return_, 1) := by decide +kernel
theorem dX1_giveLoaf_0 : decode cX1_giveLoaf 0 = .ok (.aload_n 0, 1) := by decide +kernel
theorem dX1_giveLoaf_1 : decode cX1_giveLoaf 1 = .ok (.aload_n 1, 1) := by decide +kernel
theorem dX1_giveLoaf_2 : decode cX1_giveLoaf 2 = .ok (.iload_n 2, 1) := by decide +kernel
theorem dX1_giveLoaf_3 : decode cX1_giveLoaf 3 = .ok (.invokevirtual 101, 3) := by decide +kernel
theorem dX1_giveLoaf_6 : decode cX1_giveLoaf 6 = .ok (.istore_n 3, 1) := by decide +kernel
theorem dX1_giveLoaf_7 : decode cX1_giveLoaf 7 = .ok (.aload_n 0, 1) := by decide +kernel
theorem dX1_giveLoaf_8 : decode cX1_giveLoaf 8 = .ok (.iload_n 3, 1) := by decide +kernel
theorem dX1_giveLoaf_9 : decode cX1_giveLoaf 9 = .ok (.invokevirtual 105, 3) := by decide +kernel
theorem dX1_giveLoaf_12 : decode cX1_giveLoaf 12 = .ok (.istore 4, 2) := by decide +kernel
theorem dX1_giveLoaf_14 : decode cX1_giveLoaf 14 = .ok (.iload 4, 2) := by decide +kernel
theorem dX1_giveLoaf_16 : decode cX1_giveLoaf 16 = .ok (.ifCond .lt 10, 3) := by decide +kernel
theorem dX1_giveLoaf_19 : decode cX1_giveLoaf 19 = .ok (.iload 4, 2) := by decide +kernel
theorem dX1_giveLoaf_21 : decode cX1_giveLoaf 21 = .ok (.bipush 9, 2) := by decide +kernel
theorem dX1_giveLoaf_23 : decode cX1_giveLoaf 23 = .ok (.if_icmp .lt 4, 3) := by decide +kernel
theorem dX1_giveLoaf_26 : decode cX1_giveLoaf 26 = .ok (.return_, 1) := by decide +kernel
theorem dX1_giveLoaf_27 : decode cX1_giveLoaf 27 = .ok (.aload_n 0, 1) := by decide +kernel
theorem dX1_giveLoaf_28 : decode cX1_giveLoaf 28 = .ok (.iload_n 3, 1) := by decide +kernel
theorem dX1_giveLoaf_29 : decode cX1_giveLoaf 29 = .ok (.invokevirtual 98, 3) := by decide +kernel
theorem dX1_giveLoaf_32 : decode cX1_giveLoaf 32 = .ok (.aload_n 0, 1) := by decide +kernel
theorem dX1_giveLoaf_33 : decode cX1_giveLoaf 33 = .ok (.getfield 15, 3) := by decide +kernel
theorem dX1_giveLoaf_36 : decode cX1_giveLoaf 36 = .ok (.iload 4, 2) := by decide +kernel
theorem dX1_giveLoaf_38 : decode cX1_giveLoaf 38 = .ok (.iconst 3, 1) := by decide +kernel
theorem dX1_giveLoaf_39 : decode cX1_giveLoaf 39 = .ok (.iastore, 1) := by decide +kernel
theorem dX1_giveLoaf_40 : decode cX1_giveLoaf 40 = .ok (.aload_n 0, 1) := by decide +kernel
theorem dX1_giveLoaf_41 : decode cX1_giveLoaf 41 = .ok (.getfield 21, 3) := by decide +kernel
theorem dX1_giveLoaf_44 : decode cX1_giveLoaf 44 = .ok (.iload 4, 2) := by decide +kernel
theorem dX1_giveLoaf_46 : decode cX1_giveLoaf 46 = .ok (.aload_n 0, 1) := by decide +kernel
theorem dX1_giveLoaf_47 : decode cX1_giveLoaf 47 = .ok (.getfield 31, 3) := by decide +kernel
theorem dX1_giveLoaf_50 : decode cX1_giveLoaf 50 = .ok (.iastore, 1) := by decide +kernel
theorem dX1_giveLoaf_51 : decode cX1_giveLoaf 51 = .ok (.aload_n 0, 1) := by decide +kernel
theorem dX1_giveLoaf_52 : decode cX1_giveLoaf 52 = .ok (.getfield 24, 3) := by decide +kernel
theorem dX1_giveLoaf_55 : decode cX1_giveLoaf 55 = .ok (.iload 4, 2) := by decide +kernel
theorem dX1_giveLoaf_57 : decode cX1_giveLoaf 57 = .ok (.iconst 0, 1) := by decide +kernel
theorem dX1_giveLoaf_58 : decode cX1_giveLoaf 58 = .ok (.aload_n 1, 1) := by decide +kernel
theorem dX1_giveLoaf_59 : decode cX1_giveLoaf 59 = .ok (.getfield 108, 3) := by decide +kernel
theorem dX1_giveLoaf_62 : decode cX1_giveLoaf 62 = .ok (.aload_n 0, 1) := by decide +kernel
theorem dX1_giveLoaf_63 : decode cX1_giveLoaf 63 = .ok (.getfield 34, 3) := by decide +kernel
theorem dX1_giveLoaf_66 : decode cX1_giveLoaf 66 = .ok (.isub, 1) := by decide +kernel
theorem dX1_giveLoaf_67 : decode cX1_giveLoaf 67 = .ok (.invokestatic 111, 3) := by decide +kernel
theorem dX1_giveLoaf_70 : decode cX1_giveLoaf 70 = .ok (.iastore, 1) := by decide +kernel
theorem dX1_giveLoaf_71 : decode cX1_giveLoaf 71 = .ok (.aload_n 0, 1) := by decide +kernel
theorem dX1_giveLoaf_72 : decode cX1_giveLoaf 72 = .ok (.dup, 1) := by decide +kernel
theorem dX1_giveLoaf_73 : decode cX1_giveLoaf 73 = .ok (.getfield 37, 3) := by decide +kernel
theorem dX1_giveLoaf_76 : decode cX1_giveLoaf 76 = .ok (.aload_n 0, 1) := by decide +kernel
theorem dX1_giveLoaf_77 : decode cX1_giveLoaf 77 = .ok (.getfield 24, 3) := by decide +kernel
theorem dX1_giveLoaf_80 : decode cX1_giveLoaf 80 = .ok (.iload 4, 2) := by decide +kernel
theorem dX1_giveLoaf_82 : decode cX1_giveLoaf 82 = .ok (.iaload, 1) := by decide +kernel
theorem dX1_giveLoaf_83 : decode cX1_giveLoaf 83 = .ok (.iadd, 1) := by decide +kernel
theorem dX1_giveLoaf_84 : decode cX1_giveLoaf 84 = .ok (.putfield 37, 3) := by decide +kernel
theorem dX1_giveLoaf_87 : decode cX1_giveLoaf 87 = .ok (.aload_n 0, 1) := by decide +kernel
theorem dX1_giveLoaf_88 : decode cX1_giveLoaf 88 = .ok (.dup, 1) := by decide +kernel
theorem dX1_giveLoaf_89 : decode cX1_giveLoaf 89 = .ok (.getfield 34, 3) := by decide +kernel
theorem dX1_giveLoaf_92 : decode cX1_giveLoaf 92 = .ok (.iconst 1, 1) := by decide +kernel
theorem dX1_giveLoaf_93 : decode cX1_giveLoaf 93 = .ok (.iadd, 1) := by decide +kernel
theorem dX1_giveLoaf_94 : decode cX1_giveLoaf 94 = .ok (.putfield 34, 3) := by decide +kernel
theorem dX1_giveLoaf_97 : decode cX1_giveLoaf 97 = .ok (.return_, 1) := by decide +kernel
theorem dX1_placeServed_0 : decode cX1_placeServed 0 = .ok (.iconst 0, 1) := by decide +kernel
theorem dX1_placeServed_1 : decode cX1_placeServed 1 = .ok (.istore_n 3, 1) := by decide +kernel
theorem dX1_placeServed_2 : decode cX1_placeServed 2 = .ok (.iload_n 3, 1) := by decide +kernel
theorem dX1_placeServed_3 : decode cX1_placeServed 3 = .ok (.aload_n 0, 1) := by decide +kernel
theorem dX1_placeServed_4 : decode cX1_placeServed 4 = .ok (.getfield 27, 3) := by decide +kernel
theorem dX1_placeServed_7 : decode cX1_placeServed 7 = .ok (.if_icmp .ge 54, 3) := by decide +kernel
theorem dX1_placeServed_10 : decode cX1_placeServed 10 = .ok (.aload_n 0, 1) := by decide +kernel
theorem dX1_placeServed_11 : decode cX1_placeServed 11 = .ok (.getfield 27, 3) := by decide +kernel
theorem dX1_placeServed_14 : decode cX1_placeServed 14 = .ok (.bipush 9, 2) := by decide +kernel
theorem dX1_placeServed_16 : decode cX1_placeServed 16 = .ok (.if_icmp .gt 45, 3) := by decide +kernel
theorem dX1_placeServed_19 : decode cX1_placeServed 19 = .ok (.iload_n 2, 1) := by decide +kernel
theorem dX1_placeServed_20 : decode cX1_placeServed 20 = .ok (.ifCond .eq 14, 3) := by decide +kernel
theorem dX1_placeServed_23 : decode cX1_placeServed 23 = .ok (.aload_n 0, 1) := by decide +kernel
theorem dX1_placeServed_24 : decode cX1_placeServed 24 = .ok (.getfield 27, 3) := by decide +kernel
theorem dX1_placeServed_27 : decode cX1_placeServed 27 = .ok (.iconst 1, 1) := by decide +kernel
theorem dX1_placeServed_28 : decode cX1_placeServed 28 = .ok (.isub, 1) := by decide +kernel
theorem dX1_placeServed_29 : decode cX1_placeServed 29 = .ok (.iload_n 3, 1) := by decide +kernel
theorem dX1_placeServed_30 : decode cX1_placeServed 30 = .ok (.isub, 1) := by decide +kernel
theorem dX1_placeServed_31 : decode cX1_placeServed 31 = .ok (.goto 4, 3) := by decide +kernel
theorem dX1_placeServed_34 : decode cX1_placeServed 34 = .ok (.iload_n 3, 1) := by decide +kernel
theorem dX1_placeServed_35 : decode cX1_placeServed 35 = .ok (.istore 4, 2) := by decide +kernel
theorem dX1_placeServed_37 : decode cX1_placeServed 37 = .ok (.aload_n 1, 1) := by decide +kernel
theorem dX1_placeServed_38 : decode cX1_placeServed 38 = .ok (.aload_n 0, 1) := by decide +kernel
theorem dX1_placeServed_39 : decode cX1_placeServed 39 = .ok (.getfield 9, 3) := by decide +kernel
theorem dX1_placeServed_42 : decode cX1_placeServed 42 = .ok (.iload 4, 2) := by decide +kernel
theorem dX1_placeServed_44 : decode cX1_placeServed 44 = .ok (.iaload, 1) := by decide +kernel
theorem dX1_placeServed_45 : decode cX1_placeServed 45 = .ok (.invokevirtual 117, 3) := by decide +kernel
theorem dX1_placeServed_48 : decode cX1_placeServed 48 = .ok (.iconst 3, 1) := by decide +kernel
theorem dX1_placeServed_49 : decode cX1_placeServed 49 = .ok (.if_icmp .eq 6, 3) := by decide +kernel
theorem dX1_placeServed_52 : decode cX1_placeServed 52 = .ok (.iload 4, 2) := by decide +kernel
theorem dX1_placeServed_54 : decode cX1_placeServed 54 = .ok (.ireturn, 1) := by decide +kernel
theorem dX1_placeServed_55 : decode cX1_placeServed 55 = .ok (.iinc 3 1, 3) := by decide +kernel
theorem dX1_placeServed_58 : decode cX1_placeServed 58 = .ok (.goto (-56), 3) := by decide +kernel
theorem dX1_placeServed_61 : decode cX1_placeServed 61 = .ok (.iload_n 2, 1) := by decide +kernel
theorem dX1_placeServed_62 : decode cX1_placeServed 62 = .ok (.ifCond .eq 12, 3) := by decide +kernel
theorem dX1_placeServed_65 : decode cX1_placeServed 65 = .ok (.aload_n 0, 1) := by decide +kernel
theorem dX1_placeServed_66 : decode cX1_placeServed 66 = .ok (.getfield 27, 3) := by decide +kernel
theorem dX1_placeServed_69 : decode cX1_placeServed 69 = .ok (.iconst 1, 1) := by decide +kernel
theorem dX1_placeServed_70 : decode cX1_placeServed 70 = .ok (.isub, 1) := by decide +kernel
theorem dX1_placeServed_71 : decode cX1_placeServed 71 = .ok (.goto 4, 3) := by decide +kernel
theorem dX1_placeServed_74 : decode cX1_placeServed 74 = .ok (.iconst 0, 1) := by decide +kernel
theorem dX1_placeServed_75 : decode cX1_placeServed 75 = .ok (.ireturn, 1) := by decide +kernel
theorem dX1_takeOut_0 : decode cX1_takeOut 0 = .ok (.iload_n 1, 1) := by decide +kernel
theorem dX1_takeOut_1 : decode cX1_takeOut 1 = .ok (.ifCond .lt 20, 3) := by decide +kernel
theorem dX1_takeOut_4 : decode cX1_takeOut 4 = .ok (.iload_n 1, 1) := by decide +kernel
theorem dX1_takeOut_5 : decode cX1_takeOut 5 = .ok (.aload_n 0, 1) := by decide +kernel
theorem dX1_takeOut_6 : decode cX1_takeOut 6 = .ok (.getfield 27, 3) := by decide +kernel
theorem dX1_takeOut_9 : decode cX1_takeOut 9 = .ok (.if_icmp .ge 12, 3) := by decide +kernel
theorem dX1_takeOut_12 : decode cX1_takeOut 12 = .ok (.aload_n 0, 1) := by decide +kernel
theorem dX1_takeOut_13 : decode cX1_takeOut 13 = .ok (.getfield 27, 3) := by decide +kernel
theorem dX1_takeOut_16 : decode cX1_takeOut 16 = .ok (.bipush 9, 2) := by decide +kernel
theorem dX1_takeOut_18 : decode cX1_takeOut 18 = .ok (.if_icmp .le 4, 3) := by decide +kernel
theorem dX1_takeOut_21 : decode cX1_takeOut 21 = .ok (.return_, 1) := by decide +kernel
theorem dX1_takeOut_22 : decode cX1_takeOut 22 = .ok (.aload_n 0, 1) := by decide +kernel
theorem dX1_takeOut_23 : decode cX1_takeOut 23 = .ok (.dup, 1) := by decide +kernel
theorem dX1_takeOut_24 : decode cX1_takeOut 24 = .ok (.getfield 27, 3) := by decide +kernel
theorem dX1_takeOut_27 : decode cX1_takeOut 27 = .ok (.iconst 1, 1) := by decide +kernel
theorem dX1_takeOut_28 : decode cX1_takeOut 28 = .ok (.isub, 1) := by decide +kernel
theorem dX1_takeOut_29 : decode cX1_takeOut 29 = .ok (.putfield 27, 3) := by decide +kernel
theorem dX1_takeOut_32 : decode cX1_takeOut 32 = .ok (.iload_n 1, 1) := by decide +kernel
theorem dX1_takeOut_33 : decode cX1_takeOut 33 = .ok (.istore_n 2, 1) := by decide +kernel
theorem dX1_takeOut_34 : decode cX1_takeOut 34 = .ok (.iload_n 2, 1) := by decide +kernel
theorem dX1_takeOut_35 : decode cX1_takeOut 35 = .ok (.aload_n 0, 1) := by decide +kernel
theorem dX1_takeOut_36 : decode cX1_takeOut 36 = .ok (.getfield 27, 3) := by decide +kernel
theorem dX1_takeOut_39 : decode cX1_takeOut 39 = .ok (.if_icmp .ge 23, 3) := by decide +kernel
theorem dX1_takeOut_42 : decode cX1_takeOut 42 = .ok (.aload_n 0, 1) := by decide +kernel
theorem dX1_takeOut_43 : decode cX1_takeOut 43 = .ok (.getfield 9, 3) := by decide +kernel
theorem dX1_takeOut_46 : decode cX1_takeOut 46 = .ok (.iload_n 2, 1) := by decide +kernel
theorem dX1_takeOut_47 : decode cX1_takeOut 47 = .ok (.aload_n 0, 1) := by decide +kernel
theorem dX1_takeOut_48 : decode cX1_takeOut 48 = .ok (.getfield 9, 3) := by decide +kernel
theorem dX1_takeOut_51 : decode cX1_takeOut 51 = .ok (.iload_n 2, 1) := by decide +kernel
theorem dX1_takeOut_52 : decode cX1_takeOut 52 = .ok (.iconst 1, 1) := by decide +kernel
theorem dX1_takeOut_53 : decode cX1_takeOut 53 = .ok (.iadd, 1) := by decide +kernel
theorem dX1_takeOut_54 : decode cX1_takeOut 54 = .ok (.iaload, 1) := by decide +kernel
theorem dX1_takeOut_55 : decode cX1_takeOut 55 = .ok (.iastore, 1) := by decide +kernel
theorem dX1_takeOut_56 : decode cX1_takeOut 56 = .ok (.iinc 2 1, 3) := by decide +kernel
theorem dX1_takeOut_59 : decode cX1_takeOut 59 = .ok (.goto (-25), 3) := by decide +kernel
theorem dX1_takeOut_62 : decode cX1_takeOut 62 = .ok (.return_, 1) := by decide +kernel
theorem dX2_init_0 : decode cX2_init 0 = .ok (.aload_n 0, 1) := by decide +kernel
theorem dX2_init_1 : decode cX2_init 1 = .ok (.invokespecial 3, 3) := by decide +kernel
theorem dX2_init_4 : decode cX2_init 4 = .ok (.aload_n 0, 1) := by decide +kernel
theorem dX2_init_5 : decode cX2_init 5 = .ok (.iconst 5, 1) := by decide +kernel
theorem dX2_init_6 : decode cX2_init 6 = .ok (.newarray .int, 2) := by decide +kernel
theorem dX2_init_8 : decode cX2_init 8 = .ok (.putfield 9, 3) := by decide +kernel
theorem dX2_init_11 : decode cX2_init 11 = .ok (.aload_n 0, 1) := by decide +kernel
theorem dX2_init_12 : decode cX2_init 12 = .ok (.iconst 5, 1) := by decide +kernel
theorem dX2_init_13 : decode cX2_init 13 = .ok (.newarray .int, 2) := by decide +kernel
theorem dX2_init_15 : decode cX2_init 15 = .ok (.putfield 15, 3) := by decide +kernel
theorem dX2_init_18 : decode cX2_init 18 = .ok (.return_, 1) := by decide +kernel
theorem dX2_gather_0 : decode cX2_gather 0 = .ok (.aload_n 0, 1) := by decide +kernel
theorem dX2_gather_1 : decode cX2_gather 1 = .ok (.iconst 0, 1) := by decide +kernel
theorem dX2_gather_2 : decode cX2_gather 2 = .ok (.putfield 18, 3) := by decide +kernel
theorem dX2_gather_5 : decode cX2_gather 5 = .ok (.iconst 0, 1) := by decide +kernel
theorem dX2_gather_6 : decode cX2_gather 6 = .ok (.istore 4, 2) := by decide +kernel
theorem dX2_gather_8 : decode cX2_gather 8 = .ok (.iload 4, 2) := by decide +kernel
theorem dX2_gather_10 : decode cX2_gather 10 = .ok (.aload_n 1, 1) := by decide +kernel
theorem dX2_gather_11 : decode cX2_gather 11 = .ok (.getfield 22, 3) := by decide +kernel
theorem dX2_gather_14 : decode cX2_gather 14 = .ok (.if_icmp .ge 57, 3) := by decide +kernel
theorem dX2_gather_17 : decode cX2_gather 17 = .ok (.aload_n 0, 1) := by decide +kernel
theorem dX2_gather_18 : decode cX2_gather 18 = .ok (.getfield 18, 3) := by decide +kernel
theorem dX2_gather_21 : decode cX2_gather 21 = .ok (.iconst 5, 1) := by decide +kernel
theorem dX2_gather_22 : decode cX2_gather 22 = .ok (.if_icmp .ge 49, 3) := by decide +kernel
theorem dX2_gather_25 : decode cX2_gather 25 = .ok (.aload_n 1, 1) := by decide +kernel
theorem dX2_gather_26 : decode cX2_gather 26 = .ok (.iload 4, 2) := by decide +kernel
theorem dX2_gather_28 : decode cX2_gather 28 = .ok (.invokevirtual 27, 3) := by decide +kernel
theorem dX2_gather_31 : decode cX2_gather 31 = .ok (.iload_n 3, 1) := by decide +kernel
theorem dX2_gather_32 : decode cX2_gather 32 = .ok (.if_icmp .ne 33, 3) := by decide +kernel
theorem dX2_gather_35 : decode cX2_gather 35 = .ok (.aload_n 2, 1) := by decide +kernel
theorem dX2_gather_36 : decode cX2_gather 36 = .ok (.iload 4, 2) := by decide +kernel
theorem dX2_gather_38 : decode cX2_gather 38 = .ok (.invokevirtual 31, 3) := by decide +kernel
theorem dX2_gather_41 : decode cX2_gather 41 = .ok (.ifCond .ne 24, 3) := by decide +kernel
theorem dX2_gather_44 : decode cX2_gather 44 = .ok (.aload_n 0, 1) := by decide +kernel
theorem dX2_gather_45 : decode cX2_gather 45 = .ok (.getfield 9, 3) := by decide +kernel
theorem dX2_gather_48 : decode cX2_gather 48 = .ok (.aload_n 0, 1) := by decide +kernel
theorem dX2_gather_49 : decode cX2_gather 49 = .ok (.getfield 18, 3) := by decide +kernel
theorem dX2_gather_52 : decode cX2_gather 52 = .ok (.iload 4, 2) := by decide +kernel
theorem dX2_gather_54 : decode cX2_gather 54 = .ok (.iastore, 1) := by decide +kernel
theorem dX2_gather_55 : decode cX2_gather 55 = .ok (.aload_n 0, 1) := by decide +kernel
theorem dX2_gather_56 : decode cX2_gather 56 = .ok (.dup, 1) := by decide +kernel
theorem dX2_gather_57 : decode cX2_gather 57 = .ok (.getfield 18, 3) := by decide +kernel
theorem dX2_gather_60 : decode cX2_gather 60 = .ok (.iconst 1, 1) := by decide +kernel
theorem dX2_gather_61 : decode cX2_gather 61 = .ok (.iadd, 1) := by decide +kernel
theorem dX2_gather_62 : decode cX2_gather 62 = .ok (.putfield 18, 3) := by decide +kernel
theorem dX2_gather_65 : decode cX2_gather 65 = .ok (.iinc 4 1, 3) := by decide +kernel
theorem dX2_gather_68 : decode cX2_gather 68 = .ok (.goto (-60), 3) := by decide +kernel
theorem dX2_gather_71 : decode cX2_gather 71 = .ok (.aload_n 0, 1) := by decide +kernel
theorem dX2_gather_72 : decode cX2_gather 72 = .ok (.getfield 18, 3) := by decide +kernel
theorem dX2_gather_75 : decode cX2_gather 75 = .ok (.ifCond .le 7, 3) := by decide +kernel
theorem dX2_gather_78 : decode cX2_gather 78 = .ok (.iconst 1, 1) := by decide +kernel
theorem dX2_gather_79 : decode cX2_gather 79 = .ok (.goto 4, 3) := by decide +kernel
theorem dX2_gather_82 : decode cX2_gather 82 = .ok (.iconst 0, 1) := by decide +kernel
theorem dX2_gather_83 : decode cX2_gather 83 = .ok (.ireturn, 1) := by decide +kernel
theorem dX2_bestAt_0 : decode cX2_bestAt 0 = .ok (.iload_n 1, 1) := by decide +kernel
theorem dX2_bestAt_1 : decode cX2_bestAt 1 = .ok (.ifCond .lt 25, 3) := by decide +kernel
theorem dX2_bestAt_4 : decode cX2_bestAt 4 = .ok (.iload_n 1, 1) := by decide +kernel
theorem dX2_bestAt_5 : decode cX2_bestAt 5 = .ok (.aload_n 0, 1) := by decide +kernel
theorem dX2_bestAt_6 : decode cX2_bestAt 6 = .ok (.getfield 18, 3) := by decide +kernel
theorem dX2_bestAt_9 : decode cX2_bestAt 9 = .ok (.if_icmp .ge 17, 3) := by decide +kernel
theorem dX2_bestAt_12 : decode cX2_bestAt 12 = .ok (.iload_n 1, 1) := by decide +kernel
theorem dX2_bestAt_13 : decode cX2_bestAt 13 = .ok (.iconst 5, 1) := by decide +kernel
theorem dX2_bestAt_14 : decode cX2_bestAt 14 = .ok (.if_icmp .ge 12, 3) := by decide +kernel
theorem dX2_bestAt_17 : decode cX2_bestAt 17 = .ok (.aload_n 0, 1) := by decide +kernel
theorem dX2_bestAt_18 : decode cX2_bestAt 18 = .ok (.getfield 15, 3) := by decide +kernel
theorem dX2_bestAt_21 : decode cX2_bestAt 21 = .ok (.iload_n 1, 1) := by decide +kernel
theorem dX2_bestAt_22 : decode cX2_bestAt 22 = .ok (.iaload, 1) := by decide +kernel
theorem dX2_bestAt_23 : decode cX2_bestAt 23 = .ok (.goto 5, 3) := by decide +kernel
theorem dX2_bestAt_26 : decode cX2_bestAt 26 = .ok (.bipush (-4), 2) := by decide +kernel
theorem dX2_bestAt_28 : decode cX2_bestAt 28 = .ok (.ireturn, 1) := by decide +kernel
theorem dX2_markBest_0 : decode cX2_markBest 0 = .ok (.aload_n 0, 1) := by decide +kernel
theorem dX2_markBest_1 : decode cX2_markBest 1 = .ok (.getfield 9, 3) := by decide +kernel
theorem dX2_markBest_4 : decode cX2_markBest 4 = .ok (.iconst 0, 1) := by decide +kernel
theorem dX2_markBest_5 : decode cX2_markBest 5 = .ok (.aload_n 0, 1) := by decide +kernel
theorem dX2_markBest_6 : decode cX2_markBest 6 = .ok (.getfield 15, 3) := by decide +kernel
theorem dX2_markBest_9 : decode cX2_markBest 9 = .ok (.iconst 0, 1) := by decide +kernel
theorem dX2_markBest_10 : decode cX2_markBest 10 = .ok (.iconst 5, 1) := by decide +kernel
theorem dX2_markBest_11 : decode cX2_markBest 11 = .ok (.invokestatic 36, 3) := by decide +kernel
theorem dX2_markBest_14 : decode cX2_markBest 14 = .ok (.return_, 1) := by decide +kernel
theorem dX2_advance_0 : decode cX2_advance 0 = .ok (.aload_n 0, 1) := by decide +kernel
theorem dX2_advance_1 : decode cX2_advance 1 = .ok (.getfield 18, 3) := by decide +kernel
theorem dX2_advance_4 : decode cX2_advance 4 = .ok (.iconst 5, 1) := by decide +kernel
theorem dX2_advance_5 : decode cX2_advance 5 = .ok (.if_icmp .le 5, 3) := by decide +kernel
theorem dX2_advance_8 : decode cX2_advance 8 = .ok (.iconst 0, 1) := by decide +kernel
theorem dX2_advance_9 : decode cX2_advance 9 = .ok (.ireturn, 1) := by decide +kernel
theorem dX2_advance_10 : decode cX2_advance 10 = .ok (.aload_n 0, 1) := by decide +kernel
theorem dX2_advance_11 : decode cX2_advance 11 = .ok (.getfield 18, 3) := by decide +kernel
theorem dX2_advance_14 : decode cX2_advance 14 = .ok (.iconst 2, 1) := by decide +kernel
theorem dX2_advance_15 : decode cX2_advance 15 = .ok (.isub, 1) := by decide +kernel
theorem dX2_advance_16 : decode cX2_advance 16 = .ok (.istore_n 1, 1) := by decide +kernel
theorem dX2_advance_17 : decode cX2_advance 17 = .ok (.iload_n 1, 1) := by decide +kernel
theorem dX2_advance_18 : decode cX2_advance 18 = .ok (.ifCond .lt 26, 3) := by decide +kernel
theorem dX2_advance_21 : decode cX2_advance 21 = .ok (.aload_n 0, 1) := by decide +kernel
theorem dX2_advance_22 : decode cX2_advance 22 = .ok (.getfield 9, 3) := by decide +kernel
theorem dX2_advance_25 : decode cX2_advance 25 = .ok (.iload_n 1, 1) := by decide +kernel
theorem dX2_advance_26 : decode cX2_advance 26 = .ok (.iaload, 1) := by decide +kernel
theorem dX2_advance_27 : decode cX2_advance 27 = .ok (.aload_n 0, 1) := by decide +kernel
theorem dX2_advance_28 : decode cX2_advance 28 = .ok (.getfield 9, 3) := by decide +kernel
theorem dX2_advance_31 : decode cX2_advance 31 = .ok (.iload_n 1, 1) := by decide +kernel
theorem dX2_advance_32 : decode cX2_advance 32 = .ok (.iconst 1, 1) := by decide +kernel
theorem dX2_advance_33 : decode cX2_advance 33 = .ok (.iadd, 1) := by decide +kernel
theorem dX2_advance_34 : decode cX2_advance 34 = .ok (.iaload, 1) := by decide +kernel
theorem dX2_advance_35 : decode cX2_advance 35 = .ok (.if_icmp .le 9, 3) := by decide +kernel
theorem dX2_advance_38 : decode cX2_advance 38 = .ok (.iinc 1 (-1), 3) := by decide +kernel
theorem dX2_advance_41 : decode cX2_advance 41 = .ok (.goto (-24), 3) := by decide +kernel
theorem dX2_advance_44 : decode cX2_advance 44 = .ok (.iload_n 1, 1) := by decide +kernel
theorem dX2_advance_45 : decode cX2_advance 45 = .ok (.ifCond .ge 5, 3) := by decide +kernel
theorem dX2_advance_48 : decode cX2_advance 48 = .ok (.iconst 0, 1) := by decide +kernel
theorem dX2_advance_49 : decode cX2_advance 49 = .ok (.ireturn, 1) := by decide +kernel
theorem dX2_advance_50 : decode cX2_advance 50 = .ok (.aload_n 0, 1) := by decide +kernel
theorem dX2_advance_51 : decode cX2_advance 51 = .ok (.getfield 18, 3) := by decide +kernel
theorem dX2_advance_54 : decode cX2_advance 54 = .ok (.iconst 1, 1) := by decide +kernel
theorem dX2_advance_55 : decode cX2_advance 55 = .ok (.isub, 1) := by decide +kernel
theorem dX2_advance_56 : decode cX2_advance 56 = .ok (.istore_n 2, 1) := by decide +kernel
theorem dX2_advance_57 : decode cX2_advance 57 = .ok (.iload_n 2, 1) := by decide +kernel
theorem dX2_advance_58 : decode cX2_advance 58 = .ok (.iload_n 1, 1) := by decide +kernel
theorem dX2_advance_59 : decode cX2_advance 59 = .ok (.iconst 1, 1) := by decide +kernel
theorem dX2_advance_60 : decode cX2_advance 60 = .ok (.iadd, 1) := by decide +kernel
theorem dX2_advance_61 : decode cX2_advance 61 = .ok (.if_icmp .le 24, 3) := by decide +kernel
theorem dX2_advance_64 : decode cX2_advance 64 = .ok (.aload_n 0, 1) := by decide +kernel
theorem dX2_advance_65 : decode cX2_advance 65 = .ok (.getfield 9, 3) := by decide +kernel
theorem dX2_advance_68 : decode cX2_advance 68 = .ok (.iload_n 2, 1) := by decide +kernel
theorem dX2_advance_69 : decode cX2_advance 69 = .ok (.iaload, 1) := by decide +kernel
theorem dX2_advance_70 : decode cX2_advance 70 = .ok (.aload_n 0, 1) := by decide +kernel
theorem dX2_advance_71 : decode cX2_advance 71 = .ok (.getfield 9, 3) := by decide +kernel
theorem dX2_advance_74 : decode cX2_advance 74 = .ok (.iload_n 1, 1) := by decide +kernel
theorem dX2_advance_75 : decode cX2_advance 75 = .ok (.iaload, 1) := by decide +kernel
theorem dX2_advance_76 : decode cX2_advance 76 = .ok (.if_icmp .ge 9, 3) := by decide +kernel
theorem dX2_advance_79 : decode cX2_advance 79 = .ok (.iinc 2 (-1), 3) := by decide +kernel
theorem dX2_advance_82 : decode cX2_advance 82 = .ok (.goto (-25), 3) := by decide +kernel
theorem dX2_advance_85 : decode cX2_advance 85 = .ok (.aload_n 0, 1) := by decide +kernel
theorem dX2_advance_86 : decode cX2_advance 86 = .ok (.iload_n 1, 1) := by decide +kernel
theorem dX2_advance_87 : decode cX2_advance 87 = .ok (.iload_n 2, 1) := by decide +kernel
theorem dX2_advance_88 : decode cX2_advance 88 = .ok (.invokevirtual 42, 3) := by decide +kernel
theorem dX2_advance_91 : decode cX2_advance 91 = .ok (.iload_n 1, 1) := by decide +kernel
theorem dX2_advance_92 : decode cX2_advance 92 = .ok (.iconst 1, 1) := by decide +kernel
theorem dX2_advance_93 : decode cX2_advance 93 = .ok (.iadd, 1) := by decide +kernel
theorem dX2_advance_94 : decode cX2_advance 94 = .ok (.istore_n 3, 1) := by decide +kernel
theorem dX2_advance_95 : decode cX2_advance 95 = .ok (.aload_n 0, 1) := by decide +kernel
theorem dX2_advance_96 : decode cX2_advance 96 = .ok (.getfield 18, 3) := by decide +kernel
theorem dX2_advance_99 : decode cX2_advance 99 = .ok (.iconst 1, 1) := by decide +kernel
theorem dX2_advance_100 : decode cX2_advance 100 = .ok (.isub, 1) := by decide +kernel
theorem dX2_advance_101 : decode cX2_advance 101 = .ok (.istore 4, 2) := by decide +kernel
theorem dX2_advance_103 : decode cX2_advance 103 = .ok (.iload_n 3, 1) := by decide +kernel
theorem dX2_advance_104 : decode cX2_advance 104 = .ok (.iload 4, 2) := by decide +kernel
theorem dX2_advance_106 : decode cX2_advance 106 = .ok (.if_icmp .ge 19, 3) := by decide +kernel
theorem dX2_advance_109 : decode cX2_advance 109 = .ok (.aload_n 0, 1) := by decide +kernel
theorem dX2_advance_110 : decode cX2_advance 110 = .ok (.iload_n 3, 1) := by decide +kernel
theorem dX2_advance_111 : decode cX2_advance 111 = .ok (.iload 4, 2) := by decide +kernel
theorem dX2_advance_113 : decode cX2_advance 113 = .ok (.invokevirtual 42, 3) := by decide +kernel
theorem dX2_advance_116 : decode cX2_advance 116 = .ok (.iinc 3 1, 3) := by decide +kernel
theorem dX2_advance_119 : decode cX2_advance 119 = .ok (.iinc 4 (-1), 3) := by decide +kernel
theorem dX2_advance_122 : decode cX2_advance 122 = .ok (.goto (-19), 3) := by decide +kernel
theorem dX2_advance_125 : decode cX2_advance 125 = .ok (.iconst 1, 1) := by decide +kernel
theorem dX2_advance_126 : decode cX2_advance 126 = .ok (.ireturn, 1) := by decide +kernel
theorem dX2_swap_0 : decode cX2_swap 0 = .ok (.iload_n 1, 1) := by decide +kernel
theorem dX2_swap_1 : decode cX2_swap 1 = .ok (.ifCond .lt 17, 3) := by decide +kernel
theorem dX2_swap_4 : decode cX2_swap 4 = .ok (.iload_n 1, 1) := by decide +kernel
theorem dX2_swap_5 : decode cX2_swap 5 = .ok (.iconst 5, 1) := by decide +kernel
theorem dX2_swap_6 : decode cX2_swap 6 = .ok (.if_icmp .ge 12, 3) := by decide +kernel
theorem dX2_swap_9 : decode cX2_swap 9 = .ok (.iload_n 2, 1) := by decide +kernel
theorem dX2_swap_10 : decode cX2_swap 10 = .ok (.ifCond .lt 8, 3) := by decide +kernel
theorem dX2_swap_13 : decode cX2_swap 13 = .ok (.iload_n 2, 1) := by decide +kernel
theorem dX2_swap_14 : decode cX2_swap 14 = .ok (.iconst 5, 1) := by decide +kernel
theorem dX2_swap_15 : decode cX2_swap 15 = .ok (.if_icmp .lt 4, 3) := by decide +kernel
theorem dX2_swap_18 : decode cX2_swap 18 = .ok (.return_, 1) := by decide +kernel
theorem dX2_swap_19 : decode cX2_swap 19 = .ok (.aload_n 0, 1) := by decide +kernel
theorem dX2_swap_20 : decode cX2_swap 20 = .ok (.getfield 9, 3) := by decide +kernel
theorem dX2_swap_23 : decode cX2_swap 23 = .ok (.iload_n 1, 1) := by decide +kernel
theorem dX2_swap_24 : decode cX2_swap 24 = .ok (.iaload, 1) := by decide +kernel
theorem dX2_swap_25 : decode cX2_swap 25 = .ok (.istore_n 3, 1) := by decide +kernel
theorem dX2_swap_26 : decode cX2_swap 26 = .ok (.aload_n 0, 1) := by decide +kernel
theorem dX2_swap_27 : decode cX2_swap 27 = .ok (.getfield 9, 3) := by decide +kernel
theorem dX2_swap_30 : decode cX2_swap 30 = .ok (.iload_n 1, 1) := by decide +kernel
theorem dX2_swap_31 : decode cX2_swap 31 = .ok (.aload_n 0, 1) := by decide +kernel
theorem dX2_swap_32 : decode cX2_swap 32 = .ok (.getfield 9, 3) := by decide +kernel
theorem dX2_swap_35 : decode cX2_swap 35 = .ok (.iload_n 2, 1) := by decide +kernel
theorem dX2_swap_36 : decode cX2_swap 36 = .ok (.iaload, 1) := by decide +kernel
theorem dX2_swap_37 : decode cX2_swap 37 = .ok (.iastore, 1) := by decide +kernel
theorem dX2_swap_38 : decode cX2_swap 38 = .ok (.aload_n 0, 1) := by decide +kernel
theorem dX2_swap_39 : decode cX2_swap 39 = .ok (.getfield 9, 3) := by decide +kernel
theorem dX2_swap_42 : decode cX2_swap 42 = .ok (.iload_n 2, 1) := by decide +kernel
theorem dX2_swap_43 : decode cX2_swap 43 = .ok (.iload_n 3, 1) := by decide +kernel
theorem dX2_swap_44 : decode cX2_swap 44 = .ok (.iastore, 1) := by decide +kernel
theorem dX2_swap_45 : decode cX2_swap 45 = .ok (.return_, 1) := by decide +kernel
theorem dX2_tellComings_0 : decode cX2_tellComings 0 = .ok (.iconst 0, 1) := by decide +kernel
theorem dX2_tellComings_1 : decode cX2_tellComings 1 = .ok (.istore_n 3, 1) := by decide +kernel
theorem dX2_tellComings_2 : decode cX2_tellComings 2 = .ok (.iload_n 3, 1) := by decide +kernel
theorem dX2_tellComings_3 : decode cX2_tellComings 3 = .ok (.aload_n 0, 1) := by decide +kernel
theorem dX2_tellComings_4 : decode cX2_tellComings 4 = .ok (.getfield 18, 3) := by decide +kernel
theorem dX2_tellComings_7 : decode cX2_tellComings 7 = .ok (.if_icmp .ge 27, 3) := by decide +kernel
theorem dX2_tellComings_10 : decode cX2_tellComings 10 = .ok (.iload_n 3, 1) := by decide +kernel
theorem dX2_tellComings_11 : decode cX2_tellComings 11 = .ok (.iconst 5, 1) := by decide +kernel
theorem dX2_tellComings_12 : decode cX2_tellComings 12 = .ok (.if_icmp .ge 22, 3) := by decide +kernel
theorem dX2_tellComings_15 : decode cX2_tellComings 15 = .ok (.aload_n 1, 1) := by decide +kernel
theorem dX2_tellComings_16 : decode cX2_tellComings 16 = .ok (.aload_n 0, 1) := by decide +kernel
theorem dX2_tellComings_17 : decode cX2_tellComings 17 = .ok (.getfield 9, 3) := by decide +kernel
theorem dX2_tellComings_20 : decode cX2_tellComings 20 = .ok (.iload_n 3, 1) := by decide +kernel
theorem dX2_tellComings_21 : decode cX2_tellComings 21 = .ok (.iaload, 1) := by decide +kernel
theorem dX2_tellComings_22 : decode cX2_tellComings 22 = .ok (.iload_n 2, 1) := by decide +kernel
theorem dX2_tellComings_23 : decode cX2_tellComings 23 = .ok (.iload_n 3, 1) := by decide +kernel
theorem dX2_tellComings_24 : decode cX2_tellComings 24 = .ok (.iadd, 1) := by decide +kernel
theorem dX2_tellComings_25 : decode cX2_tellComings 25 = .ok (.invokevirtual 46, 3) := by decide +kernel
theorem dX2_tellComings_28 : decode cX2_tellComings 28 = .ok (.iinc 3 1, 3) := by decide +kernel
theorem dX2_tellComings_31 : decode cX2_tellComings 31 = .ok (.goto (-29), 3) := by decide +kernel
theorem dX2_tellComings_34 : decode cX2_tellComings 34 = .ok (.return_, 1) := by decide +kernel
theorem dX2_allAte_0 : decode cX2_allAte 0 = .ok (.iconst 0, 1) := by decide +kernel
theorem dX2_allAte_1 : decode cX2_allAte 1 = .ok (.istore_n 2, 1) := by decide +kernel
theorem dX2_allAte_2 : decode cX2_allAte 2 = .ok (.iload_n 2, 1) := by decide +kernel
theorem dX2_allAte_3 : decode cX2_allAte 3 = .ok (.aload_n 0, 1) := by decide +kernel
theorem dX2_allAte_4 : decode cX2_allAte 4 = .ok (.getfield 18, 3) := by decide +kernel
theorem dX2_allAte_7 : decode cX2_allAte 7 = .ok (.if_icmp .ge 30, 3) := by decide +kernel
theorem dX2_allAte_10 : decode cX2_allAte 10 = .ok (.iload_n 2, 1) := by decide +kernel
theorem dX2_allAte_11 : decode cX2_allAte 11 = .ok (.iconst 5, 1) := by decide +kernel
theorem dX2_allAte_12 : decode cX2_allAte 12 = .ok (.if_icmp .ge 25, 3) := by decide +kernel
theorem dX2_allAte_15 : decode cX2_allAte 15 = .ok (.aload_n 1, 1) := by decide +kernel
theorem dX2_allAte_16 : decode cX2_allAte 16 = .ok (.aload_n 0, 1) := by decide +kernel
theorem dX2_allAte_17 : decode cX2_allAte 17 = .ok (.getfield 9, 3) := by decide +kernel
theorem dX2_allAte_20 : decode cX2_allAte 20 = .ok (.iload_n 2, 1) := by decide +kernel
theorem dX2_allAte_21 : decode cX2_allAte 21 = .ok (.iaload, 1) := by decide +kernel
theorem dX2_allAte_22 : decode cX2_allAte 22 = .ok (.invokevirtual 31, 3) := by decide +kernel
theorem dX2_allAte_25 : decode cX2_allAte 25 = .ok (.iconst 3, 1) := by decide +kernel
theorem dX2_allAte_26 : decode cX2_allAte 26 = .ok (.if_icmp .eq 5, 3) := by decide +kernel
theorem dX2_allAte_29 : decode cX2_allAte 29 = .ok (.iconst 0, 1) := by decide +kernel
theorem dX2_allAte_30 : decode cX2_allAte 30 = .ok (.ireturn, 1) := by decide +kernel
theorem dX2_allAte_31 : decode cX2_allAte 31 = .ok (.iinc 2 1, 3) := by decide +kernel
theorem dX2_allAte_34 : decode cX2_allAte 34 = .ok (.goto (-32), 3) := by decide +kernel
theorem dX2_allAte_37 : decode cX2_allAte 37 = .ok (.iconst 1, 1) := by decide +kernel
theorem dX2_allAte_38 : decode cX2_allAte 38 = .ok (.ireturn, 1) := by decide +kernel
theorem dX2_longestWait_0 : decode cX2_longestWait 0 = .ok (.iconst 0, 1) := by decide +kernel
theorem dX2_longestWait_1 : decode cX2_longestWait 1 = .ok (.istore_n 3, 1) := by decide +kernel
theorem dX2_longestWait_2 : decode cX2_longestWait 2 = .ok (.iconst 0, 1) := by decide +kernel
theorem dX2_longestWait_3 : decode cX2_longestWait 3 = .ok (.istore 4, 2) := by decide +kernel
theorem dX2_longestWait_5 : decode cX2_longestWait 5 = .ok (.iload 4, 2) := by decide +kernel
theorem dX2_longestWait_7 : decode cX2_longestWait 7 = .ok (.aload_n 0, 1) := by decide +kernel
theorem dX2_longestWait_8 : decode cX2_longestWait 8 = .ok (.getfield 18, 3) := by decide +kernel
theorem dX2_longestWait_11 : decode cX2_longestWait 11 = .ok (.if_icmp .ge 72, 3) := by decide +kernel
theorem dX2_longestWait_14 : decode cX2_longestWait 14 = .ok (.iload 4, 2) := by decide +kernel
theorem dX2_longestWait_16 : decode cX2_longestWait 16 = .ok (.iconst 5, 1) := by decide +kernel
theorem dX2_longestWait_17 : decode cX2_longestWait 17 = .ok (.if_icmp .ge 66, 3) := by decide +kernel
theorem dX2_longestWait_20 : decode cX2_longestWait 20 = .ok (.aload_n 1, 1) := by decide +kernel
theorem dX2_longestWait_21 : decode cX2_longestWait 21 = .ok (.aload_n 0, 1) := by decide +kernel
theorem dX2_longestWait_22 : decode cX2_longestWait 22 = .ok (.getfield 9, 3) := by decide +kernel
theorem dX2_longestWait_25 : decode cX2_longestWait 25 = .ok (.iload 4, 2) := by decide +kernel
theorem dX2_longestWait_27 : decode cX2_longestWait 27 = .ok (.iaload, 1) := by decide +kernel
theorem dX2_longestWait_28 : decode cX2_longestWait 28 = .ok (.invokevirtual 31, 3) := by decide +kernel
theorem dX2_longestWait_31 : decode cX2_longestWait 31 = .ok (.iconst 3, 1) := by decide +kernel
theorem dX2_longestWait_32 : decode cX2_longestWait 32 = .ok (.if_icmp .ne 7, 3) := by decide +kernel
theorem dX2_longestWait_35 : decode cX2_longestWait 35 = .ok (.iconst 1, 1) := by decide +kernel
theorem dX2_longestWait_36 : decode cX2_longestWait 36 = .ok (.goto 4, 3) := by decide +kernel
theorem dX2_longestWait_39 : decode cX2_longestWait 39 = .ok (.iconst 0, 1) := by decide +kernel
theorem dX2_longestWait_40 : decode cX2_longestWait 40 = .ok (.istore 5, 2) := by decide +kernel
theorem dX2_longestWait_42 : decode cX2_longestWait 42 = .ok (.iload 5, 2) := by decide +kernel
theorem dX2_longestWait_44 : decode cX2_longestWait 44 = .ok (.ifCond .eq 22, 3) := by decide +kernel
theorem dX2_longestWait_47 : decode cX2_longestWait 47 = .ok (.aload_n 1, 1) := by decide +kernel
theorem dX2_longestWait_48 : decode cX2_longestWait 48 = .ok (.aload_n 0, 1) := by decide +kernel
theorem dX2_longestWait_49 : decode cX2_longestWait 49 = .ok (.getfield 9, 3) := by decide +kernel
theorem dX2_longestWait_52 : decode cX2_longestWait 52 = .ok (.iload 4, 2) := by decide +kernel
theorem dX2_longestWait_54 : decode cX2_longestWait 54 = .ok (.iaload, 1) := by decide +kernel
theorem dX2_longestWait_55 : decode cX2_longestWait 55 = .ok (.invokevirtual 49, 3) := by decide +kernel
theorem dX2_longestWait_58 : decode cX2_longestWait 58 = .ok (.iload_n 2, 1) := by decide +kernel
theorem dX2_longestWait_59 : decode cX2_longestWait 59 = .ok (.isub, 1) := by decide +kernel
theorem dX2_longestWait_60 : decode cX2_longestWait 60 = .ok (.iload 4, 2) := by decide +kernel
theorem dX2_longestWait_62 : decode cX2_longestWait 62 = .ok (.isub, 1) := by decide +kernel
theorem dX2_longestWait_63 : decode cX2_longestWait 63 = .ok (.goto 5, 3) := by decide +kernel
theorem dX2_longestWait_66 : decode cX2_longestWait 66 = .ok (.bipush 99, 2) := by decide +kernel
theorem dX2_longestWait_68 : decode cX2_longestWait 68 = .ok (.istore 6, 2) := by decide +kernel
theorem dX2_longestWait_70 : decode cX2_longestWait 70 = .ok (.iload_n 3, 1) := by decide +kernel
theorem dX2_longestWait_71 : decode cX2_longestWait 71 = .ok (.iload 6, 2) := by decide +kernel
theorem dX2_longestWait_73 : decode cX2_longestWait 73 = .ok (.invokestatic 52, 3) := by decide +kernel
theorem dX2_longestWait_76 : decode cX2_longestWait 76 = .ok (.istore_n 3, 1) := by decide +kernel
theorem dX2_longestWait_77 : decode cX2_longestWait 77 = .ok (.iinc 4 1, 3) := by decide +kernel
theorem dX2_longestWait_80 : decode cX2_longestWait 80 = .ok (.goto (-75), 3) := by decide +kernel
theorem dX2_longestWait_83 : decode cX2_longestWait 83 = .ok (.iload_n 3, 1) := by decide +kernel
theorem dX2_longestWait_84 : decode cX2_longestWait 84 = .ok (.ireturn, 1) := by decide +kernel
theorem dX3_init_0 : decode cX3_init 0 = .ok (.aload_n 0, 1) := by decide +kernel
theorem dX3_init_1 : decode cX3_init 1 = .ok (.invokespecial 3, 3) := by decide +kernel
theorem dX3_init_4 : decode cX3_init 4 = .ok (.aload_n 0, 1) := by decide +kernel
theorem dX3_init_5 : decode cX3_init 5 = .ok (.bipush 9, 2) := by decide +kernel
theorem dX3_init_7 : decode cX3_init 7 = .ok (.newarray .int, 2) := by decide +kernel
theorem dX3_init_9 : decode cX3_init 9 = .ok (.putfield 9, 3) := by decide +kernel
theorem dX3_init_12 : decode cX3_init 12 = .ok (.aload_n 0, 1) := by decide +kernel
theorem dX3_init_13 : decode cX3_init 13 = .ok (.bipush 9, 2) := by decide +kernel
theorem dX3_init_15 : decode cX3_init 15 = .ok (.newarray .int, 2) := by decide +kernel
theorem dX3_init_17 : decode cX3_init 17 = .ok (.putfield 15, 3) := by decide +kernel
theorem dX3_init_20 : decode cX3_init 20 = .ok (.aload_n 0, 1) := by decide +kernel
theorem dX3_init_21 : decode cX3_init 21 = .ok (.bipush 9, 2) := by decide +kernel
theorem dX3_init_23 : decode cX3_init 23 = .ok (.newarray .int, 2) := by decide +kernel
theorem dX3_init_25 : decode cX3_init 25 = .ok (.putfield 18, 3) := by decide +kernel
theorem dX3_init_28 : decode cX3_init 28 = .ok (.return_, 1) := by decide +kernel
theorem dX3_clear_0 : decode cX3_clear 0 = .ok (.aload_n 0, 1) := by decide +kernel
theorem dX3_clear_1 : decode cX3_clear 1 = .ok (.iconst 0, 1) := by decide +kernel
theorem dX3_clear_2 : decode cX3_clear 2 = .ok (.putfield 21, 3) := by decide +kernel
theorem dX3_clear_5 : decode cX3_clear 5 = .ok (.aload_n 0, 1) := by decide +kernel
theorem dX3_clear_6 : decode cX3_clear 6 = .ok (.iconst 2, 1) := by decide +kernel
theorem dX3_clear_7 : decode cX3_clear 7 = .ok (.putfield 25, 3) := by decide +kernel
theorem dX3_clear_10 : decode cX3_clear 10 = .ok (.aload_n 0, 1) := by decide +kernel
theorem dX3_clear_11 : decode cX3_clear 11 = .ok (.bipush 20, 2) := by decide +kernel
theorem dX3_clear_13 : decode cX3_clear 13 = .ok (.putfield 28, 3) := by decide +kernel
theorem dX3_clear_16 : decode cX3_clear 16 = .ok (.aload_n 0, 1) := by decide +kernel
theorem dX3_clear_17 : decode cX3_clear 17 = .ok (.iconst 0, 1) := by decide +kernel
theorem dX3_clear_18 : decode cX3_clear 18 = .ok (.putfield 31, 3) := by decide +kernel
theorem dX3_clear_21 : decode cX3_clear 21 = .ok (.return_, 1) := by decide +kernel
theorem dX3_copyFrom_0 : decode cX3_copyFrom 0 = .ok (.aload_n 1, 1) := by decide +kernel
theorem dX3_copyFrom_1 : decode cX3_copyFrom 1 = .ok (.getfield 9, 3) := by decide +kernel
theorem dX3_copyFrom_4 : decode cX3_copyFrom 4 = .ok (.iconst 0, 1) := by decide +kernel
theorem dX3_copyFrom_5 : decode cX3_copyFrom 5 = .ok (.aload_n 0, 1) := by decide +kernel
theorem dX3_copyFrom_6 : decode cX3_copyFrom 6 = .ok (.getfield 9, 3) := by decide +kernel
theorem dX3_copyFrom_9 : decode cX3_copyFrom 9 = .ok (.iconst 0, 1) := by decide +kernel
theorem dX3_copyFrom_10 : decode cX3_copyFrom 10 = .ok (.bipush 9, 2) := by decide +kernel
theorem dX3_copyFrom_12 : decode cX3_copyFrom 12 = .ok (.invokestatic 34, 3) := by decide +kernel
theorem dX3_copyFrom_15 : decode cX3_copyFrom 15 = .ok (.aload_n 1, 1) := by decide +kernel
theorem dX3_copyFrom_16 : decode cX3_copyFrom 16 = .ok (.getfield 15, 3) := by decide +kernel
theorem dX3_copyFrom_19 : decode cX3_copyFrom 19 = .ok (.iconst 0, 1) := by decide +kernel
theorem dX3_copyFrom_20 : decode cX3_copyFrom 20 = .ok (.aload_n 0, 1) := by decide +kernel
theorem dX3_copyFrom_21 : decode cX3_copyFrom 21 = .ok (.getfield 15, 3) := by decide +kernel
theorem dX3_copyFrom_24 : decode cX3_copyFrom 24 = .ok (.iconst 0, 1) := by decide +kernel
theorem dX3_copyFrom_25 : decode cX3_copyFrom 25 = .ok (.bipush 9, 2) := by decide +kernel
theorem dX3_copyFrom_27 : decode cX3_copyFrom 27 = .ok (.invokestatic 34, 3) := by decide +kernel
