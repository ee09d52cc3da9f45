theorem dX3_copyFrom_30 : decode cX3_copyFrom 30 = .ok (.aload_n 1, 1) := by decide +kernel
theorem dX3_copyFrom_31 : decode cX3_copyFrom 31 = .ok (.getfield 18, 3) := by decide +kernel
theorem dX3_copyFrom_34 : decode cX3_copyFrom 34 = .ok (.iconst 0, 1) := by decide +kernel
theorem dX3_copyFrom_35 : decode cX3_copyFrom 35 = .ok (.aload_n 0, 1) := by decide +kernel
theorem dX3_copyFrom_36 : decode cX3_copyFrom 36 = .ok (.getfield 18, 3) := by decide +kernel
theorem dX3_copyFrom_39 : decode cX3_copyFrom 39 = .ok (.iconst 0, 1) := by decide +kernel
theorem dX3_copyFrom_40 : decode cX3_copyFrom 40 = .ok (.bipush 9, 2) := by decide +kernel
theorem dX3_copyFrom_42 : decode cX3_copyFrom 42 = .ok (.invokestatic 34, 3) := by decide +kernel
theorem dX3_copyFrom_45 : decode cX3_copyFrom 45 = .ok (.aload_n 0, 1) := by decide +kernel
theorem dX3_copyFrom_46 : decode cX3_copyFrom 46 = .ok (.aload_n 1, 1) := by decide +kernel
theorem dX3_copyFrom_47 : decode cX3_copyFrom 47 = .ok (.getfield 21, 3) := by decide +kernel
theorem dX3_copyFrom_50 : decode cX3_copyFrom 50 = .ok (.putfield 21, 3) := by decide +kernel
theorem dX3_copyFrom_53 : decode cX3_copyFrom 53 = .ok (.aload_n 0, 1) := by decide +kernel
theorem dX3_copyFrom_54 : decode cX3_copyFrom 54 = .ok (.aload_n 1, 1) := by decide +kernel
theorem dX3_copyFrom_55 : decode cX3_copyFrom 55 = .ok (.getfield 25, 3) := by decide +kernel
theorem dX3_copyFrom_58 : decode cX3_copyFrom 58 = .ok (.putfield 25, 3) := by decide +kernel
theorem dX3_copyFrom_61 : decode cX3_copyFrom 61 = .ok (.aload_n 0, 1) := by decide +kernel
theorem dX3_copyFrom_62 : decode cX3_copyFrom 62 = .ok (.aload_n 1, 1) := by decide +kernel
theorem dX3_copyFrom_63 : decode cX3_copyFrom 63 = .ok (.getfield 28, 3) := by decide +kernel
theorem dX3_copyFrom_66 : decode cX3_copyFrom 66 = .ok (.putfield 28, 3) := by decide +kernel
theorem dX3_copyFrom_69 : decode cX3_copyFrom 69 = .ok (.aload_n 0, 1) := by decide +kernel
theorem dX3_copyFrom_70 : decode cX3_copyFrom 70 = .ok (.aload_n 1, 1) := by decide +kernel
theorem dX3_copyFrom_71 : decode cX3_copyFrom 71 = .ok (.getfield 31, 3) := by decide +kernel
theorem dX3_copyFrom_74 : decode cX3_copyFrom 74 = .ok (.putfield 31, 3) := by decide +kernel
theorem dX3_copyFrom_77 : decode cX3_copyFrom 77 = .ok (.return_, 1) := by decide +kernel
theorem dX3_addPerson_0 : decode cX3_addPerson 0 = .ok (.aload_n 0, 1) := by decide +kernel
theorem dX3_addPerson_1 : decode cX3_addPerson 1 = .ok (.getfield 21, 3) := by decide +kernel
theorem dX3_addPerson_4 : decode cX3_addPerson 4 = .ok (.ifCond .lt 22, 3) := by decide +kernel
theorem dX3_addPerson_7 : decode cX3_addPerson 7 = .ok (.aload_n 0, 1) := by decide +kernel
theorem dX3_addPerson_8 : decode cX3_addPerson 8 = .ok (.getfield 21, 3) := by decide +kernel
theorem dX3_addPerson_11 : decode cX3_addPerson 11 = .ok (.bipush 9, 2) := by decide +kernel
theorem dX3_addPerson_13 : decode cX3_addPerson 13 = .ok (.if_icmp .ge 13, 3) := by decide +kernel
theorem dX3_addPerson_16 : decode cX3_addPerson 16 = .ok (.iload_n 1, 1) := by decide +kernel
theorem dX3_addPerson_17 : decode cX3_addPerson 17 = .ok (.iconst 4, 1) := by decide +kernel
theorem dX3_addPerson_18 : decode cX3_addPerson 18 = .ok (.if_icmp .ge 8, 3) := by decide +kernel
theorem dX3_addPerson_21 : decode cX3_addPerson 21 = .ok (.iload_n 3, 1) := by decide +kernel
theorem dX3_addPerson_22 : decode cX3_addPerson 22 = .ok (.iconst 4, 1) := by decide +kernel
theorem dX3_addPerson_23 : decode cX3_addPerson 23 = .ok (.if_icmp .le 5, 3) := by decide +kernel
theorem dX3_addPerson_26 : decode cX3_addPerson 26 = .ok (.iconst 0, 1) := by decide +kernel
theorem dX3_addPerson_27 : decode cX3_addPerson 27 = .ok (.ireturn, 1) := by decide +kernel
theorem dX3_addPerson_28 : decode cX3_addPerson 28 = .ok (.iload_n 3, 1) := by decide +kernel
theorem dX3_addPerson_29 : decode cX3_addPerson 29 = .ok (.ifCond .eq 14, 3) := by decide +kernel
theorem dX3_addPerson_32 : decode cX3_addPerson 32 = .ok (.aload_n 0, 1) := by decide +kernel
theorem dX3_addPerson_33 : decode cX3_addPerson 33 = .ok (.iload_n 3, 1) := by decide +kernel
theorem dX3_addPerson_34 : decode cX3_addPerson 34 = .ok (.invokevirtual 40, 3) := by decide +kernel
theorem dX3_addPerson_37 : decode cX3_addPerson 37 = .ok (.iconst 5, 1) := by decide +kernel
theorem dX3_addPerson_38 : decode cX3_addPerson 38 = .ok (.if_icmp .lt 5, 3) := by decide +kernel
theorem dX3_addPerson_41 : decode cX3_addPerson 41 = .ok (.iconst 0, 1) := by decide +kernel
theorem dX3_addPerson_42 : decode cX3_addPerson 42 = .ok (.ireturn, 1) := by decide +kernel
theorem dX3_addPerson_43 : decode cX3_addPerson 43 = .ok (.aload_n 0, 1) := by decide +kernel
theorem dX3_addPerson_44 : decode cX3_addPerson 44 = .ok (.getfield 9, 3) := by decide +kernel
theorem dX3_addPerson_47 : decode cX3_addPerson 47 = .ok (.aload_n 0, 1) := by decide +kernel
theorem dX3_addPerson_48 : decode cX3_addPerson 48 = .ok (.getfield 21, 3) := by decide +kernel
theorem dX3_addPerson_51 : decode cX3_addPerson 51 = .ok (.iload_n 1, 1) := by decide +kernel
theorem dX3_addPerson_52 : decode cX3_addPerson 52 = .ok (.iastore, 1) := by decide +kernel
theorem dX3_addPerson_53 : decode cX3_addPerson 53 = .ok (.aload_n 0, 1) := by decide +kernel
theorem dX3_addPerson_54 : decode cX3_addPerson 54 = .ok (.getfield 15, 3) := by decide +kernel
theorem dX3_addPerson_57 : decode cX3_addPerson 57 = .ok (.aload_n 0, 1) := by decide +kernel
theorem dX3_addPerson_58 : decode cX3_addPerson 58 = .ok (.getfield 21, 3) := by decide +kernel
theorem dX3_addPerson_61 : decode cX3_addPerson 61 = .ok (.iload_n 2, 1) := by decide +kernel
theorem dX3_addPerson_62 : decode cX3_addPerson 62 = .ok (.iastore, 1) := by decide +kernel
theorem dX3_addPerson_63 : decode cX3_addPerson 63 = .ok (.aload_n 0, 1) := by decide +kernel
theorem dX3_addPerson_64 : decode cX3_addPerson 64 = .ok (.getfield 18, 3) := by decide +kernel
theorem dX3_addPerson_67 : decode cX3_addPerson 67 = .ok (.aload_n 0, 1) := by decide +kernel
theorem dX3_addPerson_68 : decode cX3_addPerson 68 = .ok (.getfield 21, 3) := by decide +kernel
theorem dX3_addPerson_71 : decode cX3_addPerson 71 = .ok (.iload_n 3, 1) := by decide +kernel
theorem dX3_addPerson_72 : decode cX3_addPerson 72 = .ok (.iastore, 1) := by decide +kernel
theorem dX3_addPerson_73 : decode cX3_addPerson 73 = .ok (.aload_n 0, 1) := by decide +kernel
theorem dX3_addPerson_74 : decode cX3_addPerson 74 = .ok (.dup, 1) := by decide +kernel
theorem dX3_addPerson_75 : decode cX3_addPerson 75 = .ok (.getfield 21, 3) := by decide +kernel
theorem dX3_addPerson_78 : decode cX3_addPerson 78 = .ok (.iconst 1, 1) := by decide +kernel
theorem dX3_addPerson_79 : decode cX3_addPerson 79 = .ok (.iadd, 1) := by decide +kernel
theorem dX3_addPerson_80 : decode cX3_addPerson 80 = .ok (.putfield 21, 3) := by decide +kernel
theorem dX3_addPerson_83 : decode cX3_addPerson 83 = .ok (.iconst 1, 1) := by decide +kernel
theorem dX3_addPerson_84 : decode cX3_addPerson 84 = .ok (.ireturn, 1) := by decide +kernel
theorem dX3_setBaker_0 : decode cX3_setBaker 0 = .ok (.iload_n 1, 1) := by decide +kernel
theorem dX3_setBaker_1 : decode cX3_setBaker 1 = .ok (.iconst 1, 1) := by decide +kernel
theorem dX3_setBaker_2 : decode cX3_setBaker 2 = .ok (.if_icmp .lt 15, 3) := by decide +kernel
theorem dX3_setBaker_5 : decode cX3_setBaker 5 = .ok (.iload_n 1, 1) := by decide +kernel
theorem dX3_setBaker_6 : decode cX3_setBaker 6 = .ok (.bipush 9, 2) := by decide +kernel
theorem dX3_setBaker_8 : decode cX3_setBaker 8 = .ok (.if_icmp .gt 9, 3) := by decide +kernel
theorem dX3_setBaker_11 : decode cX3_setBaker 11 = .ok (.iload_n 2, 1) := by decide +kernel
theorem dX3_setBaker_12 : decode cX3_setBaker 12 = .ok (.bipush 40, 2) := by decide +kernel
theorem dX3_setBaker_14 : decode cX3_setBaker 14 = .ok (.if_icmp .le 5, 3) := by decide +kernel
theorem dX3_setBaker_17 : decode cX3_setBaker 17 = .ok (.iconst 0, 1) := by decide +kernel
theorem dX3_setBaker_18 : decode cX3_setBaker 18 = .ok (.ireturn, 1) := by decide +kernel
theorem dX3_setBaker_19 : decode cX3_setBaker 19 = .ok (.aload_n 0, 1) := by decide +kernel
theorem dX3_setBaker_20 : decode cX3_setBaker 20 = .ok (.iload_n 1, 1) := by decide +kernel
theorem dX3_setBaker_21 : decode cX3_setBaker 21 = .ok (.putfield 25, 3) := by decide +kernel
theorem dX3_setBaker_24 : decode cX3_setBaker 24 = .ok (.aload_n 0, 1) := by decide +kernel
theorem dX3_setBaker_25 : decode cX3_setBaker 25 = .ok (.iload_n 2, 1) := by decide +kernel
theorem dX3_setBaker_26 : decode cX3_setBaker 26 = .ok (.putfield 28, 3) := by decide +kernel
theorem dX3_setBaker_29 : decode cX3_setBaker 29 = .ok (.iconst 1, 1) := by decide +kernel
theorem dX3_setBaker_30 : decode cX3_setBaker 30 = .ok (.ireturn, 1) := by decide +kernel
theorem dX3_setRumour_0 : decode cX3_setRumour 0 = .ok (.iload_n 1, 1) := by decide +kernel
theorem dX3_setRumour_1 : decode cX3_setRumour 1 = .ok (.iconst 2, 1) := by decide +kernel
theorem dX3_setRumour_2 : decode cX3_setRumour 2 = .ok (.if_icmp .lt 9, 3) := by decide +kernel
theorem dX3_setRumour_5 : decode cX3_setRumour 5 = .ok (.iload_n 1, 1) := by decide +kernel
theorem dX3_setRumour_6 : decode cX3_setRumour 6 = .ok (.bipush 30, 2) := by decide +kernel
theorem dX3_setRumour_8 : decode cX3_setRumour 8 = .ok (.if_icmp .le 5, 3) := by decide +kernel
theorem dX3_setRumour_11 : decode cX3_setRumour 11 = .ok (.iconst 0, 1) := by decide +kernel
theorem dX3_setRumour_12 : decode cX3_setRumour 12 = .ok (.ireturn, 1) := by decide +kernel
theorem dX3_setRumour_13 : decode cX3_setRumour 13 = .ok (.aload_n 0, 1) := by decide +kernel
theorem dX3_setRumour_14 : decode cX3_setRumour 14 = .ok (.iload_n 1, 1) := by decide +kernel
theorem dX3_setRumour_15 : decode cX3_setRumour 15 = .ok (.putfield 31, 3) := by decide +kernel
theorem dX3_setRumour_18 : decode cX3_setRumour 18 = .ok (.iconst 1, 1) := by decide +kernel
theorem dX3_setRumour_19 : decode cX3_setRumour 19 = .ok (.ireturn, 1) := by decide +kernel
theorem dX3_howManyOf_0 : decode cX3_howManyOf 0 = .ok (.iconst 0, 1) := by decide +kernel
theorem dX3_howManyOf_1 : decode cX3_howManyOf 1 = .ok (.istore_n 2, 1) := by decide +kernel
theorem dX3_howManyOf_2 : decode cX3_howManyOf 2 = .ok (.iconst 0, 1) := by decide +kernel
theorem dX3_howManyOf_3 : decode cX3_howManyOf 3 = .ok (.istore_n 3, 1) := by decide +kernel
theorem dX3_howManyOf_4 : decode cX3_howManyOf 4 = .ok (.iload_n 3, 1) := by decide +kernel
theorem dX3_howManyOf_5 : decode cX3_howManyOf 5 = .ok (.aload_n 0, 1) := by decide +kernel
theorem dX3_howManyOf_6 : decode cX3_howManyOf 6 = .ok (.getfield 21, 3) := by decide +kernel
theorem dX3_howManyOf_9 : decode cX3_howManyOf 9 = .ok (.if_icmp .ge 28, 3) := by decide +kernel
theorem dX3_howManyOf_12 : decode cX3_howManyOf 12 = .ok (.iload_n 3, 1) := by decide +kernel
theorem dX3_howManyOf_13 : decode cX3_howManyOf 13 = .ok (.bipush 9, 2) := by decide +kernel
theorem dX3_howManyOf_15 : decode cX3_howManyOf 15 = .ok (.if_icmp .ge 22, 3) := by decide +kernel
theorem dX3_howManyOf_18 : decode cX3_howManyOf 18 = .ok (.aload_n 0, 1) := by decide +kernel
theorem dX3_howManyOf_19 : decode cX3_howManyOf 19 = .ok (.getfield 18, 3) := by decide +kernel
theorem dX3_howManyOf_22 : decode cX3_howManyOf 22 = .ok (.iload_n 3, 1) := by decide +kernel
theorem dX3_howManyOf_23 : decode cX3_howManyOf 23 = .ok (.iaload, 1) := by decide +kernel
theorem dX3_howManyOf_24 : decode cX3_howManyOf 24 = .ok (.iload_n 1, 1) := by decide +kernel
theorem dX3_howManyOf_25 : decode cX3_howManyOf 25 = .ok (.if_icmp .ne 6, 3) := by decide +kernel
theorem dX3_howManyOf_28 : decode cX3_howManyOf 28 = .ok (.iinc 2 1, 3) := by decide +kernel
theorem dX3_howManyOf_31 : decode cX3_howManyOf 31 = .ok (.iinc 3 1, 3) := by decide +kernel
theorem dX3_howManyOf_34 : decode cX3_howManyOf 34 = .ok (.goto (-30), 3) := by decide +kernel
theorem dX3_howManyOf_37 : decode cX3_howManyOf 37 = .ok (.iload_n 2, 1) := by decide +kernel
theorem dX3_howManyOf_38 : decode cX3_howManyOf 38 = .ok (.ireturn, 1) := by decide +kernel
theorem dX3_has_0 : decode cX3_has 0 = .ok (.iload_n 1, 1) := by decide +kernel
theorem dX3_has_1 : decode cX3_has 1 = .ok (.ifCond .lt 15, 3) := by decide +kernel
theorem dX3_has_4 : decode cX3_has 4 = .ok (.iload_n 1, 1) := by decide +kernel
theorem dX3_has_5 : decode cX3_has 5 = .ok (.aload_n 0, 1) := by decide +kernel
theorem dX3_has_6 : decode cX3_has 6 = .ok (.getfield 21, 3) := by decide +kernel
theorem dX3_has_9 : decode cX3_has 9 = .ok (.if_icmp .ge 7, 3) := by decide +kernel
theorem dX3_has_12 : decode cX3_has 12 = .ok (.iconst 1, 1) := by decide +kernel
theorem dX3_has_13 : decode cX3_has 13 = .ok (.goto 4, 3) := by decide +kernel
theorem dX3_has_16 : decode cX3_has 16 = .ok (.iconst 0, 1) := by decide +kernel
theorem dX3_has_17 : decode cX3_has 17 = .ok (.ireturn, 1) := by decide +kernel
theorem dX3_kindOf_0 : decode cX3_kindOf 0 = .ok (.iload_n 1, 1) := by decide +kernel
theorem dX3_kindOf_1 : decode cX3_kindOf 1 = .ok (.ifCond .lt 18, 3) := by decide +kernel
theorem dX3_kindOf_4 : decode cX3_kindOf 4 = .ok (.iload_n 1, 1) := by decide +kernel
theorem dX3_kindOf_5 : decode cX3_kindOf 5 = .ok (.bipush 9, 2) := by decide +kernel
theorem dX3_kindOf_7 : decode cX3_kindOf 7 = .ok (.if_icmp .ge 12, 3) := by decide +kernel
theorem dX3_kindOf_10 : decode cX3_kindOf 10 = .ok (.aload_n 0, 1) := by decide +kernel
theorem dX3_kindOf_11 : decode cX3_kindOf 11 = .ok (.getfield 9, 3) := by decide +kernel
theorem dX3_kindOf_14 : decode cX3_kindOf 14 = .ok (.iload_n 1, 1) := by decide +kernel
theorem dX3_kindOf_15 : decode cX3_kindOf 15 = .ok (.iaload, 1) := by decide +kernel
theorem dX3_kindOf_16 : decode cX3_kindOf 16 = .ok (.goto 4, 3) := by decide +kernel
theorem dX3_kindOf_19 : decode cX3_kindOf 19 = .ok (.iconst 0, 1) := by decide +kernel
theorem dX3_kindOf_20 : decode cX3_kindOf 20 = .ok (.ireturn, 1) := by decide +kernel
theorem dX3_comingOf_0 : decode cX3_comingOf 0 = .ok (.iload_n 1, 1) := by decide +kernel
theorem dX3_comingOf_1 : decode cX3_comingOf 1 = .ok (.ifCond .lt 18, 3) := by decide +kernel
theorem dX3_comingOf_4 : decode cX3_comingOf 4 = .ok (.iload_n 1, 1) := by decide +kernel
theorem dX3_comingOf_5 : decode cX3_comingOf 5 = .ok (.bipush 9, 2) := by decide +kernel
theorem dX3_comingOf_7 : decode cX3_comingOf 7 = .ok (.if_icmp .ge 12, 3) := by decide +kernel
theorem dX3_comingOf_10 : decode cX3_comingOf 10 = .ok (.aload_n 0, 1) := by decide +kernel
theorem dX3_comingOf_11 : decode cX3_comingOf 11 = .ok (.getfield 15, 3) := by decide +kernel
theorem dX3_comingOf_14 : decode cX3_comingOf 14 = .ok (.iload_n 1, 1) := by decide +kernel
theorem dX3_comingOf_15 : decode cX3_comingOf 15 = .ok (.iaload, 1) := by decide +kernel
theorem dX3_comingOf_16 : decode cX3_comingOf 16 = .ok (.goto 4, 3) := by decide +kernel
theorem dX3_comingOf_19 : decode cX3_comingOf 19 = .ok (.iconst 0, 1) := by decide +kernel
theorem dX3_comingOf_20 : decode cX3_comingOf 20 = .ok (.ireturn, 1) := by decide +kernel
theorem dX3_kinOf_0 : decode cX3_kinOf 0 = .ok (.iload_n 1, 1) := by decide +kernel
theorem dX3_kinOf_1 : decode cX3_kinOf 1 = .ok (.ifCond .lt 18, 3) := by decide +kernel
theorem dX3_kinOf_4 : decode cX3_kinOf 4 = .ok (.iload_n 1, 1) := by decide +kernel
theorem dX3_kinOf_5 : decode cX3_kinOf 5 = .ok (.bipush 9, 2) := by decide +kernel
theorem dX3_kinOf_7 : decode cX3_kinOf 7 = .ok (.if_icmp .ge 12, 3) := by decide +kernel
theorem dX3_kinOf_10 : decode cX3_kinOf 10 = .ok (.aload_n 0, 1) := by decide +kernel
theorem dX3_kinOf_11 : decode cX3_kinOf 11 = .ok (.getfield 18, 3) := by decide +kernel
theorem dX3_kinOf_14 : decode cX3_kinOf 14 = .ok (.iload_n 1, 1) := by decide +kernel
theorem dX3_kinOf_15 : decode cX3_kinOf 15 = .ok (.iaload, 1) := by decide +kernel
theorem dX3_kinOf_16 : decode cX3_kinOf 16 = .ok (.goto 4, 3) := by decide +kernel
theorem dX3_kinOf_19 : decode cX3_kinOf 19 = .ok (.iconst 0, 1) := by decide +kernel
theorem dX3_kinOf_20 : decode cX3_kinOf 20 = .ok (.ireturn, 1) := by decide +kernel
theorem dX3_setKind_0 : decode cX3_setKind 0 = .ok (.iload_n 1, 1) := by decide +kernel
theorem dX3_setKind_1 : decode cX3_setKind 1 = .ok (.ifCond .lt 16, 3) := by decide +kernel
theorem dX3_setKind_4 : decode cX3_setKind 4 = .ok (.iload_n 1, 1) := by decide +kernel
theorem dX3_setKind_5 : decode cX3_setKind 5 = .ok (.bipush 9, 2) := by decide +kernel
theorem dX3_setKind_7 : decode cX3_setKind 7 = .ok (.if_icmp .ge 10, 3) := by decide +kernel
theorem dX3_setKind_10 : decode cX3_setKind 10 = .ok (.aload_n 0, 1) := by decide +kernel
theorem dX3_setKind_11 : decode cX3_setKind 11 = .ok (.getfield 9, 3) := by decide +kernel
theorem dX3_setKind_14 : decode cX3_setKind 14 = .ok (.iload_n 1, 1) := by decide +kernel
theorem dX3_setKind_15 : decode cX3_setKind 15 = .ok (.iload_n 2, 1) := by decide +kernel
theorem dX3_setKind_16 : decode cX3_setKind 16 = .ok (.iastore, 1) := by decide +kernel
theorem dX3_setKind_17 : decode cX3_setKind 17 = .ok (.return_, 1) := by decide +kernel
theorem dX3_setComing_0 : decode cX3_setComing 0 = .ok (.iload_n 1, 1) := by decide +kernel
theorem dX3_setComing_1 : decode cX3_setComing 1 = .ok (.ifCond .lt 16, 3) := by decide +kernel
theorem dX3_setComing_4 : decode cX3_setComing 4 = .ok (.iload_n 1, 1) := by decide +kernel
theorem dX3_setComing_5 : decode cX3_setComing 5 = .ok (.bipush 9, 2) := by decide +kernel
theorem dX3_setComing_7 : decode cX3_setComing 7 = .ok (.if_icmp .ge 10, 3) := by decide +kernel
theorem dX3_setComing_10 : decode cX3_setComing 10 = .ok (.aload_n 0, 1) := by decide +kernel
theorem dX3_setComing_11 : decode cX3_setComing 11 = .ok (.getfield 15, 3) := by decide +kernel
theorem dX3_setComing_14 : decode cX3_setComing 14 = .ok (.iload_n 1, 1) := by decide +kernel
theorem dX3_setComing_15 : decode cX3_setComing 15 = .ok (.iload_n 2, 1) := by decide +kernel
theorem dX3_setComing_16 : decode cX3_setComing 16 = .ok (.iastore, 1) := by decide +kernel
theorem dX3_setComing_17 : decode cX3_setComing 17 = .ok (.return_, 1) := by decide +kernel
theorem dX3_letsPass_0 : decode cX3_letsPass 0 = .ok (.iload_n 1, 1) := by decide +kernel
theorem dX3_letsPass_1 : decode cX3_letsPass 1 = .ok (.ifCond .lt 29, 3) := by decide +kernel
theorem dX3_letsPass_4 : decode cX3_letsPass 4 = .ok (.iload_n 1, 1) := by decide +kernel
theorem dX3_letsPass_5 : decode cX3_letsPass 5 = .ok (.bipush 9, 2) := by decide +kernel
theorem dX3_letsPass_7 : decode cX3_letsPass 7 = .ok (.if_icmp .ge 23, 3) := by decide +kernel
theorem dX3_letsPass_10 : decode cX3_letsPass 10 = .ok (.iload_n 2, 1) := by decide +kernel
theorem dX3_letsPass_11 : decode cX3_letsPass 11 = .ok (.ifCond .lt 19, 3) := by decide +kernel
theorem dX3_letsPass_14 : decode cX3_letsPass 14 = .ok (.iload_n 2, 1) := by decide +kernel
theorem dX3_letsPass_15 : decode cX3_letsPass 15 = .ok (.bipush 9, 2) := by decide +kernel
theorem dX3_letsPass_17 : decode cX3_letsPass 17 = .ok (.if_icmp .ge 13, 3) := by decide +kernel
theorem dX3_letsPass_20 : decode cX3_letsPass 20 = .ok (.aload_n 0, 1) := by decide +kernel
theorem dX3_letsPass_21 : decode cX3_letsPass 21 = .ok (.getfield 9, 3) := by decide +kernel
theorem dX3_letsPass_24 : decode cX3_letsPass 24 = .ok (.iload_n 1, 1) := by decide +kernel
theorem dX3_letsPass_25 : decode cX3_letsPass 25 = .ok (.iaload, 1) := by decide +kernel
theorem dX3_letsPass_26 : decode cX3_letsPass 26 = .ok (.iconst 1, 1) := by decide +kernel
theorem dX3_letsPass_27 : decode cX3_letsPass 27 = .ok (.if_icmp .eq 5, 3) := by decide +kernel
theorem dX3_letsPass_30 : decode cX3_letsPass 30 = .ok (.iconst 0, 1) := by decide +kernel
theorem dX3_letsPass_31 : decode cX3_letsPass 31 = .ok (.ireturn, 1) := by decide +kernel
theorem dX3_letsPass_32 : decode cX3_letsPass 32 = .ok (.aload_n 0, 1) := by decide +kernel
theorem dX3_letsPass_33 : decode cX3_letsPass 33 = .ok (.getfield 18, 3) := by decide +kernel
theorem dX3_letsPass_36 : decode cX3_letsPass 36 = .ok (.iload_n 1, 1) := by decide +kernel
theorem dX3_letsPass_37 : decode cX3_letsPass 37 = .ok (.iaload, 1) := by decide +kernel
theorem dX3_letsPass_38 : decode cX3_letsPass 38 = .ok (.ifCond .eq 18, 3) := by decide +kernel
theorem dX3_letsPass_41 : decode cX3_letsPass 41 = .ok (.aload_n 0, 1) := by decide +kernel
theorem dX3_letsPass_42 : decode cX3_letsPass 42 = .ok (.getfield 18, 3) := by decide +kernel
theorem dX3_letsPass_45 : decode cX3_letsPass 45 = .ok (.iload_n 1, 1) := by decide +kernel
theorem dX3_letsPass_46 : decode cX3_letsPass 46 = .ok (.iaload, 1) := by decide +kernel
theorem dX3_letsPass_47 : decode cX3_letsPass 47 = .ok (.aload_n 0, 1) := by decide +kernel
theorem dX3_letsPass_48 : decode cX3_letsPass 48 = .ok (.getfield 18, 3) := by decide +kernel
theorem dX3_letsPass_51 : decode cX3_letsPass 51 = .ok (.iload_n 2, 1) := by decide +kernel
theorem dX3_letsPass_52 : decode cX3_letsPass 52 = .ok (.iaload, 1) := by decide +kernel
theorem dX3_letsPass_53 : decode cX3_letsPass 53 = .ok (.if_icmp .eq 7, 3) := by decide +kernel
theorem dX3_letsPass_56 : decode cX3_letsPass 56 = .ok (.iconst 1, 1) := by decide +kernel
theorem dX3_letsPass_57 : decode cX3_letsPass 57 = .ok (.goto 4, 3) := by decide +kernel
theorem dX3_letsPass_60 : decode cX3_letsPass 60 = .ok (.iconst 0, 1) := by decide +kernel
theorem dX3_letsPass_61 : decode cX3_letsPass 61 = .ok (.ireturn, 1) := by decide +kernel
theorem dX3_givesIn_0 : decode cX3_givesIn 0 = .ok (.aload_n 0, 1) := by decide +kernel
theorem dX3_givesIn_1 : decode cX3_givesIn 1 = .ok (.getfield 25, 3) := by decide +kernel
theorem dX3_givesIn_4 : decode cX3_givesIn 4 = .ok (.ifCond .le 16, 3) := by decide +kernel
theorem dX3_givesIn_7 : decode cX3_givesIn 7 = .ok (.iload_n 1, 1) := by decide +kernel
theorem dX3_givesIn_8 : decode cX3_givesIn 8 = .ok (.aload_n 0, 1) := by decide +kernel
theorem dX3_givesIn_9 : decode cX3_givesIn 9 = .ok (.getfield 25, 3) := by decide +kernel
theorem dX3_givesIn_12 : decode cX3_givesIn 12 = .ok (.irem, 1) := by decide +kernel
theorem dX3_givesIn_13 : decode cX3_givesIn 13 = .ok (.ifCond .ne 7, 3) := by decide +kernel
theorem dX3_givesIn_16 : decode cX3_givesIn 16 = .ok (.iconst 1, 1) := by decide +kernel
theorem dX3_givesIn_17 : decode cX3_givesIn 17 = .ok (.goto 4, 3) := by decide +kernel
theorem dX3_givesIn_20 : decode cX3_givesIn 20 = .ok (.iconst 0, 1) := by decide +kernel
theorem dX3_givesIn_21 : decode cX3_givesIn 21 = .ok (.ireturn, 1) := by decide +kernel
theorem dX3_rumourIn_0 : decode cX3_rumourIn 0 = .ok (.aload_n 0, 1) := by decide +kernel
theorem dX3_rumourIn_1 : decode cX3_rumourIn 1 = .ok (.getfield 31, 3) := by decide +kernel
theorem dX3_rumourIn_4 : decode cX3_rumourIn 4 = .ok (.ifCond .le 16, 3) := by decide +kernel
theorem dX3_rumourIn_7 : decode cX3_rumourIn 7 = .ok (.iload_n 1, 1) := by decide +kernel
theorem dX3_rumourIn_8 : decode cX3_rumourIn 8 = .ok (.aload_n 0, 1) := by decide +kernel
theorem dX3_rumourIn_9 : decode cX3_rumourIn 9 = .ok (.getfield 31, 3) := by decide +kernel
theorem dX3_rumourIn_12 : decode cX3_rumourIn 12 = .ok (.irem, 1) := by decide +kernel
theorem dX3_rumourIn_13 : decode cX3_rumourIn 13 = .ok (.ifCond .ne 7, 3) := by decide +kernel
theorem dX3_rumourIn_16 : decode cX3_rumourIn 16 = .ok (.iconst 1, 1) := by decide +kernel
theorem dX3_rumourIn_17 : decode cX3_rumourIn 17 = .ok (.goto 4, 3) := by decide +kernel
theorem dX3_rumourIn_20 : decode cX3_rumourIn 20 = .ok (.iconst 0, 1) := by decide +kernel
theorem dX3_rumourIn_21 : decode cX3_rumourIn 21 = .ok (.ireturn, 1) := by decide +kernel
theorem dX4_init_0 : decode cX4_init 0 = .ok (.aload_n 0, 1) := by decide +kernel
theorem dX4_init_1 : decode cX4_init 1 = .ok (.invokespecial 3, 3) := by decide +kernel
theorem dX4_init_4 : decode cX4_init 4 = .ok (.aload_n 0, 1) := by decide +kernel
theorem dX4_init_5 : decode cX4_init 5 = .ok (.bipush 6, 2) := by decide +kernel
theorem dX4_init_7 : decode cX4_init 7 = .ok (.newarray .int, 2) := by decide +kernel
theorem dX4_init_9 : decode cX4_init 9 = .ok (.putfield 9, 3) := by decide +kernel
theorem dX4_init_12 : decode cX4_init 12 = .ok (.aload_n 0, 1) := by decide +kernel
theorem dX4_init_13 : decode cX4_init 13 = .ok (.bipush 6, 2) := by decide +kernel
theorem dX4_init_15 : decode cX4_init 15 = .ok (.newarray .int, 2) := by decide +kernel
theorem dX4_init_17 : decode cX4_init 17 = .ok (.putfield 15, 3) := by decide +kernel
theorem dX4_init_20 : decode cX4_init 20 = .ok (.aload_n 0, 1) := by decide +kernel
theorem dX4_init_21 : decode cX4_init 21 = .ok (.bipush 6, 2) := by decide +kernel
theorem dX4_init_23 : decode cX4_init 23 = .ok (.newarray .boolean, 2) := by decide +kernel
theorem dX4_init_25 : decode cX4_init 25 = .ok (.putfield 18, 3) := by decide +kernel
theorem dX4_init_28 : decode cX4_init 28 = .ok (.return_, 1) := by decide +kernel
theorem dX4_add_0 : decode cX4_add 0 = .ok (.aload_n 0, 1) := by decide +kernel
theorem dX4_add_1 : decode cX4_add 1 = .ok (.getfield 22, 3) := by decide +kernel
theorem dX4_add_4 : decode cX4_add 4 = .ok (.ifCond .lt 12, 3) := by decide +kernel
theorem dX4_add_7 : decode cX4_add 7 = .ok (.aload_n 0, 1) := by decide +kernel
theorem dX4_add_8 : decode cX4_add 8 = .ok (.getfield 22, 3) := by decide +kernel
theorem dX4_add_11 : decode cX4_add 11 = .ok (.bipush 6, 2) := by decide +kernel
theorem dX4_add_13 : decode cX4_add 13 = .ok (.if_icmp .lt 5, 3) := by decide +kernel
theorem dX4_add_16 : decode cX4_add 16 = .ok (.iconst 0, 1) := by decide +kernel
theorem dX4_add_17 : decode cX4_add 17 = .ok (.ireturn, 1) := by decide +kernel
theorem dX4_add_18 : decode cX4_add 18 = .ok (.aload_n 0, 1) := by decide +kernel
theorem dX4_add_19 : decode cX4_add 19 = .ok (.getfield 9, 3) := by decide +kernel
theorem dX4_add_22 : decode cX4_add 22 = .ok (.aload_n 0, 1) := by decide +kernel
theorem dX4_add_23 : decode cX4_add 23 = .ok (.getfield 22, 3) := by decide +kernel
theorem dX4_add_26 : decode cX4_add 26 = .ok (.iload_n 1, 1) := by decide +kernel
theorem dX4_add_27 : decode cX4_add 27 = .ok (.iastore, 1) := by decide +kernel
theorem dX4_add_28 : decode cX4_add 28 = .ok (.aload_n 0, 1) := by decide +kernel
theorem dX4_add_29 : decode cX4_add 29 = .ok (.getfield 15, 3) := by decide +kernel
theorem dX4_add_32 : decode cX4_add 32 = .ok (.aload_n 0, 1) := by decide +kernel
theorem dX4_add_33 : decode cX4_add 33 = .ok (.getfield 22, 3) := by decide +kernel
theorem dX4_add_36 : decode cX4_add 36 = .ok (.iload_n 2, 1) := by decide +kernel
theorem dX4_add_37 : decode cX4_add 37 = .ok (.iastore, 1) := by decide +kernel
theorem dX4_add_38 : decode cX4_add 38 = .ok (.aload_n 0, 1) := by decide +kernel
theorem dX4_add_39 : decode cX4_add 39 = .ok (.getfield 18, 3) := by decide +kernel
theorem dX4_add_42 : decode cX4_add 42 = .ok (.aload_n 0, 1) := by decide +kernel
theorem dX4_add_43 : decode cX4_add 43 = .ok (.getfield 22, 3) := by decide +kernel
theorem dX4_add_46 : decode cX4_add 46 = .ok (.iload_n 3, 1) := by decide +kernel
theorem dX4_add_47 : decode cX4_add 47 = .ok (.bastore, 1) := by decide +kernel
theorem dX4_add_48 : decode cX4_add 48 = .ok (.aload_n 0, 1) := by decide +kernel
theorem dX4_add_49 : decode cX4_add 49 = .ok (.dup, 1) := by decide +kernel
theorem dX4_add_50 : decode cX4_add 50 = .ok (.getfield 22, 3) := by decide +kernel
theorem dX4_add_53 : decode cX4_add 53 = .ok (.iconst 1, 1) := by decide +kernel
theorem dX4_add_54 : decode cX4_add 54 = .ok (.iadd, 1) := by decide +kernel
theorem dX4_add_55 : decode cX4_add 55 = .ok (.putfield 22, 3) := by decide +kernel
theorem dX4_add_58 : decode cX4_add 58 = .ok (.iconst 1, 1) := by decide +kernel
theorem dX4_add_59 : decode cX4_add 59 = .ok (.ireturn, 1) := by decide +kernel
theorem dX4_empty_0 : decode cX4_empty 0 = .ok (.aload_n 0, 1) := by decide +kernel
theorem dX4_empty_1 : decode cX4_empty 1 = .ok (.iconst 0, 1) := by decide +kernel
theorem dX4_empty_2 : decode cX4_empty 2 = .ok (.putfield 22, 3) := by decide +kernel
theorem dX4_empty_5 : decode cX4_empty 5 = .ok (.return_, 1) := by decide +kernel
theorem dX4_holdsFor_0 : decode cX4_holdsFor 0 = .ok (.aload_n 2, 1) := by decide +kernel
theorem dX4_holdsFor_1 : decode cX4_holdsFor 1 = .ok (.getfield 26, 3) := by decide +kernel
theorem dX4_holdsFor_4 : decode cX4_holdsFor 4 = .ok (.istore_n 3, 1) := by decide +kernel
theorem dX4_holdsFor_5 : decode cX4_holdsFor 5 = .ok (.aload_n 0, 1) := by decide +kernel
theorem dX4_holdsFor_6 : decode cX4_holdsFor 6 = .ok (.invokevirtual 31, 3) := by decide +kernel
theorem dX4_holdsFor_9 : decode cX4_holdsFor 9 = .ok (.istore 4, 2) := by decide +kernel
theorem dX4_holdsFor_11 : decode cX4_holdsFor 11 = .ok (.iconst 0, 1) := by decide +kernel
theorem dX4_holdsFor_12 : decode cX4_holdsFor 12 = .ok (.istore 5, 2) := by decide +kernel
theorem dX4_holdsFor_14 : decode cX4_holdsFor 14 = .ok (.iload 5, 2) := by decide +kernel
theorem dX4_holdsFor_16 : decode cX4_holdsFor 16 = .ok (.iload 4, 2) := by decide +kernel
theorem dX4_holdsFor_18 : decode cX4_holdsFor 18 = .ok (.if_icmp .ge 23, 3) := by decide +kernel
theorem dX4_holdsFor_21 : decode cX4_holdsFor 21 = .ok (.aload_n 2, 1) := by decide +kernel
theorem dX4_holdsFor_22 : decode cX4_holdsFor 22 = .ok (.aload_n 1, 1) := by decide +kernel
theorem dX4_holdsFor_23 : decode cX4_holdsFor 23 = .ok (.aload_n 1, 1) := by decide +kernel
theorem dX4_holdsFor_24 : decode cX4_holdsFor 24 = .ok (.aload_n 2, 1) := by decide +kernel
theorem dX4_holdsFor_25 : decode cX4_holdsFor 25 = .ok (.getfield 26, 3) := by decide +kernel
theorem dX4_holdsFor_28 : decode cX4_holdsFor 28 = .ok (.invokevirtual 35, 3) := by decide +kernel
theorem dX4_holdsFor_31 : decode cX4_holdsFor 31 = .ok (.iconst 0, 1) := by decide +kernel
theorem dX4_holdsFor_32 : decode cX4_holdsFor 32 = .ok (.invokevirtual 41, 3) := by decide +kernel
theorem dX4_holdsFor_35 : decode cX4_holdsFor 35 = .ok (.iinc 5 1, 3) := by decide +kernel
theorem dX4_holdsFor_38 : decode cX4_holdsFor 38 = .ok (.goto (-24), 3) := by decide +kernel
theorem dX4_holdsFor_41 : decode cX4_holdsFor 41 = .ok (.iconst 0, 1) := by decide +kernel
theorem dX4_holdsFor_42 : decode cX4_holdsFor 42 = .ok (.istore 5, 2) := by decide +kernel
theorem dX4_holdsFor_44 : decode cX4_holdsFor 44 = .ok (.iload 5, 2) := by decide +kernel
theorem dX4_holdsFor_46 : decode cX4_holdsFor 46 = .ok (.aload_n 0, 1) := by decide +kernel
theorem dX4_holdsFor_47 : decode cX4_holdsFor 47 = .ok (.getfield 22, 3) := by decide +kernel
theorem dX4_holdsFor_50 : decode cX4_holdsFor 50 = .ok (.if_icmp .ge 75, 3) := by decide +kernel
theorem dX4_holdsFor_53 : decode cX4_holdsFor 53 = .ok (.iload 5, 2) := by decide +kernel
theorem dX4_holdsFor_55 : decode cX4_holdsFor 55 = .ok (.bipush 6, 2) := by decide +kernel
theorem dX4_holdsFor_57 : decode cX4_holdsFor 57 = .ok (.if_icmp .ge 68, 3) := by decide +kernel
theorem dX4_holdsFor_60 : decode cX4_holdsFor 60 = .ok (.aload_n 2, 1) := by decide +kernel
theorem dX4_holdsFor_61 : decode cX4_holdsFor 61 = .ok (.aload_n 0, 1) := by decide +kernel
theorem dX4_holdsFor_62 : decode cX4_holdsFor 62 = .ok (.getfield 9, 3) := by decide +kernel
theorem dX4_holdsFor_65 : decode cX4_holdsFor 65 = .ok (.iload 5, 2) := by decide +kernel
theorem dX4_holdsFor_67 : decode cX4_holdsFor 67 = .ok (.iaload, 1) := by decide +kernel
theorem dX4_holdsFor_68 : decode cX4_holdsFor 68 = .ok (.invokevirtual 45, 3) := by decide +kernel
theorem dX4_holdsFor_71 : decode cX4_holdsFor 71 = .ok (.iconst 3, 1) := by decide +kernel
theorem dX4_holdsFor_72 : decode cX4_holdsFor 72 = .ok (.if_icmp .ne 30, 3) := by decide +kernel
theorem dX4_holdsFor_75 : decode cX4_holdsFor 75 = .ok (.aload_n 2, 1) := by decide +kernel
theorem dX4_holdsFor_76 : decode cX4_holdsFor 76 = .ok (.aload_n 0, 1) := by decide +kernel
theorem dX4_holdsFor_77 : decode cX4_holdsFor 77 = .ok (.getfield 9, 3) := by decide +kernel
theorem dX4_holdsFor_80 : decode cX4_holdsFor 80 = .ok (.iload 5, 2) := by decide +kernel
theorem dX4_holdsFor_82 : decode cX4_holdsFor 82 = .ok (.iaload, 1) := by decide +kernel
theorem dX4_holdsFor_83 : decode cX4_holdsFor 83 = .ok (.invokevirtual 49, 3) := by decide +kernel
theorem dX4_holdsFor_86 : decode cX4_holdsFor 86 = .ok (.iload_n 3, 1) := by decide +kernel
theorem dX4_holdsFor_87 : decode cX4_holdsFor 87 = .ok (.aload_n 0, 1) := by decide +kernel
theorem dX4_holdsFor_88 : decode cX4_holdsFor 88 = .ok (.getfield 15, 3) := by decide +kernel
theorem dX4_holdsFor_91 : decode cX4_holdsFor 91 = .ok (.iload 5, 2) := by decide +kernel
theorem dX4_holdsFor_93 : decode cX4_holdsFor 93 = .ok (.iaload, 1) := by decide +kernel
theorem dX4_holdsFor_94 : decode cX4_holdsFor 94 = .ok (.iadd, 1) := by decide +kernel
theorem dX4_holdsFor_95 : decode cX4_holdsFor 95 = .ok (.if_icmp .ge 7, 3) := by decide +kernel
theorem dX4_holdsFor_98 : decode cX4_holdsFor 98 = .ok (.iconst 1, 1) := by decide +kernel
theorem dX4_holdsFor_99 : decode cX4_holdsFor 99 = .ok (.goto 4, 3) := by decide +kernel
theorem dX4_holdsFor_102 : decode cX4_holdsFor 102 = .ok (.iconst 0, 1) := by decide +kernel
theorem dX4_holdsFor_103 : decode cX4_holdsFor 103 = .ok (.istore 6, 2) := by decide +kernel
theorem dX4_holdsFor_105 : decode cX4_holdsFor 105 = .ok (.iload 6, 2) := by decide +kernel
theorem dX4_holdsFor_107 : decode cX4_holdsFor 107 = .ok (.aload_n 0, 1) := by decide +kernel
theorem dX4_holdsFor_108 : decode cX4_holdsFor 108 = .ok (.getfield 18, 3) := by decide +kernel
theorem dX4_holdsFor_111 : decode cX4_holdsFor 111 = .ok (.iload 5, 2) := by decide +kernel
theorem dX4_holdsFor_113 : decode cX4_holdsFor 113 = .ok (.baload, 1) := by decide +kernel
theorem dX4_holdsFor_114 : decode cX4_holdsFor 114 = .ok (.if_icmp .eq 5, 3) := by decide +kernel
theorem dX4_holdsFor_117 : decode cX4_holdsFor 117 = .ok (.iconst 0, 1) := by decide +kernel
theorem dX4_holdsFor_118 : decode cX4_holdsFor 118 = .ok (.ireturn, 1) := by decide +kernel
theorem dX4_holdsFor_119 : decode cX4_holdsFor 119 = .ok (.iinc 5 1, 3) := by decide +kernel
theorem dX4_holdsFor_122 : decode cX4_holdsFor 122 = .ok (.goto (-78), 3) := by decide +kernel
theorem dX4_holdsFor_125 : decode cX4_holdsFor 125 = .ok (.iconst 1, 1) := by decide +kernel
theorem dX4_holdsFor_126 : decode cX4_holdsFor 126 = .ok (.ireturn, 1) := by decide +kernel
theorem dX4_latest_0 : decode cX4_latest 0 = .ok (.iconst 0, 1) := by decide +kernel
theorem dX4_latest_1 : decode cX4_latest 1 = .ok (.istore_n 1, 1) := by decide +kernel
theorem dX4_latest_2 : decode cX4_latest 2 = .ok (.iconst 0, 1) := by decide +kernel
theorem dX4_latest_3 : decode cX4_latest 3 = .ok (.istore_n 2, 1) := by decide +kernel
theorem dX4_latest_4 : decode cX4_latest 4 = .ok (.iload_n 2, 1) := by decide +kernel
theorem dX4_latest_5 : decode cX4_latest 5 = .ok (.aload_n 0, 1) := by decide +kernel
theorem dX4_latest_6 : decode cX4_latest 6 = .ok (.getfield 22, 3) := by decide +kernel
theorem dX4_latest_9 : decode cX4_latest 9 = .ok (.if_icmp .ge 26, 3) := by decide +kernel
theorem dX4_latest_12 : decode cX4_latest 12 = .ok (.iload_n 2, 1) := by decide +kernel
theorem dX4_latest_13 : decode cX4_latest 13 = .ok (.bipush 6, 2) := by decide +kernel
theorem dX4_latest_15 : decode cX4_latest 15 = .ok (.if_icmp .ge 20, 3) := by decide +kernel
theorem dX4_latest_18 : decode cX4_latest 18 = .ok (.iload_n 1, 1) := by decide +kernel
theorem dX4_latest_19 : decode cX4_latest 19 = .ok (.aload_n 0, 1) := by decide +kernel
theorem dX4_latest_20 : decode cX4_latest 20 = .ok (.getfield 15, 3) := by decide +kernel
theorem dX4_latest_23 : decode cX4_latest 23 = .ok (.iload_n 2, 1) := by decide +kernel
theorem dX4_latest_24 : decode cX4_latest 24 = .ok (.iaload, 1) := by decide +kernel
theorem dX4_latest_25 : decode cX4_latest 25 = .ok (.invokestatic 52, 3) := by decide +kernel
theorem dX4_latest_28 : decode cX4_latest 28 = .ok (.istore_n 1, 1) := by decide +kernel
theorem dX4_latest_29 : decode cX4_latest 29 = .ok (.iinc 2 1, 3) := by decide +kernel
theorem dX4_latest_32 : decode cX4_latest 32 = .ok (.goto (-28), 3) := by decide +kernel
theorem dX4_latest_35 : decode cX4_latest 35 = .ok (.iload_n 1, 1) := by decide +kernel
theorem dX4_latest_36 : decode cX4_latest 36 = .ok (.ireturn, 1) := by decide +kernel
theorem dX5_init_0 : decode cX5_init 0 = .ok (.aload_n 0, 1) := by decide +kernel
theorem dX5_init_1 : decode cX5_init 1 = .ok (.invokespecial 1, 3) := by decide +kernel
theorem dX5_init_4 : decode cX5_init 4 = .ok (.aload_n 0, 1) := by decide +kernel
theorem dX5_init_5 : decode cX5_init 5 = .ok (.iconst 0, 1) := by decide +kernel
theorem dX5_init_6 : decode cX5_init 6 = .ok (.iload_n 1, 1) := by decide +kernel
theorem dX5_init_7 : decode cX5_init 7 = .ok (.invokestatic 7, 3) := by decide +kernel
theorem dX5_init_10 : decode cX5_init 10 = .ok (.anewarray 13, 3) := by decide +kernel
theorem dX5_init_13 : decode cX5_init 13 = .ok (.putfield 15, 3) := by decide +kernel
theorem dX5_init_16 : decode cX5_init 16 = .ok (.iconst 0, 1) := by decide +kernel
theorem dX5_init_17 : decode cX5_init 17 = .ok (.istore_n 2, 1) := by decide +kernel
theorem dX5_init_18 : decode cX5_init 18 = .ok (.iload_n 2, 1) := by decide +kernel
theorem dX5_init_19 : decode cX5_init 19 = .ok (.aload_n 0, 1) := by decide +kernel
theorem dX5_init_20 : decode cX5_init 20 = .ok (.getfield 15, 3) := by decide +kernel
theorem dX5_init_23 : decode cX5_init 23 = .ok (.arraylength, 1) := by decide +kernel
theorem dX5_init_24 : decode cX5_init 24 = .ok (.if_icmp .ge 22, 3) := by decide +kernel
theorem dX5_init_27 : decode cX5_init 27 = .ok (.aload_n 0, 1) := by decide +kernel
theorem dX5_init_28 : decode cX5_init 28 = .ok (.getfield 15, 3) := by decide +kernel
theorem dX5_init_31 : decode cX5_init 31 = .ok (.iload_n 2, 1) := by decide +kernel
theorem dX5_init_32 : decode cX5_init 32 = .ok (.new 13, 3) := by decide +kernel
theorem dX5_init_35 : decode cX5_init 35 = .ok (.dup, 1) := by decide +kernel
theorem dX5_init_36 : decode cX5_init 36 = .ok (.invokespecial 21, 3) := by decide +kernel
theorem dX5_init_39 : decode cX5_init 39 = .ok (.aastore, 1) := by decide +kernel
theorem dX5_init_40 : decode cX5_init 40 = .ok (.iinc 2 1, 3) := by decide +kernel
theorem dX5_init_43 : decode cX5_init 43 = .ok (.goto (-25), 3) := by decide +kernel
theorem dX5_init_46 : decode cX5_init 46 = .ok (.return_, 1) := by decide +kernel
theorem dX5_empty_0 : decode cX5_empty 0 = .ok (.aload_n 0, 1) := by decide +kernel
theorem dX5_empty_1 : decode cX5_empty 1 = .ok (.iconst 0, 1) := by decide +kernel
theorem dX5_empty_2 : decode cX5_empty 2 = .ok (.putfield 22, 3) := by decide +kernel
theorem dX5_empty_5 : decode cX5_empty 5 = .ok (.return_, 1) := by decide +kernel
theorem dX5_push_0 : decode cX5_push 0 = .ok (.aload_n 0, 1) := by decide +kernel
theorem dX5_push_1 : decode cX5_push 1 = .ok (.getfield 26, 3) := by decide +kernel
theorem dX5_push_4 : decode cX5_push 4 = .ok (.ifCond .lt 27, 3) := by decide +kernel
theorem dX5_push_7 : decode cX5_push 7 = .ok (.aload_n 0, 1) := by decide +kernel
theorem dX5_push_8 : decode cX5_push 8 = .ok (.getfield 26, 3) := by decide +kernel
theorem dX5_push_11 : decode cX5_push 11 = .ok (.aload_n 0, 1) := by decide +kernel
theorem dX5_push_12 : decode cX5_push 12 = .ok (.getfield 15, 3) := by decide +kernel
theorem dX5_push_15 : decode cX5_push 15 = .ok (.arraylength, 1) := by decide +kernel
theorem dX5_push_16 : decode cX5_push 16 = .ok (.if_icmp .ge 15, 3) := by decide +kernel
theorem dX5_push_19 : decode cX5_push 19 = .ok (.aload_n 0, 1) := by decide +kernel
theorem dX5_push_20 : decode cX5_push 20 = .ok (.getfield 15, 3) := by decide +kernel
theorem dX5_push_23 : decode cX5_push 23 = .ok (.aload_n 0, 1) := by decide +kernel
theorem dX5_push_24 : decode cX5_push 24 = .ok (.getfield 26, 3) := by decide +kernel
theorem dX5_push_27 : decode cX5_push 27 = .ok (.aaload, 1) := by decide +kernel
theorem dX5_push_28 : decode cX5_push 28 = .ok (.ifnonnull 4, 3) := by decide +kernel
theorem dX5_push_31 : decode cX5_push 31 = .ok (.return_, 1) := by decide +kernel
theorem dX5_push_32 : decode cX5_push 32 = .ok (.aload_n 0, 1) := by decide +kernel
theorem dX5_push_33 : decode cX5_push 33 = .ok (.getfield 15, 3) := by decide +kernel
theorem dX5_push_36 : decode cX5_push 36 = .ok (.aload_n 0, 1) := by decide +kernel
theorem dX5_push_37 : decode cX5_push 37 = .ok (.getfield 26, 3) := by decide +kernel
theorem dX5_push_40 : decode cX5_push 40 = .ok (.aaload, 1) := by decide +kernel
theorem dX5_push_41 : decode cX5_push 41 = .ok (.aload_n 1, 1) := by decide +kernel
theorem dX5_push_42 : decode cX5_push 42 = .ok (.invokevirtual 29, 3) := by decide +kernel
theorem dX5_push_45 : decode cX5_push 45 = .ok (.aload_n 0, 1) := by decide +kernel
theorem dX5_push_46 : decode cX5_push 46 = .ok (.aload_n 0, 1) := by decide +kernel
theorem dX5_push_47 : decode cX5_push 47 = .ok (.getfield 26, 3) := by decide +kernel
theorem dX5_push_50 : decode cX5_push 50 = .ok (.iconst 1, 1) := by decide +kernel
theorem dX5_push_51 : decode cX5_push 51 = .ok (.iadd, 1) := by decide +kernel
theorem dX5_push_52 : decode cX5_push 52 = .ok (.aload_n 0, 1) := by decide +kernel
theorem dX5_push_53 : decode cX5_push 53 = .ok (.getfield 15, 3) := by decide +kernel
theorem dX5_push_56 : decode cX5_push 56 = .ok (.arraylength, 1) := by decide +kernel
theorem dX5_push_57 : decode cX5_push 57 = .ok (.if_icmp .ge 12, 3) := by decide +kernel
theorem dX5_push_60 : decode cX5_push 60 = .ok (.aload_n 0, 1) := by decide +kernel
theorem dX5_push_61 : decode cX5_push 61 = .ok (.getfield 26, 3) := by decide +kernel
theorem dX5_push_64 : decode cX5_push 64 = .ok (.iconst 1, 1) := by decide +kernel
theorem dX5_push_65 : decode cX5_push 65 = .ok (.iadd, 1) := by decide +kernel
theorem dX5_push_66 : decode cX5_push 66 = .ok (.goto 4, 3) := by decide +kernel
theorem dX5_push_69 : decode cX5_push 69 = .ok (.iconst 0, 1) := by decide +kernel
theorem dX5_push_70 : decode cX5_push 70 = .ok (.putfield 26, 3) := by decide +kernel
theorem dX5_push_73 : decode cX5_push 73 = .ok (.aload_n 0, 1) := by decide +kernel
theorem dX5_push_74 : decode cX5_push 74 = .ok (.aload_n 0, 1) := by decide +kernel
theorem dX5_push_75 : decode cX5_push 75 = .ok (.getfield 22, 3) := by decide +kernel
theorem dX5_push_78 : decode cX5_push 78 = .ok (.iconst 1, 1) := by decide +kernel
theorem dX5_push_79 : decode cX5_push 79 = .ok (.iadd, 1) := by decide +kernel
theorem dX5_push_80 : decode cX5_push 80 = .ok (.aload_n 0, 1) := by decide +kernel
theorem dX5_push_81 : decode cX5_push 81 = .ok (.getfield 15, 3) := by decide +kernel
theorem dX5_push_84 : decode cX5_push 84 = .ok (.arraylength, 1) := by decide +kernel
theorem dX5_push_85 : decode cX5_push 85 = .ok (.invokestatic 33, 3) := by decide +kernel
theorem dX5_push_88 : decode cX5_push 88 = .ok (.putfield 22, 3) := by decide +kernel
theorem dX5_push_91 : decode cX5_push 91 = .ok (.return_, 1) := by decide +kernel
theorem dX5_popInto_0 : decode cX5_popInto 0 = .ok (.aload_n 0, 1) := by decide +kernel
theorem dX5_popInto_1 : decode cX5_popInto 1 = .ok (.getfield 22, 3) := by decide +kernel
theorem dX5_popInto_4 : decode cX5_popInto 4 = .ok (.iconst 1, 1) := by decide +kernel
theorem dX5_popInto_5 : decode cX5_popInto 5 = .ok (.if_icmp .ge 5, 3) := by decide +kernel
theorem dX5_popInto_8 : decode cX5_popInto 8 = .ok (.iconst 0, 1) := by decide +kernel
theorem dX5_popInto_9 : decode cX5_popInto 9 = .ok (.ireturn, 1) := by decide +kernel
theorem dX5_popInto_10 : decode cX5_popInto 10 = .ok (.aload_n 0, 1) := by decide +kernel
theorem dX5_popInto_11 : decode cX5_popInto 11 = .ok (.getfield 26, 3) := by decide +kernel
theorem dX5_popInto_14 : decode cX5_popInto 14 = .ok (.ifCond .le 12, 3) := by decide +kernel
theorem dX5_popInto_17 : decode cX5_popInto 17 = .ok (.aload_n 0, 1) := by decide +kernel
theorem dX5_popInto_18 : decode cX5_popInto 18 = .ok (.getfield 26, 3) := by decide +kernel
theorem dX5_popInto_21 : decode cX5_popInto 21 = .ok (.iconst 1, 1) := by decide +kernel
theorem dX5_popInto_22 : decode cX5_popInto 22 = .ok (.isub, 1) := by decide +kernel
theorem dX5_popInto_23 : decode cX5_popInto 23 = .ok (.goto 10, 3) := by decide +kernel
theorem dX5_popInto_26 : decode cX5_popInto 26 = .ok (.aload_n 0, 1) := by decide +kernel
theorem dX5_popInto_27 : decode cX5_popInto 27 = .ok (.getfield 15, 3) := by decide +kernel
theorem dX5_popInto_30 : decode cX5_popInto 30 = .ok (.arraylength, 1) := by decide +kernel
theorem dX5_popInto_31 : decode cX5_popInto 31 = .ok (.iconst 1, 1) := by decide +kernel
theorem dX5_popInto_32 : decode cX5_popInto 32 = .ok (.isub, 1) := by decide +kernel
theorem dX5_popInto_33 : decode cX5_popInto 33 = .ok (.istore_n 2, 1) := by decide +kernel
theorem dX5_popInto_34 : decode cX5_popInto 34 = .ok (.iload_n 2, 1) := by decide +kernel
theorem dX5_popInto_35 : decode cX5_popInto 35 = .ok (.ifCond .lt 21, 3) := by decide +kernel
theorem dX5_popInto_38 : decode cX5_popInto 38 = .ok (.iload_n 2, 1) := by decide +kernel
theorem dX5_popInto_39 : decode cX5_popInto 39 = .ok (.aload_n 0, 1) := by decide +kernel
theorem dX5_popInto_40 : decode cX5_popInto 40 = .ok (.getfield 15, 3) := by decide +kernel
theorem dX5_popInto_43 : decode cX5_popInto 43 = .ok (.arraylength, 1) := by decide +kernel
theorem dX5_popInto_44 : decode cX5_popInto 44 = .ok (.if_icmp .ge 12, 3) := by decide +kernel
theorem dX5_popInto_47 : decode cX5_popInto 47 = .ok (.aload_n 0, 1) := by decide +kernel
theorem dX5_popInto_48 : decode cX5_popInto 48 = .ok (.getfield 15, 3) := by decide +kernel
theorem dX5_popInto_51 : decode cX5_popInto 51 = .ok (.iload_n 2, 1) := by decide +kernel
theorem dX5_popInto_52 : decode cX5_popInto 52 = .ok (.aaload, 1) := by decide +kernel
theorem dX5_popInto_53 : decode cX5_popInto 53 = .ok (.ifnonnull 5, 3) := by decide +kernel
theorem dX5_popInto_56 : decode cX5_popInto 56 = .ok (.iconst 0, 1) := by decide +kernel
theorem dX5_popInto_57 : decode cX5_popInto 57 = .ok (.ireturn, 1) := by decide +kernel
theorem dX5_popInto_58 : decode cX5_popInto 58 = .ok (.aload_n 1, 1) := by decide +kernel
theorem dX5_popInto_59 : decode cX5_popInto 59 = .ok (.aload_n 0, 1) := by decide +kernel
theorem dX5_popInto_60 : decode cX5_popInto 60 = .ok (.getfield 15, 3) := by decide +kernel
theorem dX5_popInto_63 : decode cX5_popInto 63 = .ok (.iload_n 2, 1) := by decide +kernel
theorem dX5_popInto_64 : decode cX5_popInto 64 = .ok (.aaload, 1) := by decide +kernel
theorem dX5_popInto_65 : decode cX5_popInto 65 = .ok (.invokevirtual 29, 3) := by decide +kernel
theorem dX5_popInto_68 : decode cX5_popInto 68 = .ok (.aload_n 0, 1) := by decide +kernel
theorem dX5_popInto_69 : decode cX5_popInto 69 = .ok (.iload_n 2, 1) := by decide +kernel
theorem dX5_popInto_70 : decode cX5_popInto 70 = .ok (.putfield 26, 3) := by decide +kernel
theorem dX5_popInto_73 : decode cX5_popInto 73 = .ok (.aload_n 0, 1) := by decide +kernel
theorem dX5_popInto_74 : decode cX5_popInto 74 = .ok (.dup, 1) := by decide +kernel
theorem dX5_popInto_75 : decode cX5_popInto 75 = .ok (.getfield 22, 3) := by decide +kernel
theorem dX5_popInto_78 : decode cX5_popInto 78 = .ok (.iconst 1, 1) := by decide +kernel
theorem dX5_popInto_79 : decode cX5_popInto 79 = .ok (.isub, 1) := by decide +kernel
theorem dX5_popInto_80 : decode cX5_popInto 80 = .ok (.putfield 22, 3) := by decide +kernel
theorem dX5_popInto_83 : decode cX5_popInto 83 = .ok (.iconst 1, 1) := by decide +kernel
theorem dX5_popInto_84 : decode cX5_popInto 84 = .ok (.ireturn, 1) := by decide +kernel
theorem dX6_init_0 : decode cX6_init 0 = .ok (.aload_n 0, 1) := by decide +kernel
theorem dX6_init_1 : decode cX6_init 1 = .ok (.invokespecial 3, 3) := by decide +kernel
theorem dX6_init_4 : decode cX6_init 4 = .ok (.aload_n 0, 1) := by decide +kernel
theorem dX6_init_5 : decode cX6_init 5 = .ok (.sipush 200, 3) := by decide +kernel
theorem dX6_init_8 : decode cX6_init 8 = .ok (.newarray .int, 2) := by decide +kernel
theorem dX6_init_10 : decode cX6_init 10 = .ok (.putfield 9, 3) := by decide +kernel
theorem dX6_init_13 : decode cX6_init 13 = .ok (.aload_n 0, 1) := by decide +kernel
theorem dX6_init_14 : decode cX6_init 14 = .ok (.iconst 3, 1) := by decide +kernel
theorem dX6_init_15 : decode cX6_init 15 = .ok (.newarray .int, 2) := by decide +kernel
theorem dX6_init_17 : decode cX6_init 17 = .ok (.putfield 15, 3) := by decide +kernel
theorem dX6_init_20 : decode cX6_init 20 = .ok (.return_, 1) := by decide +kernel
theorem dX6_put_0 : decode cX6_put 0 = .ok (.aload_n 0, 1) := by decide +kernel
theorem dX6_put_1 : decode cX6_put 1 = .ok (.getfield 18, 3) := by decide +kernel
theorem dX6_put_4 : decode cX6_put 4 = .ok (.ifCond .lt 15, 3) := by decide +kernel
theorem dX6_put_7 : decode cX6_put 7 = .ok (.aload_n 0, 1) := by decide +kernel
theorem dX6_put_8 : decode cX6_put 8 = .ok (.getfield 18, 3) := by decide +kernel
theorem dX6_put_11 : decode cX6_put 11 = .ok (.aload_n 0, 1) := by decide +kernel
theorem dX6_put_12 : decode cX6_put 12 = .ok (.getfield 9, 3) := by decide +kernel
theorem dX6_put_15 : decode cX6_put 15 = .ok (.arraylength, 1) := by decide +kernel
theorem dX6_put_16 : decode cX6_put 16 = .ok (.if_icmp .lt 5, 3) := by decide +kernel
theorem dX6_put_19 : decode cX6_put 19 = .ok (.iconst 0, 1) := by decide +kernel
theorem dX6_put_20 : decode cX6_put 20 = .ok (.ireturn, 1) := by decide +kernel
theorem dX6_put_21 : decode cX6_put 21 = .ok (.aload_n 0, 1) := by decide +kernel
theorem dX6_put_22 : decode cX6_put 22 = .ok (.getfield 9, 3) := by decide +kernel
theorem dX6_put_25 : decode cX6_put 25 = .ok (.aload_n 0, 1) := by decide +kernel
theorem dX6_put_26 : decode cX6_put 26 = .ok (.getfield 18, 3) := by decide +kernel
theorem dX6_put_29 : decode cX6_put 29 = .ok (.iload_n 1, 1) := by decide +kernel
theorem dX6_put_30 : decode cX6_put 30 = .ok (.iastore, 1) := by decide +kernel
theorem dX6_put_31 : decode cX6_put 31 = .ok (.aload_n 0, 1) := by decide +kernel
theorem dX6_put_32 : decode cX6_put 32 = .ok (.dup, 1) := by decide +kernel
theorem dX6_put_33 : decode cX6_put 33 = .ok (.getfield 18, 3) := by decide +kernel
theorem dX6_put_36 : decode cX6_put 36 = .ok (.iconst 1, 1) := by decide +kernel
theorem dX6_put_37 : decode cX6_put 37 = .ok (.iadd, 1) := by decide +kernel
theorem dX6_put_38 : decode cX6_put 38 = .ok (.putfield 18, 3) := by decide +kernel
theorem dX6_put_41 : decode cX6_put 41 = .ok (.iconst 1, 1) := by decide +kernel
theorem dX6_put_42 : decode cX6_put 42 = .ok (.ireturn, 1) := by decide +kernel
theorem dX6_empty_0 : decode cX6_empty 0 = .ok (.aload_n 0, 1) := by decide +kernel
theorem dX6_empty_1 : decode cX6_empty 1 = .ok (.iconst 0, 1) := by decide +kernel
theorem dX6_empty_2 : decode cX6_empty 2 = .ok (.putfield 18, 3) := by decide +kernel
theorem dX6_empty_5 : decode cX6_empty 5 = .ok (.return_, 1) := by decide +kernel
theorem dX6_readInto_0 : decode cX6_readInto 0 = .ok (.aload_n 1, 1) := by decide +kernel
theorem dX6_readInto_1 : decode cX6_readInto 1 = .ok (.invokevirtual 22, 3) := by decide +kernel
theorem dX6_readInto_4 : decode cX6_readInto 4 = .ok (.iconst 0, 1) := by decide +kernel
theorem dX6_readInto_5 : decode cX6_readInto 5 = .ok (.istore_n 2, 1) := by decide +kernel
theorem dX6_readInto_6 : decode cX6_readInto 6 = .ok (.iconst 0, 1) := by decide +kernel
theorem dX6_readInto_7 : decode cX6_readInto 7 = .ok (.istore_n 3, 1) := by decide +kernel
theorem dX6_readInto_8 : decode cX6_readInto 8 = .ok (.iload_n 3, 1) := by decide +kernel
theorem dX6_readInto_9 : decode cX6_readInto 9 = .ok (.sipush 200, 3) := by decide +kernel
theorem dX6_readInto_12 : decode cX6_readInto 12 = .ok (.if_icmp .ge 35, 3) := by decide +kernel
theorem dX6_readInto_15 : decode cX6_readInto 15 = .ok (.iload_n 2, 1) := by decide +kernel
theorem dX6_readInto_16 : decode cX6_readInto 16 = .ok (.aload_n 0, 1) := by decide +kernel
theorem dX6_readInto_17 : decode cX6_readInto 17 = .ok (.getfield 18, 3) := by decide +kernel
theorem dX6_readInto_20 : decode cX6_readInto 20 = .ok (.if_icmp .ge 27, 3) := by decide +kernel
theorem dX6_readInto_23 : decode cX6_readInto 23 = .ok (.aload_n 0, 1) := by decide +kernel
theorem dX6_readInto_24 : decode cX6_readInto 24 = .ok (.aload_n 1, 1) := by decide +kernel
theorem dX6_readInto_25 : decode cX6_readInto 25 = .ok (.iload_n 2, 1) := by decide +kernel
theorem dX6_readInto_26 : decode cX6_readInto 26 = .ok (.invokevirtual 27, 3) := by decide +kernel
theorem dX6_readInto_29 : decode cX6_readInto 29 = .ok (.istore 4, 2) := by decide +kernel
theorem dX6_readInto_31 : decode cX6_readInto 31 = .ok (.iload 4, 2) := by decide +kernel
theorem dX6_readInto_33 : decode cX6_readInto 33 = .ok (.ifCond .ge 5, 3) := by decide +kernel
theorem dX6_readInto_36 : decode cX6_readInto 36 = .ok (.iload_n 2, 1) := by decide +kernel
theorem dX6_readInto_37 : decode cX6_readInto 37 = .ok (.ireturn, 1) := by decide +kernel
theorem dX6_readInto_38 : decode cX6_readInto 38 = .ok (.iload 4, 2) := by decide +kernel
theorem dX6_readInto_40 : decode cX6_readInto 40 = .ok (.istore_n 2, 1) := by decide +kernel
theorem dX6_readInto_41 : decode cX6_readInto 41 = .ok (.iinc 3 1, 3) := by decide +kernel
theorem dX6_readInto_44 : decode cX6_readInto 44 = .ok (.goto (-36), 3) := by decide +kernel
theorem dX6_readInto_47 : decode cX6_readInto 47 = .ok (.bipush (-4), 2) := by decide +kernel
theorem dX6_readInto_49 : decode cX6_readInto 49 = .ok (.ireturn, 1) := by decide +kernel
theorem dX6_readItem_0 : decode cX6_readItem 0 = .ok (.aload_n 0, 1) := by decide +kernel
theorem dX6_readItem_1 : decode cX6_readItem 1 = .ok (.iload_n 2, 1) := by decide +kernel
theorem dX6_readItem_2 : decode cX6_readItem 2 = .ok (.invokevirtual 31, 3) := by decide +kernel
theorem dX6_readItem_5 : decode cX6_readItem 5 = .ok (.istore_n 3, 1) := by decide +kernel
theorem dX6_readItem_6 : decode cX6_readItem 6 = .ok (.iload_n 3, 1) := by decide +kernel
theorem dX6_readItem_7 : decode cX6_readItem 7 = .ok (.invokestatic 35, 3) := by decide +kernel
theorem dX6_readItem_10 : decode cX6_readItem 10 = .ok (.istore 4, 2) := by decide +kernel
theorem dX6_readItem_12 : decode cX6_readItem 12 = .ok (.iload_n 2, 1) := by decide +kernel
theorem dX6_readItem_13 : decode cX6_readItem 13 = .ok (.iconst 1, 1) := by decide +kernel
theorem dX6_readItem_14 : decode cX6_readItem 14 = .ok (.iadd, 1) := by decide +kernel
theorem dX6_readItem_15 : decode cX6_readItem 15 = .ok (.istore 5, 2) := by decide +kernel
theorem dX6_readItem_17 : decode cX6_readItem 17 = .ok (.iconst 0, 1) := by decide +kernel
theorem dX6_readItem_18 : decode cX6_readItem 18 = .ok (.istore 6, 2) := by decide +kernel
theorem dX6_readItem_20 : decode cX6_readItem 20 = .ok (.iload 6, 2) := by decide +kernel
theorem dX6_readItem_22 : decode cX6_readItem 22 = .ok (.iload 4, 2) := by decide +kernel
theorem dX6_readItem_24 : decode cX6_readItem 24 = .ok (.if_icmp .ge 86, 3) := by decide +kernel
theorem dX6_readItem_27 : decode cX6_readItem 27 = .ok (.iload 6, 2) := by decide +kernel
theorem dX6_readItem_29 : decode cX6_readItem 29 = .ok (.aload_n 0, 1) := by decide +kernel
theorem dX6_readItem_30 : decode cX6_readItem 30 = .ok (.getfield 15, 3) := by decide +kernel
theorem dX6_readItem_33 : decode cX6_readItem 33 = .ok (.arraylength, 1) := by decide +kernel
theorem dX6_readItem_34 : decode cX6_readItem 34 = .ok (.if_icmp .ge 76, 3) := by decide +kernel
theorem dX6_readItem_37 : decode cX6_readItem 37 = .ok (.aload_n 0, 1) := by decide +kernel
theorem dX6_readItem_38 : decode cX6_readItem 38 = .ok (.iload 5, 2) := by decide +kernel
theorem dX6_readItem_40 : decode cX6_readItem 40 = .ok (.invokevirtual 38, 3) := by decide +kernel
theorem dX6_readItem_43 : decode cX6_readItem 43 = .ok (.istore 7, 2) := by decide +kernel
theorem dX6_readItem_45 : decode cX6_readItem 45 = .ok (.iload 7, 2) := by decide +kernel
theorem dX6_readItem_47 : decode cX6_readItem 47 = .ok (.ifCond .ne 5, 3) := by decide +kernel
theorem dX6_readItem_50 : decode cX6_readItem 50 = .ok (.iconst (-1), 1) := by decide +kernel
theorem dX6_readItem_51 : decode cX6_readItem 51 = .ok (.ireturn, 1) := by decide +kernel
theorem dX6_readItem_52 : decode cX6_readItem 52 = .ok (.aload_n 0, 1) := by decide +kernel
theorem dX6_readItem_53 : decode cX6_readItem 53 = .ok (.getfield 15, 3) := by decide +kernel
theorem dX6_readItem_56 : decode cX6_readItem 56 = .ok (.iload 6, 2) := by decide +kernel
theorem dX6_readItem_58 : decode cX6_readItem 58 = .ok (.aload_n 0, 1) := by decide +kernel
theorem dX6_readItem_59 : decode cX6_readItem 59 = .ok (.iload 5, 2) := by decide +kernel
theorem dX6_readItem_61 : decode cX6_readItem 61 = .ok (.iload 7, 2) := by decide +kernel
theorem dX6_readItem_63 : decode cX6_readItem 63 = .ok (.invokevirtual 41, 3) := by decide +kernel
theorem dX6_readItem_66 : decode cX6_readItem 66 = .ok (.iastore, 1) := by decide +kernel
theorem dX6_readItem_67 : decode cX6_readItem 67 = .ok (.iload 5, 2) := by decide +kernel
theorem dX6_readItem_69 : decode cX6_readItem 69 = .ok (.iload 7, 2) := by decide +kernel
theorem dX6_readItem_71 : decode cX6_readItem 71 = .ok (.iadd, 1) := by decide +kernel
theorem dX6_readItem_72 : decode cX6_readItem 72 = .ok (.istore 5, 2) := by decide +kernel
theorem dX6_readItem_74 : decode cX6_readItem 74 = .ok (.aload_n 0, 1) := by decide +kernel
theorem dX6_readItem_75 : decode cX6_readItem 75 = .ok (.iload 5, 2) := by decide +kernel
theorem dX6_readItem_77 : decode cX6_readItem 77 = .ok (.invokevirtual 31, 3) := by decide +kernel
theorem dX6_readItem_80 : decode cX6_readItem 80 = .ok (.iload 6, 2) := by decide +kernel
theorem dX6_readItem_82 : decode cX6_readItem 82 = .ok (.iload 4, 2) := by decide +kernel
theorem dX6_readItem_84 : decode cX6_readItem 84 = .ok (.iconst 1, 1) := by decide +kernel
theorem dX6_readItem_85 : decode cX6_readItem 85 = .ok (.isub, 1) := by decide +kernel
theorem dX6_readItem_86 : decode cX6_readItem 86 = .ok (.if_icmp .ne 8, 3) := by decide +kernel
theorem dX6_readItem_89 : decode cX6_readItem 89 = .ok (.bipush 59, 2) := by decide +kernel
theorem dX6_readItem_91 : decode cX6_readItem 91 = .ok (.goto 5, 3) := by decide +kernel
theorem dX6_readItem_94 : decode cX6_readItem 94 = .ok (.bipush 44, 2) := by decide +kernel
theorem dX6_readItem_96 : decode cX6_readItem 96 = .ok (.if_icmp .eq 5, 3) := by decide +kernel
theorem dX6_readItem_99 : decode cX6_readItem 99 = .ok (.iconst (-1), 1) := by decide +kernel
theorem dX6_readItem_100 : decode cX6_readItem 100 = .ok (.ireturn, 1) := by decide +kernel
theorem dX6_readItem_101 : decode cX6_readItem 101 = .ok (.iinc 5 1, 3) := by decide +kernel
theorem dX6_readItem_104 : decode cX6_readItem 104 = .ok (.iinc 6 1, 3) := by decide +kernel
theorem dX6_readItem_107 : decode cX6_readItem 107 = .ok (.goto (-87), 3) := by decide +kernel
theorem dX6_readItem_110 : decode cX6_readItem 110 = .ok (.aload_n 0, 1) := by decide +kernel
theorem dX6_readItem_111 : decode cX6_readItem 111 = .ok (.aload_n 1, 1) := by decide +kernel
theorem dX6_readItem_112 : decode cX6_readItem 112 = .ok (.iload_n 3, 1) := by decide +kernel
theorem dX6_readItem_113 : decode cX6_readItem 113 = .ok (.invokevirtual 45, 3) := by decide +kernel
theorem dX6_readItem_116 : decode cX6_readItem 116 = .ok (.ifCond .eq 8, 3) := by decide +kernel
theorem dX6_readItem_119 : decode cX6_readItem 119 = .ok (.iload 5, 2) := by decide +kernel
theorem dX6_readItem_121 : decode cX6_readItem 121 = .ok (.goto 4, 3) := by decide +kernel
theorem dX6_readItem_124 : decode cX6_readItem 124 = .ok (.iconst (-1), 1) := by decide +kernel
theorem dX6_readItem_125 : decode cX6_readItem 125 = .ok (.ireturn, 1) := by decide +kernel
theorem dX6_take_0 : decode cX6_take 0 = .ok (.iload_n 2, 1) := by decide +kernel
theorem dX6_take_1 : decode cX6_take 1 = .ok (.lookupswitch 86 #[(98, 58), (112, 35), (114, 75)], 35) := by decide +kernel
theorem dX6_take_36 : decode cX6_take 36 = .ok (.aload_n 1, 1) := by decide +kernel
theorem dX6_take_37 : decode cX6_take 37 = .ok (.aload_n 0, 1) := by decide +kernel
theorem dX6_take_38 : decode cX6_take 38 = .ok (.getfield 15, 3) := by decide +kernel
theorem dX6_take_41 : decode cX6_take 41 = .ok (.iconst 0, 1) := by decide +kernel
theorem dX6_take_42 : decode cX6_take 42 = .ok (.iaload, 1) := by decide +kernel
theorem dX6_take_43 : decode cX6_take 43 = .ok (.aload_n 0, 1) := by decide +kernel
theorem dX6_take_44 : decode cX6_take 44 = .ok (.getfield 15, 3) := by decide +kernel
theorem dX6_take_47 : decode cX6_take 47 = .ok (.iconst 1, 1) := by decide +kernel
theorem dX6_take_48 : decode cX6_take 48 = .ok (.iaload, 1) := by decide +kernel
theorem dX6_take_49 : decode cX6_take 49 = .ok (.aload_n 0, 1) := by decide +kernel
theorem dX6_take_50 : decode cX6_take 50 = .ok (.getfield 15, 3) := by decide +kernel
theorem dX6_take_53 : decode cX6_take 53 = .ok (.iconst 2, 1) := by decide +kernel
theorem dX6_take_54 : decode cX6_take 54 = .ok (.iaload, 1) := by decide +kernel
theorem dX6_take_55 : decode cX6_take 55 = .ok (.invokevirtual 49, 3) := by decide +kernel
theorem dX6_take_58 : decode cX6_take 58 = .ok (.ireturn, 1) := by decide +kernel
theorem dX6_take_59 : decode cX6_take 59 = .ok (.aload_n 1, 1) := by decide +kernel
theorem dX6_take_60 : decode cX6_take 60 = .ok (.aload_n 0, 1) := by decide +kernel
theorem dX6_take_61 : decode cX6_take 61 = .ok (.getfield 15, 3) := by decide +kernel
theorem dX6_take_64 : decode cX6_take 64 = .ok (.iconst 0, 1) := by decide +kernel
theorem dX6_take_65 : decode cX6_take 65 = .ok (.iaload, 1) := by decide +kernel
theorem dX6_take_66 : decode cX6_take 66 = .ok (.aload_n 0, 1) := by decide +kernel
theorem dX6_take_67 : decode cX6_take 67 = .ok (.getfield 15, 3) := by decide +kernel
theorem dX6_take_70 : decode cX6_take 70 = .ok (.iconst 1, 1) := by decide +kernel
theorem dX6_take_71 : decode cX6_take 71 = .ok (.iaload, 1) := by decide +kernel
theorem dX6_take_72 : decode cX6_take 72 = .ok (.invokevirtual 53, 3) := by decide +kernel
theorem dX6_take_75 : decode cX6_take 75 = .ok (.ireturn, 1) := by decide +kernel
theorem dX6_take_76 : decode cX6_take 76 = .ok (.aload_n 1, 1) := by decide +kernel
theorem dX6_take_77 : decode cX6_take 77 = .ok (.aload_n 0, 1) := by decide +kernel
theorem dX6_take_78 : decode cX6_take 78 = .ok (.getfield 15, 3) := by decide +kernel
theorem dX6_take_81 : decode cX6_take 81 = .ok (.iconst 0, 1) := by decide +kernel
theorem dX6_take_82 : decode cX6_take 82 = .ok (.iaload, 1) := by decide +kernel
theorem dX6_take_83 : decode cX6_take 83 = .ok (.invokevirtual 57, 3) := by decide +kernel
theorem dX6_take_86 : decode cX6_take 86 = .ok (.ireturn, 1) := by decide +kernel
theorem dX6_take_87 : decode cX6_take 87 = .ok (.iconst 0, 1) := by decide +kernel
theorem dX6_take_88 : decode cX6_take 88 = .ok (.ireturn, 1) := by decide +kernel
theorem dX6_numbersBehind_0 : decode cX6_numbersBehind 0 = .ok (.iload_n 0, 1) := by decide +kernel
theorem dX6_numbersBehind_1 : decode cX6_numbersBehind 1 = .ok (.lookupswitch 41 #[(98, 37), (112, 35), (114, 39)], 35) := by decide +kernel
theorem dX6_numbersBehind_36 : decode cX6_numbersBehind 36 = .ok (.iconst 3, 1) := by decide +kernel
theorem dX6_numbersBehind_37 : decode cX6_numbersBehind 37 = .ok (.ireturn, 1) := by decide +kernel
theorem dX6_numbersBehind_38 : decode cX6_numbersBehind 38 = .ok (.iconst 2, 1) := by decide +kernel
theorem dX6_numbersBehind_39 : decode cX6_numbersBehind 39 = .ok (.ireturn, 1) := by decide +kernel
theorem dX6_numbersBehind_40 : decode cX6_numbersBehind 40 = .ok (.iconst 1, 1) := by decide +kernel
theorem dX6_numbersBehind_41 : decode cX6_numbersBehind 41 = .ok (.ireturn, 1) := by decide +kernel
theorem dX6_numbersBehind_42 : decode cX6_numbersBehind 42 = .ok (.iconst 0, 1) := by decide +kernel
theorem dX6_numbersBehind_43 : decode cX6_numbersBehind 43 = .ok (.ireturn, 1) := by decide +kernel
theorem dX6_figuresFrom_0 : decode cX6_figuresFrom 0 = .ok (.aload_n 0, 1) := by decide +kernel
theorem dX6_figuresFrom_1 : decode cX6_figuresFrom 1 = .ok (.iload_n 1, 1) := by decide +kernel
theorem dX6_figuresFrom_2 : decode cX6_figuresFrom 2 = .ok (.invokevirtual 31, 3) := by decide +kernel
theorem dX6_figuresFrom_5 : decode cX6_figuresFrom 5 = .ok (.invokestatic 61, 3) := by decide +kernel
theorem dX6_figuresFrom_8 : decode cX6_figuresFrom 8 = .ok (.ifCond .ne 5, 3) := by decide +kernel
theorem dX6_figuresFrom_11 : decode cX6_figuresFrom 11 = .ok (.iconst 0, 1) := by decide +kernel
theorem dX6_figuresFrom_12 : decode cX6_figuresFrom 12 = .ok (.ireturn, 1) := by decide +kernel
theorem dX6_figuresFrom_13 : decode cX6_figuresFrom 13 = .ok (.aload_n 0, 1) := by decide +kernel
theorem dX6_figuresFrom_14 : decode cX6_figuresFrom 14 = .ok (.iload_n 1, 1) := by decide +kernel
theorem dX6_figuresFrom_15 : decode cX6_figuresFrom 15 = .ok (.iconst 1, 1) := by decide +kernel
theorem dX6_figuresFrom_16 : decode cX6_figuresFrom 16 = .ok (.iadd, 1) := by decide +kernel
theorem dX6_figuresFrom_17 : decode cX6_figuresFrom 17 = .ok (.invokevirtual 31, 3) := by decide +kernel
theorem dX6_figuresFrom_20 : decode cX6_figuresFrom 20 = .ok (.invokestatic 61, 3) := by decide +kernel
theorem dX6_figuresFrom_23 : decode cX6_figuresFrom 23 = .ok (.ifCond .eq 7, 3) := by decide +kernel
theorem dX6_figuresFrom_26 : decode cX6_figuresFrom 26 = .ok (.iconst 2, 1) := by decide +kernel
theorem dX6_figuresFrom_27 : decode cX6_figuresFrom 27 = .ok (.goto 4, 3) := by decide +kernel
theorem dX6_figuresFrom_30 : decode cX6_figuresFrom 30 = .ok (.iconst 1, 1) := by decide +kernel
theorem dX6_figuresFrom_31 : decode cX6_figuresFrom 31 = .ok (.ireturn, 1) := by decide +kernel
theorem dX6_valueOf_0 : decode cX6_valueOf 0 = .ok (.aload_n 0, 1) := by decide +kernel
theorem dX6_valueOf_1 : decode cX6_valueOf 1 = .ok (.iload_n 1, 1) := by decide +kernel
theorem dX6_valueOf_2 : decode cX6_valueOf 2 = .ok (.invokevirtual 31, 3) := by decide +kernel
theorem dX6_valueOf_5 : decode cX6_valueOf 5 = .ok (.bipush 48, 2) := by decide +kernel
theorem dX6_valueOf_7 : decode cX6_valueOf 7 = .ok (.isub, 1) := by decide +kernel
theorem dX6_valueOf_8 : decode cX6_valueOf 8 = .ok (.istore_n 3, 1) := by decide +kernel
theorem dX6_valueOf_9 : decode cX6_valueOf 9 = .ok (.iload_n 2, 1) := by decide +kernel
theorem dX6_valueOf_10 : decode cX6_valueOf 10 = .ok (.iconst 2, 1) := by decide +kernel
theorem dX6_valueOf_11 : decode cX6_valueOf 11 = .ok (.if_icmp .ne 21, 3) := by decide +kernel
theorem dX6_valueOf_14 : decode cX6_valueOf 14 = .ok (.iload_n 3, 1) := by decide +kernel
theorem dX6_valueOf_15 : decode cX6_valueOf 15 = .ok (.bipush 10, 2) := by decide +kernel
theorem dX6_valueOf_17 : decode cX6_valueOf 17 = .ok (.imul, 1) := by decide +kernel
theorem dX6_valueOf_18 : decode cX6_valueOf 18 = .ok (.aload_n 0, 1) := by decide +kernel
theorem dX6_valueOf_19 : decode cX6_valueOf 19 = .ok (.iload_n 1, 1) := by decide +kernel
theorem dX6_valueOf_20 : decode cX6_valueOf 20 = .ok (.iconst 1, 1) := by decide +kernel
theorem dX6_valueOf_21 : decode cX6_valueOf 21 = .ok (.iadd, 1) := by decide +kernel
theorem dX6_valueOf_22 : decode cX6_valueOf 22 = .ok (.invokevirtual 31, 3) := by decide +kernel
theorem dX6_valueOf_25 : decode cX6_valueOf 25 = .ok (.iadd, 1) := by decide +kernel
theorem dX6_valueOf_26 : decode cX6_valueOf 26 = .ok (.bipush 48, 2) := by decide +kernel
theorem dX6_valueOf_28 : decode cX6_valueOf 28 = .ok (.isub, 1) := by decide +kernel
theorem dX6_valueOf_29 : decode cX6_valueOf 29 = .ok (.goto 4, 3) := by decide +kernel
theorem dX6_valueOf_32 : decode cX6_valueOf 32 = .ok (.iload_n 3, 1) := by decide +kernel
theorem dX6_valueOf_33 : decode cX6_valueOf 33 = .ok (.ireturn, 1) := by decide +kernel
theorem dX6_letterAt_0 : decode cX6_letterAt 0 = .ok (.iload_n 1, 1) := by decide +kernel
theorem dX6_letterAt_1 : decode cX6_letterAt 1 = .ok (.ifCond .lt 29, 3) := by decide +kernel
theorem dX6_letterAt_4 : decode cX6_letterAt 4 = .ok (.iload_n 1, 1) := by decide +kernel
theorem dX6_letterAt_5 : decode cX6_letterAt 5 = .ok (.aload_n 0, 1) := by decide +kernel
theorem dX6_letterAt_6 : decode cX6_letterAt 6 = .ok (.getfield 18, 3) := by decide +kernel
theorem dX6_letterAt_9 : decode cX6_letterAt 9 = .ok (.if_icmp .ge 21, 3) := by decide +kernel
theorem dX6_letterAt_12 : decode cX6_letterAt 12 = .ok (.iload_n 1, 1) := by decide +kernel
theorem dX6_letterAt_13 : decode cX6_letterAt 13 = .ok (.aload_n 0, 1) := by decide +kernel
theorem dX6_letterAt_14 : decode cX6_letterAt 14 = .ok (.getfield 9, 3) := by decide +kernel
theorem dX6_letterAt_17 : decode cX6_letterAt 17 = .ok (.arraylength, 1) := by decide +kernel
theorem dX6_letterAt_18 : decode cX6_letterAt 18 = .ok (.if_icmp .ge 12, 3) := by decide +kernel
theorem dX6_letterAt_21 : decode cX6_letterAt 21 = .ok (.aload_n 0, 1) := by decide +kernel
theorem dX6_letterAt_22 : decode cX6_letterAt 22 = .ok (.getfield 9, 3) := by decide +kernel
theorem dX6_letterAt_25 : decode cX6_letterAt 25 = .ok (.iload_n 1, 1) := by decide +kernel
theorem dX6_letterAt_26 : decode cX6_letterAt 26 = .ok (.iaload, 1) := by decide +kernel
theorem dX6_letterAt_27 : decode cX6_letterAt 27 = .ok (.goto 4, 3) := by decide +kernel
theorem dX6_letterAt_30 : decode cX6_letterAt 30 = .ok (.iconst (-1), 1) := by decide +kernel
theorem dX6_letterAt_31 : decode cX6_letterAt 31 = .ok (.ireturn, 1) := by decide +kernel
theorem dX6_isFigure_0 : decode cX6_isFigure 0 = .ok (.iload_n 0, 1) := by decide +kernel
theorem dX6_isFigure_1 : decode cX6_isFigure 1 = .ok (.bipush 48, 2) := by decide +kernel
theorem dX6_isFigure_3 : decode cX6_isFigure 3 = .ok (.if_icmp .lt 13, 3) := by decide +kernel
theorem dX6_isFigure_6 : decode cX6_isFigure 6 = .ok (.iload_n 0, 1) := by decide +kernel
theorem dX6_isFigure_7 : decode cX6_isFigure 7 = .ok (.bipush 57, 2) := by decide +kernel
theorem dX6_isFigure_9 : decode cX6_isFigure 9 = .ok (.if_icmp .gt 7, 3) := by decide +kernel
theorem dX6_isFigure_12 : decode cX6_isFigure 12 = .ok (.iconst 1, 1) := by decide +kernel
theorem dX6_isFigure_13 : decode cX6_isFigure 13 = .ok (.goto 4, 3) := by decide +kernel
theorem dX6_isFigure_16 : decode cX6_isFigure 16 = .ok (.iconst 0, 1) := by decide +kernel
theorem dX6_isFigure_17 : decode cX6_isFigure 17 = .ok (.ireturn, 1) := by decide +kernel
theorem dX7_init_0 : decode cX7_init 0 = .ok (.aload_n 0, 1) := by decide +kernel
theorem dX7_init_1 : decode cX7_init 1 = .ok (.invokespecial 1, 3) := by decide +kernel
theorem dX7_init_4 : decode cX7_init 4 = .ok (.aload_n 0, 1) := by decide +kernel
theorem dX7_init_5 : decode cX7_init 5 = .ok (.new 7, 3) := by decide +kernel
theorem dX7_init_8 : decode cX7_init 8 = .ok (.dup, 1) := by decide +kernel
theorem dX7_init_9 : decode cX7_init 9 = .ok (.invokespecial 9, 3) := by decide +kernel
theorem dX7_init_12 : decode cX7_init 12 = .ok (.putfield 10, 3) := by decide +kernel
theorem dX7_init_15 : decode cX7_init 15 = .ok (.aload_n 0, 1) := by decide +kernel
theorem dX7_init_16 : decode cX7_init 16 = .ok (.new 16, 3) := by decide +kernel
theorem dX7_init_19 : decode cX7_init 19 = .ok (.dup, 1) := by decide +kernel
theorem dX7_init_20 : decode cX7_init 20 = .ok (.invokespecial 18, 3) := by decide +kernel
theorem dX7_init_23 : decode cX7_init 23 = .ok (.putfield 19, 3) := by decide +kernel
theorem dX7_init_26 : decode cX7_init 26 = .ok (.aload_n 0, 1) := by decide +kernel
theorem dX7_init_27 : decode cX7_init 27 = .ok (.new 23, 3) := by decide +kernel
theorem dX7_init_30 : decode cX7_init 30 = .ok (.dup, 1) := by decide +kernel
theorem dX7_init_31 : decode cX7_init 31 = .ok (.invokespecial 25, 3) := by decide +kernel
theorem dX7_init_34 : decode cX7_init 34 = .ok (.putfield 26, 3) := by decide +kernel
theorem dX7_init_37 : decode cX7_init 37 = .ok (.aload_n 0, 1) := by decide +kernel
theorem dX7_init_38 : decode cX7_init 38 = .ok (.aload_n 0, 1) := by decide +kernel
theorem dX7_init_39 : decode cX7_init 39 = .ok (.getfield 26, 3) := by decide +kernel
theorem dX7_init_42 : decode cX7_init 42 = .ok (.getfield 30, 3) := by decide +kernel
theorem dX7_init_45 : decode cX7_init 45 = .ok (.putfield 33, 3) := by decide +kernel
theorem dX7_init_48 : decode cX7_init 48 = .ok (.aload_n 0, 1) := by decide +kernel
theorem dX7_init_49 : decode cX7_init 49 = .ok (.aload_n 0, 1) := by decide +kernel
theorem dX7_init_50 : decode cX7_init 50 = .ok (.getfield 26, 3) := by decide +kernel
theorem dX7_init_53 : decode cX7_init 53 = .ok (.getfield 34, 3) := by decide +kernel
theorem dX7_init_56 : decode cX7_init 56 = .ok (.putfield 38, 3) := by decide +kernel
theorem dX7_init_59 : decode cX7_init 59 = .ok (.aload_n 0, 1) := by decide +kernel
theorem dX7_init_60 : decode cX7_init 60 = .ok (.new 39, 3) := by decide +kernel
theorem dX7_init_63 : decode cX7_init 63 = .ok (.dup, 1) := by decide +kernel
theorem dX7_init_64 : decode cX7_init 64 = .ok (.invokespecial 41, 3) := by decide +kernel
theorem dX7_init_67 : decode cX7_init 67 = .ok (.putfield 42, 3) := by decide +kernel
theorem dX7_init_70 : decode cX7_init 70 = .ok (.aload_n 0, 1) := by decide +kernel
theorem dX7_init_71 : decode cX7_init 71 = .ok (.new 46, 3) := by decide +kernel
theorem dX7_init_74 : decode cX7_init 74 = .ok (.dup, 1) := by decide +kernel
theorem dX7_init_75 : decode cX7_init 75 = .ok (.bipush 8, 2) := by decide +kernel
theorem dX7_init_77 : decode cX7_init 77 = .ok (.invokespecial 48, 3) := by decide +kernel
theorem dX7_init_80 : decode cX7_init 80 = .ok (.putfield 51, 3) := by decide +kernel
theorem dX7_init_83 : decode cX7_init 83 = .ok (.aload_n 0, 1) := by decide +kernel
theorem dX7_init_84 : decode cX7_init 84 = .ok (.new 46, 3) := by decide +kernel
theorem dX7_init_87 : decode cX7_init 87 = .ok (.dup, 1) := by decide +kernel
theorem dX7_init_88 : decode cX7_init 88 = .ok (.iconst 2, 1) := by decide +kernel
theorem dX7_init_89 : decode cX7_init 89 = .ok (.invokespecial 48, 3) := by decide +kernel
theorem dX7_init_92 : decode cX7_init 92 = .ok (.putfield 55, 3) := by decide +kernel
theorem dX7_init_95 : decode cX7_init 95 = .ok (.iconst 0, 1) := by decide +kernel
theorem dX7_init_96 : decode cX7_init 96 = .ok (.istore_n 1, 1) := by decide +kernel
theorem dX7_init_97 : decode cX7_init 97 = .ok (.iload_n 1, 1) := by decide +kernel
theorem dX7_init_98 : decode cX7_init 98 = .ok (.ldc 58, 2) := by decide +kernel
theorem dX7_init_100 : decode cX7_init 100 = .ok (.invokevirtual 60, 3) := by decide +kernel
theorem dX7_init_103 : decode cX7_init 103 = .ok (.if_icmp .ge 23, 3) := by decide +kernel
theorem dX7_init_106 : decode cX7_init 106 = .ok (.aload_n 0, 1) := by decide +kernel
theorem dX7_init_107 : decode cX7_init 107 = .ok (.getfield 10, 3) := by decide +kernel
theorem dX7_init_110 : decode cX7_init 110 = .ok (.ldc 58, 2) := by decide +kernel
theorem dX7_init_112 : decode cX7_init 112 = .ok (.iload_n 1, 1) := by decide +kernel
theorem dX7_init_113 : decode cX7_init 113 = .ok (.invokevirtual 66, 3) := by decide +kernel
theorem dX7_init_116 : decode cX7_init 116 = .ok (.invokevirtual 70, 3) := by decide +kernel
theorem dX7_init_119 : decode cX7_init 119 = .ok (.pop, 1) := by decide +kernel
theorem dX7_init_120 : decode cX7_init 120 = .ok (.iinc 1 1, 3) := by decide +kernel
theorem dX7_init_123 : decode cX7_init 123 = .ok (.goto (-26), 3) := by decide +kernel
theorem dX7_init_126 : decode cX7_init 126 = .ok (.aload_n 0, 1) := by decide +kernel
theorem dX7_init_127 : decode cX7_init 127 = .ok (.getfield 10, 3) := by decide +kernel
theorem dX7_init_130 : decode cX7_init 130 = .ok (.aload_n 0, 1) := by decide +kernel
theorem dX7_init_131 : decode cX7_init 131 = .ok (.getfield 33, 3) := by decide +kernel
theorem dX7_init_134 : decode cX7_init 134 = .ok (.invokevirtual 74, 3) := by decide +kernel
theorem dX7_init_137 : decode cX7_init 137 = .ok (.pop, 1) := by decide +kernel
theorem dX7_init_138 : decode cX7_init 138 = .ok (.aload_n 0, 1) := by decide +kernel
theorem dX7_init_139 : decode cX7_init 139 = .ok (.getfield 10, 3) := by decide +kernel
theorem dX7_init_142 : decode cX7_init 142 = .ok (.invokevirtual 78, 3) := by decide +kernel
theorem dX7_init_145 : decode cX7_init 145 = .ok (.return_, 1) := by decide +kernel
theorem dX7_write_0 : decode cX7_write 0 = .ok (.iload_n 1, 1) := by decide +kernel
theorem dX7_write_1 : decode cX7_write 1 = .ok (.bipush 32, 2) := by decide +kernel
theorem dX7_write_3 : decode cX7_write 3 = .ok (.if_icmp .lt 9, 3) := by decide +kernel
theorem dX7_write_6 : decode cX7_write 6 = .ok (.iload_n 1, 1) := by decide +kernel
theorem dX7_write_7 : decode cX7_write 7 = .ok (.bipush 126, 2) := by decide +kernel
theorem dX7_write_9 : decode cX7_write 9 = .ok (.if_icmp .le 5, 3) := by decide +kernel
theorem dX7_write_12 : decode cX7_write 12 = .ok (.iconst (-1), 1) := by decide +kernel
theorem dX7_write_13 : decode cX7_write 13 = .ok (.ireturn, 1) := by decide +kernel
theorem dX7_write_14 : decode cX7_write 14 = .ok (.aload_n 0, 1) := by decide +kernel
theorem dX7_write_15 : decode cX7_write 15 = .ok (.getfield 10, 3) := by decide +kernel
theorem dX7_write_18 : decode cX7_write 18 = .ok (.iload_n 1, 1) := by decide +kernel
theorem dX7_write_19 : decode cX7_write 19 = .ok (.invokevirtual 70, 3) := by decide +kernel
theorem dX7_write_22 : decode cX7_write 22 = .ok (.ifCond .eq 13, 3) := by decide +kernel
theorem dX7_write_25 : decode cX7_write 25 = .ok (.aload_n 0, 1) := by decide +kernel
theorem dX7_write_26 : decode cX7_write 26 = .ok (.getfield 10, 3) := by decide +kernel
theorem dX7_write_29 : decode cX7_write 29 = .ok (.getfield 81, 3) := by decide +kernel
theorem dX7_write_32 : decode cX7_write 32 = .ok (.goto 5, 3) := by decide +kernel
theorem dX7_write_35 : decode cX7_write 35 = .ok (.bipush (-3), 2) := by decide +kernel
theorem dX7_write_37 : decode cX7_write 37 = .ok (.ireturn, 1) := by decide +kernel
theorem dX7_wipe_0 : decode cX7_wipe 0 = .ok (.aload_n 0, 1) := by decide +kernel
theorem dX7_wipe_1 : decode cX7_wipe 1 = .ok (.getfield 10, 3) := by decide +kernel
theorem dX7_wipe_4 : decode cX7_wipe 4 = .ok (.getfield 81, 3) := by decide +kernel
theorem dX7_wipe_7 : decode cX7_wipe 7 = .ok (.istore_n 1, 1) := by decide +kernel
theorem dX7_wipe_8 : decode cX7_wipe 8 = .ok (.aload_n 0, 1) := by decide +kernel
theorem dX7_wipe_9 : decode cX7_wipe 9 = .ok (.getfield 10, 3) := by decide +kernel
theorem dX7_wipe_12 : decode cX7_wipe 12 = .ok (.invokevirtual 78, 3) := by decide +kernel
theorem dX7_wipe_15 : decode cX7_wipe 15 = .ok (.iload_n 1, 1) := by decide +kernel
theorem dX7_wipe_16 : decode cX7_wipe 16 = .ok (.ireturn, 1) := by decide +kernel
theorem dX7_fault_0 : decode cX7_fault 0 = .ok (.aload_n 0, 1) := by decide +kernel
theorem dX7_fault_1 : decode cX7_fault 1 = .ok (.getfield 10, 3) := by decide +kernel
theorem dX7_fault_4 : decode cX7_fault 4 = .ok (.aload_n 0, 1) := by decide +kernel
theorem dX7_fault_5 : decode cX7_fault 5 = .ok (.getfield 19, 3) := by decide +kernel
theorem dX7_fault_8 : decode cX7_fault 8 = .ok (.invokevirtual 74, 3) := by decide +kernel
theorem dX7_fault_11 : decode cX7_fault 11 = .ok (.ireturn, 1) := by decide +kernel
theorem dX7_lay_0 : decode cX7_lay 0 = .ok (.aload_n 0, 1) := by decide +kernel
theorem dX7_lay_1 : decode cX7_lay 1 = .ok (.getfield 10, 3) := by decide +kernel
theorem dX7_lay_4 : decode cX7_lay 4 = .ok (.aload_n 0, 1) := by decide +kernel
theorem dX7_lay_5 : decode cX7_lay 5 = .ok (.getfield 19, 3) := by decide +kernel
theorem dX7_lay_8 : decode cX7_lay 8 = .ok (.invokevirtual 74, 3) := by decide +kernel
theorem dX7_lay_11 : decode cX7_lay 11 = .ok (.bipush (-4), 2) := by decide +kernel
theorem dX7_lay_13 : decode cX7_lay 13 = .ok (.if_icmp .ne 14, 3) := by decide +kernel
theorem dX7_lay_16 : decode cX7_lay 16 = .ok (.aload_n 0, 1) := by decide +kernel
theorem dX7_lay_17 : decode cX7_lay 17 = .ok (.getfield 19, 3) := by decide +kernel
theorem dX7_lay_20 : decode cX7_lay 20 = .ok (.getfield 84, 3) := by decide +kernel
theorem dX7_lay_23 : decode cX7_lay 23 = .ok (.iconst 1, 1) := by decide +kernel
theorem dX7_lay_24 : decode cX7_lay 24 = .ok (.if_icmp .ge 6, 3) := by decide +kernel
theorem dX7_lay_27 : decode cX7_lay 27 = .ok (.bipush (-2), 2) := by decide +kernel
theorem dX7_lay_29 : decode cX7_lay 29 = .ok (.ireturn, 1) := by decide +kernel
theorem dX7_lay_30 : decode cX7_lay 30 = .ok (.aload_n 0, 1) := by decide +kernel
theorem dX7_lay_31 : decode cX7_lay 31 = .ok (.getfield 33, 3) := by decide +kernel
theorem dX7_lay_34 : decode cX7_lay 34 = .ok (.aload_n 0, 1) := by decide +kernel
theorem dX7_lay_35 : decode cX7_lay 35 = .ok (.getfield 19, 3) := by decide +kernel
theorem dX7_lay_38 : decode cX7_lay 38 = .ok (.invokevirtual 87, 3) := by decide +kernel
theorem dX7_lay_41 : decode cX7_lay 41 = .ok (.aload_n 0, 1) := by decide +kernel
theorem dX7_lay_42 : decode cX7_lay 42 = .ok (.getfield 38, 3) := by decide +kernel
theorem dX7_lay_45 : decode cX7_lay 45 = .ok (.invokevirtual 91, 3) := by decide +kernel
theorem dX7_lay_48 : decode cX7_lay 48 = .ok (.aload_n 0, 1) := by decide +kernel
theorem dX7_lay_49 : decode cX7_lay 49 = .ok (.getfield 42, 3) := by decide +kernel
theorem dX7_lay_52 : decode cX7_lay 52 = .ok (.invokevirtual 96, 3) := by decide +kernel
theorem dX7_lay_55 : decode cX7_lay 55 = .ok (.aload_n 0, 1) := by decide +kernel
theorem dX7_lay_56 : decode cX7_lay 56 = .ok (.getfield 51, 3) := by decide +kernel
theorem dX7_lay_59 : decode cX7_lay 59 = .ok (.invokevirtual 97, 3) := by decide +kernel
theorem dX7_lay_62 : decode cX7_lay 62 = .ok (.aload_n 0, 1) := by decide +kernel
theorem dX7_lay_63 : decode cX7_lay 63 = .ok (.getfield 55, 3) := by decide +kernel
theorem dX7_lay_66 : decode cX7_lay 66 = .ok (.invokevirtual 97, 3) := by decide +kernel
theorem dX7_lay_69 : decode cX7_lay 69 = .ok (.aload_n 0, 1) := by decide +kernel
theorem dX7_lay_70 : decode cX7_lay 70 = .ok (.getfield 33, 3) := by decide +kernel
theorem dX7_lay_73 : decode cX7_lay 73 = .ok (.getfield 84, 3) := by decide +kernel
theorem dX7_lay_76 : decode cX7_lay 76 = .ok (.ireturn, 1) := by decide +kernel
theorem dX7_person_0 : decode cX7_person 0 = .ok (.aload_n 0, 1) := by decide +kernel
theorem dX7_person_1 : decode cX7_person 1 = .ok (.getfield 33, 3) := by decide +kernel
theorem dX7_person_4 : decode cX7_person 4 = .ok (.iload_n 1, 1) := by decide +kernel
theorem dX7_person_5 : decode cX7_person 5 = .ok (.invokevirtual 98, 3) := by decide +kernel
theorem dX7_person_8 : decode cX7_person 8 = .ok (.ifCond .ne 5, 3) := by decide +kernel
theorem dX7_person_11 : decode cX7_person 11 = .ok (.iconst (-1), 1) := by decide +kernel
theorem dX7_person_12 : decode cX7_person 12 = .ok (.ireturn, 1) := by decide +kernel
theorem dX7_person_13 : decode cX7_person 13 = .ok (.iload_n 2, 1) := by decide +kernel
theorem dX7_person_14 : decode cX7_person 14 = .ok (.tableswitch 118 0 7 #[46, 55, 64, 73, 82, 91, 100, 109], 46) := by decide +kernel
theorem dX7_person_60 : decode cX7_person 60 = .ok (.aload_n 0, 1) := by decide +kernel
theorem dX7_person_61 : decode cX7_person 61 = .ok (.getfield 33, 3) := by decide +kernel
theorem dX7_person_64 : decode cX7_person 64 = .ok (.iload_n 1, 1) := by decide +kernel
theorem dX7_person_65 : decode cX7_person 65 = .ok (.invokevirtual 101, 3) := by decide +kernel
theorem dX7_person_68 : decode cX7_person 68 = .ok (.ireturn, 1) := by decide +kernel
theorem dX7_person_69 : decode cX7_person 69 = .ok (.aload_n 0, 1) := by decide +kernel
theorem dX7_person_70 : decode cX7_person 70 = .ok (.getfield 33, 3) := by decide +kernel
theorem dX7_person_73 : decode cX7_person 73 = .ok (.iload_n 1, 1) := by decide +kernel
theorem dX7_person_74 : decode cX7_person 74 = .ok (.invokevirtual 105, 3) := by decide +kernel
theorem dX7_person_77 : decode cX7_person 77 = .ok (.ireturn, 1) := by decide +kernel
theorem dX7_person_78 : decode cX7_person 78 = .ok (.aload_n 0, 1) := by decide +kernel
theorem dX7_person_79 : decode cX7_person 79 = .ok (.getfield 33, 3) := by decide +kernel
theorem dX7_person_82 : decode cX7_person 82 = .ok (.iload_n 1, 1) := by decide +kernel
theorem dX7_person_83 : decode cX7_person 83 = .ok (.invokevirtual 108, 3) := by decide +kernel
theorem dX7_person_86 : decode cX7_person 86 = .ok (.ireturn, 1) := by decide +kernel
theorem dX7_person_87 : decode cX7_person 87 = .ok (.aload_n 0, 1) := by decide +kernel
theorem dX7_person_88 : decode cX7_person 88 = .ok (.getfield 38, 3) := by decide +kernel
theorem dX7_person_91 : decode cX7_person 91 = .ok (.iload_n 1, 1) := by decide +kernel
theorem dX7_person_92 : decode cX7_person 92 = .ok (.invokevirtual 111, 3) := by decide +kernel
theorem dX7_person_95 : decode cX7_person 95 = .ok (.ireturn, 1) := by decide +kernel
theorem dX7_person_96 : decode cX7_person 96 = .ok (.aload_n 0, 1) := by decide +kernel
theorem dX7_person_97 : decode cX7_person 97 = .ok (.getfield 38, 3) := by decide +kernel
theorem dX7_person_100 : decode cX7_person 100 = .ok (.iload_n 1, 1) := by decide +kernel
theorem dX7_person_101 : decode cX7_person 101 = .ok (.invokevirtual 114, 3) := by decide +kernel
theorem dX7_person_104 : decode cX7_person 104 = .ok (.ireturn, 1) := by decide +kernel
theorem dX7_person_105 : decode cX7_person 105 = .ok (.aload_n 0, 1) := by decide +kernel
theorem dX7_person_106 : decode cX7_person 106 = .ok (.getfield 38, 3) := by decide +kernel
theorem dX7_person_109 : decode cX7_person 109 = .ok (.iload_n 1, 1) := by decide +kernel
theorem dX7_person_110 : decode cX7_person 110 = .ok (.invokevirtual 117, 3) := by decide +kernel
theorem dX7_person_113 : decode cX7_person 113 = .ok (.ireturn, 1) := by decide +kernel
theorem dX7_person_114 : decode cX7_person 114 = .ok (.aload_n 0, 1) := by decide +kernel
theorem dX7_person_115 : decode cX7_person 115 = .ok (.getfield 38, 3) := by decide +kernel
theorem dX7_person_118 : decode cX7_person 118 = .ok (.iload_n 1, 1) := by decide +kernel
theorem dX7_person_119 : decode cX7_person 119 = .ok (.invokevirtual 120, 3) := by decide +kernel
theorem dX7_person_122 : decode cX7_person 122 = .ok (.ireturn, 1) := by decide +kernel
theorem dX7_person_123 : decode cX7_person 123 = .ok (.aload_n 0, 1) := by decide +kernel
theorem dX7_person_124 : decode cX7_person 124 = .ok (.getfield 38, 3) := by decide +kernel
theorem dX7_person_127 : decode cX7_person 127 = .ok (.iload_n 1, 1) := by decide +kernel
theorem dX7_person_128 : decode cX7_person 128 = .ok (.invokevirtual 123, 3) := by decide +kernel
theorem dX7_person_131 : decode cX7_person 131 = .ok (.ireturn, 1) := by decide +kernel
theorem dX7_person_132 : decode cX7_person 132 = .ok (.iconst (-1), 1) := by decide +kernel
theorem dX7_person_133 : decode cX7_person 133 = .ok (.ireturn, 1) := by decide +kernel
theorem dX7_at_0 : decode cX7_at 0 = .ok (.iload_n 1, 1) := by decide +kernel
theorem dX7_at_1 : decode cX7_at 1 = .ok (.ifCond .ge 7, 3) := by decide +kernel
theorem dX7_at_4 : decode cX7_at 4 = .ok (.iconst (-1), 1) := by decide +kernel
theorem dX7_at_5 : decode cX7_at 5 = .ok (.goto 11, 3) := by decide +kernel
theorem dX7_at_8 : decode cX7_at 8 = .ok (.aload_n 0, 1) := by decide +kernel
theorem dX7_at_9 : decode cX7_at 9 = .ok (.getfield 38, 3) := by decide +kernel
theorem dX7_at_12 : decode cX7_at 12 = .ok (.iload_n 1, 1) := by decide +kernel
theorem dX7_at_13 : decode cX7_at 13 = .ok (.invokevirtual 126, 3) := by decide +kernel
theorem dX7_at_16 : decode cX7_at 16 = .ok (.ireturn, 1) := by decide +kernel
theorem dX7_pass_0 : decode cX7_pass 0 = .ok (.iload_n 1, 1) := by decide +kernel
theorem dX7_pass_1 : decode cX7_pass 1 = .ok (.iconst 1, 1) := by decide +kernel
theorem dX7_pass_2 : decode cX7_pass 2 = .ok (.if_icmp .lt 9, 3) := by decide +kernel
theorem dX7_pass_5 : decode cX7_pass 5 = .ok (.iload_n 1, 1) := by decide +kernel
theorem dX7_pass_6 : decode cX7_pass 6 = .ok (.bipush 30, 2) := by decide +kernel
theorem dX7_pass_8 : decode cX7_pass 8 = .ok (.if_icmp .le 5, 3) := by decide +kernel
theorem dX7_pass_11 : decode cX7_pass 11 = .ok (.iconst (-1), 1) := by decide +kernel
theorem dX7_pass_12 : decode cX7_pass 12 = .ok (.ireturn, 1) := by decide +kernel
theorem dX7_pass_13 : decode cX7_pass 13 = .ok (.aload_n 0, 1) := by decide +kernel
theorem dX7_pass_14 : decode cX7_pass 14 = .ok (.getfield 51, 3) := by decide +kernel
theorem dX7_pass_17 : decode cX7_pass 17 = .ok (.aload_n 0, 1) := by decide +kernel
theorem dX7_pass_18 : decode cX7_pass 18 = .ok (.getfield 38, 3) := by decide +kernel
theorem dX7_pass_21 : decode cX7_pass 21 = .ok (.invokevirtual 129, 3) := by decide +kernel
theorem dX7_pass_24 : decode cX7_pass 24 = .ok (.aload_n 0, 1) := by decide +kernel
theorem dX7_pass_25 : decode cX7_pass 25 = .ok (.getfield 38, 3) := by decide +kernel
theorem dX7_pass_28 : decode cX7_pass 28 = .ok (.aload_n 0, 1) := by decide +kernel
theorem dX7_pass_29 : decode cX7_pass 29 = .ok (.getfield 33, 3) := by decide +kernel
theorem dX7_pass_32 : decode cX7_pass 32 = .ok (.iload_n 1, 1) := by decide +kernel
theorem dX7_pass_33 : decode cX7_pass 33 = .ok (.invokevirtual 133, 3) := by decide +kernel
theorem dX7_pass_36 : decode cX7_pass 36 = .ok (.aload_n 0, 1) := by decide +kernel
theorem dX7_pass_37 : decode cX7_pass 37 = .ok (.getfield 38, 3) := by decide +kernel
theorem dX7_pass_40 : decode cX7_pass 40 = .ok (.iconst 3, 1) := by decide +kernel
theorem dX7_pass_41 : decode cX7_pass 41 = .ok (.invokevirtual 137, 3) := by decide +kernel
theorem dX7_pass_44 : decode cX7_pass 44 = .ok (.ireturn, 1) := by decide +kernel
theorem dX7_giveUp_0 : decode cX7_giveUp 0 = .ok (.aload_n 0, 1) := by decide +kernel
theorem dX7_giveUp_1 : decode cX7_giveUp 1 = .ok (.getfield 33, 3) := by decide +kernel
theorem dX7_giveUp_4 : decode cX7_giveUp 4 = .ok (.iload_n 1, 1) := by decide +kernel
theorem dX7_giveUp_5 : decode cX7_giveUp 5 = .ok (.invokevirtual 98, 3) := by decide +kernel
theorem dX7_giveUp_8 : decode cX7_giveUp 8 = .ok (.ifCond .ne 5, 3) := by decide +kernel
theorem dX7_giveUp_11 : decode cX7_giveUp 11 = .ok (.iconst (-1), 1) := by decide +kernel
theorem dX7_giveUp_12 : decode cX7_giveUp 12 = .ok (.ireturn, 1) := by decide +kernel
theorem dX7_giveUp_13 : decode cX7_giveUp 13 = .ok (.aload_n 0, 1) := by decide +kernel
theorem dX7_giveUp_14 : decode cX7_giveUp 14 = .ok (.getfield 38, 3) := by decide +kernel
theorem dX7_giveUp_17 : decode cX7_giveUp 17 = .ok (.iload_n 1, 1) := by decide +kernel
theorem dX7_giveUp_18 : decode cX7_giveUp 18 = .ok (.invokevirtual 140, 3) := by decide +kernel
theorem dX7_giveUp_21 : decode cX7_giveUp 21 = .ok (.ifCond .ne 6, 3) := by decide +kernel
theorem dX7_giveUp_24 : decode cX7_giveUp 24 = .ok (.bipush (-2), 2) := by decide +kernel
theorem dX7_giveUp_26 : decode cX7_giveUp 26 = .ok (.ireturn, 1) := by decide +kernel
theorem dX7_giveUp_27 : decode cX7_giveUp 27 = .ok (.aload_n 0, 1) := by decide +kernel
theorem dX7_giveUp_28 : decode cX7_giveUp 28 = .ok (.getfield 51, 3) := by decide +kernel
theorem dX7_giveUp_31 : decode cX7_giveUp 31 = .ok (.aload_n 0, 1) := by decide +kernel
theorem dX7_giveUp_32 : decode cX7_giveUp 32 = .ok (.getfield 38, 3) := by decide +kernel
theorem dX7_giveUp_35 : decode cX7_giveUp 35 = .ok (.invokevirtual 129, 3) := by decide +kernel
theorem dX7_giveUp_38 : decode cX7_giveUp 38 = .ok (.aload_n 0, 1) := by decide +kernel
theorem dX7_giveUp_39 : decode cX7_giveUp 39 = .ok (.getfield 38, 3) := by decide +kernel
theorem dX7_giveUp_42 : decode cX7_giveUp 42 = .ok (.iload_n 1, 1) := by decide +kernel
theorem dX7_giveUp_43 : decode cX7_giveUp 43 = .ok (.invokevirtual 143, 3) := by decide +kernel
theorem dX7_giveUp_46 : decode cX7_giveUp 46 = .ok (.aload_n 0, 1) := by decide +kernel
theorem dX7_giveUp_47 : decode cX7_giveUp 47 = .ok (.getfield 38, 3) := by decide +kernel
theorem dX7_giveUp_50 : decode cX7_giveUp 50 = .ok (.iload_n 1, 1) := by decide +kernel
theorem dX7_giveUp_51 : decode cX7_giveUp 51 = .ok (.invokevirtual 114, 3) := by decide +kernel
theorem dX7_giveUp_54 : decode cX7_giveUp 54 = .ok (.ireturn, 1) := by decide +kernel
theorem dX7_sneeze_0 : decode cX7_sneeze 0 = .ok (.aload_n 0, 1) := by decide +kernel
theorem dX7_sneeze_1 : decode cX7_sneeze 1 = .ok (.getfield 33, 3) := by decide +kernel
theorem dX7_sneeze_4 : decode cX7_sneeze 4 = .ok (.iload_n 1, 1) := by decide +kernel
theorem dX7_sneeze_5 : decode cX7_sneeze 5 = .ok (.invokevirtual 98, 3) := by decide +kernel
theorem dX7_sneeze_8 : decode cX7_sneeze 8 = .ok (.ifCond .ne 5, 3) := by decide +kernel
theorem dX7_sneeze_11 : decode cX7_sneeze 11 = .ok (.iconst (-1), 1) := by decide +kernel
theorem dX7_sneeze_12 : decode cX7_sneeze 12 = .ok (.ireturn, 1) := by decide +kernel
theorem dX7_sneeze_13 : decode cX7_sneeze 13 = .ok (.aload_n 0, 1) := by decide +kernel
theorem dX7_sneeze_14 : decode cX7_sneeze 14 = .ok (.getfield 38, 3) := by decide +kernel
theorem dX7_sneeze_17 : decode cX7_sneeze 17 = .ok (.iload_n 1, 1) := by decide +kernel
theorem dX7_sneeze_18 : decode cX7_sneeze 18 = .ok (.invokevirtual 111, 3) := by decide +kernel
theorem dX7_sneeze_21 : decode cX7_sneeze 21 = .ok (.iconst 1, 1) := by decide +kernel
theorem dX7_sneeze_22 : decode cX7_sneeze 22 = .ok (.if_icmp .eq 6, 3) := by decide +kernel
theorem dX7_sneeze_25 : decode cX7_sneeze 25 = .ok (.bipush (-2), 2) := by decide +kernel
theorem dX7_sneeze_27 : decode cX7_sneeze 27 = .ok (.ireturn, 1) := by decide +kernel
theorem dX7_sneeze_28 : decode cX7_sneeze 28 = .ok (.aload_n 0, 1) := by decide +kernel
theorem dX7_sneeze_29 : decode cX7_sneeze 29 = .ok (.getfield 51, 3) := by decide +kernel
theorem dX7_sneeze_32 : decode cX7_sneeze 32 = .ok (.aload_n 0, 1) := by decide +kernel
theorem dX7_sneeze_33 : decode cX7_sneeze 33 = .ok (.getfield 38, 3) := by decide +kernel
theorem dX7_sneeze_36 : decode cX7_sneeze 36 = .ok (.invokevirtual 129, 3) := by decide +kernel
theorem dX7_sneeze_39 : decode cX7_sneeze 39 = .ok (.aload_n 0, 1) := by decide +kernel
theorem dX7_sneeze_40 : decode cX7_sneeze 40 = .ok (.getfield 38, 3) := by decide +kernel
theorem dX7_sneeze_43 : decode cX7_sneeze 43 = .ok (.iload_n 1, 1) := by decide +kernel
theorem dX7_sneeze_44 : decode cX7_sneeze 44 = .ok (.invokevirtual 146, 3) := by decide +kernel
theorem dX7_sneeze_47 : decode cX7_sneeze 47 = .ok (.aload_n 0, 1) := by decide +kernel
theorem dX7_sneeze_48 : decode cX7_sneeze 48 = .ok (.getfield 38, 3) := by decide +kernel
theorem dX7_sneeze_51 : decode cX7_sneeze 51 = .ok (.getfield 149, 3) := by decide +kernel
theorem dX7_sneeze_54 : decode cX7_sneeze 54 = .ok (.ireturn, 1) := by decide +kernel
theorem dX7_leave_0 : decode cX7_leave 0 = .ok (.aload_n 0, 1) := by decide +kernel
theorem dX7_leave_1 : decode cX7_leave 1 = .ok (.getfield 33, 3) := by decide +kernel
theorem dX7_leave_4 : decode cX7_leave 4 = .ok (.iload_n 1, 1) := by decide +kernel
theorem dX7_leave_5 : decode cX7_leave 5 = .ok (.invokevirtual 98, 3) := by decide +kernel
theorem dX7_leave_8 : decode cX7_leave 8 = .ok (.ifCond .ne 5, 3) := by decide +kernel
theorem dX7_leave_11 : decode cX7_leave 11 = .ok (.iconst (-1), 1) := by decide +kernel
theorem dX7_leave_12 : decode cX7_leave 12 = .ok (.ireturn, 1) := by decide +kernel
theorem dX7_leave_13 : decode cX7_leave 13 = .ok (.aload_n 0, 1) := by decide +kernel
theorem dX7_leave_14 : decode cX7_leave 14 = .ok (.getfield 38, 3) := by decide +kernel
theorem dX7_leave_17 : decode cX7_leave 17 = .ok (.iload_n 1, 1) := by decide +kernel
theorem dX7_leave_18 : decode cX7_leave 18 = .ok (.invokevirtual 111, 3) := by decide +kernel
theorem dX7_leave_21 : decode cX7_leave 21 = .ok (.iconst 1, 1) := by decide +kernel
theorem dX7_leave_22 : decode cX7_leave 22 = .ok (.if_icmp .eq 6, 3) := by decide +kernel
theorem dX7_leave_25 : decode cX7_leave 25 = .ok (.bipush (-2), 2) := by decide +kernel
theorem dX7_leave_27 : decode cX7_leave 27 = .ok (.ireturn, 1) := by decide +kernel
theorem dX7_leave_28 : decode cX7_leave 28 = .ok (.aload_n 0, 1) := by decide +kernel
theorem dX7_leave_29 : decode cX7_leave 29 = .ok (.getfield 51, 3) := by decide +kernel
theorem dX7_leave_32 : decode cX7_leave 32 = .ok (.aload_n 0, 1) := by decide +kernel
theorem dX7_leave_33 : decode cX7_leave 33 = .ok (.getfield 38, 3) := by decide +kernel
theorem dX7_leave_36 : decode cX7_leave 36 = .ok (.invokevirtual 129, 3) := by decide +kernel
theorem dX7_leave_39 : decode cX7_leave 39 = .ok (.aload_n 0, 1) := by decide +kernel
theorem dX7_leave_40 : decode cX7_leave 40 = .ok (.getfield 38, 3) := by decide +kernel
theorem dX7_leave_43 : decode cX7_leave 43 = .ok (.iload_n 1, 1) := by decide +kernel
theorem dX7_leave_44 : decode cX7_leave 44 = .ok (.invokevirtual 152, 3) := by decide +kernel
theorem dX7_leave_47 : decode cX7_leave 47 = .ok (.aload_n 0, 1) := by decide +kernel
theorem dX7_leave_48 : decode cX7_leave 48 = .ok (.getfield 38, 3) := by decide +kernel
theorem dX7_leave_51 : decode cX7_leave 51 = .ok (.getfield 149, 3) := by decide +kernel
theorem dX7_leave_54 : decode cX7_leave 54 = .ok (.ireturn, 1) := by decide +kernel
theorem dX7_again_0 : decode cX7_again 0 = .ok (.aload_n 0, 1) := by decide +kernel
theorem dX7_again_1 : decode cX7_again 1 = .ok (.getfield 33, 3) := by decide +kernel
theorem dX7_again_4 : decode cX7_again 4 = .ok (.iload_n 1, 1) := by decide +kernel
theorem dX7_again_5 : decode cX7_again 5 = .ok (.invokevirtual 98, 3) := by decide +kernel
theorem dX7_again_8 : decode cX7_again 8 = .ok (.ifCond .ne 5, 3) := by decide +kernel
theorem dX7_again_11 : decode cX7_again 11 = .ok (.iconst (-1), 1) := by decide +kernel
theorem dX7_again_12 : decode cX7_again 12 = .ok (.ireturn, 1) := by decide +kernel
theorem dX7_again_13 : decode cX7_again 13 = .ok (.aload_n 0, 1) := by decide +kernel
theorem dX7_again_14 : decode cX7_again 14 = .ok (.getfield 38, 3) := by decide +kernel
theorem dX7_again_17 : decode cX7_again 17 = .ok (.iload_n 1, 1) := by decide +kernel
theorem dX7_again_18 : decode cX7_again 18 = .ok (.invokevirtual 111, 3) := by decide +kernel
theorem dX7_again_21 : decode cX7_again 21 = .ok (.iconst 2, 1) := by decide +kernel
theorem dX7_again_22 : decode cX7_again 22 = .ok (.if_icmp .eq 6, 3) := by decide +kernel
theorem dX7_again_25 : decode cX7_again 25 = .ok (.bipush (-2), 2) := by decide +kernel
theorem dX7_again_27 : decode cX7_again 27 = .ok (.ireturn, 1) := by decide +kernel
theorem dX7_again_28 : decode cX7_again 28 = .ok (.aload_n 0, 1) := by decide +kernel
theorem dX7_again_29 : decode cX7_again 29 = .ok (.getfield 51, 3) := by decide +kernel
theorem dX7_again_32 : decode cX7_again 32 = .ok (.aload_n 0, 1) := by decide +kernel
theorem dX7_again_33 : decode cX7_again 33 = .ok (.getfield 38, 3) := by decide +kernel
theorem dX7_again_36 : decode cX7_again 36 = .ok (.invokevirtual 129, 3) := by decide +kernel
theorem dX7_again_39 : decode cX7_again 39 = .ok (.aload_n 0, 1) := by decide +kernel
theorem dX7_again_40 : decode cX7_again 40 = .ok (.getfield 38, 3) := by decide +kernel
theorem dX7_again_43 : decode cX7_again 43 = .ok (.aload_n 0, 1) := by decide +kernel
theorem dX7_again_44 : decode cX7_again 44 = .ok (.getfield 33, 3) := by decide +kernel
theorem dX7_again_47 : decode cX7_again 47 = .ok (.iload_n 1, 1) := by decide +kernel
theorem dX7_again_48 : decode cX7_again 48 = .ok (.invokevirtual 155, 3) := by decide +kernel
theorem dX7_again_51 : decode cX7_again 51 = .ok (.aload_n 0, 1) := by decide +kernel
theorem dX7_again_52 : decode cX7_again 52 = .ok (.getfield 38, 3) := by decide +kernel
theorem dX7_again_55 : decode cX7_again 55 = .ok (.iload_n 1, 1) := by decide +kernel
theorem dX7_again_56 : decode cX7_again 56 = .ok (.invokevirtual 114, 3) := by decide +kernel
theorem dX7_again_59 : decode cX7_again 59 = .ok (.ireturn, 1) := by decide +kernel
theorem dX7_undo_0 : decode cX7_undo 0 = .ok (.aload_n 0, 1) := by decide +kernel
theorem dX7_undo_1 : decode cX7_undo 1 = .ok (.getfield 51, 3) := by decide +kernel
theorem dX7_undo_4 : decode cX7_undo 4 = .ok (.aload_n 0, 1) := by decide +kernel
theorem dX7_undo_5 : decode cX7_undo 5 = .ok (.getfield 38, 3) := by decide +kernel
theorem dX7_undo_8 : decode cX7_undo 8 = .ok (.invokevirtual 158, 3) := by decide +kernel
theorem dX7_undo_11 : decode cX7_undo 11 = .ok (.ifCond .eq 13, 3) := by decide +kernel
theorem dX7_undo_14 : decode cX7_undo 14 = .ok (.aload_n 0, 1) := by decide +kernel
theorem dX7_undo_15 : decode cX7_undo 15 = .ok (.getfield 51, 3) := by decide +kernel
theorem dX7_undo_18 : decode cX7_undo 18 = .ok (.getfield 162, 3) := by decide +kernel
theorem dX7_undo_21 : decode cX7_undo 21 = .ok (.goto 5, 3) := by decide +kernel
theorem dX7_undo_24 : decode cX7_undo 24 = .ok (.bipush (-2), 2) := by decide +kernel
theorem dX7_undo_26 : decode cX7_undo 26 = .ok (.ireturn, 1) := by decide +kernel
theorem dX7_behind_0 : decode cX7_behind 0 = .ok (.iload_n 1, 1) := by decide +kernel
theorem dX7_behind_1 : decode cX7_behind 1 = .ok (.ifCond .lt 20, 3) := by decide +kernel
theorem dX7_behind_4 : decode cX7_behind 4 = .ok (.iload_n 1, 1) := by decide +kernel
theorem dX7_behind_5 : decode cX7_behind 5 = .ok (.bipush 60, 2) := by decide +kernel
theorem dX7_behind_7 : decode cX7_behind 7 = .ok (.if_icmp .gt 14, 3) := by decide +kernel
theorem dX7_behind_10 : decode cX7_behind 10 = .ok (.iload_n 2, 1) := by decide +kernel
theorem dX7_behind_11 : decode cX7_behind 11 = .ok (.iconst (-1), 1) := by decide +kernel
theorem dX7_behind_12 : decode cX7_behind 12 = .ok (.if_icmp .lt 9, 3) := by decide +kernel
theorem dX7_behind_15 : decode cX7_behind 15 = .ok (.iload_n 2, 1) := by decide +kernel
theorem dX7_behind_16 : decode cX7_behind 16 = .ok (.bipush 9, 2) := by decide +kernel
theorem dX7_behind_18 : decode cX7_behind 18 = .ok (.if_icmp .lt 5, 3) := by decide +kernel
theorem dX7_behind_21 : decode cX7_behind 21 = .ok (.iconst (-1), 1) := by decide +kernel
theorem dX7_behind_22 : decode cX7_behind 22 = .ok (.ireturn, 1) := by decide +kernel
theorem dX7_behind_23 : decode cX7_behind 23 = .ok (.aload_n 0, 1) := by decide +kernel
theorem dX7_behind_24 : decode cX7_behind 24 = .ok (.getfield 26, 3) := by decide +kernel
theorem dX7_behind_27 : decode cX7_behind 27 = .ok (.iload_n 1, 1) := by decide +kernel
theorem dX7_behind_28 : decode cX7_behind 28 = .ok (.invokevirtual 165, 3) := by decide +kernel
theorem dX7_behind_31 : decode cX7_behind 31 = .ok (.astore_n 3, 1) := by decide +kernel
theorem dX7_behind_32 : decode cX7_behind 32 = .ok (.iload_n 2, 1) := by decide +kernel
theorem dX7_behind_33 : decode cX7_behind 33 = .ok (.iconst (-1), 1) := by decide +kernel
theorem dX7_behind_34 : decode cX7_behind 34 = .ok (.if_icmp .ne 10, 3) := by decide +kernel
theorem dX7_behind_37 : decode cX7_behind 37 = .ok (.aload_n 3, 1) := by decide +kernel
theorem dX7_behind_38 : decode cX7_behind 38 = .ok (.getfield 149, 3) := by decide +kernel
theorem dX7_behind_41 : decode cX7_behind 41 = .ok (.goto 8, 3) := by decide +kernel
theorem dX7_behind_44 : decode cX7_behind 44 = .ok (.aload_n 3, 1) := by decide +kernel
theorem dX7_behind_45 : decode cX7_behind 45 = .ok (.iload_n 2, 1) := by decide +kernel
theorem dX7_behind_46 : decode cX7_behind 46 = .ok (.invokevirtual 126, 3) := by decide +kernel
theorem dX7_behind_49 : decode cX7_behind 49 = .ok (.ireturn, 1) := by decide +kernel
theorem dX7_when_0 : decode cX7_when 0 = .ok (.aload_n 0, 1) := by decide +kernel
theorem dX7_when_1 : decode cX7_when 1 = .ok (.iload_n 1, 1) := by decide +kernel
theorem dX7_when_2 : decode cX7_when 2 = .ok (.iconst 0, 1) := by decide +kernel
theorem dX7_when_3 : decode cX7_when 3 = .ok (.invokevirtual 169, 3) := by decide +kernel
theorem dX7_when_6 : decode cX7_when 6 = .ok (.ireturn, 1) := by decide +kernel
theorem dX7_pays_0 : decode cX7_pays 0 = .ok (.aload_n 0, 1) := by decide +kernel
theorem dX7_pays_1 : decode cX7_pays 1 = .ok (.getfield 26, 3) := by decide +kernel
theorem dX7_pays_4 : decode cX7_pays 4 = .ok (.iconst 1, 1) := by decide +kernel
theorem dX7_pays_5 : decode cX7_pays 5 = .ok (.invokevirtual 173, 3) := by decide +kernel
theorem dX7_pays_8 : decode cX7_pays 8 = .ok (.ireturn, 1) := by decide +kernel
theorem dX7_gains_0 : decode cX7_gains 0 = .ok (.aload_n 0, 1) := by decide +kernel
theorem dX7_gains_1 : decode cX7_gains 1 = .ok (.getfield 26, 3) := by decide +kernel
theorem dX7_gains_4 : decode cX7_gains 4 = .ok (.iconst 0, 1) := by decide +kernel
theorem dX7_gains_5 : decode cX7_gains 5 = .ok (.invokevirtual 173, 3) := by decide +kernel
theorem dX7_gains_8 : decode cX7_gains 8 = .ok (.ireturn, 1) := by decide +kernel
theorem dX7_besides_0 : decode cX7_besides 0 = .ok (.aload_n 0, 1) := by decide +kernel
theorem dX7_besides_1 : decode cX7_besides 1 = .ok (.iload_n 1, 1) := by decide +kernel
theorem dX7_besides_2 : decode cX7_besides 2 = .ok (.iconst 1, 1) := by decide +kernel
theorem dX7_besides_3 : decode cX7_besides 3 = .ok (.invokevirtual 169, 3) := by decide +kernel
theorem dX7_besides_6 : decode cX7_besides 6 = .ok (.ireturn, 1) := by decide +kernel
theorem dX7_whenOf_0 : decode cX7_whenOf 0 = .ok (.aload_n 0, 1) := by decide +kernel
theorem dX7_whenOf_1 : decode cX7_whenOf 1 = .ok (.getfield 33, 3) := by decide +kernel
theorem dX7_whenOf_4 : decode cX7_whenOf 4 = .ok (.iload_n 1, 1) := by decide +kernel
theorem dX7_whenOf_5 : decode cX7_whenOf 5 = .ok (.invokevirtual 98, 3) := by decide +kernel
theorem dX7_whenOf_8 : decode cX7_whenOf 8 = .ok (.ifCond .ne 5, 3) := by decide +kernel
theorem dX7_whenOf_11 : decode cX7_whenOf 11 = .ok (.iconst (-1), 1) := by decide +kernel
theorem dX7_whenOf_12 : decode cX7_whenOf 12 = .ok (.ireturn, 1) := by decide +kernel
theorem dX7_whenOf_13 : decode cX7_whenOf 13 = .ok (.aload_n 0, 1) := by decide +kernel
theorem dX7_whenOf_14 : decode cX7_whenOf 14 = .ok (.getfield 38, 3) := by decide +kernel
theorem dX7_whenOf_17 : decode cX7_whenOf 17 = .ok (.iload_n 1, 1) := by decide +kernel
theorem dX7_whenOf_18 : decode cX7_whenOf 18 = .ok (.invokevirtual 111, 3) := by decide +kernel
theorem dX7_whenOf_21 : decode cX7_whenOf 21 = .ok (.iconst 3, 1) := by decide +kernel
theorem dX7_whenOf_22 : decode cX7_whenOf 22 = .ok (.if_icmp .ne 6, 3) := by decide +kernel
theorem dX7_whenOf_25 : decode cX7_whenOf 25 = .ok (.bipush (-2), 2) := by decide +kernel
theorem dX7_whenOf_27 : decode cX7_whenOf 27 = .ok (.ireturn, 1) := by decide +kernel
theorem dX7_whenOf_28 : decode cX7_whenOf 28 = .ok (.aload_n 0, 1) := by decide +kernel
theorem dX7_whenOf_29 : decode cX7_whenOf 29 = .ok (.getfield 26, 3) := by decide +kernel
theorem dX7_whenOf_32 : decode cX7_whenOf 32 = .ok (.invokevirtual 177, 3) := by decide +kernel
theorem dX7_whenOf_35 : decode cX7_whenOf 35 = .ok (.aload_n 0, 1) := by decide +kernel
theorem dX7_whenOf_36 : decode cX7_whenOf 36 = .ok (.getfield 26, 3) := by decide +kernel
theorem dX7_whenOf_39 : decode cX7_whenOf 39 = .ok (.iload_n 1, 1) := by decide +kernel
theorem dX7_whenOf_40 : decode cX7_whenOf 40 = .ok (.iload_n 2, 1) := by decide +kernel
theorem dX7_whenOf_41 : decode cX7_whenOf 41 = .ok (.invokevirtual 180, 3) := by decide +kernel
theorem dX7_whenOf_44 : decode cX7_whenOf 44 = .ok (.istore_n 3, 1) := by decide +kernel
theorem dX7_whenOf_45 : decode cX7_whenOf 45 = .ok (.iload_n 3, 1) := by decide +kernel
theorem dX7_whenOf_46 : decode cX7_whenOf 46 = .ok (.bipush 99, 2) := by decide +kernel
theorem dX7_whenOf_48 : decode cX7_whenOf 48 = .ok (.if_icmp .le 8, 3) := by decide +kernel
theorem dX7_whenOf_51 : decode cX7_whenOf 51 = .ok (.bipush (-4), 2) := by decide +kernel
theorem dX7_whenOf_53 : decode cX7_whenOf 53 = .ok (.goto 4, 3) := by decide +kernel
theorem dX7_whenOf_56 : decode cX7_whenOf 56 = .ok (.iload_n 3, 1) := by decide +kernel
theorem dX7_whenOf_57 : decode cX7_whenOf 57 = .ok (.ireturn, 1) := by decide +kernel
theorem dX7_family_0 : decode cX7_family 0 = .ok (.iload_n 1, 1) := by decide +kernel
theorem dX7_family_1 : decode cX7_family 1 = .ok (.iconst 1, 1) := by decide +kernel
theorem dX7_family_2 : decode cX7_family 2 = .ok (.if_icmp .lt 17, 3) := by decide +kernel
theorem dX7_family_5 : decode cX7_family 5 = .ok (.iload_n 1, 1) := by decide +kernel
theorem dX7_family_6 : decode cX7_family 6 = .ok (.iconst 4, 1) := by decide +kernel
theorem dX7_family_7 : decode cX7_family 7 = .ok (.if_icmp .gt 12, 3) := by decide +kernel
theorem dX7_family_10 : decode cX7_family 10 = .ok (.iload_n 2, 1) := by decide +kernel
theorem dX7_family_11 : decode cX7_family 11 = .ok (.ifCond .lt 8, 3) := by decide +kernel
theorem dX7_family_14 : decode cX7_family 14 = .ok (.iload_n 2, 1) := by decide +kernel
theorem dX7_family_15 : decode cX7_family 15 = .ok (.iconst 5, 1) := by decide +kernel
theorem dX7_family_16 : decode cX7_family 16 = .ok (.if_icmp .le 5, 3) := by decide +kernel
theorem dX7_family_19 : decode cX7_family 19 = .ok (.iconst (-1), 1) := by decide +kernel
theorem dX7_family_20 : decode cX7_family 20 = .ok (.ireturn, 1) := by decide +kernel
theorem dX7_family_21 : decode cX7_family 21 = .ok (.aload_n 0, 1) := by decide +kernel
theorem dX7_family_22 : decode cX7_family 22 = .ok (.getfield 26, 3) := by decide +kernel
theorem dX7_family_25 : decode cX7_family 25 = .ok (.getfield 183, 3) := by decide +kernel
theorem dX7_family_28 : decode cX7_family 28 = .ok (.aload_n 0, 1) := by decide +kernel
theorem dX7_family_29 : decode cX7_family 29 = .ok (.getfield 33, 3) := by decide +kernel
theorem dX7_family_32 : decode cX7_family 32 = .ok (.aload_n 0, 1) := by decide +kernel
theorem dX7_family_33 : decode cX7_family 33 = .ok (.getfield 38, 3) := by decide +kernel
theorem dX7_family_36 : decode cX7_family 36 = .ok (.iload_n 1, 1) := by decide +kernel
theorem dX7_family_37 : decode cX7_family 37 = .ok (.invokevirtual 187, 3) := by decide +kernel
theorem dX7_family_40 : decode cX7_family 40 = .ok (.ifCond .ne 6, 3) := by decide +kernel
theorem dX7_family_43 : decode cX7_family 43 = .ok (.bipush (-2), 2) := by decide +kernel
theorem dX7_family_45 : decode cX7_family 45 = .ok (.ireturn, 1) := by decide +kernel
theorem dX7_family_46 : decode cX7_family 46 = .ok (.iload_n 2, 1) := by decide +kernel
theorem dX7_family_47 : decode cX7_family 47 = .ok (.aload_n 0, 1) := by decide +kernel
theorem dX7_family_48 : decode cX7_family 48 = .ok (.getfield 26, 3) := by decide +kernel
theorem dX7_family_51 : decode cX7_family 51 = .ok (.getfield 183, 3) := by decide +kernel
theorem dX7_family_54 : decode cX7_family 54 = .ok (.getfield 193, 3) := by decide +kernel
theorem dX7_family_57 : decode cX7_family 57 = .ok (.if_icmp .le 6, 3) := by decide +kernel
theorem dX7_family_60 : decode cX7_family 60 = .ok (.bipush (-4), 2) := by decide +kernel
theorem dX7_family_62 : decode cX7_family 62 = .ok (.ireturn, 1) := by decide +kernel
theorem dX7_family_63 : decode cX7_family 63 = .ok (.aload_n 0, 1) := by decide +kernel
theorem dX7_family_64 : decode cX7_family 64 = .ok (.getfield 26, 3) := by decide +kernel
theorem dX7_family_67 : decode cX7_family 67 = .ok (.invokevirtual 194, 3) := by decide +kernel
theorem dX7_family_70 : decode cX7_family 70 = .ok (.istore_n 3, 1) := by decide +kernel
theorem dX7_family_71 : decode cX7_family 71 = .ok (.iload_n 2, 1) := by decide +kernel
theorem dX7_family_72 : decode cX7_family 72 = .ok (.ifCond .ne 7, 3) := by decide +kernel
theorem dX7_family_75 : decode cX7_family 75 = .ok (.iload_n 3, 1) := by decide +kernel
theorem dX7_family_76 : decode cX7_family 76 = .ok (.goto 16, 3) := by decide +kernel
theorem dX7_family_79 : decode cX7_family 79 = .ok (.aload_n 0, 1) := by decide +kernel
theorem dX7_family_80 : decode cX7_family 80 = .ok (.getfield 26, 3) := by decide +kernel
theorem dX7_family_83 : decode cX7_family 83 = .ok (.getfield 183, 3) := by decide +kernel
theorem dX7_family_86 : decode cX7_family 86 = .ok (.iload_n 2, 1) := by decide +kernel
theorem dX7_family_87 : decode cX7_family 87 = .ok (.iconst 1, 1) := by decide +kernel
theorem dX7_family_88 : decode cX7_family 88 = .ok (.isub, 1) := by decide +kernel
theorem dX7_family_89 : decode cX7_family 89 = .ok (.invokevirtual 197, 3) := by decide +kernel
theorem dX7_family_92 : decode cX7_family 92 = .ok (.ireturn, 1) := by decide +kernel
theorem dX7_warmth_0 : decode cX7_warmth 0 = .ok (.iload_n 1, 1) := by decide +kernel
theorem dX7_warmth_1 : decode cX7_warmth 1 = .ok (.ifCond .lt 9, 3) := by decide +kernel
theorem dX7_warmth_4 : decode cX7_warmth 4 = .ok (.iload_n 1, 1) := by decide +kernel
theorem dX7_warmth_5 : decode cX7_warmth 5 = .ok (.bipush 60, 2) := by decide +kernel
theorem dX7_warmth_7 : decode cX7_warmth 7 = .ok (.if_icmp .le 5, 3) := by decide +kernel
theorem dX7_warmth_10 : decode cX7_warmth 10 = .ok (.iconst (-1), 1) := by decide +kernel
theorem dX7_warmth_11 : decode cX7_warmth 11 = .ok (.ireturn, 1) := by decide +kernel
theorem dX7_warmth_12 : decode cX7_warmth 12 = .ok (.aload_n 0, 1) := by decide +kernel
theorem dX7_warmth_13 : decode cX7_warmth 13 = .ok (.getfield 26, 3) := by decide +kernel
theorem dX7_warmth_16 : decode cX7_warmth 16 = .ok (.iload_n 1, 1) := by decide +kernel
theorem dX7_warmth_17 : decode cX7_warmth 17 = .ok (.invokevirtual 165, 3) := by decide +kernel
theorem dX7_warmth_20 : decode cX7_warmth 20 = .ok (.getfield 200, 3) := by decide +kernel
theorem dX7_warmth_23 : decode cX7_warmth 23 = .ok (.aload_n 0, 1) := by decide +kernel
theorem dX7_warmth_24 : decode cX7_warmth 24 = .ok (.getfield 38, 3) := by decide +kernel
theorem dX7_warmth_27 : decode cX7_warmth 27 = .ok (.getfield 200, 3) := by decide +kernel
theorem dX7_warmth_30 : decode cX7_warmth 30 = .ok (.isub, 1) := by decide +kernel
theorem dX7_warmth_31 : decode cX7_warmth 31 = .ok (.ireturn, 1) := by decide +kernel
theorem dX7_see_0 : decode cX7_see 0 = .ok (.aload_n 0, 1) := by decide +kernel
theorem dX7_see_1 : decode cX7_see 1 = .ok (.getfield 33, 3) := by decide +kernel
theorem dX7_see_4 : decode cX7_see 4 = .ok (.iload_n 1, 1) := by decide +kernel
theorem dX7_see_5 : decode cX7_see 5 = .ok (.invokevirtual 98, 3) := by decide +kernel
theorem dX7_see_8 : decode cX7_see 8 = .ok (.ifCond .eq 14, 3) := by decide +kernel
theorem dX7_see_11 : decode cX7_see 11 = .ok (.iload_n 2, 1) := by decide +kernel
theorem dX7_see_12 : decode cX7_see 12 = .ok (.iconst 1, 1) := by decide +kernel
theorem dX7_see_13 : decode cX7_see 13 = .ok (.if_icmp .lt 9, 3) := by decide +kernel
theorem dX7_see_16 : decode cX7_see 16 = .ok (.iload_n 2, 1) := by decide +kernel
theorem dX7_see_17 : decode cX7_see 17 = .ok (.bipush 60, 2) := by decide +kernel
theorem dX7_see_19 : decode cX7_see 19 = .ok (.if_icmp .le 5, 3) := by decide +kernel
theorem dX7_see_22 : decode cX7_see 22 = .ok (.iconst (-1), 1) := by decide +kernel
theorem dX7_see_23 : decode cX7_see 23 = .ok (.ireturn, 1) := by decide +kernel
theorem dX7_see_24 : decode cX7_see 24 = .ok (.aload_n 0, 1) := by decide +kernel
theorem dX7_see_25 : decode cX7_see 25 = .ok (.getfield 42, 3) := by decide +kernel
theorem dX7_see_28 : decode cX7_see 28 = .ok (.iload_n 1, 1) := by decide +kernel
theorem dX7_see_29 : decode cX7_see 29 = .ok (.iload_n 2, 1) := by decide +kernel
theorem dX7_see_30 : decode cX7_see 30 = .ok (.iload_n 3, 1) := by decide +kernel
theorem dX7_see_31 : decode cX7_see 31 = .ok (.invokevirtual 203, 3) := by decide +kernel
theorem dX7_see_34 : decode cX7_see 34 = .ok (.ifCond .eq 13, 3) := by decide +kernel
theorem dX7_see_37 : decode cX7_see 37 = .ok (.aload_n 0, 1) := by decide +kernel
theorem dX7_see_38 : decode cX7_see 38 = .ok (.getfield 42, 3) := by decide +kernel
theorem dX7_see_41 : decode cX7_see 41 = .ok (.getfield 207, 3) := by decide +kernel
theorem dX7_see_44 : decode cX7_see 44 = .ok (.goto 5, 3) := by decide +kernel
theorem dX7_see_47 : decode cX7_see 47 = .ok (.bipush (-3), 2) := by decide +kernel
theorem dX7_see_49 : decode cX7_see 49 = .ok (.ireturn, 1) := by decide +kernel
theorem dX7_forget_0 : decode cX7_forget 0 = .ok (.aload_n 0, 1) := by decide +kernel
theorem dX7_forget_1 : decode cX7_forget 1 = .ok (.getfield 42, 3) := by decide +kernel
theorem dX7_forget_4 : decode cX7_forget 4 = .ok (.getfield 207, 3) := by decide +kernel
theorem dX7_forget_7 : decode cX7_forget 7 = .ok (.istore_n 1, 1) := by decide +kernel
theorem dX7_forget_8 : decode cX7_forget 8 = .ok (.aload_n 0, 1) := by decide +kernel
theorem dX7_forget_9 : decode cX7_forget 9 = .ok (.getfield 42, 3) := by decide +kernel
theorem dX7_forget_12 : decode cX7_forget 12 = .ok (.invokevirtual 96, 3) := by decide +kernel
theorem dX7_forget_15 : decode cX7_forget 15 = .ok (.iload_n 1, 1) := by decide +kernel
theorem dX7_forget_16 : decode cX7_forget 16 = .ok (.ireturn, 1) := by decide +kernel
theorem dX7_sneezed_0 : decode cX7_sneezed 0 = .ok (.aload_n 0, 1) := by decide +kernel
theorem dX7_sneezed_1 : decode cX7_sneezed 1 = .ok (.getfield 26, 3) := by decide +kernel
theorem dX7_sneezed_4 : decode cX7_sneezed 4 = .ok (.aload_n 0, 1) := by decide +kernel
theorem dX7_sneezed_5 : decode cX7_sneezed 5 = .ok (.getfield 42, 3) := by decide +kernel
theorem dX7_sneezed_8 : decode cX7_sneezed 8 = .ok (.invokevirtual 208, 3) := by decide +kernel
theorem dX7_sneezed_11 : decode cX7_sneezed 11 = .ok (.ireturn, 1) := by decide +kernel
theorem dX7_kinds_0 : decode cX7_kinds 0 = .ok (.aload_n 0, 1) := by decide +kernel
theorem dX7_kinds_1 : decode cX7_kinds 1 = .ok (.getfield 33, 3) := by decide +kernel
theorem dX7_kinds_4 : decode cX7_kinds 4 = .ok (.iload_n 1, 1) := by decide +kernel
theorem dX7_kinds_5 : decode cX7_kinds 5 = .ok (.invokevirtual 98, 3) := by decide +kernel
theorem dX7_kinds_8 : decode cX7_kinds 8 = .ok (.ifCond .eq 18, 3) := by decide +kernel
theorem dX7_kinds_11 : decode cX7_kinds 11 = .ok (.aload_n 0, 1) := by decide +kernel
theorem dX7_kinds_12 : decode cX7_kinds 12 = .ok (.getfield 26, 3) := by decide +kernel
theorem dX7_kinds_15 : decode cX7_kinds 15 = .ok (.aload_n 0, 1) := by decide +kernel
theorem dX7_kinds_16 : decode cX7_kinds 16 = .ok (.getfield 42, 3) := by decide +kernel
theorem dX7_kinds_19 : decode cX7_kinds 19 = .ok (.iload_n 1, 1) := by decide +kernel
theorem dX7_kinds_20 : decode cX7_kinds 20 = .ok (.invokevirtual 212, 3) := by decide +kernel
theorem dX7_kinds_23 : decode cX7_kinds 23 = .ok (.goto 4, 3) := by decide +kernel
theorem dX7_kinds_26 : decode cX7_kinds 26 = .ok (.iconst (-1), 1) := by decide +kernel
theorem dX7_kinds_27 : decode cX7_kinds 27 = .ok (.ireturn, 1) := by decide +kernel
theorem dX7_rumours_0 : decode cX7_rumours 0 = .ok (.aload_n 0, 1) := by decide +kernel
theorem dX7_rumours_1 : decode cX7_rumours 1 = .ok (.getfield 33, 3) := by decide +kernel
theorem dX7_rumours_4 : decode cX7_rumours 4 = .ok (.iload_n 1, 1) := by decide +kernel
theorem dX7_rumours_5 : decode cX7_rumours 5 = .ok (.invokevirtual 98, 3) := by decide +kernel
theorem dX7_rumours_8 : decode cX7_rumours 8 = .ok (.ifCond .eq 34, 3) := by decide +kernel
theorem dX7_rumours_11 : decode cX7_rumours 11 = .ok (.iload_n 2, 1) := by decide +kernel
theorem dX7_rumours_12 : decode cX7_rumours 12 = .ok (.ifCond .lt 30, 3) := by decide +kernel
theorem dX7_rumours_15 : decode cX7_rumours 15 = .ok (.iload_n 2, 1) := by decide +kernel
theorem dX7_rumours_16 : decode cX7_rumours 16 = .ok (.bipush 8, 2) := by decide +kernel
theorem dX7_rumours_18 : decode cX7_rumours 18 = .ok (.if_icmp .gt 24, 3) := by decide +kernel
theorem dX7_rumours_21 : decode cX7_rumours 21 = .ok (.iload_n 3, 1) := by decide +kernel
theorem dX7_rumours_22 : decode cX7_rumours 22 = .ok (.ifCond .lt 20, 3) := by decide +kernel
theorem dX7_rumours_25 : decode cX7_rumours 25 = .ok (.iload_n 3, 1) := by decide +kernel
theorem dX7_rumours_26 : decode cX7_rumours 26 = .ok (.bipush 10, 2) := by decide +kernel
theorem dX7_rumours_28 : decode cX7_rumours 28 = .ok (.if_icmp .gt 14, 3) := by decide +kernel
theorem dX7_rumours_31 : decode cX7_rumours 31 = .ok (.iload 4, 2) := by decide +kernel
theorem dX7_rumours_33 : decode cX7_rumours 33 = .ok (.ifCond .lt 9, 3) := by decide +kernel
theorem dX7_rumours_36 : decode cX7_rumours 36 = .ok (.iload 4, 2) := by decide +kernel
theorem dX7_rumours_38 : decode cX7_rumours 38 = .ok (.iconst 1, 1) := by decide +kernel
theorem dX7_rumours_39 : decode cX7_rumours 39 = .ok (.if_icmp .le 5, 3) := by decide +kernel
theorem dX7_rumours_42 : decode cX7_rumours 42 = .ok (.iconst (-1), 1) := by decide +kernel
theorem dX7_rumours_43 : decode cX7_rumours 43 = .ok (.ireturn, 1) := by decide +kernel
theorem dX7_rumours_44 : decode cX7_rumours 44 = .ok (.aload_n 0, 1) := by decide +kernel
theorem dX7_rumours_45 : decode cX7_rumours 45 = .ok (.getfield 26, 3) := by decide +kernel
theorem dX7_rumours_48 : decode cX7_rumours 48 = .ok (.iload_n 1, 1) := by decide +kernel
theorem dX7_rumours_49 : decode cX7_rumours 49 = .ok (.iload_n 2, 1) := by decide +kernel
theorem dX7_rumours_50 : decode cX7_rumours 50 = .ok (.iload_n 3, 1) := by decide +kernel
theorem dX7_rumours_51 : decode cX7_rumours 51 = .ok (.invokevirtual 216, 3) := by decide +kernel
theorem dX7_rumours_54 : decode cX7_rumours 54 = .ok (.istore 5, 2) := by decide +kernel
theorem dX7_rumours_56 : decode cX7_rumours 56 = .ok (.bipush 10, 2) := by decide +kernel
theorem dX7_rumours_58 : decode cX7_rumours 58 = .ok (.iload_n 2, 1) := by decide +kernel
theorem dX7_rumours_59 : decode cX7_rumours 59 = .ok (.invokestatic 220, 3) := by decide +kernel
theorem dX7_rumours_62 : decode cX7_rumours 62 = .ok (.istore 6, 2) := by decide +kernel
theorem dX7_rumours_64 : decode cX7_rumours 64 = .ok (.iload 5, 2) := by decide +kernel
theorem dX7_rumours_66 : decode cX7_rumours 66 = .ok (.iload 6, 2) := by decide +kernel
theorem dX7_rumours_68 : decode cX7_rumours 68 = .ok (.invokestatic 224, 3) := by decide +kernel
theorem dX7_rumours_71 : decode cX7_rumours 71 = .ok (.istore 7, 2) := by decide +kernel
theorem dX7_rumours_73 : decode cX7_rumours 73 = .ok (.iload 7, 2) := by decide +kernel
theorem dX7_rumours_75 : decode cX7_rumours 75 = .ok (.iconst 1, 1) := by decide +kernel
theorem dX7_rumours_76 : decode cX7_rumours 76 = .ok (.if_icmp .ge 5, 3) := by decide +kernel
theorem dX7_rumours_79 : decode cX7_rumours 79 = .ok (.iconst (-1), 1) := by decide +kernel
theorem dX7_rumours_80 : decode cX7_rumours 80 = .ok (.ireturn, 1) := by decide +kernel
theorem dX7_rumours_81 : decode cX7_rumours 81 = .ok (.iload 4, 2) := by decide +kernel
theorem dX7_rumours_83 : decode cX7_rumours 83 = .ok (.ifCond .ne 8, 3) := by decide +kernel
theorem dX7_rumours_86 : decode cX7_rumours 86 = .ok (.iload 5, 2) := by decide +kernel
theorem dX7_rumours_88 : decode cX7_rumours 88 = .ok (.goto 5, 3) := by decide +kernel
theorem dX7_rumours_91 : decode cX7_rumours 91 = .ok (.iload 6, 2) := by decide +kernel
theorem dX7_rumours_93 : decode cX7_rumours 93 = .ok (.iload 7, 2) := by decide +kernel
theorem dX7_rumours_95 : decode cX7_rumours 95 = .ok (.idiv, 1) := by decide +kernel
theorem dX7_rumours_96 : decode cX7_rumours 96 = .ok (.ireturn, 1) := by decide +kernel
theorem dX7_day_0 : decode cX7_day 0 = .ok (.iload_n 1, 1) := by decide +kernel
theorem dX7_day_1 : decode cX7_day 1 = .ok (.ifCond .lt 30, 3) := by decide +kernel
theorem dX7_day_4 : decode cX7_day 4 = .ok (.iload_n 1, 1) := by decide +kernel
theorem dX7_day_5 : decode cX7_day 5 = .ok (.sipush 9999, 3) := by decide +kernel
theorem dX7_day_8 : decode cX7_day 8 = .ok (.if_icmp .gt 23, 3) := by decide +kernel
theorem dX7_day_11 : decode cX7_day 11 = .ok (.iload_n 2, 1) := by decide +kernel
theorem dX7_day_12 : decode cX7_day 12 = .ok (.iconst 1, 1) := by decide +kernel
theorem dX7_day_13 : decode cX7_day 13 = .ok (.if_icmp .lt 18, 3) := by decide +kernel
theorem dX7_day_16 : decode cX7_day 16 = .ok (.iload_n 2, 1) := by decide +kernel
theorem dX7_day_17 : decode cX7_day 17 = .ok (.bipush 60, 2) := by decide +kernel
theorem dX7_day_19 : decode cX7_day 19 = .ok (.if_icmp .gt 12, 3) := by decide +kernel
theorem dX7_day_22 : decode cX7_day 22 = .ok (.iload_n 3, 1) := by decide +kernel
theorem dX7_day_23 : decode cX7_day 23 = .ok (.ifCond .lt 8, 3) := by decide +kernel
theorem dX7_day_26 : decode cX7_day 26 = .ok (.iload_n 3, 1) := by decide +kernel
theorem dX7_day_27 : decode cX7_day 27 = .ok (.iconst 1, 1) := by decide +kernel
theorem dX7_day_28 : decode cX7_day 28 = .ok (.if_icmp .le 5, 3) := by decide +kernel
theorem dX7_day_31 : decode cX7_day 31 = .ok (.iconst (-1), 1) := by decide +kernel
theorem dX7_day_32 : decode cX7_day 32 = .ok (.ireturn, 1) := by decide +kernel
theorem dX7_day_33 : decode cX7_day 33 = .ok (.aload_n 0, 1) := by decide +kernel
theorem dX7_day_34 : decode cX7_day 34 = .ok (.getfield 26, 3) := by decide +kernel
theorem dX7_day_37 : decode cX7_day 37 = .ok (.iload_n 1, 1) := by decide +kernel
theorem dX7_day_38 : decode cX7_day 38 = .ok (.iload_n 2, 1) := by decide +kernel
theorem dX7_day_39 : decode cX7_day 39 = .ok (.invokevirtual 227, 3) := by decide +kernel
theorem dX7_day_42 : decode cX7_day 42 = .ok (.astore 4, 2) := by decide +kernel
theorem dX7_day_44 : decode cX7_day 44 = .ok (.iload_n 3, 1) := by decide +kernel
theorem dX7_day_45 : decode cX7_day 45 = .ok (.ifCond .ne 12, 3) := by decide +kernel
theorem dX7_day_48 : decode cX7_day 48 = .ok (.aload 4, 2) := by decide +kernel
theorem dX7_day_50 : decode cX7_day 50 = .ok (.iconst 3, 1) := by decide +kernel
theorem dX7_day_51 : decode cX7_day 51 = .ok (.invokevirtual 137, 3) := by decide +kernel
theorem dX7_day_54 : decode cX7_day 54 = .ok (.goto 16, 3) := by decide +kernel
theorem dX7_day_57 : decode cX7_day 57 = .ok (.aload 4, 2) := by decide +kernel
theorem dX7_day_59 : decode cX7_day 59 = .ok (.getfield 200, 3) := by decide +kernel
theorem dX7_day_62 : decode cX7_day 62 = .ok (.aload_n 0, 1) := by decide +kernel
theorem dX7_day_63 : decode cX7_day 63 = .ok (.getfield 38, 3) := by decide +kernel
theorem dX7_day_66 : decode cX7_day 66 = .ok (.getfield 200, 3) := by decide +kernel
theorem dX7_day_69 : decode cX7_day 69 = .ok (.isub, 1) := by decide +kernel
theorem dX7_day_70 : decode cX7_day 70 = .ok (.ireturn, 1) := by decide +kernel
theorem dX7_keep_0 : decode cX7_keep 0 = .ok (.aload_n 0, 1) := by decide +kernel
theorem dX7_keep_1 : decode cX7_keep 1 = .ok (.getfield 55, 3) := by decide +kernel
theorem dX7_keep_4 : decode cX7_keep 4 = .ok (.getfield 162, 3) := by decide +kernel
theorem dX7_keep_7 : decode cX7_keep 7 = .ok (.iconst 2, 1) := by decide +kernel
theorem dX7_keep_8 : decode cX7_keep 8 = .ok (.if_icmp .lt 6, 3) := by decide +kernel
theorem dX7_keep_11 : decode cX7_keep 11 = .ok (.bipush (-3), 2) := by decide +kernel
theorem dX7_keep_13 : decode cX7_keep 13 = .ok (.ireturn, 1) := by decide +kernel
theorem dX7_keep_14 : decode cX7_keep 14 = .ok (.aload_n 0, 1) := by decide +kernel
theorem dX7_keep_15 : decode cX7_keep 15 = .ok (.getfield 55, 3) := by decide +kernel
theorem dX7_keep_18 : decode cX7_keep 18 = .ok (.aload_n 0, 1) := by decide +kernel
theorem dX7_keep_19 : decode cX7_keep 19 = .ok (.getfield 38, 3) := by decide +kernel
theorem dX7_keep_22 : decode cX7_keep 22 = .ok (.invokevirtual 129, 3) := by decide +kernel
theorem dX7_keep_25 : decode cX7_keep 25 = .ok (.aload_n 0, 1) := by decide +kernel
theorem dX7_keep_26 : decode cX7_keep 26 = .ok (.getfield 55, 3) := by decide +kernel
theorem dX7_keep_29 : decode cX7_keep 29 = .ok (.getfield 162, 3) := by decide +kernel
theorem dX7_keep_32 : decode cX7_keep 32 = .ok (.ireturn, 1) := by decide +kernel
theorem dX7_back_0 : decode cX7_back 0 = .ok (.aload_n 0, 1) := by decide +kernel
theorem dX7_back_1 : decode cX7_back 1 = .ok (.getfield 55, 3) := by decide +kernel
theorem dX7_back_4 : decode cX7_back 4 = .ok (.aload_n 0, 1) := by decide +kernel
theorem dX7_back_5 : decode cX7_back 5 = .ok (.getfield 38, 3) := by decide +kernel
theorem dX7_back_8 : decode cX7_back 8 = .ok (.invokevirtual 158, 3) := by decide +kernel
theorem dX7_back_11 : decode cX7_back 11 = .ok (.ifCond .ne 6, 3) := by decide +kernel
theorem dX7_back_14 : decode cX7_back 14 = .ok (.bipush (-2), 2) := by decide +kernel
theorem dX7_back_16 : decode cX7_back 16 = .ok (.ireturn, 1) := by decide +kernel
theorem dX7_back_17 : decode cX7_back 17 = .ok (.aload_n 0, 1) := by decide +kernel
theorem dX7_back_18 : decode cX7_back 18 = .ok (.getfield 51, 3) := by decide +kernel
theorem dX7_back_21 : decode cX7_back 21 = .ok (.invokevirtual 97, 3) := by decide +kernel
theorem dX7_back_24 : decode cX7_back 24 = .ok (.aload_n 0, 1) := by decide +kernel
theorem dX7_back_25 : decode cX7_back 25 = .ok (.getfield 55, 3) := by decide +kernel
theorem dX7_back_28 : decode cX7_back 28 = .ok (.getfield 162, 3) := by decide +kernel
theorem dX7_back_31 : decode cX7_back 31 = .ok (.ireturn, 1) := by decide +kernel
theorem dX7_count_0 : decode cX7_count 0 = .ok (.iload_n 1, 1) := by decide +kernel
theorem dX7_count_1 : decode cX7_count 1 = .ok (.tableswitch 137 0 9 #[55, 63, 71, 79, 88, 97, 105, 113, 121, 129], 55) := by decide +kernel
theorem dX7_count_56 : decode cX7_count 56 = .ok (.aload_n 0, 1) := by decide +kernel
theorem dX7_count_57 : decode cX7_count 57 = .ok (.getfield 33, 3) := by decide +kernel
theorem dX7_count_60 : decode cX7_count 60 = .ok (.getfield 84, 3) := by decide +kernel
theorem dX7_count_63 : decode cX7_count 63 = .ok (.ireturn, 1) := by decide +kernel
theorem dX7_count_64 : decode cX7_count 64 = .ok (.aload_n 0, 1) := by decide +kernel
theorem dX7_count_65 : decode cX7_count 65 = .ok (.getfield 38, 3) := by decide +kernel
theorem dX7_count_68 : decode cX7_count 68 = .ok (.getfield 231, 3) := by decide +kernel
theorem dX7_count_71 : decode cX7_count 71 = .ok (.ireturn, 1) := by decide +kernel
theorem dX7_count_72 : decode cX7_count 72 = .ok (.aload_n 0, 1) := by decide +kernel
theorem dX7_count_73 : decode cX7_count 73 = .ok (.getfield 38, 3) := by decide +kernel
theorem dX7_count_76 : decode cX7_count 76 = .ok (.getfield 149, 3) := by decide +kernel
theorem dX7_count_79 : decode cX7_count 79 = .ok (.ireturn, 1) := by decide +kernel
theorem dX7_count_80 : decode cX7_count 80 = .ok (.aload_n 0, 1) := by decide +kernel
theorem dX7_count_81 : decode cX7_count 81 = .ok (.getfield 38, 3) := by decide +kernel
theorem dX7_count_84 : decode cX7_count 84 = .ok (.iconst 2, 1) := by decide +kernel
theorem dX7_count_85 : decode cX7_count 85 = .ok (.invokevirtual 137, 3) := by decide +kernel
theorem dX7_count_88 : decode cX7_count 88 = .ok (.ireturn, 1) := by decide +kernel
theorem dX7_count_89 : decode cX7_count 89 = .ok (.aload_n 0, 1) := by decide +kernel
theorem dX7_count_90 : decode cX7_count 90 = .ok (.getfield 38, 3) := by decide +kernel
theorem dX7_count_93 : decode cX7_count 93 = .ok (.iconst 3, 1) := by decide +kernel
theorem dX7_count_94 : decode cX7_count 94 = .ok (.invokevirtual 137, 3) := by decide +kernel
theorem dX7_count_97 : decode cX7_count 97 = .ok (.ireturn, 1) := by decide +kernel
theorem dX7_count_98 : decode cX7_count 98 = .ok (.aload_n 0, 1) := by decide +kernel
theorem dX7_count_99 : decode cX7_count 99 = .ok (.getfield 38, 3) := by decide +kernel
theorem dX7_count_102 : decode cX7_count 102 = .ok (.getfield 234, 3) := by decide +kernel
theorem dX7_count_105 : decode cX7_count 105 = .ok (.ireturn, 1) := by decide +kernel
theorem dX7_count_106 : decode cX7_count 106 = .ok (.aload_n 0, 1) := by decide +kernel
theorem dX7_count_107 : decode cX7_count 107 = .ok (.getfield 42, 3) := by decide +kernel
theorem dX7_count_110 : decode cX7_count 110 = .ok (.getfield 207, 3) := by decide +kernel
theorem dX7_count_113 : decode cX7_count 113 = .ok (.ireturn, 1) := by decide +kernel
theorem dX7_count_114 : decode cX7_count 114 = .ok (.aload_n 0, 1) := by decide +kernel
theorem dX7_count_115 : decode cX7_count 115 = .ok (.getfield 51, 3) := by decide +kernel
theorem dX7_count_118 : decode cX7_count 118 = .ok (.getfield 162, 3) := by decide +kernel
theorem dX7_count_121 : decode cX7_count 121 = .ok (.ireturn, 1) := by decide +kernel
theorem dX7_count_122 : decode cX7_count 122 = .ok (.aload_n 0, 1) := by decide +kernel
theorem dX7_count_123 : decode cX7_count 123 = .ok (.getfield 55, 3) := by decide +kernel
theorem dX7_count_126 : decode cX7_count 126 = .ok (.getfield 162, 3) := by decide +kernel
theorem dX7_count_129 : decode cX7_count 129 = .ok (.ireturn, 1) := by decide +kernel
theorem dX7_count_130 : decode cX7_count 130 = .ok (.aload_n 0, 1) := by decide +kernel
theorem dX7_count_131 : decode cX7_count 131 = .ok (.getfield 10, 3) := by decide +kernel
theorem dX7_count_134 : decode cX7_count 134 = .ok (.getfield 81, 3) := by decide +kernel
theorem dX7_count_137 : decode cX7_count 137 = .ok (.ireturn, 1) := by decide +kernel
theorem dX7_count_138 : decode cX7_count 138 = .ok (.iconst (-1), 1) := by decide +kernel
theorem dX7_count_139 : decode cX7_count 139 = .ok (.ireturn, 1) := by decide +kernel
theorem dX7_power_0 : decode cX7_power 0 = .ok (.iconst 1, 1) := by decide +kernel
theorem dX7_power_1 : decode cX7_power 1 = .ok (.istore_n 2, 1) := by decide +kernel
theorem dX7_power_2 : decode cX7_power 2 = .ok (.iconst 0, 1) := by decide +kernel
theorem dX7_power_3 : decode cX7_power 3 = .ok (.istore_n 3, 1) := by decide +kernel
theorem dX7_power_4 : decode cX7_power 4 = .ok (.iload_n 3, 1) := by decide +kernel
theorem dX7_power_5 : decode cX7_power 5 = .ok (.iload_n 1, 1) := by decide +kernel
