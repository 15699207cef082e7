theorem dX0_presentTo_28 : decode cX0_presentTo 28 = .ok (.iload_n 2, 1) := by decide +kernel
theorem dX0_presentTo_29 : decode cX0_presentTo 29 = .ok (.ishl, 1) := by decide +kernel
theorem dX0_presentTo_30 : decode cX0_presentTo 30 = .ok (.ior, 1) := by decide +kernel
theorem dX0_presentTo_31 : decode cX0_presentTo 31 = .ok (.iastore, 1) := by decide +kernel
theorem dX0_presentTo_32 : decode cX0_presentTo 32 = .ok (.iconst 0, 1) := by decide +kernel
theorem dX0_presentTo_33 : decode cX0_presentTo 33 = .ok (.ireturn, 1) := by decide +kernel
theorem dX0_payTo_0 : decode cX0_payTo 0 = .ok (.aload_n 0, 1) := by decide +kernel
theorem dX0_payTo_1 : decode cX0_payTo 1 = .ok (.iload_n 1, 1) := by decide +kernel
theorem dX0_payTo_2 : decode cX0_payTo 2 = .ok (.aload_n 0, 1) := by decide +kernel
theorem dX0_payTo_3 : decode cX0_payTo 3 = .ok (.getfield 12, 3) := by decide +kernel
theorem dX0_payTo_6 : decode cX0_payTo 6 = .ok (.getfield 30, 3) := by decide +kernel
theorem dX0_payTo_9 : decode cX0_payTo 9 = .ok (.iload_n 1, 1) := by decide +kernel
theorem dX0_payTo_10 : decode cX0_payTo 10 = .ok (.iaload, 1) := by decide +kernel
theorem dX0_payTo_11 : decode cX0_payTo 11 = .ok (.invokevirtual 133, 3) := by decide +kernel
theorem dX0_payTo_14 : decode cX0_payTo 14 = .ok (.aload_n 0, 1) := by decide +kernel
theorem dX0_payTo_15 : decode cX0_payTo 15 = .ok (.iload_n 1, 1) := by decide +kernel
theorem dX0_payTo_16 : decode cX0_payTo 16 = .ok (.iload_n 2, 1) := by decide +kernel
theorem dX0_payTo_17 : decode cX0_payTo 17 = .ok (.invokevirtual 133, 3) := by decide +kernel
theorem dX0_payTo_20 : decode cX0_payTo 20 = .ok (.aload_n 0, 1) := by decide +kernel
theorem dX0_payTo_21 : decode cX0_payTo 21 = .ok (.getfield 12, 3) := by decide +kernel
theorem dX0_payTo_24 : decode cX0_payTo 24 = .ok (.getfield 30, 3) := by decide +kernel
theorem dX0_payTo_27 : decode cX0_payTo 27 = .ok (.iload_n 1, 1) := by decide +kernel
theorem dX0_payTo_28 : decode cX0_payTo 28 = .ok (.iload_n 2, 1) := by decide +kernel
theorem dX0_payTo_29 : decode cX0_payTo 29 = .ok (.iastore, 1) := by decide +kernel
theorem dX0_payTo_30 : decode cX0_payTo 30 = .ok (.return_, 1) := by decide +kernel
theorem dX0_payAll_0 : decode cX0_payAll 0 = .ok (.iconst 0, 1) := by decide +kernel
theorem dX0_payAll_1 : decode cX0_payAll 1 = .ok (.istore_n 3, 1) := by decide +kernel
theorem dX0_payAll_2 : decode cX0_payAll 2 = .ok (.iload_n 3, 1) := by decide +kernel
theorem dX0_payAll_3 : decode cX0_payAll 3 = .ok (.aload_n 0, 1) := by decide +kernel
theorem dX0_payAll_4 : decode cX0_payAll 4 = .ok (.invokevirtual 55, 3) := by decide +kernel
theorem dX0_payAll_7 : decode cX0_payAll 7 = .ok (.if_icmp .ge 23, 3) := by decide +kernel
theorem dX0_payAll_10 : decode cX0_payAll 10 = .ok (.iload_n 1, 1) := by decide +kernel
theorem dX0_payAll_11 : decode cX0_payAll 11 = .ok (.iload_n 3, 1) := by decide +kernel
theorem dX0_payAll_12 : decode cX0_payAll 12 = .ok (.invokestatic 51, 3) := by decide +kernel
theorem dX0_payAll_15 : decode cX0_payAll 15 = .ok (.ifCond .eq 9, 3) := by decide +kernel
theorem dX0_payAll_18 : decode cX0_payAll 18 = .ok (.aload_n 0, 1) := by decide +kernel
theorem dX0_payAll_19 : decode cX0_payAll 19 = .ok (.iload_n 3, 1) := by decide +kernel
theorem dX0_payAll_20 : decode cX0_payAll 20 = .ok (.iload_n 2, 1) := by decide +kernel
theorem dX0_payAll_21 : decode cX0_payAll 21 = .ok (.invokevirtual 137, 3) := by decide +kernel
theorem dX0_payAll_24 : decode cX0_payAll 24 = .ok (.iinc 3 1, 3) := by decide +kernel
theorem dX0_payAll_27 : decode cX0_payAll 27 = .ok (.goto (-25), 3) := by decide +kernel
theorem dX0_payAll_30 : decode cX0_payAll 30 = .ok (.return_, 1) := by decide +kernel
theorem dX0_changeOf_0 : decode cX0_changeOf 0 = .ok (.aload_n 0, 1) := by decide +kernel
theorem dX0_changeOf_1 : decode cX0_changeOf 1 = .ok (.getfield 22, 3) := by decide +kernel
theorem dX0_changeOf_4 : decode cX0_changeOf 4 = .ok (.getfield 118, 3) := by decide +kernel
theorem dX0_changeOf_7 : decode cX0_changeOf 7 = .ok (.iload_n 2, 1) := by decide +kernel
theorem dX0_changeOf_8 : decode cX0_changeOf 8 = .ok (.iaload, 1) := by decide +kernel
theorem dX0_changeOf_9 : decode cX0_changeOf 9 = .ok (.istore 4, 2) := by decide +kernel
theorem dX0_changeOf_11 : decode cX0_changeOf 11 = .ok (.iload_n 1, 1) := by decide +kernel
theorem dX0_changeOf_12 : decode cX0_changeOf 12 = .ok (.iload 4, 2) := by decide +kernel
theorem dX0_changeOf_14 : decode cX0_changeOf 14 = .ok (.if_icmp .eq 22, 3) := by decide +kernel
theorem dX0_changeOf_17 : decode cX0_changeOf 17 = .ok (.iload_n 3, 1) := by decide +kernel
theorem dX0_changeOf_18 : decode cX0_changeOf 18 = .ok (.aload_n 0, 1) := by decide +kernel
theorem dX0_changeOf_19 : decode cX0_changeOf 19 = .ok (.iload_n 1, 1) := by decide +kernel
theorem dX0_changeOf_20 : decode cX0_changeOf 20 = .ok (.invokevirtual 74, 3) := by decide +kernel
theorem dX0_changeOf_23 : decode cX0_changeOf 23 = .ok (.aload_n 0, 1) := by decide +kernel
theorem dX0_changeOf_24 : decode cX0_changeOf 24 = .ok (.iload 4, 2) := by decide +kernel
theorem dX0_changeOf_26 : decode cX0_changeOf 26 = .ok (.invokevirtual 81, 3) := by decide +kernel
theorem dX0_changeOf_29 : decode cX0_changeOf 29 = .ok (.iand, 1) := by decide +kernel
theorem dX0_changeOf_30 : decode cX0_changeOf 30 = .ok (.iconst (-1), 1) := by decide +kernel
theorem dX0_changeOf_31 : decode cX0_changeOf 31 = .ok (.ixor, 1) := by decide +kernel
theorem dX0_changeOf_32 : decode cX0_changeOf 32 = .ok (.iand, 1) := by decide +kernel
theorem dX0_changeOf_33 : decode cX0_changeOf 33 = .ok (.ifCond .eq 5, 3) := by decide +kernel
theorem dX0_changeOf_36 : decode cX0_changeOf 36 = .ok (.iconst (-1), 1) := by decide +kernel
theorem dX0_changeOf_37 : decode cX0_changeOf 37 = .ok (.ireturn, 1) := by decide +kernel
theorem dX0_changeOf_38 : decode cX0_changeOf 38 = .ok (.aload_n 0, 1) := by decide +kernel
theorem dX0_changeOf_39 : decode cX0_changeOf 39 = .ok (.getfield 22, 3) := by decide +kernel
theorem dX0_changeOf_42 : decode cX0_changeOf 42 = .ok (.iload_n 3, 1) := by decide +kernel
theorem dX0_changeOf_43 : decode cX0_changeOf 43 = .ok (.invokevirtual 84, 3) := by decide +kernel
theorem dX0_changeOf_46 : decode cX0_changeOf 46 = .ok (.aload_n 0, 1) := by decide +kernel
theorem dX0_changeOf_47 : decode cX0_changeOf 47 = .ok (.iload_n 2, 1) := by decide +kernel
theorem dX0_changeOf_48 : decode cX0_changeOf 48 = .ok (.iload_n 1, 1) := by decide +kernel
theorem dX0_changeOf_49 : decode cX0_changeOf 49 = .ok (.invokevirtual 140, 3) := by decide +kernel
theorem dX0_changeOf_52 : decode cX0_changeOf 52 = .ok (.isub, 1) := by decide +kernel
theorem dX0_changeOf_53 : decode cX0_changeOf 53 = .ok (.istore 5, 2) := by decide +kernel
theorem dX0_changeOf_55 : decode cX0_changeOf 55 = .ok (.iload 5, 2) := by decide +kernel
theorem dX0_changeOf_57 : decode cX0_changeOf 57 = .ok (.ifCond .ge 5, 3) := by decide +kernel
theorem dX0_changeOf_60 : decode cX0_changeOf 60 = .ok (.iconst (-1), 1) := by decide +kernel
theorem dX0_changeOf_61 : decode cX0_changeOf 61 = .ok (.ireturn, 1) := by decide +kernel
theorem dX0_changeOf_62 : decode cX0_changeOf 62 = .ok (.aload_n 0, 1) := by decide +kernel
theorem dX0_changeOf_63 : decode cX0_changeOf 63 = .ok (.getfield 22, 3) := by decide +kernel
theorem dX0_changeOf_66 : decode cX0_changeOf 66 = .ok (.aload_n 0, 1) := by decide +kernel
theorem dX0_changeOf_67 : decode cX0_changeOf 67 = .ok (.iload 4, 2) := by decide +kernel
theorem dX0_changeOf_69 : decode cX0_changeOf 69 = .ok (.invokevirtual 74, 3) := by decide +kernel
theorem dX0_changeOf_72 : decode cX0_changeOf 72 = .ok (.aload_n 0, 1) := by decide +kernel
theorem dX0_changeOf_73 : decode cX0_changeOf 73 = .ok (.iload_n 1, 1) := by decide +kernel
theorem dX0_changeOf_74 : decode cX0_changeOf 74 = .ok (.invokevirtual 81, 3) := by decide +kernel
theorem dX0_changeOf_77 : decode cX0_changeOf 77 = .ok (.iand, 1) := by decide +kernel
theorem dX0_changeOf_78 : decode cX0_changeOf 78 = .ok (.iload 5, 2) := by decide +kernel
theorem dX0_changeOf_80 : decode cX0_changeOf 80 = .ok (.invokevirtual 143, 3) := by decide +kernel
theorem dX0_changeOf_83 : decode cX0_changeOf 83 = .ok (.ireturn, 1) := by decide +kernel
theorem dX0_takeTea_0 : decode cX0_takeTea 0 = .ok (.iconst 0, 1) := by decide +kernel
theorem dX0_takeTea_1 : decode cX0_takeTea 1 = .ok (.istore_n 2, 1) := by decide +kernel
theorem dX0_takeTea_2 : decode cX0_takeTea 2 = .ok (.iconst 0, 1) := by decide +kernel
theorem dX0_takeTea_3 : decode cX0_takeTea 3 = .ok (.istore_n 3, 1) := by decide +kernel
theorem dX0_takeTea_4 : decode cX0_takeTea 4 = .ok (.iload_n 3, 1) := by decide +kernel
theorem dX0_takeTea_5 : decode cX0_takeTea 5 = .ok (.aload_n 0, 1) := by decide +kernel
theorem dX0_takeTea_6 : decode cX0_takeTea 6 = .ok (.invokevirtual 55, 3) := by decide +kernel
theorem dX0_takeTea_9 : decode cX0_takeTea 9 = .ok (.if_icmp .ge 87, 3) := by decide +kernel
theorem dX0_takeTea_12 : decode cX0_takeTea 12 = .ok (.iload_n 1, 1) := by decide +kernel
theorem dX0_takeTea_13 : decode cX0_takeTea 13 = .ok (.aload_n 0, 1) := by decide +kernel
theorem dX0_takeTea_14 : decode cX0_takeTea 14 = .ok (.getfield 12, 3) := by decide +kernel
theorem dX0_takeTea_17 : decode cX0_takeTea 17 = .ok (.getfield 30, 3) := by decide +kernel
theorem dX0_takeTea_20 : decode cX0_takeTea 20 = .ok (.iload_n 3, 1) := by decide +kernel
theorem dX0_takeTea_21 : decode cX0_takeTea 21 = .ok (.iaload, 1) := by decide +kernel
theorem dX0_takeTea_22 : decode cX0_takeTea 22 = .ok (.invokestatic 51, 3) := by decide +kernel
theorem dX0_takeTea_25 : decode cX0_takeTea 25 = .ok (.ifCond .eq 65, 3) := by decide +kernel
theorem dX0_takeTea_28 : decode cX0_takeTea 28 = .ok (.iconst 0, 1) := by decide +kernel
theorem dX0_takeTea_29 : decode cX0_takeTea 29 = .ok (.istore 4, 2) := by decide +kernel
theorem dX0_takeTea_31 : decode cX0_takeTea 31 = .ok (.iload 4, 2) := by decide +kernel
theorem dX0_takeTea_33 : decode cX0_takeTea 33 = .ok (.aload_n 0, 1) := by decide +kernel
theorem dX0_takeTea_34 : decode cX0_takeTea 34 = .ok (.getfield 22, 3) := by decide +kernel
theorem dX0_takeTea_37 : decode cX0_takeTea 37 = .ok (.getfield 48, 3) := by decide +kernel
theorem dX0_takeTea_40 : decode cX0_takeTea 40 = .ok (.iconst 0, 1) := by decide +kernel
theorem dX0_takeTea_41 : decode cX0_takeTea 41 = .ok (.iaload, 1) := by decide +kernel
theorem dX0_takeTea_42 : decode cX0_takeTea 42 = .ok (.if_icmp .ge 48, 3) := by decide +kernel
theorem dX0_takeTea_45 : decode cX0_takeTea 45 = .ok (.iload_n 1, 1) := by decide +kernel
theorem dX0_takeTea_46 : decode cX0_takeTea 46 = .ok (.iload 4, 2) := by decide +kernel
theorem dX0_takeTea_48 : decode cX0_takeTea 48 = .ok (.invokestatic 51, 3) := by decide +kernel
theorem dX0_takeTea_51 : decode cX0_takeTea 51 = .ok (.ifCond .eq 33, 3) := by decide +kernel
theorem dX0_takeTea_54 : decode cX0_takeTea 54 = .ok (.aload_n 0, 1) := by decide +kernel
theorem dX0_takeTea_55 : decode cX0_takeTea 55 = .ok (.iload_n 3, 1) := by decide +kernel
theorem dX0_takeTea_56 : decode cX0_takeTea 56 = .ok (.iload 4, 2) := by decide +kernel
theorem dX0_takeTea_58 : decode cX0_takeTea 58 = .ok (.invokevirtual 146, 3) := by decide +kernel
theorem dX0_takeTea_61 : decode cX0_takeTea 61 = .ok (.ifCond .eq 23, 3) := by decide +kernel
theorem dX0_takeTea_64 : decode cX0_takeTea 64 = .ok (.aload_n 0, 1) := by decide +kernel
theorem dX0_takeTea_65 : decode cX0_takeTea 65 = .ok (.iload_n 3, 1) := by decide +kernel
theorem dX0_takeTea_66 : decode cX0_takeTea 66 = .ok (.iload 4, 2) := by decide +kernel
theorem dX0_takeTea_68 : decode cX0_takeTea 68 = .ok (.invokevirtual 130, 3) := by decide +kernel
theorem dX0_takeTea_71 : decode cX0_takeTea 71 = .ok (.ifCond .eq 13, 3) := by decide +kernel
theorem dX0_takeTea_74 : decode cX0_takeTea 74 = .ok (.aload_n 0, 1) := by decide +kernel
theorem dX0_takeTea_75 : decode cX0_takeTea 75 = .ok (.iload_n 3, 1) := by decide +kernel
theorem dX0_takeTea_76 : decode cX0_takeTea 76 = .ok (.iload 4, 2) := by decide +kernel
theorem dX0_takeTea_78 : decode cX0_takeTea 78 = .ok (.invokevirtual 133, 3) := by decide +kernel
theorem dX0_takeTea_81 : decode cX0_takeTea 81 = .ok (.iinc 2 1, 3) := by decide +kernel
theorem dX0_takeTea_84 : decode cX0_takeTea 84 = .ok (.iinc 4 1, 3) := by decide +kernel
theorem dX0_takeTea_87 : decode cX0_takeTea 87 = .ok (.goto (-56), 3) := by decide +kernel
theorem dX0_takeTea_90 : decode cX0_takeTea 90 = .ok (.iinc 3 1, 3) := by decide +kernel
theorem dX0_takeTea_93 : decode cX0_takeTea 93 = .ok (.goto (-89), 3) := by decide +kernel
theorem dX0_takeTea_96 : decode cX0_takeTea 96 = .ok (.iload_n 2, 1) := by decide +kernel
theorem dX0_takeTea_97 : decode cX0_takeTea 97 = .ok (.ireturn, 1) := by decide +kernel
theorem dX0_passDays_0 : decode cX0_passDays 0 = .ok (.iconst 0, 1) := by decide +kernel
theorem dX0_passDays_1 : decode cX0_passDays 1 = .ok (.istore_n 2, 1) := by decide +kernel
theorem dX0_passDays_2 : decode cX0_passDays 2 = .ok (.iconst 0, 1) := by decide +kernel
theorem dX0_passDays_3 : decode cX0_passDays 3 = .ok (.istore_n 3, 1) := by decide +kernel
theorem dX0_passDays_4 : decode cX0_passDays 4 = .ok (.iload_n 3, 1) := by decide +kernel
theorem dX0_passDays_5 : decode cX0_passDays 5 = .ok (.iload_n 1, 1) := by decide +kernel
theorem dX0_passDays_6 : decode cX0_passDays 6 = .ok (.if_icmp .ge 72, 3) := by decide +kernel
theorem dX0_passDays_9 : decode cX0_passDays 9 = .ok (.aload_n 0, 1) := by decide +kernel
theorem dX0_passDays_10 : decode cX0_passDays 10 = .ok (.getfield 12, 3) := by decide +kernel
theorem dX0_passDays_13 : decode cX0_passDays 13 = .ok (.getfield 26, 3) := by decide +kernel
theorem dX0_passDays_16 : decode cX0_passDays 16 = .ok (.sipush 999, 3) := by decide +kernel
theorem dX0_passDays_19 : decode cX0_passDays 19 = .ok (.if_icmp .ge 59, 3) := by decide +kernel
theorem dX0_passDays_22 : decode cX0_passDays 22 = .ok (.aload_n 0, 1) := by decide +kernel
theorem dX0_passDays_23 : decode cX0_passDays 23 = .ok (.getfield 12, 3) := by decide +kernel
theorem dX0_passDays_26 : decode cX0_passDays 26 = .ok (.dup, 1) := by decide +kernel
theorem dX0_passDays_27 : decode cX0_passDays 27 = .ok (.getfield 26, 3) := by decide +kernel
theorem dX0_passDays_30 : decode cX0_passDays 30 = .ok (.iconst 1, 1) := by decide +kernel
theorem dX0_passDays_31 : decode cX0_passDays 31 = .ok (.iadd, 1) := by decide +kernel
theorem dX0_passDays_32 : decode cX0_passDays 32 = .ok (.putfield 26, 3) := by decide +kernel
theorem dX0_passDays_35 : decode cX0_passDays 35 = .ok (.iconst 0, 1) := by decide +kernel
theorem dX0_passDays_36 : decode cX0_passDays 36 = .ok (.istore 4, 2) := by decide +kernel
theorem dX0_passDays_38 : decode cX0_passDays 38 = .ok (.iload 4, 2) := by decide +kernel
theorem dX0_passDays_40 : decode cX0_passDays 40 = .ok (.aload_n 0, 1) := by decide +kernel
theorem dX0_passDays_41 : decode cX0_passDays 41 = .ok (.invokevirtual 55, 3) := by decide +kernel
theorem dX0_passDays_44 : decode cX0_passDays 44 = .ok (.if_icmp .ge 28, 3) := by decide +kernel
theorem dX0_passDays_47 : decode cX0_passDays 47 = .ok (.aload_n 0, 1) := by decide +kernel
theorem dX0_passDays_48 : decode cX0_passDays 48 = .ok (.getfield 22, 3) := by decide +kernel
theorem dX0_passDays_51 : decode cX0_passDays 51 = .ok (.getfield 149, 3) := by decide +kernel
theorem dX0_passDays_54 : decode cX0_passDays 54 = .ok (.ifCond .le 18, 3) := by decide +kernel
theorem dX0_passDays_57 : decode cX0_passDays 57 = .ok (.iload_n 2, 1) := by decide +kernel
theorem dX0_passDays_58 : decode cX0_passDays 58 = .ok (.aload_n 0, 1) := by decide +kernel
theorem dX0_passDays_59 : decode cX0_passDays 59 = .ok (.iload 4, 2) := by decide +kernel
theorem dX0_passDays_61 : decode cX0_passDays 61 = .ok (.invokevirtual 152, 3) := by decide +kernel
theorem dX0_passDays_64 : decode cX0_passDays 64 = .ok (.iadd, 1) := by decide +kernel
theorem dX0_passDays_65 : decode cX0_passDays 65 = .ok (.istore_n 2, 1) := by decide +kernel
theorem dX0_passDays_66 : decode cX0_passDays 66 = .ok (.iinc 4 1, 3) := by decide +kernel
theorem dX0_passDays_69 : decode cX0_passDays 69 = .ok (.goto (-31), 3) := by decide +kernel
theorem dX0_passDays_72 : decode cX0_passDays 72 = .ok (.iinc 3 1, 3) := by decide +kernel
theorem dX0_passDays_75 : decode cX0_passDays 75 = .ok (.goto (-71), 3) := by decide +kernel
theorem dX0_passDays_78 : decode cX0_passDays 78 = .ok (.iload_n 2, 1) := by decide +kernel
theorem dX0_passDays_79 : decode cX0_passDays 79 = .ok (.ireturn, 1) := by decide +kernel
theorem dX0_forget_0 : decode cX0_forget 0 = .ok (.iconst 0, 1) := by decide +kernel
theorem dX0_forget_1 : decode cX0_forget 1 = .ok (.istore_n 2, 1) := by decide +kernel
theorem dX0_forget_2 : decode cX0_forget 2 = .ok (.iconst 0, 1) := by decide +kernel
theorem dX0_forget_3 : decode cX0_forget 3 = .ok (.istore_n 3, 1) := by decide +kernel
theorem dX0_forget_4 : decode cX0_forget 4 = .ok (.iload_n 3, 1) := by decide +kernel
theorem dX0_forget_5 : decode cX0_forget 5 = .ok (.aload_n 0, 1) := by decide +kernel
theorem dX0_forget_6 : decode cX0_forget 6 = .ok (.getfield 22, 3) := by decide +kernel
theorem dX0_forget_9 : decode cX0_forget 9 = .ok (.getfield 48, 3) := by decide +kernel
theorem dX0_forget_12 : decode cX0_forget 12 = .ok (.iconst 0, 1) := by decide +kernel
theorem dX0_forget_13 : decode cX0_forget 13 = .ok (.iaload, 1) := by decide +kernel
theorem dX0_forget_14 : decode cX0_forget 14 = .ok (.if_icmp .ge 90, 3) := by decide +kernel
theorem dX0_forget_17 : decode cX0_forget 17 = .ok (.aload_n 0, 1) := by decide +kernel
theorem dX0_forget_18 : decode cX0_forget 18 = .ok (.getfield 12, 3) := by decide +kernel
theorem dX0_forget_21 : decode cX0_forget 21 = .ok (.getfield 26, 3) := by decide +kernel
theorem dX0_forget_24 : decode cX0_forget 24 = .ok (.aload_n 0, 1) := by decide +kernel
theorem dX0_forget_25 : decode cX0_forget 25 = .ok (.getfield 12, 3) := by decide +kernel
theorem dX0_forget_28 : decode cX0_forget 28 = .ok (.iload_n 1, 1) := by decide +kernel
theorem dX0_forget_29 : decode cX0_forget 29 = .ok (.iload_n 3, 1) := by decide +kernel
theorem dX0_forget_30 : decode cX0_forget 30 = .ok (.invokevirtual 155, 3) := by decide +kernel
theorem dX0_forget_33 : decode cX0_forget 33 = .ok (.isub, 1) := by decide +kernel
theorem dX0_forget_34 : decode cX0_forget 34 = .ok (.aload_n 0, 1) := by decide +kernel
theorem dX0_forget_35 : decode cX0_forget 35 = .ok (.getfield 22, 3) := by decide +kernel
theorem dX0_forget_38 : decode cX0_forget 38 = .ok (.getfield 149, 3) := by decide +kernel
theorem dX0_forget_41 : decode cX0_forget 41 = .ok (.if_icmp .lt 7, 3) := by decide +kernel
theorem dX0_forget_44 : decode cX0_forget 44 = .ok (.iconst 1, 1) := by decide +kernel
theorem dX0_forget_45 : decode cX0_forget 45 = .ok (.goto 4, 3) := by decide +kernel
theorem dX0_forget_48 : decode cX0_forget 48 = .ok (.iconst 0, 1) := by decide +kernel
theorem dX0_forget_49 : decode cX0_forget 49 = .ok (.istore 4, 2) := by decide +kernel
theorem dX0_forget_51 : decode cX0_forget 51 = .ok (.iload 4, 2) := by decide +kernel
theorem dX0_forget_53 : decode cX0_forget 53 = .ok (.ifCond .eq 45, 3) := by decide +kernel
theorem dX0_forget_56 : decode cX0_forget 56 = .ok (.aload_n 0, 1) := by decide +kernel
theorem dX0_forget_57 : decode cX0_forget 57 = .ok (.iload_n 1, 1) := by decide +kernel
theorem dX0_forget_58 : decode cX0_forget 58 = .ok (.iload_n 3, 1) := by decide +kernel
theorem dX0_forget_59 : decode cX0_forget 59 = .ok (.invokevirtual 59, 3) := by decide +kernel
theorem dX0_forget_62 : decode cX0_forget 62 = .ok (.ifCond .eq 36, 3) := by decide +kernel
theorem dX0_forget_65 : decode cX0_forget 65 = .ok (.iload_n 3, 1) := by decide +kernel
theorem dX0_forget_66 : decode cX0_forget 66 = .ok (.aload_n 0, 1) := by decide +kernel
theorem dX0_forget_67 : decode cX0_forget 67 = .ok (.getfield 12, 3) := by decide +kernel
theorem dX0_forget_70 : decode cX0_forget 70 = .ok (.getfield 30, 3) := by decide +kernel
theorem dX0_forget_73 : decode cX0_forget 73 = .ok (.iload_n 1, 1) := by decide +kernel
theorem dX0_forget_74 : decode cX0_forget 74 = .ok (.iaload, 1) := by decide +kernel
theorem dX0_forget_75 : decode cX0_forget 75 = .ok (.if_icmp .eq 23, 3) := by decide +kernel
theorem dX0_forget_78 : decode cX0_forget 78 = .ok (.aload_n 0, 1) := by decide +kernel
theorem dX0_forget_79 : decode cX0_forget 79 = .ok (.getfield 12, 3) := by decide +kernel
theorem dX0_forget_82 : decode cX0_forget 82 = .ok (.getfield 36, 3) := by decide +kernel
theorem dX0_forget_85 : decode cX0_forget 85 = .ok (.iload_n 1, 1) := by decide +kernel
theorem dX0_forget_86 : decode cX0_forget 86 = .ok (.dup2, 1) := by decide +kernel
theorem dX0_forget_87 : decode cX0_forget 87 = .ok (.iaload, 1) := by decide +kernel
theorem dX0_forget_88 : decode cX0_forget 88 = .ok (.iconst 1, 1) := by decide +kernel
theorem dX0_forget_89 : decode cX0_forget 89 = .ok (.iload_n 3, 1) := by decide +kernel
theorem dX0_forget_90 : decode cX0_forget 90 = .ok (.ishl, 1) := by decide +kernel
theorem dX0_forget_91 : decode cX0_forget 91 = .ok (.iconst (-1), 1) := by decide +kernel
theorem dX0_forget_92 : decode cX0_forget 92 = .ok (.ixor, 1) := by decide +kernel
theorem dX0_forget_93 : decode cX0_forget 93 = .ok (.iand, 1) := by decide +kernel
theorem dX0_forget_94 : decode cX0_forget 94 = .ok (.iastore, 1) := by decide +kernel
theorem dX0_forget_95 : decode cX0_forget 95 = .ok (.iinc 2 1, 3) := by decide +kernel
theorem dX0_forget_98 : decode cX0_forget 98 = .ok (.iinc 3 1, 3) := by decide +kernel
theorem dX0_forget_101 : decode cX0_forget 101 = .ok (.goto (-97), 3) := by decide +kernel
theorem dX0_forget_104 : decode cX0_forget 104 = .ok (.iload_n 2, 1) := by decide +kernel
theorem dX0_forget_105 : decode cX0_forget 105 = .ok (.ireturn, 1) := by decide +kernel
theorem dX0_introductions_0 : decode cX0_introductions 0 = .ok (.aload_n 0, 1) := by decide +kernel
theorem dX0_introductions_1 : decode cX0_introductions 1 = .ok (.iload_n 1, 1) := by decide +kernel
theorem dX0_introductions_2 : decode cX0_introductions 2 = .ok (.invokevirtual 74, 3) := by decide +kernel
theorem dX0_introductions_5 : decode cX0_introductions 5 = .ok (.istore 4, 2) := by decide +kernel
theorem dX0_introductions_7 : decode cX0_introductions 7 = .ok (.aload_n 0, 1) := by decide +kernel
theorem dX0_introductions_8 : decode cX0_introductions 8 = .ok (.iload_n 1, 1) := by decide +kernel
theorem dX0_introductions_9 : decode cX0_introductions 9 = .ok (.iload_n 2, 1) := by decide +kernel
theorem dX0_introductions_10 : decode cX0_introductions 10 = .ok (.invokevirtual 158, 3) := by decide +kernel
theorem dX0_introductions_13 : decode cX0_introductions 13 = .ok (.istore 5, 2) := by decide +kernel
theorem dX0_introductions_15 : decode cX0_introductions 15 = .ok (.iconst 0, 1) := by decide +kernel
theorem dX0_introductions_16 : decode cX0_introductions 16 = .ok (.istore 6, 2) := by decide +kernel
theorem dX0_introductions_18 : decode cX0_introductions 18 = .ok (.iconst 0, 1) := by decide +kernel
theorem dX0_introductions_19 : decode cX0_introductions 19 = .ok (.istore 7, 2) := by decide +kernel
theorem dX0_introductions_21 : decode cX0_introductions 21 = .ok (.iload 7, 2) := by decide +kernel
theorem dX0_introductions_23 : decode cX0_introductions 23 = .ok (.bipush 12, 2) := by decide +kernel
theorem dX0_introductions_25 : decode cX0_introductions 25 = .ok (.if_icmp .gt 64, 3) := by decide +kernel
theorem dX0_introductions_28 : decode cX0_introductions 28 = .ok (.iload 5, 2) := by decide +kernel
theorem dX0_introductions_30 : decode cX0_introductions 30 = .ok (.iload_n 3, 1) := by decide +kernel
theorem dX0_introductions_31 : decode cX0_introductions 31 = .ok (.if_icmp .lt 6, 3) := by decide +kernel
theorem dX0_introductions_34 : decode cX0_introductions 34 = .ok (.iload 6, 2) := by decide +kernel
theorem dX0_introductions_36 : decode cX0_introductions 36 = .ok (.ireturn, 1) := by decide +kernel
theorem dX0_introductions_37 : decode cX0_introductions 37 = .ok (.aload_n 0, 1) := by decide +kernel
theorem dX0_introductions_38 : decode cX0_introductions 38 = .ok (.iload 4, 2) := by decide +kernel
theorem dX0_introductions_40 : decode cX0_introductions 40 = .ok (.iload 6, 2) := by decide +kernel
theorem dX0_introductions_42 : decode cX0_introductions 42 = .ok (.iconst (-1), 1) := by decide +kernel
theorem dX0_introductions_43 : decode cX0_introductions 43 = .ok (.ixor, 1) := by decide +kernel
theorem dX0_introductions_44 : decode cX0_introductions 44 = .ok (.iand, 1) := by decide +kernel
theorem dX0_introductions_45 : decode cX0_introductions 45 = .ok (.iload_n 2, 1) := by decide +kernel
theorem dX0_introductions_46 : decode cX0_introductions 46 = .ok (.invokevirtual 161, 3) := by decide +kernel
theorem dX0_introductions_49 : decode cX0_introductions 49 = .ok (.istore 8, 2) := by decide +kernel
theorem dX0_introductions_51 : decode cX0_introductions 51 = .ok (.iload 8, 2) := by decide +kernel
theorem dX0_introductions_53 : decode cX0_introductions 53 = .ok (.iconst (-1), 1) := by decide +kernel
theorem dX0_introductions_54 : decode cX0_introductions 54 = .ok (.if_icmp .ne 5, 3) := by decide +kernel
theorem dX0_introductions_57 : decode cX0_introductions 57 = .ok (.iconst (-1), 1) := by decide +kernel
theorem dX0_introductions_58 : decode cX0_introductions 58 = .ok (.ireturn, 1) := by decide +kernel
theorem dX0_introductions_59 : decode cX0_introductions 59 = .ok (.iload 6, 2) := by decide +kernel
theorem dX0_introductions_61 : decode cX0_introductions 61 = .ok (.iconst 1, 1) := by decide +kernel
theorem dX0_introductions_62 : decode cX0_introductions 62 = .ok (.iload 8, 2) := by decide +kernel
theorem dX0_introductions_64 : decode cX0_introductions 64 = .ok (.ishl, 1) := by decide +kernel
theorem dX0_introductions_65 : decode cX0_introductions 65 = .ok (.ior, 1) := by decide +kernel
theorem dX0_introductions_66 : decode cX0_introductions 66 = .ok (.istore 6, 2) := by decide +kernel
theorem dX0_introductions_68 : decode cX0_introductions 68 = .ok (.iload 5, 2) := by decide +kernel
theorem dX0_introductions_70 : decode cX0_introductions 70 = .ok (.aload_n 0, 1) := by decide +kernel
theorem dX0_introductions_71 : decode cX0_introductions 71 = .ok (.getfield 22, 3) := by decide +kernel
theorem dX0_introductions_74 : decode cX0_introductions 74 = .ok (.getfield 62, 3) := by decide +kernel
theorem dX0_introductions_77 : decode cX0_introductions 77 = .ok (.iload 8, 2) := by decide +kernel
theorem dX0_introductions_79 : decode cX0_introductions 79 = .ok (.iaload, 1) := by decide +kernel
theorem dX0_introductions_80 : decode cX0_introductions 80 = .ok (.iadd, 1) := by decide +kernel
theorem dX0_introductions_81 : decode cX0_introductions 81 = .ok (.istore 5, 2) := by decide +kernel
theorem dX0_introductions_83 : decode cX0_introductions 83 = .ok (.iinc 7 1, 3) := by decide +kernel
theorem dX0_introductions_86 : decode cX0_introductions 86 = .ok (.goto (-65), 3) := by decide +kernel
theorem dX0_introductions_89 : decode cX0_introductions 89 = .ok (.iconst (-1), 1) := by decide +kernel
theorem dX0_introductions_90 : decode cX0_introductions 90 = .ok (.ireturn, 1) := by decide +kernel
theorem dX0_worthiest_0 : decode cX0_worthiest 0 = .ok (.iconst (-1), 1) := by decide +kernel
theorem dX0_worthiest_1 : decode cX0_worthiest 1 = .ok (.istore_n 3, 1) := by decide +kernel
theorem dX0_worthiest_2 : decode cX0_worthiest 2 = .ok (.iconst 0, 1) := by decide +kernel
theorem dX0_worthiest_3 : decode cX0_worthiest 3 = .ok (.istore 4, 2) := by decide +kernel
theorem dX0_worthiest_5 : decode cX0_worthiest 5 = .ok (.iconst 0, 1) := by decide +kernel
theorem dX0_worthiest_6 : decode cX0_worthiest 6 = .ok (.istore 5, 2) := by decide +kernel
theorem dX0_worthiest_8 : decode cX0_worthiest 8 = .ok (.iload 5, 2) := by decide +kernel
theorem dX0_worthiest_10 : decode cX0_worthiest 10 = .ok (.aload_n 0, 1) := by decide +kernel
theorem dX0_worthiest_11 : decode cX0_worthiest 11 = .ok (.invokevirtual 55, 3) := by decide +kernel
theorem dX0_worthiest_14 : decode cX0_worthiest 14 = .ok (.if_icmp .ge 68, 3) := by decide +kernel
theorem dX0_worthiest_17 : decode cX0_worthiest 17 = .ok (.iload_n 1, 1) := by decide +kernel
theorem dX0_worthiest_18 : decode cX0_worthiest 18 = .ok (.iload 5, 2) := by decide +kernel
theorem dX0_worthiest_20 : decode cX0_worthiest 20 = .ok (.invokestatic 51, 3) := by decide +kernel
theorem dX0_worthiest_23 : decode cX0_worthiest 23 = .ok (.ifCond .eq 53, 3) := by decide +kernel
theorem dX0_worthiest_26 : decode cX0_worthiest 26 = .ok (.aload_n 0, 1) := by decide +kernel
theorem dX0_worthiest_27 : decode cX0_worthiest 27 = .ok (.getfield 22, 3) := by decide +kernel
theorem dX0_worthiest_30 : decode cX0_worthiest 30 = .ok (.getfield 62, 3) := by decide +kernel
theorem dX0_worthiest_33 : decode cX0_worthiest 33 = .ok (.iload 5, 2) := by decide +kernel
theorem dX0_worthiest_35 : decode cX0_worthiest 35 = .ok (.iaload, 1) := by decide +kernel
theorem dX0_worthiest_36 : decode cX0_worthiest 36 = .ok (.iload 4, 2) := by decide +kernel
theorem dX0_worthiest_38 : decode cX0_worthiest 38 = .ok (.if_icmp .le 38, 3) := by decide +kernel
theorem dX0_worthiest_41 : decode cX0_worthiest 41 = .ok (.aload_n 0, 1) := by decide +kernel
theorem dX0_worthiest_42 : decode cX0_worthiest 42 = .ok (.iload 5, 2) := by decide +kernel
theorem dX0_worthiest_44 : decode cX0_worthiest 44 = .ok (.iload_n 2, 1) := by decide +kernel
theorem dX0_worthiest_45 : decode cX0_worthiest 45 = .ok (.invokevirtual 146, 3) := by decide +kernel
theorem dX0_worthiest_48 : decode cX0_worthiest 48 = .ok (.ifCond .eq 28, 3) := by decide +kernel
theorem dX0_worthiest_51 : decode cX0_worthiest 51 = .ok (.aload_n 0, 1) := by decide +kernel
theorem dX0_worthiest_52 : decode cX0_worthiest 52 = .ok (.iload 5, 2) := by decide +kernel
theorem dX0_worthiest_54 : decode cX0_worthiest 54 = .ok (.iload_n 2, 1) := by decide +kernel
theorem dX0_worthiest_55 : decode cX0_worthiest 55 = .ok (.invokevirtual 130, 3) := by decide +kernel
theorem dX0_worthiest_58 : decode cX0_worthiest 58 = .ok (.ifCond .eq 18, 3) := by decide +kernel
theorem dX0_worthiest_61 : decode cX0_worthiest 61 = .ok (.aload_n 0, 1) := by decide +kernel
theorem dX0_worthiest_62 : decode cX0_worthiest 62 = .ok (.getfield 22, 3) := by decide +kernel
theorem dX0_worthiest_65 : decode cX0_worthiest 65 = .ok (.getfield 62, 3) := by decide +kernel
theorem dX0_worthiest_68 : decode cX0_worthiest 68 = .ok (.iload 5, 2) := by decide +kernel
theorem dX0_worthiest_70 : decode cX0_worthiest 70 = .ok (.iaload, 1) := by decide +kernel
theorem dX0_worthiest_71 : decode cX0_worthiest 71 = .ok (.istore 4, 2) := by decide +kernel
theorem dX0_worthiest_73 : decode cX0_worthiest 73 = .ok (.iload 5, 2) := by decide +kernel
theorem dX0_worthiest_75 : decode cX0_worthiest 75 = .ok (.istore_n 3, 1) := by decide +kernel
theorem dX0_worthiest_76 : decode cX0_worthiest 76 = .ok (.iinc 5 1, 3) := by decide +kernel
theorem dX0_worthiest_79 : decode cX0_worthiest 79 = .ok (.goto (-71), 3) := by decide +kernel
theorem dX0_worthiest_82 : decode cX0_worthiest 82 = .ok (.iload_n 3, 1) := by decide +kernel
theorem dX0_worthiest_83 : decode cX0_worthiest 83 = .ok (.ireturn, 1) := by decide +kernel
theorem dX0_letterVerdict_0 : decode cX0_letterVerdict 0 = .ok (.aload_n 0, 1) := by decide +kernel
theorem dX0_letterVerdict_1 : decode cX0_letterVerdict 1 = .ok (.iload_n 1, 1) := by decide +kernel
theorem dX0_letterVerdict_2 : decode cX0_letterVerdict 2 = .ok (.iload_n 2, 1) := by decide +kernel
theorem dX0_letterVerdict_3 : decode cX0_letterVerdict 3 = .ok (.invokevirtual 59, 3) := by decide +kernel
theorem dX0_letterVerdict_6 : decode cX0_letterVerdict 6 = .ok (.ifCond .eq 5, 3) := by decide +kernel
theorem dX0_letterVerdict_9 : decode cX0_letterVerdict 9 = .ok (.iconst 1, 1) := by decide +kernel
theorem dX0_letterVerdict_10 : decode cX0_letterVerdict 10 = .ok (.ireturn, 1) := by decide +kernel
theorem dX0_letterVerdict_11 : decode cX0_letterVerdict 11 = .ok (.aload_n 0, 1) := by decide +kernel
theorem dX0_letterVerdict_12 : decode cX0_letterVerdict 12 = .ok (.getfield 12, 3) := by decide +kernel
theorem dX0_letterVerdict_15 : decode cX0_letterVerdict 15 = .ok (.getfield 40, 3) := by decide +kernel
theorem dX0_letterVerdict_18 : decode cX0_letterVerdict 18 = .ok (.iload_n 1, 1) := by decide +kernel
theorem dX0_letterVerdict_19 : decode cX0_letterVerdict 19 = .ok (.iaload, 1) := by decide +kernel
theorem dX0_letterVerdict_20 : decode cX0_letterVerdict 20 = .ok (.iload_n 2, 1) := by decide +kernel
theorem dX0_letterVerdict_21 : decode cX0_letterVerdict 21 = .ok (.invokestatic 51, 3) := by decide +kernel
theorem dX0_letterVerdict_24 : decode cX0_letterVerdict 24 = .ok (.ifCond .eq 5, 3) := by decide +kernel
theorem dX0_letterVerdict_27 : decode cX0_letterVerdict 27 = .ok (.iconst 2, 1) := by decide +kernel
theorem dX0_letterVerdict_28 : decode cX0_letterVerdict 28 = .ok (.ireturn, 1) := by decide +kernel
theorem dX0_letterVerdict_29 : decode cX0_letterVerdict 29 = .ok (.aload_n 0, 1) := by decide +kernel
theorem dX0_letterVerdict_30 : decode cX0_letterVerdict 30 = .ok (.iload_n 1, 1) := by decide +kernel
theorem dX0_letterVerdict_31 : decode cX0_letterVerdict 31 = .ok (.iload_n 2, 1) := by decide +kernel
theorem dX0_letterVerdict_32 : decode cX0_letterVerdict 32 = .ok (.invokevirtual 130, 3) := by decide +kernel
theorem dX0_letterVerdict_35 : decode cX0_letterVerdict 35 = .ok (.ifCond .eq 7, 3) := by decide +kernel
theorem dX0_letterVerdict_38 : decode cX0_letterVerdict 38 = .ok (.iconst 0, 1) := by decide +kernel
theorem dX0_letterVerdict_39 : decode cX0_letterVerdict 39 = .ok (.goto 4, 3) := by decide +kernel
theorem dX0_letterVerdict_42 : decode cX0_letterVerdict 42 = .ok (.iconst 3, 1) := by decide +kernel
theorem dX0_letterVerdict_43 : decode cX0_letterVerdict 43 = .ok (.ireturn, 1) := by decide +kernel
theorem dX0_standing_0 : decode cX0_standing 0 = .ok (.aload_n 0, 1) := by decide +kernel
theorem dX0_standing_1 : decode cX0_standing 1 = .ok (.iload_n 1, 1) := by decide +kernel
theorem dX0_standing_2 : decode cX0_standing 2 = .ok (.iload_n 2, 1) := by decide +kernel
theorem dX0_standing_3 : decode cX0_standing 3 = .ok (.invokevirtual 59, 3) := by decide +kernel
theorem dX0_standing_6 : decode cX0_standing 6 = .ok (.ifCond .eq 29, 3) := by decide +kernel
theorem dX0_standing_9 : decode cX0_standing 9 = .ok (.iconst 2, 1) := by decide +kernel
theorem dX0_standing_10 : decode cX0_standing 10 = .ok (.sipush 200, 3) := by decide +kernel
theorem dX0_standing_13 : decode cX0_standing 13 = .ok (.aload_n 0, 1) := by decide +kernel
theorem dX0_standing_14 : decode cX0_standing 14 = .ok (.getfield 12, 3) := by decide +kernel
theorem dX0_standing_17 : decode cX0_standing 17 = .ok (.getfield 26, 3) := by decide +kernel
theorem dX0_standing_20 : decode cX0_standing 20 = .ok (.aload_n 0, 1) := by decide +kernel
theorem dX0_standing_21 : decode cX0_standing 21 = .ok (.getfield 12, 3) := by decide +kernel
theorem dX0_standing_24 : decode cX0_standing 24 = .ok (.iload_n 1, 1) := by decide +kernel
theorem dX0_standing_25 : decode cX0_standing 25 = .ok (.iload_n 2, 1) := by decide +kernel
theorem dX0_standing_26 : decode cX0_standing 26 = .ok (.invokevirtual 155, 3) := by decide +kernel
theorem dX0_standing_29 : decode cX0_standing 29 = .ok (.isub, 1) := by decide +kernel
theorem dX0_standing_30 : decode cX0_standing 30 = .ok (.invokestatic 121, 3) := by decide +kernel
theorem dX0_standing_33 : decode cX0_standing 33 = .ok (.iadd, 1) := by decide +kernel
theorem dX0_standing_34 : decode cX0_standing 34 = .ok (.ireturn, 1) := by decide +kernel
theorem dX0_standing_35 : decode cX0_standing 35 = .ok (.aload_n 0, 1) := by decide +kernel
theorem dX0_standing_36 : decode cX0_standing 36 = .ok (.getfield 12, 3) := by decide +kernel
theorem dX0_standing_39 : decode cX0_standing 39 = .ok (.getfield 40, 3) := by decide +kernel
theorem dX0_standing_42 : decode cX0_standing 42 = .ok (.iload_n 1, 1) := by decide +kernel
theorem dX0_standing_43 : decode cX0_standing 43 = .ok (.iaload, 1) := by decide +kernel
theorem dX0_standing_44 : decode cX0_standing 44 = .ok (.iload_n 2, 1) := by decide +kernel
theorem dX0_standing_45 : decode cX0_standing 45 = .ok (.invokestatic 51, 3) := by decide +kernel
theorem dX0_standing_48 : decode cX0_standing 48 = .ok (.ifCond .eq 7, 3) := by decide +kernel
theorem dX0_standing_51 : decode cX0_standing 51 = .ok (.iconst 1, 1) := by decide +kernel
theorem dX0_standing_52 : decode cX0_standing 52 = .ok (.goto 4, 3) := by decide +kernel
theorem dX0_standing_55 : decode cX0_standing 55 = .ok (.iconst 0, 1) := by decide +kernel
theorem dX0_standing_56 : decode cX0_standing 56 = .ok (.ireturn, 1) := by decide +kernel
theorem dX0_stand_0 : decode cX0_stand 0 = .ok (.iload_n 3, 1) := by decide +kernel
theorem dX0_stand_1 : decode cX0_stand 1 = .ok (.iconst 2, 1) := by decide +kernel
theorem dX0_stand_2 : decode cX0_stand 2 = .ok (.if_icmp .lt 41, 3) := by decide +kernel
theorem dX0_stand_5 : decode cX0_stand 5 = .ok (.aload_n 0, 1) := by decide +kernel
theorem dX0_stand_6 : decode cX0_stand 6 = .ok (.getfield 12, 3) := by decide +kernel
theorem dX0_stand_9 : decode cX0_stand 9 = .ok (.getfield 36, 3) := by decide +kernel
theorem dX0_stand_12 : decode cX0_stand 12 = .ok (.iload_n 1, 1) := by decide +kernel
theorem dX0_stand_13 : decode cX0_stand 13 = .ok (.dup2, 1) := by decide +kernel
theorem dX0_stand_14 : decode cX0_stand 14 = .ok (.iaload, 1) := by decide +kernel
theorem dX0_stand_15 : decode cX0_stand 15 = .ok (.iconst 1, 1) := by decide +kernel
theorem dX0_stand_16 : decode cX0_stand 16 = .ok (.iload_n 2, 1) := by decide +kernel
theorem dX0_stand_17 : decode cX0_stand 17 = .ok (.ishl, 1) := by decide +kernel
theorem dX0_stand_18 : decode cX0_stand 18 = .ok (.ior, 1) := by decide +kernel
theorem dX0_stand_19 : decode cX0_stand 19 = .ok (.iastore, 1) := by decide +kernel
theorem dX0_stand_20 : decode cX0_stand 20 = .ok (.aload_n 0, 1) := by decide +kernel
theorem dX0_stand_21 : decode cX0_stand 21 = .ok (.getfield 12, 3) := by decide +kernel
theorem dX0_stand_24 : decode cX0_stand 24 = .ok (.iload_n 1, 1) := by decide +kernel
theorem dX0_stand_25 : decode cX0_stand 25 = .ok (.iload_n 2, 1) := by decide +kernel
theorem dX0_stand_26 : decode cX0_stand 26 = .ok (.aload_n 0, 1) := by decide +kernel
theorem dX0_stand_27 : decode cX0_stand 27 = .ok (.getfield 12, 3) := by decide +kernel
theorem dX0_stand_30 : decode cX0_stand 30 = .ok (.getfield 26, 3) := by decide +kernel
theorem dX0_stand_33 : decode cX0_stand 33 = .ok (.iload_n 3, 1) := by decide +kernel
theorem dX0_stand_34 : decode cX0_stand 34 = .ok (.iconst 2, 1) := by decide +kernel
theorem dX0_stand_35 : decode cX0_stand 35 = .ok (.isub, 1) := by decide +kernel
theorem dX0_stand_36 : decode cX0_stand 36 = .ok (.isub, 1) := by decide +kernel
theorem dX0_stand_37 : decode cX0_stand 37 = .ok (.invokevirtual 44, 3) := by decide +kernel
theorem dX0_stand_40 : decode cX0_stand 40 = .ok (.goto 23, 3) := by decide +kernel
theorem dX0_stand_43 : decode cX0_stand 43 = .ok (.iload_n 3, 1) := by decide +kernel
theorem dX0_stand_44 : decode cX0_stand 44 = .ok (.iconst 1, 1) := by decide +kernel
theorem dX0_stand_45 : decode cX0_stand 45 = .ok (.if_icmp .ne 18, 3) := by decide +kernel
theorem dX0_stand_48 : decode cX0_stand 48 = .ok (.aload_n 0, 1) := by decide +kernel
theorem dX0_stand_49 : decode cX0_stand 49 = .ok (.getfield 12, 3) := by decide +kernel
theorem dX0_stand_52 : decode cX0_stand 52 = .ok (.getfield 40, 3) := by decide +kernel
theorem dX0_stand_55 : decode cX0_stand 55 = .ok (.iload_n 1, 1) := by decide +kernel
theorem dX0_stand_56 : decode cX0_stand 56 = .ok (.dup2, 1) := by decide +kernel
theorem dX0_stand_57 : decode cX0_stand 57 = .ok (.iaload, 1) := by decide +kernel
theorem dX0_stand_58 : decode cX0_stand 58 = .ok (.iconst 1, 1) := by decide +kernel
theorem dX0_stand_59 : decode cX0_stand 59 = .ok (.iload_n 2, 1) := by decide +kernel
theorem dX0_stand_60 : decode cX0_stand 60 = .ok (.ishl, 1) := by decide +kernel
theorem dX0_stand_61 : decode cX0_stand 61 = .ok (.ior, 1) := by decide +kernel
theorem dX0_stand_62 : decode cX0_stand 62 = .ok (.iastore, 1) := by decide +kernel
theorem dX0_stand_63 : decode cX0_stand 63 = .ok (.return_, 1) := by decide +kernel
theorem dX1_init_0 : decode cX1_init 0 = .ok (.aload_n 0, 1) := by decide +kernel
theorem dX1_init_1 : decode cX1_init 1 = .ok (.invokespecial 3, 3) := by decide +kernel
theorem dX1_init_4 : decode cX1_init 4 = .ok (.aload_n 0, 1) := by decide +kernel
theorem dX1_init_5 : decode cX1_init 5 = .ok (.sipush 1600, 3) := by decide +kernel
theorem dX1_init_8 : decode cX1_init 8 = .ok (.newarray .int, 2) := by decide +kernel
theorem dX1_init_10 : decode cX1_init 10 = .ok (.putfield 9, 3) := by decide +kernel
theorem dX1_init_13 : decode cX1_init 13 = .ok (.aload_n 0, 1) := by decide +kernel
theorem dX1_init_14 : decode cX1_init 14 = .ok (.bipush 64, 2) := by decide +kernel
theorem dX1_init_16 : decode cX1_init 16 = .ok (.newarray .int, 2) := by decide +kernel
theorem dX1_init_18 : decode cX1_init 18 = .ok (.putfield 15, 3) := by decide +kernel
theorem dX1_init_21 : decode cX1_init 21 = .ok (.return_, 1) := by decide +kernel
theorem dX1_clear_0 : decode cX1_clear 0 = .ok (.aload_n 0, 1) := by decide +kernel
theorem dX1_clear_1 : decode cX1_clear 1 = .ok (.iconst 0, 1) := by decide +kernel
theorem dX1_clear_2 : decode cX1_clear 2 = .ok (.putfield 18, 3) := by decide +kernel
theorem dX1_clear_5 : decode cX1_clear 5 = .ok (.return_, 1) := by decide +kernel
theorem dX1_isTold_0 : decode cX1_isTold 0 = .ok (.aload_n 0, 1) := by decide +kernel
theorem dX1_isTold_1 : decode cX1_isTold 1 = .ok (.getfield 18, 3) := by decide +kernel
theorem dX1_isTold_4 : decode cX1_isTold 4 = .ok (.ifCond .le 7, 3) := by decide +kernel
theorem dX1_isTold_7 : decode cX1_isTold 7 = .ok (.iconst 1, 1) := by decide +kernel
theorem dX1_isTold_8 : decode cX1_isTold 8 = .ok (.goto 4, 3) := by decide +kernel
theorem dX1_isTold_11 : decode cX1_isTold 11 = .ok (.iconst 0, 1) := by decide +kernel
theorem dX1_isTold_12 : decode cX1_isTold 12 = .ok (.ireturn, 1) := by decide +kernel
theorem dX1_add_0 : decode cX1_add 0 = .ok (.aload_n 0, 1) := by decide +kernel
theorem dX1_add_1 : decode cX1_add 1 = .ok (.getfield 18, 3) := by decide +kernel
theorem dX1_add_4 : decode cX1_add 4 = .ok (.sipush 1600, 3) := by decide +kernel
theorem dX1_add_7 : decode cX1_add 7 = .ok (.if_icmp .ge 23, 3) := by decide +kernel
theorem dX1_add_10 : decode cX1_add 10 = .ok (.aload_n 0, 1) := by decide +kernel
theorem dX1_add_11 : decode cX1_add 11 = .ok (.getfield 9, 3) := by decide +kernel
theorem dX1_add_14 : decode cX1_add 14 = .ok (.aload_n 0, 1) := by decide +kernel
theorem dX1_add_15 : decode cX1_add 15 = .ok (.getfield 18, 3) := by decide +kernel
theorem dX1_add_18 : decode cX1_add 18 = .ok (.iload_n 1, 1) := by decide +kernel
theorem dX1_add_19 : decode cX1_add 19 = .ok (.iastore, 1) := by decide +kernel
theorem dX1_add_20 : decode cX1_add 20 = .ok (.aload_n 0, 1) := by decide +kernel
theorem dX1_add_21 : decode cX1_add 21 = .ok (.dup, 1) := by decide +kernel
theorem dX1_add_22 : decode cX1_add 22 = .ok (.getfield 18, 3) := by decide +kernel
theorem dX1_add_25 : decode cX1_add 25 = .ok (.iconst 1, 1) := by decide +kernel
theorem dX1_add_26 : decode cX1_add 26 = .ok (.iadd, 1) := by decide +kernel
theorem dX1_add_27 : decode cX1_add 27 = .ok (.putfield 18, 3) := by decide +kernel
theorem dX1_add_30 : decode cX1_add 30 = .ok (.return_, 1) := by decide +kernel
theorem dX1_value_0 : decode cX1_value 0 = .ok (.iconst 0, 1) := by decide +kernel
theorem dX1_value_1 : decode cX1_value 1 = .ok (.istore_n 2, 1) := by decide +kernel
theorem dX1_value_2 : decode cX1_value 2 = .ok (.iconst 0, 1) := by decide +kernel
theorem dX1_value_3 : decode cX1_value 3 = .ok (.istore_n 3, 1) := by decide +kernel
theorem dX1_value_4 : decode cX1_value 4 = .ok (.iload_n 3, 1) := by decide +kernel
theorem dX1_value_5 : decode cX1_value 5 = .ok (.aload_n 0, 1) := by decide +kernel
theorem dX1_value_6 : decode cX1_value 6 = .ok (.getfield 18, 3) := by decide +kernel
theorem dX1_value_9 : decode cX1_value 9 = .ok (.if_icmp .ge 140, 3) := by decide +kernel
theorem dX1_value_12 : decode cX1_value 12 = .ok (.iload_n 3, 1) := by decide +kernel
theorem dX1_value_13 : decode cX1_value 13 = .ok (.sipush 1600, 3) := by decide +kernel
theorem dX1_value_16 : decode cX1_value 16 = .ok (.if_icmp .ge 133, 3) := by decide +kernel
theorem dX1_value_19 : decode cX1_value 19 = .ok (.aload_n 0, 1) := by decide +kernel
theorem dX1_value_20 : decode cX1_value 20 = .ok (.getfield 9, 3) := by decide +kernel
theorem dX1_value_23 : decode cX1_value 23 = .ok (.iload_n 3, 1) := by decide +kernel
theorem dX1_value_24 : decode cX1_value 24 = .ok (.iaload, 1) := by decide +kernel
theorem dX1_value_25 : decode cX1_value 25 = .ok (.istore 4, 2) := by decide +kernel
theorem dX1_value_27 : decode cX1_value 27 = .ok (.iload 4, 2) := by decide +kernel
theorem dX1_value_29 : decode cX1_value 29 = .ok (.bipush (-6), 2) := by decide +kernel
theorem dX1_value_31 : decode cX1_value 31 = .ok (.if_icmp .lt 39, 3) := by decide +kernel
theorem dX1_value_34 : decode cX1_value 34 = .ok (.iload_n 2, 1) := by decide +kernel
theorem dX1_value_35 : decode cX1_value 35 = .ok (.bipush 64, 2) := by decide +kernel
theorem dX1_value_37 : decode cX1_value 37 = .ok (.if_icmp .ge 106, 3) := by decide +kernel
theorem dX1_value_40 : decode cX1_value 40 = .ok (.aload_n 0, 1) := by decide +kernel
theorem dX1_value_41 : decode cX1_value 41 = .ok (.getfield 15, 3) := by decide +kernel
theorem dX1_value_44 : decode cX1_value 44 = .ok (.iload_n 2, 1) := by decide +kernel
theorem dX1_value_45 : decode cX1_value 45 = .ok (.iload 4, 2) := by decide +kernel
theorem dX1_value_47 : decode cX1_value 47 = .ok (.ifCond .lt 8, 3) := by decide +kernel
theorem dX1_value_50 : decode cX1_value 50 = .ok (.iload 4, 2) := by decide +kernel
theorem dX1_value_52 : decode cX1_value 52 = .ok (.goto 11, 3) := by decide +kernel
theorem dX1_value_55 : decode cX1_value 55 = .ok (.aload_n 1, 1) := by decide +kernel
theorem dX1_value_56 : decode cX1_value 56 = .ok (.iconst (-1), 1) := by decide +kernel
theorem dX1_value_57 : decode cX1_value 57 = .ok (.iload 4, 2) := by decide +kernel
theorem dX1_value_59 : decode cX1_value 59 = .ok (.isub, 1) := by decide +kernel
theorem dX1_value_60 : decode cX1_value 60 = .ok (.invokestatic 22, 3) := by decide +kernel
theorem dX1_value_63 : decode cX1_value 63 = .ok (.iastore, 1) := by decide +kernel
theorem dX1_value_64 : decode cX1_value 64 = .ok (.iinc 2 1, 3) := by decide +kernel
theorem dX1_value_67 : decode cX1_value 67 = .ok (.goto 76, 3) := by decide +kernel
theorem dX1_value_70 : decode cX1_value 70 = .ok (.iload 4, 2) := by decide +kernel
theorem dX1_value_72 : decode cX1_value 72 = .ok (.bipush (-9), 2) := by decide +kernel
theorem dX1_value_74 : decode cX1_value 74 = .ok (.if_icmp .ne 29, 3) := by decide +kernel
theorem dX1_value_77 : decode cX1_value 77 = .ok (.iload_n 2, 1) := by decide +kernel
theorem dX1_value_78 : decode cX1_value 78 = .ok (.iconst 1, 1) := by decide +kernel
theorem dX1_value_79 : decode cX1_value 79 = .ok (.if_icmp .lt 64, 3) := by decide +kernel
theorem dX1_value_82 : decode cX1_value 82 = .ok (.aload_n 0, 1) := by decide +kernel
theorem dX1_value_83 : decode cX1_value 83 = .ok (.getfield 15, 3) := by decide +kernel
theorem dX1_value_86 : decode cX1_value 86 = .ok (.iload_n 2, 1) := by decide +kernel
theorem dX1_value_87 : decode cX1_value 87 = .ok (.iconst 1, 1) := by decide +kernel
theorem dX1_value_88 : decode cX1_value 88 = .ok (.isub, 1) := by decide +kernel
theorem dX1_value_89 : decode cX1_value 89 = .ok (.iconst 1, 1) := by decide +kernel
theorem dX1_value_90 : decode cX1_value 90 = .ok (.aload_n 0, 1) := by decide +kernel
theorem dX1_value_91 : decode cX1_value 91 = .ok (.getfield 15, 3) := by decide +kernel
theorem dX1_value_94 : decode cX1_value 94 = .ok (.iload_n 2, 1) := by decide +kernel
theorem dX1_value_95 : decode cX1_value 95 = .ok (.iconst 1, 1) := by decide +kernel
theorem dX1_value_96 : decode cX1_value 96 = .ok (.isub, 1) := by decide +kernel
theorem dX1_value_97 : decode cX1_value 97 = .ok (.iaload, 1) := by decide +kernel
theorem dX1_value_98 : decode cX1_value 98 = .ok (.isub, 1) := by decide +kernel
theorem dX1_value_99 : decode cX1_value 99 = .ok (.iastore, 1) := by decide +kernel
theorem dX1_value_100 : decode cX1_value 100 = .ok (.goto 43, 3) := by decide +kernel
theorem dX1_value_103 : decode cX1_value 103 = .ok (.iload_n 2, 1) := by decide +kernel
theorem dX1_value_104 : decode cX1_value 104 = .ok (.iconst 2, 1) := by decide +kernel
theorem dX1_value_105 : decode cX1_value 105 = .ok (.if_icmp .lt 38, 3) := by decide +kernel
theorem dX1_value_108 : decode cX1_value 108 = .ok (.iinc 2 (-1), 3) := by decide +kernel
theorem dX1_value_111 : decode cX1_value 111 = .ok (.aload_n 0, 1) := by decide +kernel
theorem dX1_value_112 : decode cX1_value 112 = .ok (.getfield 15, 3) := by decide +kernel
theorem dX1_value_115 : decode cX1_value 115 = .ok (.iload_n 2, 1) := by decide +kernel
theorem dX1_value_116 : decode cX1_value 116 = .ok (.iconst 1, 1) := by decide +kernel
theorem dX1_value_117 : decode cX1_value 117 = .ok (.isub, 1) := by decide +kernel
theorem dX1_value_118 : decode cX1_value 118 = .ok (.iload 4, 2) := by decide +kernel
theorem dX1_value_120 : decode cX1_value 120 = .ok (.aload_n 0, 1) := by decide +kernel
theorem dX1_value_121 : decode cX1_value 121 = .ok (.getfield 15, 3) := by decide +kernel
theorem dX1_value_124 : decode cX1_value 124 = .ok (.iload_n 2, 1) := by decide +kernel
theorem dX1_value_125 : decode cX1_value 125 = .ok (.iconst 1, 1) := by decide +kernel
theorem dX1_value_126 : decode cX1_value 126 = .ok (.isub, 1) := by decide +kernel
theorem dX1_value_127 : decode cX1_value 127 = .ok (.iaload, 1) := by decide +kernel
theorem dX1_value_128 : decode cX1_value 128 = .ok (.i2l, 1) := by decide +kernel
theorem dX1_value_129 : decode cX1_value 129 = .ok (.aload_n 0, 1) := by decide +kernel
theorem dX1_value_130 : decode cX1_value 130 = .ok (.getfield 15, 3) := by decide +kernel
theorem dX1_value_133 : decode cX1_value 133 = .ok (.iload_n 2, 1) := by decide +kernel
theorem dX1_value_134 : decode cX1_value 134 = .ok (.iaload, 1) := by decide +kernel
theorem dX1_value_135 : decode cX1_value 135 = .ok (.i2l, 1) := by decide +kernel
theorem dX1_value_136 : decode cX1_value 136 = .ok (.invokestatic 26, 3) := by decide +kernel
theorem dX1_value_139 : decode cX1_value 139 = .ok (.invokestatic 30, 3) := by decide +kernel
theorem dX1_value_142 : decode cX1_value 142 = .ok (.iastore, 1) := by decide +kernel
theorem dX1_value_143 : decode cX1_value 143 = .ok (.iinc 3 1, 3) := by decide +kernel
theorem dX1_value_146 : decode cX1_value 146 = .ok (.goto (-142), 3) := by decide +kernel
theorem dX1_value_149 : decode cX1_value 149 = .ok (.iload_n 2, 1) := by decide +kernel
theorem dX1_value_150 : decode cX1_value 150 = .ok (.ifCond .le 12, 3) := by decide +kernel
theorem dX1_value_153 : decode cX1_value 153 = .ok (.aload_n 0, 1) := by decide +kernel
theorem dX1_value_154 : decode cX1_value 154 = .ok (.getfield 15, 3) := by decide +kernel
theorem dX1_value_157 : decode cX1_value 157 = .ok (.iconst 0, 1) := by decide +kernel
theorem dX1_value_158 : decode cX1_value 158 = .ok (.iaload, 1) := by decide +kernel
theorem dX1_value_159 : decode cX1_value 159 = .ok (.goto 4, 3) := by decide +kernel
theorem dX1_value_162 : decode cX1_value 162 = .ok (.iconst 0, 1) := by decide +kernel
theorem dX1_value_163 : decode cX1_value 163 = .ok (.ireturn, 1) := by decide +kernel
theorem dX1_factOf_0 : decode cX1_factOf 0 = .ok (.iload_n 1, 1) := by decide +kernel
theorem dX1_factOf_1 : decode cX1_factOf 1 = .ok (.ifCond .lt 15, 3) := by decide +kernel
theorem dX1_factOf_4 : decode cX1_factOf 4 = .ok (.iload_n 1, 1) := by decide +kernel
theorem dX1_factOf_5 : decode cX1_factOf 5 = .ok (.aload_n 0, 1) := by decide +kernel
theorem dX1_factOf_6 : decode cX1_factOf 6 = .ok (.arraylength, 1) := by decide +kernel
theorem dX1_factOf_7 : decode cX1_factOf 7 = .ok (.if_icmp .ge 9, 3) := by decide +kernel
theorem dX1_factOf_10 : decode cX1_factOf 10 = .ok (.aload_n 0, 1) := by decide +kernel
theorem dX1_factOf_11 : decode cX1_factOf 11 = .ok (.iload_n 1, 1) := by decide +kernel
theorem dX1_factOf_12 : decode cX1_factOf 12 = .ok (.iaload, 1) := by decide +kernel
theorem dX1_factOf_13 : decode cX1_factOf 13 = .ok (.goto 4, 3) := by decide +kernel
theorem dX1_factOf_16 : decode cX1_factOf 16 = .ok (.iconst 0, 1) := by decide +kernel
theorem dX1_factOf_17 : decode cX1_factOf 17 = .ok (.ireturn, 1) := by decide +kernel
theorem dX1_done_0 : decode cX1_done 0 = .ok (.iload_n 0, 1) := by decide +kernel
theorem dX1_done_1 : decode cX1_done 1 = .ok (.tableswitch 167 (-19) (-7) #[151, 135, 131, 127, 123, 111, 99, 87, 81, 75, 167, 71, 67], 67) := by decide +kernel
theorem dX1_done_68 : decode cX1_done 68 = .ok (.lload_n 1, 1) := by decide +kernel
theorem dX1_done_69 : decode cX1_done 69 = .ok (.lload_n 3, 1) := by decide +kernel
theorem dX1_done_70 : decode cX1_done 70 = .ok (.land, 1) := by decide +kernel
theorem dX1_done_71 : decode cX1_done 71 = .ok (.lreturn, 1) := by decide +kernel
theorem dX1_done_72 : decode cX1_done 72 = .ok (.lload_n 1, 1) := by decide +kernel
theorem dX1_done_73 : decode cX1_done 73 = .ok (.lload_n 3, 1) := by decide +kernel
theorem dX1_done_74 : decode cX1_done 74 = .ok (.lor, 1) := by decide +kernel
theorem dX1_done_75 : decode cX1_done 75 = .ok (.lreturn, 1) := by decide +kernel
theorem dX1_done_76 : decode cX1_done 76 = .ok (.lload_n 1, 1) := by decide +kernel
theorem dX1_done_77 : decode cX1_done 77 = .ok (.lload_n 3, 1) := by decide +kernel
theorem dX1_done_78 : decode cX1_done 78 = .ok (.invokestatic 34, 3) := by decide +kernel
theorem dX1_done_81 : decode cX1_done 81 = .ok (.lreturn, 1) := by decide +kernel
theorem dX1_done_82 : decode cX1_done 82 = .ok (.lload_n 1, 1) := by decide +kernel
theorem dX1_done_83 : decode cX1_done 83 = .ok (.lload_n 3, 1) := by decide +kernel
theorem dX1_done_84 : decode cX1_done 84 = .ok (.invokestatic 40, 3) := by decide +kernel
theorem dX1_done_87 : decode cX1_done 87 = .ok (.lreturn, 1) := by decide +kernel
theorem dX1_done_88 : decode cX1_done 88 = .ok (.lload_n 1, 1) := by decide +kernel
theorem dX1_done_89 : decode cX1_done 89 = .ok (.lload_n 3, 1) := by decide +kernel
theorem dX1_done_90 : decode cX1_done 90 = .ok (.lcmp, 1) := by decide +kernel
theorem dX1_done_91 : decode cX1_done 91 = .ok (.ifCond .ge 7, 3) := by decide +kernel
theorem dX1_done_94 : decode cX1_done 94 = .ok (.lconst 1, 1) := by decide +kernel
theorem dX1_done_95 : decode cX1_done 95 = .ok (.goto 4, 3) := by decide +kernel
theorem dX1_done_98 : decode cX1_done 98 = .ok (.lconst 0, 1) := by decide +kernel
theorem dX1_done_99 : decode cX1_done 99 = .ok (.lreturn, 1) := by decide +kernel
theorem dX1_done_100 : decode cX1_done 100 = .ok (.lload_n 1, 1) := by decide +kernel
theorem dX1_done_101 : decode cX1_done 101 = .ok (.lload_n 3, 1) := by decide +kernel
theorem dX1_done_102 : decode cX1_done 102 = .ok (.lcmp, 1) := by decide +kernel
theorem dX1_done_103 : decode cX1_done 103 = .ok (.ifCond .le 7, 3) := by decide +kernel
theorem dX1_done_106 : decode cX1_done 106 = .ok (.lconst 1, 1) := by decide +kernel
theorem dX1_done_107 : decode cX1_done 107 = .ok (.goto 4, 3) := by decide +kernel
theorem dX1_done_110 : decode cX1_done 110 = .ok (.lconst 0, 1) := by decide +kernel
theorem dX1_done_111 : decode cX1_done 111 = .ok (.lreturn, 1) := by decide +kernel
theorem dX1_done_112 : decode cX1_done 112 = .ok (.lload_n 1, 1) := by decide +kernel
theorem dX1_done_113 : decode cX1_done 113 = .ok (.lload_n 3, 1) := by decide +kernel
theorem dX1_done_114 : decode cX1_done 114 = .ok (.lcmp, 1) := by decide +kernel
theorem dX1_done_115 : decode cX1_done 115 = .ok (.ifCond .ne 7, 3) := by decide +kernel
theorem dX1_done_118 : decode cX1_done 118 = .ok (.lconst 1, 1) := by decide +kernel
theorem dX1_done_119 : decode cX1_done 119 = .ok (.goto 4, 3) := by decide +kernel
theorem dX1_done_122 : decode cX1_done 122 = .ok (.lconst 0, 1) := by decide +kernel
theorem dX1_done_123 : decode cX1_done 123 = .ok (.lreturn, 1) := by decide +kernel
theorem dX1_done_124 : decode cX1_done 124 = .ok (.lload_n 1, 1) := by decide +kernel
theorem dX1_done_125 : decode cX1_done 125 = .ok (.lload_n 3, 1) := by decide +kernel
theorem dX1_done_126 : decode cX1_done 126 = .ok (.ladd, 1) := by decide +kernel
theorem dX1_done_127 : decode cX1_done 127 = .ok (.lreturn, 1) := by decide +kernel
theorem dX1_done_128 : decode cX1_done 128 = .ok (.lload_n 1, 1) := by decide +kernel
theorem dX1_done_129 : decode cX1_done 129 = .ok (.lload_n 3, 1) := by decide +kernel
theorem dX1_done_130 : decode cX1_done 130 = .ok (.lsub, 1) := by decide +kernel
theorem dX1_done_131 : decode cX1_done 131 = .ok (.lreturn, 1) := by decide +kernel
theorem dX1_done_132 : decode cX1_done 132 = .ok (.lload_n 1, 1) := by decide +kernel
theorem dX1_done_133 : decode cX1_done 133 = .ok (.lload_n 3, 1) := by decide +kernel
theorem dX1_done_134 : decode cX1_done 134 = .ok (.lmul, 1) := by decide +kernel
theorem dX1_done_135 : decode cX1_done 135 = .ok (.lreturn, 1) := by decide +kernel
theorem dX1_done_136 : decode cX1_done 136 = .ok (.lload_n 3, 1) := by decide +kernel
theorem dX1_done_137 : decode cX1_done 137 = .ok (.lconst 0, 1) := by decide +kernel
theorem dX1_done_138 : decode cX1_done 138 = .ok (.lcmp, 1) := by decide +kernel
theorem dX1_done_139 : decode cX1_done 139 = .ok (.ifCond .ne 7, 3) := by decide +kernel
theorem dX1_done_142 : decode cX1_done 142 = .ok (.lconst 0, 1) := by decide +kernel
theorem dX1_done_143 : decode cX1_done 143 = .ok (.goto 8, 3) := by decide +kernel
theorem dX1_done_146 : decode cX1_done 146 = .ok (.lload_n 1, 1) := by decide +kernel
theorem dX1_done_147 : decode cX1_done 147 = .ok (.lload_n 3, 1) := by decide +kernel
theorem dX1_done_148 : decode cX1_done 148 = .ok (.invokestatic 43, 3) := by decide +kernel
theorem dX1_done_151 : decode cX1_done 151 = .ok (.lreturn, 1) := by decide +kernel
theorem dX1_done_152 : decode cX1_done 152 = .ok (.lload_n 3, 1) := by decide +kernel
theorem dX1_done_153 : decode cX1_done 153 = .ok (.lconst 0, 1) := by decide +kernel
theorem dX1_done_154 : decode cX1_done 154 = .ok (.lcmp, 1) := by decide +kernel
theorem dX1_done_155 : decode cX1_done 155 = .ok (.ifCond .ne 7, 3) := by decide +kernel
theorem dX1_done_158 : decode cX1_done 158 = .ok (.lconst 0, 1) := by decide +kernel
theorem dX1_done_159 : decode cX1_done 159 = .ok (.goto 8, 3) := by decide +kernel
theorem dX1_done_162 : decode cX1_done 162 = .ok (.lload_n 1, 1) := by decide +kernel
theorem dX1_done_163 : decode cX1_done 163 = .ok (.lload_n 3, 1) := by decide +kernel
theorem dX1_done_164 : decode cX1_done 164 = .ok (.invokestatic 46, 3) := by decide +kernel
theorem dX1_done_167 : decode cX1_done 167 = .ok (.lreturn, 1) := by decide +kernel
theorem dX1_done_168 : decode cX1_done 168 = .ok (.lconst 0, 1) := by decide +kernel
theorem dX1_done_169 : decode cX1_done 169 = .ok (.lreturn, 1) := by decide +kernel
theorem dX1_bounded_0 : decode cX1_bounded 0 = .ok (.ldc2_w 49, 3) := by decide +kernel
theorem dX1_bounded_3 : decode cX1_bounded 3 = .ok (.ldc2_w 51, 3) := by decide +kernel
theorem dX1_bounded_6 : decode cX1_bounded 6 = .ok (.lload_n 0, 1) := by decide +kernel
theorem dX1_bounded_7 : decode cX1_bounded 7 = .ok (.invokestatic 34, 3) := by decide +kernel
theorem dX1_bounded_10 : decode cX1_bounded 10 = .ok (.invokestatic 40, 3) := by decide +kernel
theorem dX1_bounded_13 : decode cX1_bounded 13 = .ok (.l2i, 1) := by decide +kernel
theorem dX1_bounded_14 : decode cX1_bounded 14 = .ok (.ireturn, 1) := by decide +kernel
theorem dX2_init_0 : decode cX2_init 0 = .ok (.aload_n 0, 1) := by decide +kernel
theorem dX2_init_1 : decode cX2_init 1 = .ok (.invokespecial 3, 3) := by decide +kernel
theorem dX2_init_4 : decode cX2_init 4 = .ok (.aload_n 0, 1) := by decide +kernel
theorem dX2_init_5 : decode cX2_init 5 = .ok (.bipush 20, 2) := by decide +kernel
theorem dX2_init_7 : decode cX2_init 7 = .ok (.anewarray 9, 3) := by decide +kernel
theorem dX2_init_10 : decode cX2_init 10 = .ok (.putfield 11, 3) := by decide +kernel
theorem dX2_init_13 : decode cX2_init 13 = .ok (.iconst 0, 1) := by decide +kernel
theorem dX2_init_14 : decode cX2_init 14 = .ok (.istore_n 1, 1) := by decide +kernel
theorem dX2_init_15 : decode cX2_init 15 = .ok (.iload_n 1, 1) := by decide +kernel
theorem dX2_init_16 : decode cX2_init 16 = .ok (.bipush 20, 2) := by decide +kernel
theorem dX2_init_18 : decode cX2_init 18 = .ok (.if_icmp .ge 22, 3) := by decide +kernel
theorem dX2_init_21 : decode cX2_init 21 = .ok (.aload_n 0, 1) := by decide +kernel
theorem dX2_init_22 : decode cX2_init 22 = .ok (.getfield 11, 3) := by decide +kernel
theorem dX2_init_25 : decode cX2_init 25 = .ok (.iload_n 1, 1) := by decide +kernel
theorem dX2_init_26 : decode cX2_init 26 = .ok (.new 9, 3) := by decide +kernel
theorem dX2_init_29 : decode cX2_init 29 = .ok (.dup, 1) := by decide +kernel
theorem dX2_init_30 : decode cX2_init 30 = .ok (.invokespecial 17, 3) := by decide +kernel
theorem dX2_init_33 : decode cX2_init 33 = .ok (.aastore, 1) := by decide +kernel
theorem dX2_init_34 : decode cX2_init 34 = .ok (.iinc 1 1, 3) := by decide +kernel
theorem dX2_init_37 : decode cX2_init 37 = .ok (.goto (-22), 3) := by decide +kernel
theorem dX2_init_40 : decode cX2_init 40 = .ok (.return_, 1) := by decide +kernel
theorem dX2_clear_0 : decode cX2_clear 0 = .ok (.aload_n 0, 1) := by decide +kernel
theorem dX2_clear_1 : decode cX2_clear 1 = .ok (.iconst 0, 1) := by decide +kernel
theorem dX2_clear_2 : decode cX2_clear 2 = .ok (.putfield 18, 3) := by decide +kernel
theorem dX2_clear_5 : decode cX2_clear 5 = .ok (.return_, 1) := by decide +kernel
theorem dX2_keep_0 : decode cX2_keep 0 = .ok (.aload_n 0, 1) := by decide +kernel
theorem dX2_keep_1 : decode cX2_keep 1 = .ok (.getfield 11, 3) := by decide +kernel
theorem dX2_keep_4 : decode cX2_keep 4 = .ok (.aload_n 0, 1) := by decide +kernel
theorem dX2_keep_5 : decode cX2_keep 5 = .ok (.getfield 22, 3) := by decide +kernel
theorem dX2_keep_8 : decode cX2_keep 8 = .ok (.aaload, 1) := by decide +kernel
theorem dX2_keep_9 : decode cX2_keep 9 = .ok (.aload_n 1, 1) := by decide +kernel
theorem dX2_keep_10 : decode cX2_keep 10 = .ok (.invokevirtual 25, 3) := by decide +kernel
theorem dX2_keep_13 : decode cX2_keep 13 = .ok (.aload_n 0, 1) := by decide +kernel
theorem dX2_keep_14 : decode cX2_keep 14 = .ok (.aload_n 0, 1) := by decide +kernel
theorem dX2_keep_15 : decode cX2_keep 15 = .ok (.getfield 22, 3) := by decide +kernel
theorem dX2_keep_18 : decode cX2_keep 18 = .ok (.iconst 1, 1) := by decide +kernel
theorem dX2_keep_19 : decode cX2_keep 19 = .ok (.iadd, 1) := by decide +kernel
theorem dX2_keep_20 : decode cX2_keep 20 = .ok (.bipush 20, 2) := by decide +kernel
theorem dX2_keep_22 : decode cX2_keep 22 = .ok (.irem, 1) := by decide +kernel
theorem dX2_keep_23 : decode cX2_keep 23 = .ok (.putfield 22, 3) := by decide +kernel
theorem dX2_keep_26 : decode cX2_keep 26 = .ok (.aload_n 0, 1) := by decide +kernel
theorem dX2_keep_27 : decode cX2_keep 27 = .ok (.bipush 20, 2) := by decide +kernel
theorem dX2_keep_29 : decode cX2_keep 29 = .ok (.aload_n 0, 1) := by decide +kernel
theorem dX2_keep_30 : decode cX2_keep 30 = .ok (.getfield 18, 3) := by decide +kernel
theorem dX2_keep_33 : decode cX2_keep 33 = .ok (.iconst 1, 1) := by decide +kernel
theorem dX2_keep_34 : decode cX2_keep 34 = .ok (.iadd, 1) := by decide +kernel
theorem dX2_keep_35 : decode cX2_keep 35 = .ok (.invokestatic 29, 3) := by decide +kernel
theorem dX2_keep_38 : decode cX2_keep 38 = .ok (.putfield 18, 3) := by decide +kernel
theorem dX2_keep_41 : decode cX2_keep 41 = .ok (.return_, 1) := by decide +kernel
theorem dX2_giveBack_0 : decode cX2_giveBack 0 = .ok (.aload_n 0, 1) := by decide +kernel
theorem dX2_giveBack_1 : decode cX2_giveBack 1 = .ok (.aload_n 0, 1) := by decide +kernel
theorem dX2_giveBack_2 : decode cX2_giveBack 2 = .ok (.getfield 22, 3) := by decide +kernel
theorem dX2_giveBack_5 : decode cX2_giveBack 5 = .ok (.bipush 20, 2) := by decide +kernel
theorem dX2_giveBack_7 : decode cX2_giveBack 7 = .ok (.iadd, 1) := by decide +kernel
theorem dX2_giveBack_8 : decode cX2_giveBack 8 = .ok (.iconst 1, 1) := by decide +kernel
theorem dX2_giveBack_9 : decode cX2_giveBack 9 = .ok (.isub, 1) := by decide +kernel
theorem dX2_giveBack_10 : decode cX2_giveBack 10 = .ok (.bipush 20, 2) := by decide +kernel
theorem dX2_giveBack_12 : decode cX2_giveBack 12 = .ok (.irem, 1) := by decide +kernel
theorem dX2_giveBack_13 : decode cX2_giveBack 13 = .ok (.putfield 22, 3) := by decide +kernel
theorem dX2_giveBack_16 : decode cX2_giveBack 16 = .ok (.aload_n 1, 1) := by decide +kernel
theorem dX2_giveBack_17 : decode cX2_giveBack 17 = .ok (.aload_n 0, 1) := by decide +kernel
theorem dX2_giveBack_18 : decode cX2_giveBack 18 = .ok (.getfield 11, 3) := by decide +kernel
theorem dX2_giveBack_21 : decode cX2_giveBack 21 = .ok (.aload_n 0, 1) := by decide +kernel
theorem dX2_giveBack_22 : decode cX2_giveBack 22 = .ok (.getfield 22, 3) := by decide +kernel
theorem dX2_giveBack_25 : decode cX2_giveBack 25 = .ok (.aaload, 1) := by decide +kernel
theorem dX2_giveBack_26 : decode cX2_giveBack 26 = .ok (.invokevirtual 25, 3) := by decide +kernel
theorem dX2_giveBack_29 : decode cX2_giveBack 29 = .ok (.aload_n 0, 1) := by decide +kernel
theorem dX2_giveBack_30 : decode cX2_giveBack 30 = .ok (.dup, 1) := by decide +kernel
theorem dX2_giveBack_31 : decode cX2_giveBack 31 = .ok (.getfield 18, 3) := by decide +kernel
theorem dX2_giveBack_34 : decode cX2_giveBack 34 = .ok (.iconst 1, 1) := by decide +kernel
theorem dX2_giveBack_35 : decode cX2_giveBack 35 = .ok (.isub, 1) := by decide +kernel
theorem dX2_giveBack_36 : decode cX2_giveBack 36 = .ok (.putfield 18, 3) := by decide +kernel
theorem dX2_giveBack_39 : decode cX2_giveBack 39 = .ok (.return_, 1) := by decide +kernel
theorem dX3_init_0 : decode cX3_init 0 = .ok (.aload_n 0, 1) := by decide +kernel
theorem dX3_init_1 : decode cX3_init 1 = .ok (.invokespecial 3, 3) := by decide +kernel
theorem dX3_init_4 : decode cX3_init 4 = .ok (.aload_n 0, 1) := by decide +kernel
theorem dX3_init_5 : decode cX3_init 5 = .ok (.bipush 12, 2) := by decide +kernel
theorem dX3_init_7 : decode cX3_init 7 = .ok (.newarray .int, 2) := by decide +kernel
theorem dX3_init_9 : decode cX3_init 9 = .ok (.putfield 9, 3) := by decide +kernel
theorem dX3_init_12 : decode cX3_init 12 = .ok (.aload_n 0, 1) := by decide +kernel
theorem dX3_init_13 : decode cX3_init 13 = .ok (.bipush 12, 2) := by decide +kernel
theorem dX3_init_15 : decode cX3_init 15 = .ok (.newarray .int, 2) := by decide +kernel
theorem dX3_init_17 : decode cX3_init 17 = .ok (.putfield 15, 3) := by decide +kernel
theorem dX3_init_20 : decode cX3_init 20 = .ok (.aload_n 0, 1) := by decide +kernel
theorem dX3_init_21 : decode cX3_init 21 = .ok (.bipush 12, 2) := by decide +kernel
theorem dX3_init_23 : decode cX3_init 23 = .ok (.newarray .int, 2) := by decide +kernel
theorem dX3_init_25 : decode cX3_init 25 = .ok (.putfield 18, 3) := by decide +kernel
theorem dX3_init_28 : decode cX3_init 28 = .ok (.aload_n 0, 1) := by decide +kernel
theorem dX3_init_29 : decode cX3_init 29 = .ok (.bipush 120, 2) := by decide +kernel
theorem dX3_init_31 : decode cX3_init 31 = .ok (.newarray .int, 2) := by decide +kernel
theorem dX3_init_33 : decode cX3_init 33 = .ok (.putfield 21, 3) := by decide +kernel
theorem dX3_init_36 : decode cX3_init 36 = .ok (.return_, 1) := by decide +kernel
theorem dX3_copyFrom_0 : decode cX3_copyFrom 0 = .ok (.aload_n 0, 1) := by decide +kernel
theorem dX3_copyFrom_1 : decode cX3_copyFrom 1 = .ok (.aload_n 1, 1) := by decide +kernel
theorem dX3_copyFrom_2 : decode cX3_copyFrom 2 = .ok (.getfield 24, 3) := by decide +kernel
theorem dX3_copyFrom_5 : decode cX3_copyFrom 5 = .ok (.putfield 24, 3) := by decide +kernel
theorem dX3_copyFrom_8 : decode cX3_copyFrom 8 = .ok (.aload_n 1, 1) := by decide +kernel
theorem dX3_copyFrom_9 : decode cX3_copyFrom 9 = .ok (.getfield 9, 3) := by decide +kernel
theorem dX3_copyFrom_12 : decode cX3_copyFrom 12 = .ok (.iconst 0, 1) := by decide +kernel
theorem dX3_copyFrom_13 : decode cX3_copyFrom 13 = .ok (.aload_n 0, 1) := by decide +kernel
theorem dX3_copyFrom_14 : decode cX3_copyFrom 14 = .ok (.getfield 9, 3) := by decide +kernel
theorem dX3_copyFrom_17 : decode cX3_copyFrom 17 = .ok (.iconst 0, 1) := by decide +kernel
theorem dX3_copyFrom_18 : decode cX3_copyFrom 18 = .ok (.bipush 12, 2) := by decide +kernel
theorem dX3_copyFrom_20 : decode cX3_copyFrom 20 = .ok (.invokestatic 28, 3) := by decide +kernel
theorem dX3_copyFrom_23 : decode cX3_copyFrom 23 = .ok (.aload_n 1, 1) := by decide +kernel
theorem dX3_copyFrom_24 : decode cX3_copyFrom 24 = .ok (.getfield 15, 3) := by decide +kernel
theorem dX3_copyFrom_27 : decode cX3_copyFrom 27 = .ok (.iconst 0, 1) := by decide +kernel
theorem dX3_copyFrom_28 : decode cX3_copyFrom 28 = .ok (.aload_n 0, 1) := by decide +kernel
theorem dX3_copyFrom_29 : decode cX3_copyFrom 29 = .ok (.getfield 15, 3) := by decide +kernel
theorem dX3_copyFrom_32 : decode cX3_copyFrom 32 = .ok (.iconst 0, 1) := by decide +kernel
theorem dX3_copyFrom_33 : decode cX3_copyFrom 33 = .ok (.bipush 12, 2) := by decide +kernel
theorem dX3_copyFrom_35 : decode cX3_copyFrom 35 = .ok (.invokestatic 28, 3) := by decide +kernel
theorem dX3_copyFrom_38 : decode cX3_copyFrom 38 = .ok (.aload_n 1, 1) := by decide +kernel
theorem dX3_copyFrom_39 : decode cX3_copyFrom 39 = .ok (.getfield 18, 3) := by decide +kernel
theorem dX3_copyFrom_42 : decode cX3_copyFrom 42 = .ok (.iconst 0, 1) := by decide +kernel
theorem dX3_copyFrom_43 : decode cX3_copyFrom 43 = .ok (.aload_n 0, 1) := by decide +kernel
theorem dX3_copyFrom_44 : decode cX3_copyFrom 44 = .ok (.getfield 18, 3) := by decide +kernel
theorem dX3_copyFrom_47 : decode cX3_copyFrom 47 = .ok (.iconst 0, 1) := by decide +kernel
theorem dX3_copyFrom_48 : decode cX3_copyFrom 48 = .ok (.bipush 12, 2) := by decide +kernel
theorem dX3_copyFrom_50 : decode cX3_copyFrom 50 = .ok (.invokestatic 28, 3) := by decide +kernel
theorem dX3_copyFrom_53 : decode cX3_copyFrom 53 = .ok (.aload_n 1, 1) := by decide +kernel
theorem dX3_copyFrom_54 : decode cX3_copyFrom 54 = .ok (.getfield 21, 3) := by decide +kernel
theorem dX3_copyFrom_57 : decode cX3_copyFrom 57 = .ok (.iconst 0, 1) := by decide +kernel
theorem dX3_copyFrom_58 : decode cX3_copyFrom 58 = .ok (.aload_n 0, 1) := by decide +kernel
theorem dX3_copyFrom_59 : decode cX3_copyFrom 59 = .ok (.getfield 21, 3) := by decide +kernel
theorem dX3_copyFrom_62 : decode cX3_copyFrom 62 = .ok (.iconst 0, 1) := by decide +kernel
theorem dX3_copyFrom_63 : decode cX3_copyFrom 63 = .ok (.bipush 120, 2) := by decide +kernel
theorem dX3_copyFrom_65 : decode cX3_copyFrom 65 = .ok (.invokestatic 28, 3) := by decide +kernel
theorem dX3_copyFrom_68 : decode cX3_copyFrom 68 = .ok (.return_, 1) := by decide +kernel
theorem dX3_metOn_0 : decode cX3_metOn 0 = .ok (.iload_n 1, 1) := by decide +kernel
theorem dX3_metOn_1 : decode cX3_metOn 1 = .ok (.bipush 10, 2) := by decide +kernel
theorem dX3_metOn_3 : decode cX3_metOn 3 = .ok (.imul, 1) := by decide +kernel
theorem dX3_metOn_4 : decode cX3_metOn 4 = .ok (.iload_n 2, 1) := by decide +kernel
theorem dX3_metOn_5 : decode cX3_metOn 5 = .ok (.iadd, 1) := by decide +kernel
theorem dX3_metOn_6 : decode cX3_metOn 6 = .ok (.istore_n 3, 1) := by decide +kernel
theorem dX3_metOn_7 : decode cX3_metOn 7 = .ok (.iload_n 3, 1) := by decide +kernel
theorem dX3_metOn_8 : decode cX3_metOn 8 = .ok (.ifCond .lt 18, 3) := by decide +kernel
theorem dX3_metOn_11 : decode cX3_metOn 11 = .ok (.iload_n 3, 1) := by decide +kernel
theorem dX3_metOn_12 : decode cX3_metOn 12 = .ok (.bipush 120, 2) := by decide +kernel
theorem dX3_metOn_14 : decode cX3_metOn 14 = .ok (.if_icmp .ge 12, 3) := by decide +kernel
theorem dX3_metOn_17 : decode cX3_metOn 17 = .ok (.aload_n 0, 1) := by decide +kernel
theorem dX3_metOn_18 : decode cX3_metOn 18 = .ok (.getfield 21, 3) := by decide +kernel
theorem dX3_metOn_21 : decode cX3_metOn 21 = .ok (.iload_n 3, 1) := by decide +kernel
theorem dX3_metOn_22 : decode cX3_metOn 22 = .ok (.iaload, 1) := by decide +kernel
theorem dX3_metOn_23 : decode cX3_metOn 23 = .ok (.goto 4, 3) := by decide +kernel
theorem dX3_metOn_26 : decode cX3_metOn 26 = .ok (.iconst (-1), 1) := by decide +kernel
theorem dX3_metOn_27 : decode cX3_metOn 27 = .ok (.ireturn, 1) := by decide +kernel
theorem dX3_setMet_0 : decode cX3_setMet 0 = .ok (.iload_n 1, 1) := by decide +kernel
theorem dX3_setMet_1 : decode cX3_setMet 1 = .ok (.bipush 10, 2) := by decide +kernel
theorem dX3_setMet_3 : decode cX3_setMet 3 = .ok (.imul, 1) := by decide +kernel
theorem dX3_setMet_4 : decode cX3_setMet 4 = .ok (.iload_n 2, 1) := by decide +kernel
theorem dX3_setMet_5 : decode cX3_setMet 5 = .ok (.iadd, 1) := by decide +kernel
theorem dX3_setMet_6 : decode cX3_setMet 6 = .ok (.istore 4, 2) := by decide +kernel
theorem dX3_setMet_8 : decode cX3_setMet 8 = .ok (.iload 4, 2) := by decide +kernel
theorem dX3_setMet_10 : decode cX3_setMet 10 = .ok (.ifCond .lt 18, 3) := by decide +kernel
theorem dX3_setMet_13 : decode cX3_setMet 13 = .ok (.iload 4, 2) := by decide +kernel
theorem dX3_setMet_15 : decode cX3_setMet 15 = .ok (.bipush 120, 2) := by decide +kernel
theorem dX3_setMet_17 : decode cX3_setMet 17 = .ok (.if_icmp .ge 11, 3) := by decide +kernel
theorem dX3_setMet_20 : decode cX3_setMet 20 = .ok (.aload_n 0, 1) := by decide +kernel
theorem dX3_setMet_21 : decode cX3_setMet 21 = .ok (.getfield 21, 3) := by decide +kernel
theorem dX3_setMet_24 : decode cX3_setMet 24 = .ok (.iload 4, 2) := by decide +kernel
theorem dX3_setMet_26 : decode cX3_setMet 26 = .ok (.iload_n 3, 1) := by decide +kernel
theorem dX3_setMet_27 : decode cX3_setMet 27 = .ok (.iastore, 1) := by decide +kernel
theorem dX3_setMet_28 : decode cX3_setMet 28 = .ok (.return_, 1) := by decide +kernel
theorem dX4_init_0 : decode cX4_init 0 = .ok (.aload_n 0, 1) := by decide +kernel
theorem dX4_init_1 : decode cX4_init 1 = .ok (.invokespecial 3, 3) := by decide +kernel
theorem dX4_init_4 : decode cX4_init 4 = .ok (.aload_n 0, 1) := by decide +kernel
theorem dX4_init_5 : decode cX4_init 5 = .ok (.bipush 23, 2) := by decide +kernel
theorem dX4_init_7 : decode cX4_init 7 = .ok (.newarray .long, 2) := by decide +kernel
theorem dX4_init_9 : decode cX4_init 9 = .ok (.putfield 9, 3) := by decide +kernel
theorem dX4_init_12 : decode cX4_init 12 = .ok (.aload_n 0, 1) := by decide +kernel
theorem dX4_init_13 : decode cX4_init 13 = .ok (.sipush 1601, 3) := by decide +kernel
theorem dX4_init_16 : decode cX4_init 16 = .ok (.newarray .int, 2) := by decide +kernel
theorem dX4_init_18 : decode cX4_init 18 = .ok (.putfield 15, 3) := by decide +kernel
theorem dX4_init_21 : decode cX4_init 21 = .ok (.aload_n 0, 1) := by decide +kernel
theorem dX4_init_22 : decode cX4_init 22 = .ok (.sipush 1601, 3) := by decide +kernel
theorem dX4_init_25 : decode cX4_init 25 = .ok (.newarray .int, 2) := by decide +kernel
theorem dX4_init_27 : decode cX4_init 27 = .ok (.putfield 19, 3) := by decide +kernel
theorem dX4_init_30 : decode cX4_init 30 = .ok (.aload_n 0, 1) := by decide +kernel
theorem dX4_init_31 : decode cX4_init 31 = .ok (.sipush 1601, 3) := by decide +kernel
theorem dX4_init_34 : decode cX4_init 34 = .ok (.newarray .int, 2) := by decide +kernel
theorem dX4_init_36 : decode cX4_init 36 = .ok (.putfield 22, 3) := by decide +kernel
theorem dX4_init_39 : decode cX4_init 39 = .ok (.aload_n 0, 1) := by decide +kernel
theorem dX4_init_40 : decode cX4_init 40 = .ok (.sipush 1601, 3) := by decide +kernel
theorem dX4_init_43 : decode cX4_init 43 = .ok (.newarray .int, 2) := by decide +kernel
theorem dX4_init_45 : decode cX4_init 45 = .ok (.putfield 25, 3) := by decide +kernel
theorem dX4_init_48 : decode cX4_init 48 = .ok (.iconst 0, 1) := by decide +kernel
theorem dX4_init_49 : decode cX4_init 49 = .ok (.istore_n 1, 1) := by decide +kernel
theorem dX4_init_50 : decode cX4_init 50 = .ok (.iconst 0, 1) := by decide +kernel
theorem dX4_init_51 : decode cX4_init 51 = .ok (.istore_n 2, 1) := by decide +kernel
theorem dX4_init_52 : decode cX4_init 52 = .ok (.iconst 0, 1) := by decide +kernel
theorem dX4_init_53 : decode cX4_init 53 = .ok (.istore_n 3, 1) := by decide +kernel
theorem dX4_init_54 : decode cX4_init 54 = .ok (.iload_n 3, 1) := by decide +kernel
theorem dX4_init_55 : decode cX4_init 55 = .ok (.ldc 28, 2) := by decide +kernel
theorem dX4_init_57 : decode cX4_init 57 = .ok (.invokevirtual 30, 3) := by decide +kernel
theorem dX4_init_60 : decode cX4_init 60 = .ok (.if_icmp .ge 62, 3) := by decide +kernel
theorem dX4_init_63 : decode cX4_init 63 = .ok (.ldc 28, 2) := by decide +kernel
theorem dX4_init_65 : decode cX4_init 65 = .ok (.iload_n 3, 1) := by decide +kernel
theorem dX4_init_66 : decode cX4_init 66 = .ok (.invokevirtual 36, 3) := by decide +kernel
theorem dX4_init_69 : decode cX4_init 69 = .ok (.istore 4, 2) := by decide +kernel
theorem dX4_init_71 : decode cX4_init 71 = .ok (.iload 4, 2) := by decide +kernel
theorem dX4_init_73 : decode cX4_init 73 = .ok (.bipush 32, 2) := by decide +kernel
theorem dX4_init_75 : decode cX4_init 75 = .ok (.if_icmp .ne 11, 3) := by decide +kernel
theorem dX4_init_78 : decode cX4_init 78 = .ok (.iinc 1 1, 3) := by decide +kernel
theorem dX4_init_81 : decode cX4_init 81 = .ok (.iconst 0, 1) := by decide +kernel
theorem dX4_init_82 : decode cX4_init 82 = .ok (.istore_n 2, 1) := by decide +kernel
theorem dX4_init_83 : decode cX4_init 83 = .ok (.goto 33, 3) := by decide +kernel
theorem dX4_init_86 : decode cX4_init 86 = .ok (.iload_n 1, 1) := by decide +kernel
theorem dX4_init_87 : decode cX4_init 87 = .ok (.bipush 23, 2) := by decide +kernel
theorem dX4_init_89 : decode cX4_init 89 = .ok (.if_icmp .ge 27, 3) := by decide +kernel
theorem dX4_init_92 : decode cX4_init 92 = .ok (.aload_n 0, 1) := by decide +kernel
theorem dX4_init_93 : decode cX4_init 93 = .ok (.getfield 9, 3) := by decide +kernel
theorem dX4_init_96 : decode cX4_init 96 = .ok (.iload_n 1, 1) := by decide +kernel
theorem dX4_init_97 : decode cX4_init 97 = .ok (.dup2, 1) := by decide +kernel
theorem dX4_init_98 : decode cX4_init 98 = .ok (.laload, 1) := by decide +kernel
theorem dX4_init_99 : decode cX4_init 99 = .ok (.iload 4, 2) := by decide +kernel
theorem dX4_init_101 : decode cX4_init 101 = .ok (.bipush 97, 2) := by decide +kernel
theorem dX4_init_103 : decode cX4_init 103 = .ok (.isub, 1) := by decide +kernel
theorem dX4_init_104 : decode cX4_init 104 = .ok (.iconst 1, 1) := by decide +kernel
theorem dX4_init_105 : decode cX4_init 105 = .ok (.iadd, 1) := by decide +kernel
theorem dX4_init_106 : decode cX4_init 106 = .ok (.i2l, 1) := by decide +kernel
theorem dX4_init_107 : decode cX4_init 107 = .ok (.iconst 5, 1) := by decide +kernel
theorem dX4_init_108 : decode cX4_init 108 = .ok (.iload_n 2, 1) := by decide +kernel
theorem dX4_init_109 : decode cX4_init 109 = .ok (.imul, 1) := by decide +kernel
theorem dX4_init_110 : decode cX4_init 110 = .ok (.lshl, 1) := by decide +kernel
theorem dX4_init_111 : decode cX4_init 111 = .ok (.lor, 1) := by decide +kernel
theorem dX4_init_112 : decode cX4_init 112 = .ok (.lastore, 1) := by decide +kernel
theorem dX4_init_113 : decode cX4_init 113 = .ok (.iinc 2 1, 3) := by decide +kernel
theorem dX4_init_116 : decode cX4_init 116 = .ok (.iinc 3 1, 3) := by decide +kernel
theorem dX4_init_119 : decode cX4_init 119 = .ok (.goto (-65), 3) := by decide +kernel
theorem dX4_init_122 : decode cX4_init 122 = .ok (.return_, 1) := by decide +kernel
theorem dX4_read_0 : decode cX4_read 0 = .ok (.iconst 0, 1) := by decide +kernel
theorem dX4_read_1 : decode cX4_read 1 = .ok (.iload_n 2, 1) := by decide +kernel
theorem dX4_read_2 : decode cX4_read 2 = .ok (.sipush 1600, 3) := by decide +kernel
theorem dX4_read_5 : decode cX4_read 5 = .ok (.aload_n 1, 1) := by decide +kernel
theorem dX4_read_6 : decode cX4_read 6 = .ok (.arraylength, 1) := by decide +kernel
theorem dX4_read_7 : decode cX4_read 7 = .ok (.invokestatic 40, 3) := by decide +kernel
theorem dX4_read_10 : decode cX4_read 10 = .ok (.invokestatic 40, 3) := by decide +kernel
theorem dX4_read_13 : decode cX4_read 13 = .ok (.invokestatic 46, 3) := by decide +kernel
theorem dX4_read_16 : decode cX4_read 16 = .ok (.istore_n 3, 1) := by decide +kernel
theorem dX4_read_17 : decode cX4_read 17 = .ok (.aload_n 0, 1) := by decide +kernel
theorem dX4_read_18 : decode cX4_read 18 = .ok (.iconst 0, 1) := by decide +kernel
theorem dX4_read_19 : decode cX4_read 19 = .ok (.putfield 49, 3) := by decide +kernel
theorem dX4_read_22 : decode cX4_read 22 = .ok (.aload_n 0, 1) := by decide +kernel
theorem dX4_read_23 : decode cX4_read 23 = .ok (.iconst 0, 1) := by decide +kernel
theorem dX4_read_24 : decode cX4_read 24 = .ok (.putfield 53, 3) := by decide +kernel
theorem dX4_read_27 : decode cX4_read 27 = .ok (.aload_n 0, 1) := by decide +kernel
theorem dX4_read_28 : decode cX4_read 28 = .ok (.iconst 1, 1) := by decide +kernel
theorem dX4_read_29 : decode cX4_read 29 = .ok (.putfield 56, 3) := by decide +kernel
theorem dX4_read_32 : decode cX4_read 32 = .ok (.iconst 0, 1) := by decide +kernel
theorem dX4_read_33 : decode cX4_read 33 = .ok (.istore 4, 2) := by decide +kernel
theorem dX4_read_35 : decode cX4_read 35 = .ok (.iload 4, 2) := by decide +kernel
theorem dX4_read_37 : decode cX4_read 37 = .ok (.sipush 1600, 3) := by decide +kernel
theorem dX4_read_40 : decode cX4_read 40 = .ok (.if_icmp .gt 84, 3) := by decide +kernel
theorem dX4_read_43 : decode cX4_read 43 = .ok (.aload_n 0, 1) := by decide +kernel
theorem dX4_read_44 : decode cX4_read 44 = .ok (.getfield 56, 3) := by decide +kernel
theorem dX4_read_47 : decode cX4_read 47 = .ok (.ifCond .eq 77, 3) := by decide +kernel
theorem dX4_read_50 : decode cX4_read 50 = .ok (.aload_n 0, 1) := by decide +kernel
theorem dX4_read_51 : decode cX4_read 51 = .ok (.getfield 56, 3) := by decide +kernel
theorem dX4_read_54 : decode cX4_read 54 = .ok (.iconst 5, 1) := by decide +kernel
theorem dX4_read_55 : decode cX4_read 55 = .ok (.if_icmp .eq 69, 3) := by decide +kernel
theorem dX4_read_58 : decode cX4_read 58 = .ok (.aload_n 0, 1) := by decide +kernel
theorem dX4_read_59 : decode cX4_read 59 = .ok (.aload_n 1, 1) := by decide +kernel
theorem dX4_read_60 : decode cX4_read 60 = .ok (.iload_n 3, 1) := by decide +kernel
theorem dX4_read_61 : decode cX4_read 61 = .ok (.invokevirtual 59, 3) := by decide +kernel
theorem dX4_read_64 : decode cX4_read 64 = .ok (.aload_n 0, 1) := by decide +kernel
theorem dX4_read_65 : decode cX4_read 65 = .ok (.getfield 15, 3) := by decide +kernel
theorem dX4_read_68 : decode cX4_read 68 = .ok (.iload 4, 2) := by decide +kernel
theorem dX4_read_70 : decode cX4_read 70 = .ok (.aload_n 0, 1) := by decide +kernel
theorem dX4_read_71 : decode cX4_read 71 = .ok (.getfield 56, 3) := by decide +kernel
theorem dX4_read_74 : decode cX4_read 74 = .ok (.iastore, 1) := by decide +kernel
theorem dX4_read_75 : decode cX4_read 75 = .ok (.aload_n 0, 1) := by decide +kernel
theorem dX4_read_76 : decode cX4_read 76 = .ok (.getfield 19, 3) := by decide +kernel
theorem dX4_read_79 : decode cX4_read 79 = .ok (.iload 4, 2) := by decide +kernel
theorem dX4_read_81 : decode cX4_read 81 = .ok (.aload_n 0, 1) := by decide +kernel
theorem dX4_read_82 : decode cX4_read 82 = .ok (.getfield 63, 3) := by decide +kernel
theorem dX4_read_85 : decode cX4_read 85 = .ok (.iastore, 1) := by decide +kernel
theorem dX4_read_86 : decode cX4_read 86 = .ok (.aload_n 0, 1) := by decide +kernel
theorem dX4_read_87 : decode cX4_read 87 = .ok (.getfield 22, 3) := by decide +kernel
theorem dX4_read_90 : decode cX4_read 90 = .ok (.iload 4, 2) := by decide +kernel
theorem dX4_read_92 : decode cX4_read 92 = .ok (.aload_n 0, 1) := by decide +kernel
theorem dX4_read_93 : decode cX4_read 93 = .ok (.getfield 66, 3) := by decide +kernel
theorem dX4_read_96 : decode cX4_read 96 = .ok (.iastore, 1) := by decide +kernel
theorem dX4_read_97 : decode cX4_read 97 = .ok (.aload_n 0, 1) := by decide +kernel
theorem dX4_read_98 : decode cX4_read 98 = .ok (.getfield 25, 3) := by decide +kernel
theorem dX4_read_101 : decode cX4_read 101 = .ok (.iload 4, 2) := by decide +kernel
theorem dX4_read_103 : decode cX4_read 103 = .ok (.aload_n 0, 1) := by decide +kernel
theorem dX4_read_104 : decode cX4_read 104 = .ok (.getfield 69, 3) := by decide +kernel
theorem dX4_read_107 : decode cX4_read 107 = .ok (.iastore, 1) := by decide +kernel
theorem dX4_read_108 : decode cX4_read 108 = .ok (.aload_n 0, 1) := by decide +kernel
theorem dX4_read_109 : decode cX4_read 109 = .ok (.dup, 1) := by decide +kernel
theorem dX4_read_110 : decode cX4_read 110 = .ok (.getfield 49, 3) := by decide +kernel
theorem dX4_read_113 : decode cX4_read 113 = .ok (.iconst 1, 1) := by decide +kernel
theorem dX4_read_114 : decode cX4_read 114 = .ok (.iadd, 1) := by decide +kernel
theorem dX4_read_115 : decode cX4_read 115 = .ok (.putfield 49, 3) := by decide +kernel
theorem dX4_read_118 : decode cX4_read 118 = .ok (.iinc 4 1, 3) := by decide +kernel
theorem dX4_read_121 : decode cX4_read 121 = .ok (.goto (-86), 3) := by decide +kernel
theorem dX4_read_124 : decode cX4_read 124 = .ok (.aload_n 0, 1) := by decide +kernel
theorem dX4_read_125 : decode cX4_read 125 = .ok (.iconst (-1), 1) := by decide +kernel
theorem dX4_read_126 : decode cX4_read 126 = .ok (.putfield 72, 3) := by decide +kernel
theorem dX4_read_129 : decode cX4_read 129 = .ok (.aload_n 0, 1) := by decide +kernel
theorem dX4_read_130 : decode cX4_read 130 = .ok (.invokevirtual 75, 3) := by decide +kernel
theorem dX4_read_133 : decode cX4_read 133 = .ok (.return_, 1) := by decide +kernel
theorem dX4_next_0 : decode cX4_next 0 = .ok (.aload_n 0, 1) := by decide +kernel
theorem dX4_next_1 : decode cX4_next 1 = .ok (.getfield 72, 3) := by decide +kernel
theorem dX4_next_4 : decode cX4_next 4 = .ok (.iconst 1, 1) := by decide +kernel
theorem dX4_next_5 : decode cX4_next 5 = .ok (.iadd, 1) := by decide +kernel
theorem dX4_next_6 : decode cX4_next 6 = .ok (.aload_n 0, 1) := by decide +kernel
theorem dX4_next_7 : decode cX4_next 7 = .ok (.getfield 49, 3) := by decide +kernel
theorem dX4_next_10 : decode cX4_next 10 = .ok (.if_icmp .ge 77, 3) := by decide +kernel
theorem dX4_next_13 : decode cX4_next 13 = .ok (.aload_n 0, 1) := by decide +kernel
theorem dX4_next_14 : decode cX4_next 14 = .ok (.getfield 72, 3) := by decide +kernel
theorem dX4_next_17 : decode cX4_next 17 = .ok (.iconst 1, 1) := by decide +kernel
theorem dX4_next_18 : decode cX4_next 18 = .ok (.iadd, 1) := by decide +kernel
theorem dX4_next_19 : decode cX4_next 19 = .ok (.sipush 1600, 3) := by decide +kernel
theorem dX4_next_22 : decode cX4_next 22 = .ok (.if_icmp .gt 65, 3) := by decide +kernel
theorem dX4_next_25 : decode cX4_next 25 = .ok (.aload_n 0, 1) := by decide +kernel
theorem dX4_next_26 : decode cX4_next 26 = .ok (.dup, 1) := by decide +kernel
theorem dX4_next_27 : decode cX4_next 27 = .ok (.getfield 72, 3) := by decide +kernel
theorem dX4_next_30 : decode cX4_next 30 = .ok (.iconst 1, 1) := by decide +kernel
theorem dX4_next_31 : decode cX4_next 31 = .ok (.iadd, 1) := by decide +kernel
theorem dX4_next_32 : decode cX4_next 32 = .ok (.putfield 72, 3) := by decide +kernel
theorem dX4_next_35 : decode cX4_next 35 = .ok (.aload_n 0, 1) := by decide +kernel
theorem dX4_next_36 : decode cX4_next 36 = .ok (.aload_n 0, 1) := by decide +kernel
theorem dX4_next_37 : decode cX4_next 37 = .ok (.getfield 15, 3) := by decide +kernel
theorem dX4_next_40 : decode cX4_next 40 = .ok (.aload_n 0, 1) := by decide +kernel
theorem dX4_next_41 : decode cX4_next 41 = .ok (.getfield 72, 3) := by decide +kernel
theorem dX4_next_44 : decode cX4_next 44 = .ok (.iaload, 1) := by decide +kernel
theorem dX4_next_45 : decode cX4_next 45 = .ok (.putfield 56, 3) := by decide +kernel
theorem dX4_next_48 : decode cX4_next 48 = .ok (.aload_n 0, 1) := by decide +kernel
theorem dX4_next_49 : decode cX4_next 49 = .ok (.aload_n 0, 1) := by decide +kernel
theorem dX4_next_50 : decode cX4_next 50 = .ok (.getfield 19, 3) := by decide +kernel
theorem dX4_next_53 : decode cX4_next 53 = .ok (.aload_n 0, 1) := by decide +kernel
theorem dX4_next_54 : decode cX4_next 54 = .ok (.getfield 72, 3) := by decide +kernel
theorem dX4_next_57 : decode cX4_next 57 = .ok (.iaload, 1) := by decide +kernel
theorem dX4_next_58 : decode cX4_next 58 = .ok (.putfield 63, 3) := by decide +kernel
theorem dX4_next_61 : decode cX4_next 61 = .ok (.aload_n 0, 1) := by decide +kernel
theorem dX4_next_62 : decode cX4_next 62 = .ok (.aload_n 0, 1) := by decide +kernel
theorem dX4_next_63 : decode cX4_next 63 = .ok (.getfield 22, 3) := by decide +kernel
theorem dX4_next_66 : decode cX4_next 66 = .ok (.aload_n 0, 1) := by decide +kernel
theorem dX4_next_67 : decode cX4_next 67 = .ok (.getfield 72, 3) := by decide +kernel
theorem dX4_next_70 : decode cX4_next 70 = .ok (.iaload, 1) := by decide +kernel
theorem dX4_next_71 : decode cX4_next 71 = .ok (.putfield 66, 3) := by decide +kernel
theorem dX4_next_74 : decode cX4_next 74 = .ok (.aload_n 0, 1) := by decide +kernel
theorem dX4_next_75 : decode cX4_next 75 = .ok (.aload_n 0, 1) := by decide +kernel
theorem dX4_next_76 : decode cX4_next 76 = .ok (.getfield 25, 3) := by decide +kernel
theorem dX4_next_79 : decode cX4_next 79 = .ok (.aload_n 0, 1) := by decide +kernel
theorem dX4_next_80 : decode cX4_next 80 = .ok (.getfield 72, 3) := by decide +kernel
theorem dX4_next_83 : decode cX4_next 83 = .ok (.iaload, 1) := by decide +kernel
theorem dX4_next_84 : decode cX4_next 84 = .ok (.putfield 69, 3) := by decide +kernel
theorem dX4_next_87 : decode cX4_next 87 = .ok (.return_, 1) := by decide +kernel
theorem dX4_readOne_0 : decode cX4_readOne 0 = .ok (.aload_n 0, 1) := by decide +kernel
theorem dX4_readOne_1 : decode cX4_readOne 1 = .ok (.getfield 56, 3) := by decide +kernel
theorem dX4_readOne_4 : decode cX4_readOne 4 = .ok (.iconst 2, 1) := by decide +kernel
theorem dX4_readOne_5 : decode cX4_readOne 5 = .ok (.if_icmp .eq 19, 3) := by decide +kernel
theorem dX4_readOne_8 : decode cX4_readOne 8 = .ok (.aload_n 0, 1) := by decide +kernel
theorem dX4_readOne_9 : decode cX4_readOne 9 = .ok (.getfield 56, 3) := by decide +kernel
theorem dX4_readOne_12 : decode cX4_readOne 12 = .ok (.iconst 3, 1) := by decide +kernel
theorem dX4_readOne_13 : decode cX4_readOne 13 = .ok (.if_icmp .eq 11, 3) := by decide +kernel
theorem dX4_readOne_16 : decode cX4_readOne 16 = .ok (.aload_n 0, 1) := by decide +kernel
theorem dX4_readOne_17 : decode cX4_readOne 17 = .ok (.getfield 56, 3) := by decide +kernel
theorem dX4_readOne_20 : decode cX4_readOne 20 = .ok (.iconst 4, 1) := by decide +kernel
theorem dX4_readOne_21 : decode cX4_readOne 21 = .ok (.if_icmp .ne 7, 3) := by decide +kernel
theorem dX4_readOne_24 : decode cX4_readOne 24 = .ok (.iconst 1, 1) := by decide +kernel
theorem dX4_readOne_25 : decode cX4_readOne 25 = .ok (.goto 4, 3) := by decide +kernel
theorem dX4_readOne_28 : decode cX4_readOne 28 = .ok (.iconst 0, 1) := by decide +kernel
theorem dX4_readOne_29 : decode cX4_readOne 29 = .ok (.istore_n 3, 1) := by decide +kernel
theorem dX4_readOne_30 : decode cX4_readOne 30 = .ok (.aload_n 0, 1) := by decide +kernel
theorem dX4_readOne_31 : decode cX4_readOne 31 = .ok (.getfield 53, 3) := by decide +kernel
theorem dX4_readOne_34 : decode cX4_readOne 34 = .ok (.istore 4, 2) := by decide +kernel
theorem dX4_readOne_36 : decode cX4_readOne 36 = .ok (.aload_n 0, 1) := by decide +kernel
theorem dX4_readOne_37 : decode cX4_readOne 37 = .ok (.aload_n 1, 1) := by decide +kernel
theorem dX4_readOne_38 : decode cX4_readOne 38 = .ok (.iload_n 2, 1) := by decide +kernel
theorem dX4_readOne_39 : decode cX4_readOne 39 = .ok (.invokevirtual 78, 3) := by decide +kernel
theorem dX4_readOne_42 : decode cX4_readOne 42 = .ok (.iload_n 3, 1) := by decide +kernel
theorem dX4_readOne_43 : decode cX4_readOne 43 = .ok (.ifCond .eq 16, 3) := by decide +kernel
theorem dX4_readOne_46 : decode cX4_readOne 46 = .ok (.aload_n 0, 1) := by decide +kernel
theorem dX4_readOne_47 : decode cX4_readOne 47 = .ok (.getfield 53, 3) := by decide +kernel
theorem dX4_readOne_50 : decode cX4_readOne 50 = .ok (.iload 4, 2) := by decide +kernel
theorem dX4_readOne_52 : decode cX4_readOne 52 = .ok (.if_icmp .ne 7, 3) := by decide +kernel
theorem dX4_readOne_55 : decode cX4_readOne 55 = .ok (.iconst 1, 1) := by decide +kernel
theorem dX4_readOne_56 : decode cX4_readOne 56 = .ok (.goto 4, 3) := by decide +kernel
theorem dX4_readOne_59 : decode cX4_readOne 59 = .ok (.iconst 0, 1) := by decide +kernel
theorem dX4_readOne_60 : decode cX4_readOne 60 = .ok (.istore_n 3, 1) := by decide +kernel
theorem dX4_readOne_61 : decode cX4_readOne 61 = .ok (.aload_n 0, 1) := by decide +kernel
theorem dX4_readOne_62 : decode cX4_readOne 62 = .ok (.aload_n 0, 1) := by decide +kernel
theorem dX4_readOne_63 : decode cX4_readOne 63 = .ok (.getfield 53, 3) := by decide +kernel
theorem dX4_readOne_66 : decode cX4_readOne 66 = .ok (.putfield 66, 3) := by decide +kernel
theorem dX4_readOne_69 : decode cX4_readOne 69 = .ok (.aload_n 0, 1) := by decide +kernel
theorem dX4_readOne_70 : decode cX4_readOne 70 = .ok (.aload_n 0, 1) := by decide +kernel
theorem dX4_readOne_71 : decode cX4_readOne 71 = .ok (.getfield 53, 3) := by decide +kernel
theorem dX4_readOne_74 : decode cX4_readOne 74 = .ok (.putfield 69, 3) := by decide +kernel
theorem dX4_readOne_77 : decode cX4_readOne 77 = .ok (.aload_n 0, 1) := by decide +kernel
theorem dX4_readOne_78 : decode cX4_readOne 78 = .ok (.iconst 0, 1) := by decide +kernel
theorem dX4_readOne_79 : decode cX4_readOne 79 = .ok (.putfield 63, 3) := by decide +kernel
theorem dX4_readOne_82 : decode cX4_readOne 82 = .ok (.aload_n 0, 1) := by decide +kernel
theorem dX4_readOne_83 : decode cX4_readOne 83 = .ok (.getfield 53, 3) := by decide +kernel
theorem dX4_readOne_86 : decode cX4_readOne 86 = .ok (.iload_n 2, 1) := by decide +kernel
theorem dX4_readOne_87 : decode cX4_readOne 87 = .ok (.if_icmp .lt 11, 3) := by decide +kernel
theorem dX4_readOne_90 : decode cX4_readOne 90 = .ok (.aload_n 0, 1) := by decide +kernel
theorem dX4_readOne_91 : decode cX4_readOne 91 = .ok (.iconst 0, 1) := by decide +kernel
theorem dX4_readOne_92 : decode cX4_readOne 92 = .ok (.putfield 56, 3) := by decide +kernel
theorem dX4_readOne_95 : decode cX4_readOne 95 = .ok (.goto 94, 3) := by decide +kernel
theorem dX4_readOne_98 : decode cX4_readOne 98 = .ok (.aload_n 1, 1) := by decide +kernel
theorem dX4_readOne_99 : decode cX4_readOne 99 = .ok (.aload_n 0, 1) := by decide +kernel
theorem dX4_readOne_100 : decode cX4_readOne 100 = .ok (.getfield 53, 3) := by decide +kernel
theorem dX4_readOne_103 : decode cX4_readOne 103 = .ok (.baload, 1) := by decide +kernel
theorem dX4_readOne_104 : decode cX4_readOne 104 = .ok (.invokestatic 81, 3) := by decide +kernel
theorem dX4_readOne_107 : decode cX4_readOne 107 = .ok (.ifCond .eq 12, 3) := by decide +kernel
theorem dX4_readOne_110 : decode cX4_readOne 110 = .ok (.aload_n 0, 1) := by decide +kernel
theorem dX4_readOne_111 : decode cX4_readOne 111 = .ok (.aload_n 1, 1) := by decide +kernel
theorem dX4_readOne_112 : decode cX4_readOne 112 = .ok (.iload_n 2, 1) := by decide +kernel
theorem dX4_readOne_113 : decode cX4_readOne 113 = .ok (.invokevirtual 85, 3) := by decide +kernel
theorem dX4_readOne_116 : decode cX4_readOne 116 = .ok (.goto 73, 3) := by decide +kernel
theorem dX4_readOne_119 : decode cX4_readOne 119 = .ok (.aload_n 1, 1) := by decide +kernel
theorem dX4_readOne_120 : decode cX4_readOne 120 = .ok (.aload_n 0, 1) := by decide +kernel
theorem dX4_readOne_121 : decode cX4_readOne 121 = .ok (.getfield 53, 3) := by decide +kernel
theorem dX4_readOne_124 : decode cX4_readOne 124 = .ok (.baload, 1) := by decide +kernel
theorem dX4_readOne_125 : decode cX4_readOne 125 = .ok (.invokestatic 88, 3) := by decide +kernel
theorem dX4_readOne_128 : decode cX4_readOne 128 = .ok (.ifCond .eq 12, 3) := by decide +kernel
theorem dX4_readOne_131 : decode cX4_readOne 131 = .ok (.aload_n 0, 1) := by decide +kernel
theorem dX4_readOne_132 : decode cX4_readOne 132 = .ok (.aload_n 1, 1) := by decide +kernel
theorem dX4_readOne_133 : decode cX4_readOne 133 = .ok (.iload_n 2, 1) := by decide +kernel
theorem dX4_readOne_134 : decode cX4_readOne 134 = .ok (.invokevirtual 91, 3) := by decide +kernel
theorem dX4_readOne_137 : decode cX4_readOne 137 = .ok (.goto 52, 3) := by decide +kernel
theorem dX4_readOne_140 : decode cX4_readOne 140 = .ok (.aload_n 0, 1) := by decide +kernel
theorem dX4_readOne_141 : decode cX4_readOne 141 = .ok (.aload_n 1, 1) := by decide +kernel
theorem dX4_readOne_142 : decode cX4_readOne 142 = .ok (.aload_n 0, 1) := by decide +kernel
theorem dX4_readOne_143 : decode cX4_readOne 143 = .ok (.getfield 53, 3) := by decide +kernel
theorem dX4_readOne_146 : decode cX4_readOne 146 = .ok (.baload, 1) := by decide +kernel
theorem dX4_readOne_147 : decode cX4_readOne 147 = .ok (.putfield 63, 3) := by decide +kernel
theorem dX4_readOne_150 : decode cX4_readOne 150 = .ok (.aload_n 0, 1) := by decide +kernel
theorem dX4_readOne_151 : decode cX4_readOne 151 = .ok (.aload_n 0, 1) := by decide +kernel
theorem dX4_readOne_152 : decode cX4_readOne 152 = .ok (.getfield 63, 3) := by decide +kernel
theorem dX4_readOne_155 : decode cX4_readOne 155 = .ok (.ifCond .le 20, 3) := by decide +kernel
theorem dX4_readOne_158 : decode cX4_readOne 158 = .ok (.ldc 94, 2) := by decide +kernel
theorem dX4_readOne_160 : decode cX4_readOne 160 = .ok (.aload_n 0, 1) := by decide +kernel
theorem dX4_readOne_161 : decode cX4_readOne 161 = .ok (.getfield 63, 3) := by decide +kernel
theorem dX4_readOne_164 : decode cX4_readOne 164 = .ok (.i2c, 1) := by decide +kernel
theorem dX4_readOne_165 : decode cX4_readOne 165 = .ok (.invokevirtual 96, 3) := by decide +kernel
theorem dX4_readOne_168 : decode cX4_readOne 168 = .ok (.ifCond .lt 7, 3) := by decide +kernel
theorem dX4_readOne_171 : decode cX4_readOne 171 = .ok (.iconst 1, 1) := by decide +kernel
theorem dX4_readOne_172 : decode cX4_readOne 172 = .ok (.goto 4, 3) := by decide +kernel
theorem dX4_readOne_175 : decode cX4_readOne 175 = .ok (.iconst 5, 1) := by decide +kernel
theorem dX4_readOne_176 : decode cX4_readOne 176 = .ok (.putfield 56, 3) := by decide +kernel
theorem dX4_readOne_179 : decode cX4_readOne 179 = .ok (.aload_n 0, 1) := by decide +kernel
theorem dX4_readOne_180 : decode cX4_readOne 180 = .ok (.dup, 1) := by decide +kernel
theorem dX4_readOne_181 : decode cX4_readOne 181 = .ok (.getfield 53, 3) := by decide +kernel
theorem dX4_readOne_184 : decode cX4_readOne 184 = .ok (.iconst 1, 1) := by decide +kernel
theorem dX4_readOne_185 : decode cX4_readOne 185 = .ok (.iadd, 1) := by decide +kernel
theorem dX4_readOne_186 : decode cX4_readOne 186 = .ok (.putfield 53, 3) := by decide +kernel
theorem dX4_readOne_189 : decode cX4_readOne 189 = .ok (.iload_n 3, 1) := by decide +kernel
theorem dX4_readOne_190 : decode cX4_readOne 190 = .ok (.ifCond .eq 31, 3) := by decide +kernel
theorem dX4_readOne_193 : decode cX4_readOne 193 = .ok (.aload_n 0, 1) := by decide +kernel
theorem dX4_readOne_194 : decode cX4_readOne 194 = .ok (.getfield 56, 3) := by decide +kernel
theorem dX4_readOne_197 : decode cX4_readOne 197 = .ok (.iconst 1, 1) := by decide +kernel
theorem dX4_readOne_198 : decode cX4_readOne 198 = .ok (.if_icmp .eq 23, 3) := by decide +kernel
theorem dX4_readOne_201 : decode cX4_readOne 201 = .ok (.aload_n 0, 1) := by decide +kernel
theorem dX4_readOne_202 : decode cX4_readOne 202 = .ok (.getfield 56, 3) := by decide +kernel
theorem dX4_readOne_205 : decode cX4_readOne 205 = .ok (.ifCond .eq 16, 3) := by decide +kernel
theorem dX4_readOne_208 : decode cX4_readOne 208 = .ok (.aload_n 0, 1) := by decide +kernel
theorem dX4_readOne_209 : decode cX4_readOne 209 = .ok (.iconst 5, 1) := by decide +kernel
theorem dX4_readOne_210 : decode cX4_readOne 210 = .ok (.putfield 56, 3) := by decide +kernel
theorem dX4_readOne_213 : decode cX4_readOne 213 = .ok (.aload_n 0, 1) := by decide +kernel
theorem dX4_readOne_214 : decode cX4_readOne 214 = .ok (.aload_n 0, 1) := by decide +kernel
theorem dX4_readOne_215 : decode cX4_readOne 215 = .ok (.getfield 66, 3) := by decide +kernel
theorem dX4_readOne_218 : decode cX4_readOne 218 = .ok (.putfield 69, 3) := by decide +kernel
theorem dX4_readOne_221 : decode cX4_readOne 221 = .ok (.return_, 1) := by decide +kernel
theorem dX4_skipBlanks_0 : decode cX4_skipBlanks 0 = .ok (.aload_n 0, 1) := by decide +kernel
theorem dX4_skipBlanks_1 : decode cX4_skipBlanks 1 = .ok (.getfield 53, 3) := by decide +kernel
theorem dX4_skipBlanks_4 : decode cX4_skipBlanks 4 = .ok (.iload_n 2, 1) := by decide +kernel
theorem dX4_skipBlanks_5 : decode cX4_skipBlanks 5 = .ok (.if_icmp .ge 39, 3) := by decide +kernel
theorem dX4_skipBlanks_8 : decode cX4_skipBlanks 8 = .ok (.aload_n 1, 1) := by decide +kernel
theorem dX4_skipBlanks_9 : decode cX4_skipBlanks 9 = .ok (.aload_n 0, 1) := by decide +kernel
theorem dX4_skipBlanks_10 : decode cX4_skipBlanks 10 = .ok (.getfield 53, 3) := by decide +kernel
theorem dX4_skipBlanks_13 : decode cX4_skipBlanks 13 = .ok (.baload, 1) := by decide +kernel
theorem dX4_skipBlanks_14 : decode cX4_skipBlanks 14 = .ok (.bipush 10, 2) := by decide +kernel
theorem dX4_skipBlanks_16 : decode cX4_skipBlanks 16 = .ok (.if_icmp .eq 15, 3) := by decide +kernel
theorem dX4_skipBlanks_19 : decode cX4_skipBlanks 19 = .ok (.aload_n 1, 1) := by decide +kernel
theorem dX4_skipBlanks_20 : decode cX4_skipBlanks 20 = .ok (.aload_n 0, 1) := by decide +kernel
theorem dX4_skipBlanks_21 : decode cX4_skipBlanks 21 = .ok (.getfield 53, 3) := by decide +kernel
theorem dX4_skipBlanks_24 : decode cX4_skipBlanks 24 = .ok (.baload, 1) := by decide +kernel
theorem dX4_skipBlanks_25 : decode cX4_skipBlanks 25 = .ok (.bipush 32, 2) := by decide +kernel
theorem dX4_skipBlanks_27 : decode cX4_skipBlanks 27 = .ok (.if_icmp .eq 4, 3) := by decide +kernel
theorem dX4_skipBlanks_30 : decode cX4_skipBlanks 30 = .ok (.return_, 1) := by decide +kernel
theorem dX4_skipBlanks_31 : decode cX4_skipBlanks 31 = .ok (.aload_n 0, 1) := by decide +kernel
theorem dX4_skipBlanks_32 : decode cX4_skipBlanks 32 = .ok (.dup, 1) := by decide +kernel
theorem dX4_skipBlanks_33 : decode cX4_skipBlanks 33 = .ok (.getfield 53, 3) := by decide +kernel
theorem dX4_skipBlanks_36 : decode cX4_skipBlanks 36 = .ok (.iconst 1, 1) := by decide +kernel
theorem dX4_skipBlanks_37 : decode cX4_skipBlanks 37 = .ok (.iadd, 1) := by decide +kernel
theorem dX4_skipBlanks_38 : decode cX4_skipBlanks 38 = .ok (.putfield 53, 3) := by decide +kernel
theorem dX4_skipBlanks_41 : decode cX4_skipBlanks 41 = .ok (.goto (-41), 3) := by decide +kernel
theorem dX4_skipBlanks_44 : decode cX4_skipBlanks 44 = .ok (.return_, 1) := by decide +kernel
theorem dX4_readWord_0 : decode cX4_readWord 0 = .ok (.lconst 0, 1) := by decide +kernel
theorem dX4_readWord_1 : decode cX4_readWord 1 = .ok (.lstore_n 3, 1) := by decide +kernel
theorem dX4_readWord_2 : decode cX4_readWord 2 = .ok (.iconst 0, 1) := by decide +kernel
theorem dX4_readWord_3 : decode cX4_readWord 3 = .ok (.istore 5, 2) := by decide +kernel
theorem dX4_readWord_5 : decode cX4_readWord 5 = .ok (.aload_n 0, 1) := by decide +kernel
theorem dX4_readWord_6 : decode cX4_readWord 6 = .ok (.getfield 53, 3) := by decide +kernel
theorem dX4_readWord_9 : decode cX4_readWord 9 = .ok (.iload_n 2, 1) := by decide +kernel
theorem dX4_readWord_10 : decode cX4_readWord 10 = .ok (.if_icmp .ge 58, 3) := by decide +kernel
theorem dX4_readWord_13 : decode cX4_readWord 13 = .ok (.aload_n 1, 1) := by decide +kernel
theorem dX4_readWord_14 : decode cX4_readWord 14 = .ok (.aload_n 0, 1) := by decide +kernel
theorem dX4_readWord_15 : decode cX4_readWord 15 = .ok (.getfield 53, 3) := by decide +kernel
theorem dX4_readWord_18 : decode cX4_readWord 18 = .ok (.baload, 1) := by decide +kernel
theorem dX4_readWord_19 : decode cX4_readWord 19 = .ok (.invokestatic 81, 3) := by decide +kernel
theorem dX4_readWord_22 : decode cX4_readWord 22 = .ok (.ifCond .eq 46, 3) := by decide +kernel
theorem dX4_readWord_25 : decode cX4_readWord 25 = .ok (.iload 5, 2) := by decide +kernel
theorem dX4_readWord_27 : decode cX4_readWord 27 = .ok (.bipush 8, 2) := by decide +kernel
theorem dX4_readWord_29 : decode cX4_readWord 29 = .ok (.if_icmp .ge 23, 3) := by decide +kernel
theorem dX4_readWord_32 : decode cX4_readWord 32 = .ok (.lload_n 3, 1) := by decide +kernel
theorem dX4_readWord_33 : decode cX4_readWord 33 = .ok (.aload_n 1, 1) := by decide +kernel
theorem dX4_readWord_34 : decode cX4_readWord 34 = .ok (.aload_n 0, 1) := by decide +kernel
theorem dX4_readWord_35 : decode cX4_readWord 35 = .ok (.getfield 53, 3) := by decide +kernel
theorem dX4_readWord_38 : decode cX4_readWord 38 = .ok (.baload, 1) := by decide +kernel
theorem dX4_readWord_39 : decode cX4_readWord 39 = .ok (.bipush 97, 2) := by decide +kernel
theorem dX4_readWord_41 : decode cX4_readWord 41 = .ok (.isub, 1) := by decide +kernel
theorem dX4_readWord_42 : decode cX4_readWord 42 = .ok (.iconst 1, 1) := by decide +kernel
theorem dX4_readWord_43 : decode cX4_readWord 43 = .ok (.iadd, 1) := by decide +kernel
theorem dX4_readWord_44 : decode cX4_readWord 44 = .ok (.i2l, 1) := by decide +kernel
theorem dX4_readWord_45 : decode cX4_readWord 45 = .ok (.iconst 5, 1) := by decide +kernel
theorem dX4_readWord_46 : decode cX4_readWord 46 = .ok (.iload 5, 2) := by decide +kernel
theorem dX4_readWord_48 : decode cX4_readWord 48 = .ok (.imul, 1) := by decide +kernel
theorem dX4_readWord_49 : decode cX4_readWord 49 = .ok (.lshl, 1) := by decide +kernel
theorem dX4_readWord_50 : decode cX4_readWord 50 = .ok (.lor, 1) := by decide +kernel
theorem dX4_readWord_51 : decode cX4_readWord 51 = .ok (.lstore_n 3, 1) := by decide +kernel
theorem dX4_readWord_52 : decode cX4_readWord 52 = .ok (.iinc 5 1, 3) := by decide +kernel
theorem dX4_readWord_55 : decode cX4_readWord 55 = .ok (.aload_n 0, 1) := by decide +kernel
theorem dX4_readWord_56 : decode cX4_readWord 56 = .ok (.dup, 1) := by decide +kernel
theorem dX4_readWord_57 : decode cX4_readWord 57 = .ok (.getfield 53, 3) := by decide +kernel
theorem dX4_readWord_60 : decode cX4_readWord 60 = .ok (.iconst 1, 1) := by decide +kernel
theorem dX4_readWord_61 : decode cX4_readWord 61 = .ok (.iadd, 1) := by decide +kernel
theorem dX4_readWord_62 : decode cX4_readWord 62 = .ok (.putfield 53, 3) := by decide +kernel
theorem dX4_readWord_65 : decode cX4_readWord 65 = .ok (.goto (-60), 3) := by decide +kernel
theorem dX4_readWord_68 : decode cX4_readWord 68 = .ok (.iload 5, 2) := by decide +kernel
theorem dX4_readWord_70 : decode cX4_readWord 70 = .ok (.bipush 8, 2) := by decide +kernel
theorem dX4_readWord_72 : decode cX4_readWord 72 = .ok (.if_icmp .gt 11, 3) := by decide +kernel
theorem dX4_readWord_75 : decode cX4_readWord 75 = .ok (.aload_n 0, 1) := by decide +kernel
theorem dX4_readWord_76 : decode cX4_readWord 76 = .ok (.lload_n 3, 1) := by decide +kernel
theorem dX4_readWord_77 : decode cX4_readWord 77 = .ok (.invokevirtual 100, 3) := by decide +kernel
theorem dX4_readWord_80 : decode cX4_readWord 80 = .ok (.goto 4, 3) := by decide +kernel
theorem dX4_readWord_83 : decode cX4_readWord 83 = .ok (.iconst (-1), 1) := by decide +kernel
theorem dX4_readWord_84 : decode cX4_readWord 84 = .ok (.istore 6, 2) := by decide +kernel
theorem dX4_readWord_86 : decode cX4_readWord 86 = .ok (.iload 6, 2) := by decide +kernel
theorem dX4_readWord_88 : decode cX4_readWord 88 = .ok (.iconst (-1), 1) := by decide +kernel
theorem dX4_readWord_89 : decode cX4_readWord 89 = .ok (.if_icmp .eq 17, 3) := by decide +kernel
theorem dX4_readWord_92 : decode cX4_readWord 92 = .ok (.aload_n 0, 1) := by decide +kernel
theorem dX4_readWord_93 : decode cX4_readWord 93 = .ok (.iconst 4, 1) := by decide +kernel
theorem dX4_readWord_94 : decode cX4_readWord 94 = .ok (.putfield 56, 3) := by decide +kernel
theorem dX4_readWord_97 : decode cX4_readWord 97 = .ok (.aload_n 0, 1) := by decide +kernel
theorem dX4_readWord_98 : decode cX4_readWord 98 = .ok (.iload 6, 2) := by decide +kernel
theorem dX4_readWord_100 : decode cX4_readWord 100 = .ok (.putfield 63, 3) := by decide +kernel
theorem dX4_readWord_103 : decode cX4_readWord 103 = .ok (.goto 40, 3) := by decide +kernel
theorem dX4_readWord_106 : decode cX4_readWord 106 = .ok (.iload 5, 2) := by decide +kernel
theorem dX4_readWord_108 : decode cX4_readWord 108 = .ok (.bipush 6, 2) := by decide +kernel
theorem dX4_readWord_110 : decode cX4_readWord 110 = .ok (.if_icmp .le 22, 3) := by decide +kernel
theorem dX4_readWord_113 : decode cX4_readWord 113 = .ok (.aload_n 0, 1) := by decide +kernel
theorem dX4_readWord_114 : decode cX4_readWord 114 = .ok (.iconst 5, 1) := by decide +kernel
theorem dX4_readWord_115 : decode cX4_readWord 115 = .ok (.putfield 56, 3) := by decide +kernel
theorem dX4_readWord_118 : decode cX4_readWord 118 = .ok (.aload_n 0, 1) := by decide +kernel
theorem dX4_readWord_119 : decode cX4_readWord 119 = .ok (.aload_n 0, 1) := by decide +kernel
theorem dX4_readWord_120 : decode cX4_readWord 120 = .ok (.getfield 66, 3) := by decide +kernel
theorem dX4_readWord_123 : decode cX4_readWord 123 = .ok (.bipush 6, 2) := by decide +kernel
theorem dX4_readWord_125 : decode cX4_readWord 125 = .ok (.iadd, 1) := by decide +kernel
theorem dX4_readWord_126 : decode cX4_readWord 126 = .ok (.putfield 69, 3) := by decide +kernel
theorem dX4_readWord_129 : decode cX4_readWord 129 = .ok (.goto 14, 3) := by decide +kernel
theorem dX4_readWord_132 : decode cX4_readWord 132 = .ok (.aload_n 0, 1) := by decide +kernel
theorem dX4_readWord_133 : decode cX4_readWord 133 = .ok (.iconst 3, 1) := by decide +kernel
theorem dX4_readWord_134 : decode cX4_readWord 134 = .ok (.putfield 56, 3) := by decide +kernel
theorem dX4_readWord_137 : decode cX4_readWord 137 = .ok (.aload_n 0, 1) := by decide +kernel
theorem dX4_readWord_138 : decode cX4_readWord 138 = .ok (.lload_n 3, 1) := by decide +kernel
theorem dX4_readWord_139 : decode cX4_readWord 139 = .ok (.l2i, 1) := by decide +kernel
theorem dX4_readWord_140 : decode cX4_readWord 140 = .ok (.putfield 63, 3) := by decide +kernel
theorem dX4_readWord_143 : decode cX4_readWord 143 = .ok (.return_, 1) := by decide +kernel
theorem dX4_ownWordOf_0 : decode cX4_ownWordOf 0 = .ok (.iconst 0, 1) := by decide +kernel
theorem dX4_ownWordOf_1 : decode cX4_ownWordOf 1 = .ok (.istore_n 3, 1) := by decide +kernel
theorem dX4_ownWordOf_2 : decode cX4_ownWordOf 2 = .ok (.iload_n 3, 1) := by decide +kernel
theorem dX4_ownWordOf_3 : decode cX4_ownWordOf 3 = .ok (.bipush 23, 2) := by decide +kernel
theorem dX4_ownWordOf_5 : decode cX4_ownWordOf 5 = .ok (.if_icmp .ge 22, 3) := by decide +kernel
theorem dX4_ownWordOf_8 : decode cX4_ownWordOf 8 = .ok (.aload_n 0, 1) := by decide +kernel
theorem dX4_ownWordOf_9 : decode cX4_ownWordOf 9 = .ok (.getfield 9, 3) := by decide +kernel
theorem dX4_ownWordOf_12 : decode cX4_ownWordOf 12 = .ok (.iload_n 3, 1) := by decide +kernel
theorem dX4_ownWordOf_13 : decode cX4_ownWordOf 13 = .ok (.laload, 1) := by decide +kernel
theorem dX4_ownWordOf_14 : decode cX4_ownWordOf 14 = .ok (.lload_n 1, 1) := by decide +kernel
theorem dX4_ownWordOf_15 : decode cX4_ownWordOf 15 = .ok (.lcmp, 1) := by decide +kernel
theorem dX4_ownWordOf_16 : decode cX4_ownWordOf 16 = .ok (.ifCond .ne 5, 3) := by decide +kernel
theorem dX4_ownWordOf_19 : decode cX4_ownWordOf 19 = .ok (.iload_n 3, 1) := by decide +kernel
theorem dX4_ownWordOf_20 : decode cX4_ownWordOf 20 = .ok (.ireturn, 1) := by decide +kernel
theorem dX4_ownWordOf_21 : decode cX4_ownWordOf 21 = .ok (.iinc 3 1, 3) := by decide +kernel
theorem dX4_ownWordOf_24 : decode cX4_ownWordOf 24 = .ok (.goto (-22), 3) := by decide +kernel
theorem dX4_ownWordOf_27 : decode cX4_ownWordOf 27 = .ok (.iconst (-1), 1) := by decide +kernel
theorem dX4_ownWordOf_28 : decode cX4_ownWordOf 28 = .ok (.ireturn, 1) := by decide +kernel
theorem dX4_readNumber_0 : decode cX4_readNumber 0 = .ok (.iconst 0, 1) := by decide +kernel
theorem dX4_readNumber_1 : decode cX4_readNumber 1 = .ok (.istore_n 3, 1) := by decide +kernel
theorem dX4_readNumber_2 : decode cX4_readNumber 2 = .ok (.aload_n 0, 1) := by decide +kernel
theorem dX4_readNumber_3 : decode cX4_readNumber 3 = .ok (.getfield 53, 3) := by decide +kernel
theorem dX4_readNumber_6 : decode cX4_readNumber 6 = .ok (.iload_n 2, 1) := by decide +kernel
theorem dX4_readNumber_7 : decode cX4_readNumber 7 = .ok (.if_icmp .ge 57, 3) := by decide +kernel
theorem dX4_readNumber_10 : decode cX4_readNumber 10 = .ok (.aload_n 1, 1) := by decide +kernel
theorem dX4_readNumber_11 : decode cX4_readNumber 11 = .ok (.aload_n 0, 1) := by decide +kernel
theorem dX4_readNumber_12 : decode cX4_readNumber 12 = .ok (.getfield 53, 3) := by decide +kernel
theorem dX4_readNumber_15 : decode cX4_readNumber 15 = .ok (.baload, 1) := by decide +kernel
theorem dX4_readNumber_16 : decode cX4_readNumber 16 = .ok (.invokestatic 88, 3) := by decide +kernel
theorem dX4_readNumber_19 : decode cX4_readNumber 19 = .ok (.ifCond .eq 45, 3) := by decide +kernel
theorem dX4_readNumber_22 : decode cX4_readNumber 22 = .ok (.iload_n 3, 1) := by decide +kernel
theorem dX4_readNumber_23 : decode cX4_readNumber 23 = .ok (.iconst 4, 1) := by decide +kernel
theorem dX4_readNumber_24 : decode cX4_readNumber 24 = .ok (.if_icmp .ge 24, 3) := by decide +kernel
theorem dX4_readNumber_27 : decode cX4_readNumber 27 = .ok (.aload_n 0, 1) := by decide +kernel
theorem dX4_readNumber_28 : decode cX4_readNumber 28 = .ok (.bipush 10, 2) := by decide +kernel
theorem dX4_readNumber_30 : decode cX4_readNumber 30 = .ok (.aload_n 0, 1) := by decide +kernel
theorem dX4_readNumber_31 : decode cX4_readNumber 31 = .ok (.getfield 63, 3) := by decide +kernel
theorem dX4_readNumber_34 : decode cX4_readNumber 34 = .ok (.imul, 1) := by decide +kernel
theorem dX4_readNumber_35 : decode cX4_readNumber 35 = .ok (.aload_n 1, 1) := by decide +kernel
theorem dX4_readNumber_36 : decode cX4_readNumber 36 = .ok (.aload_n 0, 1) := by decide +kernel
theorem dX4_readNumber_37 : decode cX4_readNumber 37 = .ok (.getfield 53, 3) := by decide +kernel
theorem dX4_readNumber_40 : decode cX4_readNumber 40 = .ok (.baload, 1) := by decide +kernel
theorem dX4_readNumber_41 : decode cX4_readNumber 41 = .ok (.iadd, 1) := by decide +kernel
theorem dX4_readNumber_42 : decode cX4_readNumber 42 = .ok (.bipush 48, 2) := by decide +kernel
theorem dX4_readNumber_44 : decode cX4_readNumber 44 = .ok (.isub, 1) := by decide +kernel
theorem dX4_readNumber_45 : decode cX4_readNumber 45 = .ok (.putfield 63, 3) := by decide +kernel
theorem dX4_readNumber_48 : decode cX4_readNumber 48 = .ok (.iinc 3 1, 3) := by decide +kernel
theorem dX4_readNumber_51 : decode cX4_readNumber 51 = .ok (.aload_n 0, 1) := by decide +kernel
theorem dX4_readNumber_52 : decode cX4_readNumber 52 = .ok (.dup, 1) := by decide +kernel
theorem dX4_readNumber_53 : decode cX4_readNumber 53 = .ok (.getfield 53, 3) := by decide +kernel
theorem dX4_readNumber_56 : decode cX4_readNumber 56 = .ok (.iconst 1, 1) := by decide +kernel
theorem dX4_readNumber_57 : decode cX4_readNumber 57 = .ok (.iadd, 1) := by decide +kernel
theorem dX4_readNumber_58 : decode cX4_readNumber 58 = .ok (.putfield 53, 3) := by decide +kernel
theorem dX4_readNumber_61 : decode cX4_readNumber 61 = .ok (.goto (-59), 3) := by decide +kernel
theorem dX4_readNumber_64 : decode cX4_readNumber 64 = .ok (.aload_n 0, 1) := by decide +kernel
theorem dX4_readNumber_65 : decode cX4_readNumber 65 = .ok (.iconst 2, 1) := by decide +kernel
theorem dX4_readNumber_66 : decode cX4_readNumber 66 = .ok (.putfield 56, 3) := by decide +kernel
theorem dX4_readNumber_69 : decode cX4_readNumber 69 = .ok (.iload_n 3, 1) := by decide +kernel
theorem dX4_readNumber_70 : decode cX4_readNumber 70 = .ok (.iconst 4, 1) := by decide +kernel
theorem dX4_readNumber_71 : decode cX4_readNumber 71 = .ok (.if_icmp .le 18, 3) := by decide +kernel
theorem dX4_readNumber_74 : decode cX4_readNumber 74 = .ok (.aload_n 0, 1) := by decide +kernel
theorem dX4_readNumber_75 : decode cX4_readNumber 75 = .ok (.iconst 5, 1) := by decide +kernel
theorem dX4_readNumber_76 : decode cX4_readNumber 76 = .ok (.putfield 56, 3) := by decide +kernel
theorem dX4_readNumber_79 : decode cX4_readNumber 79 = .ok (.aload_n 0, 1) := by decide +kernel
theorem dX4_readNumber_80 : decode cX4_readNumber 80 = .ok (.aload_n 0, 1) := by decide +kernel
theorem dX4_readNumber_81 : decode cX4_readNumber 81 = .ok (.getfield 66, 3) := by decide +kernel
theorem dX4_readNumber_84 : decode cX4_readNumber 84 = .ok (.iconst 4, 1) := by decide +kernel
theorem dX4_readNumber_85 : decode cX4_readNumber 85 = .ok (.iadd, 1) := by decide +kernel
theorem dX4_readNumber_86 : decode cX4_readNumber 86 = .ok (.putfield 69, 3) := by decide +kernel
theorem dX4_readNumber_89 : decode cX4_readNumber 89 = .ok (.return_, 1) := by decide +kernel
theorem dX4_isLetter_0 : decode cX4_isLetter 0 = .ok (.iload_n 0, 1) := by decide +kernel
theorem dX4_isLetter_1 : decode cX4_isLetter 1 = .ok (.bipush 97, 2) := by decide +kernel
theorem dX4_isLetter_3 : decode cX4_isLetter 3 = .ok (.if_icmp .lt 13, 3) := by decide +kernel
theorem dX4_isLetter_6 : decode cX4_isLetter 6 = .ok (.iload_n 0, 1) := by decide +kernel
theorem dX4_isLetter_7 : decode cX4_isLetter 7 = .ok (.bipush 122, 2) := by decide +kernel
theorem dX4_isLetter_9 : decode cX4_isLetter 9 = .ok (.if_icmp .gt 7, 3) := by decide +kernel
theorem dX4_isLetter_12 : decode cX4_isLetter 12 = .ok (.iconst 1, 1) := by decide +kernel
theorem dX4_isLetter_13 : decode cX4_isLetter 13 = .ok (.goto 4, 3) := by decide +kernel
theorem dX4_isLetter_16 : decode cX4_isLetter 16 = .ok (.iconst 0, 1) := by decide +kernel
theorem dX4_isLetter_17 : decode cX4_isLetter 17 = .ok (.ireturn, 1) := by decide +kernel
theorem dX4_isDigit_0 : decode cX4_isDigit 0 = .ok (.iload_n 0, 1) := by decide +kernel
theorem dX4_isDigit_1 : decode cX4_isDigit 1 = .ok (.bipush 48, 2) := by decide +kernel
theorem dX4_isDigit_3 : decode cX4_isDigit 3 = .ok (.if_icmp .lt 13, 3) := by decide +kernel
theorem dX4_isDigit_6 : decode cX4_isDigit 6 = .ok (.iload_n 0, 1) := by decide +kernel
theorem dX4_isDigit_7 : decode cX4_isDigit 7 = .ok (.bipush 57, 2) := by decide +kernel
theorem dX4_isDigit_9 : decode cX4_isDigit 9 = .ok (.if_icmp .gt 7, 3) := by decide +kernel
theorem dX4_isDigit_12 : decode cX4_isDigit 12 = .ok (.iconst 1, 1) := by decide +kernel
theorem dX4_isDigit_13 : decode cX4_isDigit 13 = .ok (.goto 4, 3) := by decide +kernel
theorem dX4_isDigit_16 : decode cX4_isDigit 16 = .ok (.iconst 0, 1) := by decide +kernel
theorem dX4_isDigit_17 : decode cX4_isDigit 17 = .ok (.ireturn, 1) := by decide +kernel
theorem dX4_isSign_0 : decode cX4_isSign 0 = .ok (.aload_n 0, 1) := by decide +kernel
theorem dX4_isSign_1 : decode cX4_isSign 1 = .ok (.getfield 56, 3) := by decide +kernel
theorem dX4_isSign_4 : decode cX4_isSign 4 = .ok (.iconst 1, 1) := by decide +kernel
theorem dX4_isSign_5 : decode cX4_isSign 5 = .ok (.if_icmp .ne 15, 3) := by decide +kernel
theorem dX4_isSign_8 : decode cX4_isSign 8 = .ok (.aload_n 0, 1) := by decide +kernel
theorem dX4_isSign_9 : decode cX4_isSign 9 = .ok (.getfield 63, 3) := by decide +kernel
theorem dX4_isSign_12 : decode cX4_isSign 12 = .ok (.iload_n 1, 1) := by decide +kernel
theorem dX4_isSign_13 : decode cX4_isSign 13 = .ok (.if_icmp .ne 7, 3) := by decide +kernel
theorem dX4_isSign_16 : decode cX4_isSign 16 = .ok (.iconst 1, 1) := by decide +kernel
theorem dX4_isSign_17 : decode cX4_isSign 17 = .ok (.goto 4, 3) := by decide +kernel
theorem dX4_isSign_20 : decode cX4_isSign 20 = .ok (.iconst 0, 1) := by decide +kernel
theorem dX4_isSign_21 : decode cX4_isSign 21 = .ok (.ireturn, 1) := by decide +kernel
theorem dX4_isOwnWord_0 : decode cX4_isOwnWord 0 = .ok (.aload_n 0, 1) := by decide +kernel
theorem dX4_isOwnWord_1 : decode cX4_isOwnWord 1 = .ok (.getfield 56, 3) := by decide +kernel
theorem dX4_isOwnWord_4 : decode cX4_isOwnWord 4 = .ok (.iconst 4, 1) := by decide +kernel
theorem dX4_isOwnWord_5 : decode cX4_isOwnWord 5 = .ok (.if_icmp .ne 15, 3) := by decide +kernel
theorem dX4_isOwnWord_8 : decode cX4_isOwnWord 8 = .ok (.aload_n 0, 1) := by decide +kernel
theorem dX4_isOwnWord_9 : decode cX4_isOwnWord 9 = .ok (.getfield 63, 3) := by decide +kernel
theorem dX4_isOwnWord_12 : decode cX4_isOwnWord 12 = .ok (.iload_n 1, 1) := by decide +kernel
theorem dX4_isOwnWord_13 : decode cX4_isOwnWord 13 = .ok (.if_icmp .ne 7, 3) := by decide +kernel
theorem dX4_isOwnWord_16 : decode cX4_isOwnWord 16 = .ok (.iconst 1, 1) := by decide +kernel
theorem dX4_isOwnWord_17 : decode cX4_isOwnWord 17 = .ok (.goto 4, 3) := by decide +kernel
theorem dX4_isOwnWord_20 : decode cX4_isOwnWord 20 = .ok (.iconst 0, 1) := by decide +kernel
theorem dX4_isOwnWord_21 : decode cX4_isOwnWord 21 = .ok (.ireturn, 1) := by decide +kernel
theorem dX5_init_0 : decode cX5_init 0 = .ok (.aload_n 0, 1) := by decide +kernel
theorem dX5_init_1 : decode cX5_init 1 = .ok (.invokespecial 3, 3) := by decide +kernel
theorem dX5_init_4 : decode cX5_init 4 = .ok (.aload_n 0, 1) := by decide +kernel
theorem dX5_init_5 : decode cX5_init 5 = .ok (.iconst 3, 1) := by decide +kernel
theorem dX5_init_6 : decode cX5_init 6 = .ok (.newarray .int, 2) := by decide +kernel
theorem dX5_init_8 : decode cX5_init 8 = .ok (.putfield 9, 3) := by decide +kernel
theorem dX5_init_11 : decode cX5_init 11 = .ok (.aload_n 0, 1) := by decide +kernel
theorem dX5_init_12 : decode cX5_init 12 = .ok (.bipush 36, 2) := by decide +kernel
theorem dX5_init_14 : decode cX5_init 14 = .ok (.newarray .int, 2) := by decide +kernel
theorem dX5_init_16 : decode cX5_init 16 = .ok (.putfield 15, 3) := by decide +kernel
theorem dX5_init_19 : decode cX5_init 19 = .ok (.aload_n 0, 1) := by decide +kernel
theorem dX5_init_20 : decode cX5_init 20 = .ok (.bipush 10, 2) := by decide +kernel
theorem dX5_init_22 : decode cX5_init 22 = .ok (.newarray .int, 2) := by decide +kernel
theorem dX5_init_24 : decode cX5_init 24 = .ok (.putfield 18, 3) := by decide +kernel
theorem dX5_init_27 : decode cX5_init 27 = .ok (.aload_n 0, 1) := by decide +kernel
theorem dX5_init_28 : decode cX5_init 28 = .ok (.bipush 12, 2) := by decide +kernel
theorem dX5_init_30 : decode cX5_init 30 = .ok (.newarray .int, 2) := by decide +kernel
theorem dX5_init_32 : decode cX5_init 32 = .ok (.putfield 21, 3) := by decide +kernel
theorem dX5_init_35 : decode cX5_init 35 = .ok (.aload_n 0, 1) := by decide +kernel
theorem dX5_init_36 : decode cX5_init 36 = .ok (.bipush 12, 2) := by decide +kernel
theorem dX5_init_38 : decode cX5_init 38 = .ok (.newarray .int, 2) := by decide +kernel
theorem dX5_init_40 : decode cX5_init 40 = .ok (.putfield 24, 3) := by decide +kernel
theorem dX5_init_43 : decode cX5_init 43 = .ok (.aload_n 0, 1) := by decide +kernel
theorem dX5_init_44 : decode cX5_init 44 = .ok (.bipush 12, 2) := by decide +kernel
theorem dX5_init_46 : decode cX5_init 46 = .ok (.newarray .int, 2) := by decide +kernel
theorem dX5_init_48 : decode cX5_init 48 = .ok (.putfield 27, 3) := by decide +kernel
theorem dX5_init_51 : decode cX5_init 51 = .ok (.aload_n 0, 1) := by decide +kernel
theorem dX5_init_52 : decode cX5_init 52 = .ok (.bipush 12, 2) := by decide +kernel
theorem dX5_init_54 : decode cX5_init 54 = .ok (.newarray .int, 2) := by decide +kernel
theorem dX5_init_56 : decode cX5_init 56 = .ok (.putfield 30, 3) := by decide +kernel
theorem dX5_init_59 : decode cX5_init 59 = .ok (.aload_n 0, 1) := by decide +kernel
theorem dX5_init_60 : decode cX5_init 60 = .ok (.bipush 10, 2) := by decide +kernel
theorem dX5_init_62 : decode cX5_init 62 = .ok (.newarray .int, 2) := by decide +kernel
theorem dX5_init_64 : decode cX5_init 64 = .ok (.putfield 33, 3) := by decide +kernel
theorem dX5_init_67 : decode cX5_init 67 = .ok (.aload_n 0, 1) := by decide +kernel
theorem dX5_init_68 : decode cX5_init 68 = .ok (.bipush 10, 2) := by decide +kernel
theorem dX5_init_70 : decode cX5_init 70 = .ok (.newarray .int, 2) := by decide +kernel
theorem dX5_init_72 : decode cX5_init 72 = .ok (.putfield 36, 3) := by decide +kernel
theorem dX5_init_75 : decode cX5_init 75 = .ok (.aload_n 0, 1) := by decide +kernel
theorem dX5_init_76 : decode cX5_init 76 = .ok (.new 39, 3) := by decide +kernel
theorem dX5_init_79 : decode cX5_init 79 = .ok (.dup, 1) := by decide +kernel
theorem dX5_init_80 : decode cX5_init 80 = .ok (.invokespecial 41, 3) := by decide +kernel
theorem dX5_init_83 : decode cX5_init 83 = .ok (.putfield 42, 3) := by decide +kernel
theorem dX5_init_86 : decode cX5_init 86 = .ok (.aload_n 0, 1) := by decide +kernel
theorem dX5_init_87 : decode cX5_init 87 = .ok (.new 39, 3) := by decide +kernel
theorem dX5_init_90 : decode cX5_init 90 = .ok (.dup, 1) := by decide +kernel
theorem dX5_init_91 : decode cX5_init 91 = .ok (.invokespecial 41, 3) := by decide +kernel
theorem dX5_init_94 : decode cX5_init 94 = .ok (.putfield 46, 3) := by decide +kernel
theorem dX5_init_97 : decode cX5_init 97 = .ok (.return_, 1) := by decide +kernel
theorem dX5_clear_0 : decode cX5_clear 0 = .ok (.aload_n 0, 1) := by decide +kernel
theorem dX5_clear_1 : decode cX5_clear 1 = .ok (.getfield 9, 3) := by decide +kernel
theorem dX5_clear_4 : decode cX5_clear 4 = .ok (.iconst 0, 1) := by decide +kernel
theorem dX5_clear_5 : decode cX5_clear 5 = .ok (.iconst 0, 1) := by decide +kernel
theorem dX5_clear_6 : decode cX5_clear 6 = .ok (.iastore, 1) := by decide +kernel
theorem dX5_clear_7 : decode cX5_clear 7 = .ok (.aload_n 0, 1) := by decide +kernel
theorem dX5_clear_8 : decode cX5_clear 8 = .ok (.getfield 9, 3) := by decide +kernel
theorem dX5_clear_11 : decode cX5_clear 11 = .ok (.iconst 1, 1) := by decide +kernel
theorem dX5_clear_12 : decode cX5_clear 12 = .ok (.iconst 0, 1) := by decide +kernel
theorem dX5_clear_13 : decode cX5_clear 13 = .ok (.iastore, 1) := by decide +kernel
theorem dX5_clear_14 : decode cX5_clear 14 = .ok (.aload_n 0, 1) := by decide +kernel
theorem dX5_clear_15 : decode cX5_clear 15 = .ok (.getfield 9, 3) := by decide +kernel
theorem dX5_clear_18 : decode cX5_clear 18 = .ok (.iconst 2, 1) := by decide +kernel
theorem dX5_clear_19 : decode cX5_clear 19 = .ok (.iconst 0, 1) := by decide +kernel
theorem dX5_clear_20 : decode cX5_clear 20 = .ok (.iastore, 1) := by decide +kernel
theorem dX5_clear_21 : decode cX5_clear 21 = .ok (.aload_n 0, 1) := by decide +kernel
theorem dX5_clear_22 : decode cX5_clear 22 = .ok (.getfield 42, 3) := by decide +kernel
theorem dX5_clear_25 : decode cX5_clear 25 = .ok (.invokevirtual 49, 3) := by decide +kernel
theorem dX5_clear_28 : decode cX5_clear 28 = .ok (.aload_n 0, 1) := by decide +kernel
theorem dX5_clear_29 : decode cX5_clear 29 = .ok (.getfield 46, 3) := by decide +kernel
theorem dX5_clear_32 : decode cX5_clear 32 = .ok (.invokevirtual 49, 3) := by decide +kernel
theorem dX5_clear_35 : decode cX5_clear 35 = .ok (.aload_n 0, 1) := by decide +kernel
theorem dX5_clear_36 : decode cX5_clear 36 = .ok (.iconst 0, 1) := by decide +kernel
theorem dX5_clear_37 : decode cX5_clear 37 = .ok (.putfield 52, 3) := by decide +kernel
theorem dX5_clear_40 : decode cX5_clear 40 = .ok (.aload_n 0, 1) := by decide +kernel
theorem dX5_clear_41 : decode cX5_clear 41 = .ok (.iconst 0, 1) := by decide +kernel
theorem dX5_clear_42 : decode cX5_clear 42 = .ok (.putfield 56, 3) := by decide +kernel
theorem dX5_clear_45 : decode cX5_clear 45 = .ok (.return_, 1) := by decide +kernel
theorem dX5_most_0 : decode cX5_most 0 = .ok (.iload_n 0, 1) := by decide +kernel
theorem dX5_most_1 : decode cX5_most 1 = .ok (.ifCond .ne 8, 3) := by decide +kernel
theorem dX5_most_4 : decode cX5_most 4 = .ok (.bipush 10, 2) := by decide +kernel
theorem dX5_most_6 : decode cX5_most 6 = .ok (.goto 15, 3) := by decide +kernel
theorem dX5_most_9 : decode cX5_most 9 = .ok (.iload_n 0, 1) := by decide +kernel
theorem dX5_most_10 : decode cX5_most 10 = .ok (.iconst 1, 1) := by decide +kernel
theorem dX5_most_11 : decode cX5_most 11 = .ok (.if_icmp .ne 8, 3) := by decide +kernel
theorem dX5_most_14 : decode cX5_most 14 = .ok (.bipush 12, 2) := by decide +kernel
theorem dX5_most_16 : decode cX5_most 16 = .ok (.goto 5, 3) := by decide +kernel
theorem dX5_most_19 : decode cX5_most 19 = .ok (.bipush 10, 2) := by decide +kernel
theorem dX5_most_21 : decode cX5_most 21 = .ok (.ireturn, 1) := by decide +kernel
theorem dX5_isFull_0 : decode cX5_isFull 0 = .ok (.iload_n 1, 1) := by decide +kernel
theorem dX5_isFull_1 : decode cX5_isFull 1 = .ok (.ifCond .lt 21, 3) := by decide +kernel
theorem dX5_isFull_4 : decode cX5_isFull 4 = .ok (.iload_n 1, 1) := by decide +kernel
theorem dX5_isFull_5 : decode cX5_isFull 5 = .ok (.iconst 3, 1) := by decide +kernel
theorem dX5_isFull_6 : decode cX5_isFull 6 = .ok (.if_icmp .ge 16, 3) := by decide +kernel
theorem dX5_isFull_9 : decode cX5_isFull 9 = .ok (.aload_n 0, 1) := by decide +kernel
theorem dX5_isFull_10 : decode cX5_isFull 10 = .ok (.getfield 9, 3) := by decide +kernel
theorem dX5_isFull_13 : decode cX5_isFull 13 = .ok (.iload_n 1, 1) := by decide +kernel
theorem dX5_isFull_14 : decode cX5_isFull 14 = .ok (.iaload, 1) := by decide +kernel
theorem dX5_isFull_15 : decode cX5_isFull 15 = .ok (.iload_n 1, 1) := by decide +kernel
theorem dX5_isFull_16 : decode cX5_isFull 16 = .ok (.invokestatic 59, 3) := by decide +kernel
theorem dX5_isFull_19 : decode cX5_isFull 19 = .ok (.if_icmp .lt 7, 3) := by decide +kernel
theorem dX5_isFull_22 : decode cX5_isFull 22 = .ok (.iconst 1, 1) := by decide +kernel
theorem dX5_isFull_23 : decode cX5_isFull 23 = .ok (.goto 4, 3) := by decide +kernel
theorem dX5_isFull_26 : decode cX5_isFull 26 = .ok (.iconst 0, 1) := by decide +kernel
theorem dX5_isFull_27 : decode cX5_isFull 27 = .ok (.ireturn, 1) := by decide +kernel
theorem dX5_isThere_0 : decode cX5_isThere 0 = .ok (.iload_n 1, 1) := by decide +kernel
theorem dX5_isThere_1 : decode cX5_isThere 1 = .ok (.ifCond .lt 26, 3) := by decide +kernel
theorem dX5_isThere_4 : decode cX5_isThere 4 = .ok (.iload_n 1, 1) := by decide +kernel
theorem dX5_isThere_5 : decode cX5_isThere 5 = .ok (.iconst 3, 1) := by decide +kernel
theorem dX5_isThere_6 : decode cX5_isThere 6 = .ok (.if_icmp .ge 21, 3) := by decide +kernel
theorem dX5_isThere_9 : decode cX5_isThere 9 = .ok (.iload_n 2, 1) := by decide +kernel
theorem dX5_isThere_10 : decode cX5_isThere 10 = .ok (.ifCond .lt 17, 3) := by decide +kernel
theorem dX5_isThere_13 : decode cX5_isThere 13 = .ok (.iload_n 2, 1) := by decide +kernel
theorem dX5_isThere_14 : decode cX5_isThere 14 = .ok (.aload_n 0, 1) := by decide +kernel
theorem dX5_isThere_15 : decode cX5_isThere 15 = .ok (.getfield 9, 3) := by decide +kernel
theorem dX5_isThere_18 : decode cX5_isThere 18 = .ok (.iload_n 1, 1) := by decide +kernel
theorem dX5_isThere_19 : decode cX5_isThere 19 = .ok (.iaload, 1) := by decide +kernel
theorem dX5_isThere_20 : decode cX5_isThere 20 = .ok (.if_icmp .ge 7, 3) := by decide +kernel
theorem dX5_isThere_23 : decode cX5_isThere 23 = .ok (.iconst 1, 1) := by decide +kernel
theorem dX5_isThere_24 : decode cX5_isThere 24 = .ok (.goto 4, 3) := by decide +kernel
theorem dX5_isThere_27 : decode cX5_isThere 27 = .ok (.iconst 0, 1) := by decide +kernel
theorem dX5_isThere_28 : decode cX5_isThere 28 = .ok (.ireturn, 1) := by decide +kernel
theorem dX5_nameOf_0 : decode cX5_nameOf 0 = .ok (.aload_n 0, 1) := by decide +kernel
theorem dX5_nameOf_1 : decode cX5_nameOf 1 = .ok (.iload_n 1, 1) := by decide +kernel
theorem dX5_nameOf_2 : decode cX5_nameOf 2 = .ok (.iload_n 2, 1) := by decide +kernel
theorem dX5_nameOf_3 : decode cX5_nameOf 3 = .ok (.invokevirtual 63, 3) := by decide +kernel
theorem dX5_nameOf_6 : decode cX5_nameOf 6 = .ok (.ifCond .eq 17, 3) := by decide +kernel
theorem dX5_nameOf_9 : decode cX5_nameOf 9 = .ok (.aload_n 0, 1) := by decide +kernel
theorem dX5_nameOf_10 : decode cX5_nameOf 10 = .ok (.getfield 15, 3) := by decide +kernel
theorem dX5_nameOf_13 : decode cX5_nameOf 13 = .ok (.iload_n 1, 1) := by decide +kernel
theorem dX5_nameOf_14 : decode cX5_nameOf 14 = .ok (.bipush 12, 2) := by decide +kernel
theorem dX5_nameOf_16 : decode cX5_nameOf 16 = .ok (.imul, 1) := by decide +kernel
theorem dX5_nameOf_17 : decode cX5_nameOf 17 = .ok (.iload_n 2, 1) := by decide +kernel
theorem dX5_nameOf_18 : decode cX5_nameOf 18 = .ok (.iadd, 1) := by decide +kernel
theorem dX5_nameOf_19 : decode cX5_nameOf 19 = .ok (.iaload, 1) := by decide +kernel
theorem dX5_nameOf_20 : decode cX5_nameOf 20 = .ok (.goto 4, 3) := by decide +kernel
theorem dX5_nameOf_23 : decode cX5_nameOf 23 = .ok (.iconst 0, 1) := by decide +kernel
theorem dX5_nameOf_24 : decode cX5_nameOf 24 = .ok (.ireturn, 1) := by decide +kernel
theorem dX5_find_0 : decode cX5_find 0 = .ok (.iconst 0, 1) := by decide +kernel
theorem dX5_find_1 : decode cX5_find 1 = .ok (.istore_n 3, 1) := by decide +kernel
theorem dX5_find_2 : decode cX5_find 2 = .ok (.iload_n 3, 1) := by decide +kernel
theorem dX5_find_3 : decode cX5_find 3 = .ok (.bipush 12, 2) := by decide +kernel
theorem dX5_find_5 : decode cX5_find 5 = .ok (.if_icmp .ge 35, 3) := by decide +kernel
theorem dX5_find_8 : decode cX5_find 8 = .ok (.aload_n 0, 1) := by decide +kernel
theorem dX5_find_9 : decode cX5_find 9 = .ok (.iload_n 1, 1) := by decide +kernel
theorem dX5_find_10 : decode cX5_find 10 = .ok (.iload_n 3, 1) := by decide +kernel
theorem dX5_find_11 : decode cX5_find 11 = .ok (.invokevirtual 63, 3) := by decide +kernel
theorem dX5_find_14 : decode cX5_find 14 = .ok (.ifCond .eq 26, 3) := by decide +kernel
theorem dX5_find_17 : decode cX5_find 17 = .ok (.aload_n 0, 1) := by decide +kernel
theorem dX5_find_18 : decode cX5_find 18 = .ok (.getfield 15, 3) := by decide +kernel
theorem dX5_find_21 : decode cX5_find 21 = .ok (.iload_n 1, 1) := by decide +kernel
theorem dX5_find_22 : decode cX5_find 22 = .ok (.bipush 12, 2) := by decide +kernel
theorem dX5_find_24 : decode cX5_find 24 = .ok (.imul, 1) := by decide +kernel
theorem dX5_find_25 : decode cX5_find 25 = .ok (.iload_n 3, 1) := by decide +kernel
theorem dX5_find_26 : decode cX5_find 26 = .ok (.iadd, 1) := by decide +kernel
theorem dX5_find_27 : decode cX5_find 27 = .ok (.iaload, 1) := by decide +kernel
theorem dX5_find_28 : decode cX5_find 28 = .ok (.iload_n 2, 1) := by decide +kernel
theorem dX5_find_29 : decode cX5_find 29 = .ok (.if_icmp .ne 5, 3) := by decide +kernel
theorem dX5_find_32 : decode cX5_find 32 = .ok (.iload_n 3, 1) := by decide +kernel
theorem dX5_find_33 : decode cX5_find 33 = .ok (.ireturn, 1) := by decide +kernel
theorem dX5_find_34 : decode cX5_find 34 = .ok (.iinc 3 1, 3) := by decide +kernel
theorem dX5_find_37 : decode cX5_find 37 = .ok (.goto (-35), 3) := by decide +kernel
theorem dX5_find_40 : decode cX5_find 40 = .ok (.iconst (-1), 1) := by decide +kernel
theorem dX5_find_41 : decode cX5_find 41 = .ok (.ireturn, 1) := by decide +kernel
theorem dX5_isGiven_0 : decode cX5_isGiven 0 = .ok (.aload_n 0, 1) := by decide +kernel
theorem dX5_isGiven_1 : decode cX5_isGiven 1 = .ok (.iconst 0, 1) := by decide +kernel
theorem dX5_isGiven_2 : decode cX5_isGiven 2 = .ok (.iload_n 1, 1) := by decide +kernel
theorem dX5_isGiven_3 : decode cX5_isGiven 3 = .ok (.invokevirtual 67, 3) := by decide +kernel
theorem dX5_isGiven_6 : decode cX5_isGiven 6 = .ok (.iconst (-1), 1) := by decide +kernel
theorem dX5_isGiven_7 : decode cX5_isGiven 7 = .ok (.if_icmp .ne 23, 3) := by decide +kernel
theorem dX5_isGiven_10 : decode cX5_isGiven 10 = .ok (.aload_n 0, 1) := by decide +kernel
theorem dX5_isGiven_11 : decode cX5_isGiven 11 = .ok (.iconst 1, 1) := by decide +kernel
theorem dX5_isGiven_12 : decode cX5_isGiven 12 = .ok (.iload_n 1, 1) := by decide +kernel
theorem dX5_isGiven_13 : decode cX5_isGiven 13 = .ok (.invokevirtual 67, 3) := by decide +kernel
theorem dX5_isGiven_16 : decode cX5_isGiven 16 = .ok (.iconst (-1), 1) := by decide +kernel
theorem dX5_isGiven_17 : decode cX5_isGiven 17 = .ok (.if_icmp .ne 13, 3) := by decide +kernel
theorem dX5_isGiven_20 : decode cX5_isGiven 20 = .ok (.aload_n 0, 1) := by decide +kernel
theorem dX5_isGiven_21 : decode cX5_isGiven 21 = .ok (.iconst 2, 1) := by decide +kernel
theorem dX5_isGiven_22 : decode cX5_isGiven 22 = .ok (.iload_n 1, 1) := by decide +kernel
theorem dX5_isGiven_23 : decode cX5_isGiven 23 = .ok (.invokevirtual 67, 3) := by decide +kernel
theorem dX5_isGiven_26 : decode cX5_isGiven 26 = .ok (.iconst (-1), 1) := by decide +kernel
theorem dX5_isGiven_27 : decode cX5_isGiven 27 = .ok (.if_icmp .eq 7, 3) := by decide +kernel
theorem dX5_isGiven_30 : decode cX5_isGiven 30 = .ok (.iconst 1, 1) := by decide +kernel
theorem dX5_isGiven_31 : decode cX5_isGiven 31 = .ok (.goto 4, 3) := by decide +kernel
theorem dX5_isGiven_34 : decode cX5_isGiven 34 = .ok (.iconst 0, 1) := by decide +kernel
theorem dX5_isGiven_35 : decode cX5_isGiven 35 = .ok (.ireturn, 1) := by decide +kernel
theorem dX5_give_0 : decode cX5_give 0 = .ok (.aload_n 0, 1) := by decide +kernel
theorem dX5_give_1 : decode cX5_give 1 = .ok (.iload_n 1, 1) := by decide +kernel
theorem dX5_give_2 : decode cX5_give 2 = .ok (.invokevirtual 71, 3) := by decide +kernel
theorem dX5_give_5 : decode cX5_give 5 = .ok (.ifCond .eq 5, 3) := by decide +kernel
theorem dX5_give_8 : decode cX5_give 8 = .ok (.iconst (-1), 1) := by decide +kernel
theorem dX5_give_9 : decode cX5_give 9 = .ok (.ireturn, 1) := by decide +kernel
theorem dX5_give_10 : decode cX5_give 10 = .ok (.aload_n 0, 1) := by decide +kernel
theorem dX5_give_11 : decode cX5_give 11 = .ok (.getfield 9, 3) := by decide +kernel
theorem dX5_give_14 : decode cX5_give 14 = .ok (.iload_n 1, 1) := by decide +kernel
theorem dX5_give_15 : decode cX5_give 15 = .ok (.iaload, 1) := by decide +kernel
theorem dX5_give_16 : decode cX5_give 16 = .ok (.istore_n 3, 1) := by decide +kernel
theorem dX5_give_17 : decode cX5_give 17 = .ok (.aload_n 0, 1) := by decide +kernel
theorem dX5_give_18 : decode cX5_give 18 = .ok (.getfield 15, 3) := by decide +kernel
theorem dX5_give_21 : decode cX5_give 21 = .ok (.iload_n 1, 1) := by decide +kernel
theorem dX5_give_22 : decode cX5_give 22 = .ok (.bipush 12, 2) := by decide +kernel
theorem dX5_give_24 : decode cX5_give 24 = .ok (.imul, 1) := by decide +kernel
theorem dX5_give_25 : decode cX5_give 25 = .ok (.iload_n 3, 1) := by decide +kernel
theorem dX5_give_26 : decode cX5_give 26 = .ok (.iadd, 1) := by decide +kernel
theorem dX5_give_27 : decode cX5_give 27 = .ok (.iload_n 2, 1) := by decide +kernel
theorem dX5_give_28 : decode cX5_give 28 = .ok (.iastore, 1) := by decide +kernel
theorem dX5_give_29 : decode cX5_give 29 = .ok (.aload_n 0, 1) := by decide +kernel
theorem dX5_give_30 : decode cX5_give 30 = .ok (.getfield 9, 3) := by decide +kernel
theorem dX5_give_33 : decode cX5_give 33 = .ok (.iload_n 1, 1) := by decide +kernel
theorem dX5_give_34 : decode cX5_give 34 = .ok (.dup2, 1) := by decide +kernel
theorem dX5_give_35 : decode cX5_give 35 = .ok (.iaload, 1) := by decide +kernel
theorem dX5_give_36 : decode cX5_give 36 = .ok (.iconst 1, 1) := by decide +kernel
theorem dX5_give_37 : decode cX5_give 37 = .ok (.iadd, 1) := by decide +kernel
theorem dX5_give_38 : decode cX5_give 38 = .ok (.iastore, 1) := by decide +kernel
theorem dX5_give_39 : decode cX5_give 39 = .ok (.iload_n 3, 1) := by decide +kernel
theorem dX5_give_40 : decode cX5_give 40 = .ok (.ireturn, 1) := by decide +kernel
theorem dX5_allPeople_0 : decode cX5_allPeople 0 = .ok (.iconst 1, 1) := by decide +kernel
theorem dX5_allPeople_1 : decode cX5_allPeople 1 = .ok (.aload_n 0, 1) := by decide +kernel
theorem dX5_allPeople_2 : decode cX5_allPeople 2 = .ok (.getfield 9, 3) := by decide +kernel
theorem dX5_allPeople_5 : decode cX5_allPeople 5 = .ok (.iconst 0, 1) := by decide +kernel
theorem dX5_allPeople_6 : decode cX5_allPeople 6 = .ok (.iaload, 1) := by decide +kernel
theorem dX5_allPeople_7 : decode cX5_allPeople 7 = .ok (.ishl, 1) := by decide +kernel
theorem dX5_allPeople_8 : decode cX5_allPeople 8 = .ok (.iconst 1, 1) := by decide +kernel
theorem dX5_allPeople_9 : decode cX5_allPeople 9 = .ok (.isub, 1) := by decide +kernel
theorem dX5_allPeople_10 : decode cX5_allPeople 10 = .ok (.ireturn, 1) := by decide +kernel
theorem dX5_worthOf_0 : decode cX5_worthOf 0 = .ok (.iconst 0, 1) := by decide +kernel
theorem dX5_worthOf_1 : decode cX5_worthOf 1 = .ok (.istore_n 2, 1) := by decide +kernel
theorem dX5_worthOf_2 : decode cX5_worthOf 2 = .ok (.iconst 0, 1) := by decide +kernel
theorem dX5_worthOf_3 : decode cX5_worthOf 3 = .ok (.istore_n 3, 1) := by decide +kernel
theorem dX5_worthOf_4 : decode cX5_worthOf 4 = .ok (.iload_n 3, 1) := by decide +kernel
theorem dX5_worthOf_5 : decode cX5_worthOf 5 = .ok (.aload_n 0, 1) := by decide +kernel
theorem dX5_worthOf_6 : decode cX5_worthOf 6 = .ok (.getfield 9, 3) := by decide +kernel
theorem dX5_worthOf_9 : decode cX5_worthOf 9 = .ok (.iconst 1, 1) := by decide +kernel
theorem dX5_worthOf_10 : decode cX5_worthOf 10 = .ok (.iaload, 1) := by decide +kernel
theorem dX5_worthOf_11 : decode cX5_worthOf 11 = .ok (.if_icmp .ge 26, 3) := by decide +kernel
theorem dX5_worthOf_14 : decode cX5_worthOf 14 = .ok (.iload_n 1, 1) := by decide +kernel
theorem dX5_worthOf_15 : decode cX5_worthOf 15 = .ok (.iload_n 3, 1) := by decide +kernel
theorem dX5_worthOf_16 : decode cX5_worthOf 16 = .ok (.invokestatic 75, 3) := by decide +kernel
theorem dX5_worthOf_19 : decode cX5_worthOf 19 = .ok (.ifCond .eq 12, 3) := by decide +kernel
theorem dX5_worthOf_22 : decode cX5_worthOf 22 = .ok (.iload_n 2, 1) := by decide +kernel
theorem dX5_worthOf_23 : decode cX5_worthOf 23 = .ok (.aload_n 0, 1) := by decide +kernel
theorem dX5_worthOf_24 : decode cX5_worthOf 24 = .ok (.getfield 21, 3) := by decide +kernel
theorem dX5_worthOf_27 : decode cX5_worthOf 27 = .ok (.iload_n 3, 1) := by decide +kernel
theorem dX5_worthOf_28 : decode cX5_worthOf 28 = .ok (.iaload, 1) := by decide +kernel
theorem dX5_worthOf_29 : decode cX5_worthOf 29 = .ok (.iadd, 1) := by decide +kernel
theorem dX5_worthOf_30 : decode cX5_worthOf 30 = .ok (.istore_n 2, 1) := by decide +kernel
theorem dX5_worthOf_31 : decode cX5_worthOf 31 = .ok (.iinc 3 1, 3) := by decide +kernel
theorem dX5_worthOf_34 : decode cX5_worthOf 34 = .ok (.goto (-30), 3) := by decide +kernel
theorem dX5_worthOf_37 : decode cX5_worthOf 37 = .ok (.iload_n 2, 1) := by decide +kernel
theorem dX5_worthOf_38 : decode cX5_worthOf 38 = .ok (.ireturn, 1) := by decide +kernel
theorem dX5_difference_0 : decode cX5_difference 0 = .ok (.aload_n 0, 1) := by decide +kernel
theorem dX5_difference_1 : decode cX5_difference 1 = .ok (.iload_n 2, 1) := by decide +kernel
theorem dX5_difference_2 : decode cX5_difference 2 = .ok (.invokevirtual 78, 3) := by decide +kernel
theorem dX5_difference_5 : decode cX5_difference 5 = .ok (.iconst 2, 1) := by decide +kernel
theorem dX5_difference_6 : decode cX5_difference 6 = .ok (.aload_n 0, 1) := by decide +kernel
theorem dX5_difference_7 : decode cX5_difference 7 = .ok (.iload_n 1, 1) := by decide +kernel
theorem dX5_difference_8 : decode cX5_difference 8 = .ok (.invokevirtual 78, 3) := by decide +kernel
theorem dX5_difference_11 : decode cX5_difference 11 = .ok (.imul, 1) := by decide +kernel
theorem dX5_difference_12 : decode cX5_difference 12 = .ok (.isub, 1) := by decide +kernel
theorem dX5_difference_13 : decode cX5_difference 13 = .ok (.invokestatic 81, 3) := by decide +kernel
theorem dX5_difference_16 : decode cX5_difference 16 = .ok (.ireturn, 1) := by decide +kernel
theorem dX5_fairPurse_0 : decode cX5_fairPurse 0 = .ok (.iconst 0, 1) := by decide +kernel
theorem dX5_fairPurse_1 : decode cX5_fairPurse 1 = .ok (.istore_n 2, 1) := by decide +kernel
theorem dX5_fairPurse_2 : decode cX5_fairPurse 2 = .ok (.iconst 0, 1) := by decide +kernel
theorem dX5_fairPurse_3 : decode cX5_fairPurse 3 = .ok (.istore_n 3, 1) := by decide +kernel
theorem dX5_fairPurse_4 : decode cX5_fairPurse 4 = .ok (.aload_n 0, 1) := by decide +kernel
theorem dX5_fairPurse_5 : decode cX5_fairPurse 5 = .ok (.iconst 0, 1) := by decide +kernel
theorem dX5_fairPurse_6 : decode cX5_fairPurse 6 = .ok (.iload_n 1, 1) := by decide +kernel
theorem dX5_fairPurse_7 : decode cX5_fairPurse 7 = .ok (.invokevirtual 86, 3) := by decide +kernel
theorem dX5_fairPurse_10 : decode cX5_fairPurse 10 = .ok (.istore 4, 2) := by decide +kernel
theorem dX5_fairPurse_12 : decode cX5_fairPurse 12 = .ok (.iconst 0, 1) := by decide +kernel
theorem dX5_fairPurse_13 : decode cX5_fairPurse 13 = .ok (.istore 5, 2) := by decide +kernel
theorem dX5_fairPurse_15 : decode cX5_fairPurse 15 = .ok (.iload 5, 2) := by decide +kernel
theorem dX5_fairPurse_17 : decode cX5_fairPurse 17 = .ok (.sipush 4096, 3) := by decide +kernel
theorem dX5_fairPurse_20 : decode cX5_fairPurse 20 = .ok (.if_icmp .ge 42, 3) := by decide +kernel
theorem dX5_fairPurse_23 : decode cX5_fairPurse 23 = .ok (.iload_n 3, 1) := by decide +kernel
theorem dX5_fairPurse_24 : decode cX5_fairPurse 24 = .ok (.iload_n 1, 1) := by decide +kernel
theorem dX5_fairPurse_25 : decode cX5_fairPurse 25 = .ok (.isub, 1) := by decide +kernel
theorem dX5_fairPurse_26 : decode cX5_fairPurse 26 = .ok (.iload_n 1, 1) := by decide +kernel
theorem dX5_fairPurse_27 : decode cX5_fairPurse 27 = .ok (.iand, 1) := by decide +kernel
theorem dX5_fairPurse_28 : decode cX5_fairPurse 28 = .ok (.istore_n 3, 1) := by decide +kernel
theorem dX5_fairPurse_29 : decode cX5_fairPurse 29 = .ok (.iload_n 3, 1) := by decide +kernel
theorem dX5_fairPurse_30 : decode cX5_fairPurse 30 = .ok (.ifCond .ne 5, 3) := by decide +kernel
theorem dX5_fairPurse_33 : decode cX5_fairPurse 33 = .ok (.iload_n 2, 1) := by decide +kernel
theorem dX5_fairPurse_34 : decode cX5_fairPurse 34 = .ok (.ireturn, 1) := by decide +kernel
theorem dX5_fairPurse_35 : decode cX5_fairPurse 35 = .ok (.aload_n 0, 1) := by decide +kernel
theorem dX5_fairPurse_36 : decode cX5_fairPurse 36 = .ok (.iload_n 3, 1) := by decide +kernel
theorem dX5_fairPurse_37 : decode cX5_fairPurse 37 = .ok (.iload_n 1, 1) := by decide +kernel
theorem dX5_fairPurse_38 : decode cX5_fairPurse 38 = .ok (.invokevirtual 86, 3) := by decide +kernel
theorem dX5_fairPurse_41 : decode cX5_fairPurse 41 = .ok (.istore 6, 2) := by decide +kernel
theorem dX5_fairPurse_43 : decode cX5_fairPurse 43 = .ok (.iload 6, 2) := by decide +kernel
theorem dX5_fairPurse_45 : decode cX5_fairPurse 45 = .ok (.iload 4, 2) := by decide +kernel
theorem dX5_fairPurse_47 : decode cX5_fairPurse 47 = .ok (.if_icmp .ge 9, 3) := by decide +kernel
theorem dX5_fairPurse_50 : decode cX5_fairPurse 50 = .ok (.iload 6, 2) := by decide +kernel
theorem dX5_fairPurse_52 : decode cX5_fairPurse 52 = .ok (.istore 4, 2) := by decide +kernel
theorem dX5_fairPurse_54 : decode cX5_fairPurse 54 = .ok (.iload_n 3, 1) := by decide +kernel
theorem dX5_fairPurse_55 : decode cX5_fairPurse 55 = .ok (.istore_n 2, 1) := by decide +kernel
theorem dX5_fairPurse_56 : decode cX5_fairPurse 56 = .ok (.iinc 5 1, 3) := by decide +kernel
theorem dX5_fairPurse_59 : decode cX5_fairPurse 59 = .ok (.goto (-44), 3) := by decide +kernel
theorem dX5_fairPurse_62 : decode cX5_fairPurse 62 = .ok (.iload_n 2, 1) := by decide +kernel
theorem dX5_fairPurse_63 : decode cX5_fairPurse 63 = .ok (.ireturn, 1) := by decide +kernel
theorem dX5_fewestWorth_0 : decode cX5_fewestWorth 0 = .ok (.iconst (-1), 1) := by decide +kernel
theorem dX5_fewestWorth_1 : decode cX5_fewestWorth 1 = .ok (.istore_n 3, 1) := by decide +kernel
theorem dX5_fewestWorth_2 : decode cX5_fewestWorth 2 = .ok (.bipush 13, 2) := by decide +kernel
theorem dX5_fewestWorth_4 : decode cX5_fewestWorth 4 = .ok (.istore 4, 2) := by decide +kernel
theorem dX5_fewestWorth_6 : decode cX5_fewestWorth 6 = .ok (.iconst 0, 1) := by decide +kernel
theorem dX5_fewestWorth_7 : decode cX5_fewestWorth 7 = .ok (.istore 5, 2) := by decide +kernel
theorem dX5_fewestWorth_9 : decode cX5_fewestWorth 9 = .ok (.iconst 0, 1) := by decide +kernel
theorem dX5_fewestWorth_10 : decode cX5_fewestWorth 10 = .ok (.istore 6, 2) := by decide +kernel
theorem dX5_fewestWorth_12 : decode cX5_fewestWorth 12 = .ok (.iload 6, 2) := by decide +kernel
theorem dX5_fewestWorth_14 : decode cX5_fewestWorth 14 = .ok (.sipush 4096, 3) := by decide +kernel
theorem dX5_fewestWorth_17 : decode cX5_fewestWorth 17 = .ok (.if_icmp .ge 55, 3) := by decide +kernel
theorem dX5_fewestWorth_20 : decode cX5_fewestWorth 20 = .ok (.iload 5, 2) := by decide +kernel
theorem dX5_fewestWorth_22 : decode cX5_fewestWorth 22 = .ok (.invokestatic 89, 3) := by decide +kernel
theorem dX5_fewestWorth_25 : decode cX5_fewestWorth 25 = .ok (.istore 7, 2) := by decide +kernel
theorem dX5_fewestWorth_27 : decode cX5_fewestWorth 27 = .ok (.iload 7, 2) := by decide +kernel
theorem dX5_fewestWorth_29 : decode cX5_fewestWorth 29 = .ok (.iload 4, 2) := by decide +kernel
theorem dX5_fewestWorth_31 : decode cX5_fewestWorth 31 = .ok (.if_icmp .ge 20, 3) := by decide +kernel
theorem dX5_fewestWorth_34 : decode cX5_fewestWorth 34 = .ok (.aload_n 0, 1) := by decide +kernel
theorem dX5_fewestWorth_35 : decode cX5_fewestWorth 35 = .ok (.iload 5, 2) := by decide +kernel
theorem dX5_fewestWorth_37 : decode cX5_fewestWorth 37 = .ok (.invokevirtual 78, 3) := by decide +kernel
theorem dX5_fewestWorth_40 : decode cX5_fewestWorth 40 = .ok (.iload_n 2, 1) := by decide +kernel
theorem dX5_fewestWorth_41 : decode cX5_fewestWorth 41 = .ok (.if_icmp .ne 10, 3) := by decide +kernel
theorem dX5_fewestWorth_44 : decode cX5_fewestWorth 44 = .ok (.iload 7, 2) := by decide +kernel
theorem dX5_fewestWorth_46 : decode cX5_fewestWorth 46 = .ok (.istore 4, 2) := by decide +kernel
theorem dX5_fewestWorth_48 : decode cX5_fewestWorth 48 = .ok (.iload 5, 2) := by decide +kernel
theorem dX5_fewestWorth_50 : decode cX5_fewestWorth 50 = .ok (.istore_n 3, 1) := by decide +kernel
theorem dX5_fewestWorth_51 : decode cX5_fewestWorth 51 = .ok (.iload 5, 2) := by decide +kernel
theorem dX5_fewestWorth_53 : decode cX5_fewestWorth 53 = .ok (.iload_n 1, 1) := by decide +kernel
theorem dX5_fewestWorth_54 : decode cX5_fewestWorth 54 = .ok (.isub, 1) := by decide +kernel
theorem dX5_fewestWorth_55 : decode cX5_fewestWorth 55 = .ok (.iload_n 1, 1) := by decide +kernel
theorem dX5_fewestWorth_56 : decode cX5_fewestWorth 56 = .ok (.iand, 1) := by decide +kernel
theorem dX5_fewestWorth_57 : decode cX5_fewestWorth 57 = .ok (.istore 5, 2) := by decide +kernel
theorem dX5_fewestWorth_59 : decode cX5_fewestWorth 59 = .ok (.iload 5, 2) := by decide +kernel
theorem dX5_fewestWorth_61 : decode cX5_fewestWorth 61 = .ok (.ifCond .ne 5, 3) := by decide +kernel
theorem dX5_fewestWorth_64 : decode cX5_fewestWorth 64 = .ok (.iload_n 3, 1) := by decide +kernel
theorem dX5_fewestWorth_65 : decode cX5_fewestWorth 65 = .ok (.ireturn, 1) := by decide +kernel
theorem dX5_fewestWorth_66 : decode cX5_fewestWorth 66 = .ok (.iinc 6 1, 3) := by decide +kernel
theorem dX5_fewestWorth_69 : decode cX5_fewestWorth 69 = .ok (.goto (-57), 3) := by decide +kernel
theorem dX5_fewestWorth_72 : decode cX5_fewestWorth 72 = .ok (.iload_n 3, 1) := by decide +kernel
theorem dX5_fewestWorth_73 : decode cX5_fewestWorth 73 = .ok (.ireturn, 1) := by decide +kernel
theorem dX6_init_0 : decode cX6_init 0 = .ok (.aload_n 0, 1) := by decide +kernel
theorem dX6_init_1 : decode cX6_init 1 = .ok (.invokespecial 3, 3) := by decide +kernel
theorem dX6_init_4 : decode cX6_init 4 = .ok (.aload_n 0, 1) := by decide +kernel
theorem dX6_init_5 : decode cX6_init 5 = .ok (.new 9, 3) := by decide +kernel
theorem dX6_init_8 : decode cX6_init 8 = .ok (.dup, 1) := by decide +kernel
theorem dX6_init_9 : decode cX6_init 9 = .ok (.invokespecial 11, 3) := by decide +kernel
theorem dX6_init_12 : decode cX6_init 12 = .ok (.putfield 12, 3) := by decide +kernel
theorem dX6_init_15 : decode cX6_init 15 = .ok (.aload_n 0, 1) := by decide +kernel
theorem dX6_init_16 : decode cX6_init 16 = .ok (.new 18, 3) := by decide +kernel
theorem dX6_init_19 : decode cX6_init 19 = .ok (.dup, 1) := by decide +kernel
theorem dX6_init_20 : decode cX6_init 20 = .ok (.invokespecial 20, 3) := by decide +kernel
theorem dX6_init_23 : decode cX6_init 23 = .ok (.putfield 21, 3) := by decide +kernel
theorem dX6_init_26 : decode cX6_init 26 = .ok (.aload_n 0, 1) := by decide +kernel
theorem dX6_init_27 : decode cX6_init 27 = .ok (.aload_n 0, 1) := by decide +kernel
theorem dX6_init_28 : decode cX6_init 28 = .ok (.getfield 21, 3) := by decide +kernel
theorem dX6_init_31 : decode cX6_init 31 = .ok (.getfield 25, 3) := by decide +kernel
theorem dX6_init_34 : decode cX6_init 34 = .ok (.putfield 29, 3) := by decide +kernel
theorem dX6_init_37 : decode cX6_init 37 = .ok (.aload_n 0, 1) := by decide +kernel
theorem dX6_init_38 : decode cX6_init 38 = .ok (.iconst (-1), 1) := by decide +kernel
theorem dX6_init_39 : decode cX6_init 39 = .ok (.putfield 32, 3) := by decide +kernel
theorem dX6_init_42 : decode cX6_init 42 = .ok (.return_, 1) := by decide +kernel
theorem dX6_exchange_0 : decode cX6_exchange 0 = .ok (.aload_n 0, 1) := by decide +kernel
theorem dX6_exchange_1 : decode cX6_exchange 1 = .ok (.getfield 21, 3) := by decide +kernel
theorem dX6_exchange_4 : decode cX6_exchange 4 = .ok (.astore_n 2, 1) := by decide +kernel
theorem dX6_exchange_5 : decode cX6_exchange 5 = .ok (.aload_n 0, 1) := by decide +kernel
theorem dX6_exchange_6 : decode cX6_exchange 6 = .ok (.aload_n 1, 1) := by decide +kernel
theorem dX6_exchange_7 : decode cX6_exchange 7 = .ok (.putfield 21, 3) := by decide +kernel
theorem dX6_exchange_10 : decode cX6_exchange 10 = .ok (.aload_n 0, 1) := by decide +kernel
theorem dX6_exchange_11 : decode cX6_exchange 11 = .ok (.aload_n 1, 1) := by decide +kernel
theorem dX6_exchange_12 : decode cX6_exchange 12 = .ok (.getfield 25, 3) := by decide +kernel
theorem dX6_exchange_15 : decode cX6_exchange 15 = .ok (.putfield 29, 3) := by decide +kernel
theorem dX6_exchange_18 : decode cX6_exchange 18 = .ok (.aload_n 2, 1) := by decide +kernel
theorem dX6_exchange_19 : decode cX6_exchange 19 = .ok (.areturn, 1) := by decide +kernel
theorem dX6_tell_0 : decode cX6_tell 0 = .ok (.aload_n 0, 1) := by decide +kernel
theorem dX6_tell_1 : decode cX6_tell 1 = .ok (.getfield 21, 3) := by decide +kernel
theorem dX6_tell_4 : decode cX6_tell 4 = .ok (.invokevirtual 36, 3) := by decide +kernel
theorem dX6_tell_7 : decode cX6_tell 7 = .ok (.aload_n 0, 1) := by decide +kernel
theorem dX6_tell_8 : decode cX6_tell 8 = .ok (.iconst 0, 1) := by decide +kernel
theorem dX6_tell_9 : decode cX6_tell 9 = .ok (.putfield 39, 3) := by decide +kernel
theorem dX6_tell_12 : decode cX6_tell 12 = .ok (.aload_n 0, 1) := by decide +kernel
theorem dX6_tell_13 : decode cX6_tell 13 = .ok (.iconst 0, 1) := by decide +kernel
theorem dX6_tell_14 : decode cX6_tell 14 = .ok (.putfield 42, 3) := by decide +kernel
theorem dX6_tell_17 : decode cX6_tell 17 = .ok (.aload_n 0, 1) := by decide +kernel
theorem dX6_tell_18 : decode cX6_tell 18 = .ok (.iconst (-1), 1) := by decide +kernel
theorem dX6_tell_19 : decode cX6_tell 19 = .ok (.putfield 32, 3) := by decide +kernel
theorem dX6_tell_22 : decode cX6_tell 22 = .ok (.aload_n 0, 1) := by decide +kernel
theorem dX6_tell_23 : decode cX6_tell 23 = .ok (.getfield 12, 3) := by decide +kernel
theorem dX6_tell_26 : decode cX6_tell 26 = .ok (.aload_n 1, 1) := by decide +kernel
theorem dX6_tell_27 : decode cX6_tell 27 = .ok (.iload_n 2, 1) := by decide +kernel
theorem dX6_tell_28 : decode cX6_tell 28 = .ok (.invokevirtual 45, 3) := by decide +kernel
theorem dX6_tell_31 : decode cX6_tell 31 = .ok (.iconst 0, 1) := by decide +kernel
theorem dX6_tell_32 : decode cX6_tell 32 = .ok (.istore_n 3, 1) := by decide +kernel
theorem dX6_tell_33 : decode cX6_tell 33 = .ok (.iload_n 3, 1) := by decide +kernel
theorem dX6_tell_34 : decode cX6_tell 34 = .ok (.sipush 1600, 3) := by decide +kernel
theorem dX6_tell_37 : decode cX6_tell 37 = .ok (.if_icmp .ge 52, 3) := by decide +kernel
theorem dX6_tell_40 : decode cX6_tell 40 = .ok (.aload_n 0, 1) := by decide +kernel
theorem dX6_tell_41 : decode cX6_tell 41 = .ok (.getfield 12, 3) := by decide +kernel
theorem dX6_tell_44 : decode cX6_tell 44 = .ok (.getfield 49, 3) := by decide +kernel
theorem dX6_tell_47 : decode cX6_tell 47 = .ok (.ifCond .eq 42, 3) := by decide +kernel
theorem dX6_tell_50 : decode cX6_tell 50 = .ok (.iload_n 3, 1) := by decide +kernel
theorem dX6_tell_51 : decode cX6_tell 51 = .ok (.bipush 80, 2) := by decide +kernel
theorem dX6_tell_53 : decode cX6_tell 53 = .ok (.if_icmp .ne 12, 3) := by decide +kernel
theorem dX6_tell_56 : decode cX6_tell 56 = .ok (.aload_n 0, 1) := by decide +kernel
theorem dX6_tell_57 : decode cX6_tell 57 = .ok (.bipush 6, 2) := by decide +kernel
theorem dX6_tell_59 : decode cX6_tell 59 = .ok (.invokevirtual 52, 3) := by decide +kernel
theorem dX6_tell_62 : decode cX6_tell 62 = .ok (.pop, 1) := by decide +kernel
theorem dX6_tell_63 : decode cX6_tell 63 = .ok (.iconst (-1), 1) := by decide +kernel
theorem dX6_tell_64 : decode cX6_tell 64 = .ok (.ireturn, 1) := by decide +kernel
theorem dX6_tell_65 : decode cX6_tell 65 = .ok (.aload_n 0, 1) := by decide +kernel
theorem dX6_tell_66 : decode cX6_tell 66 = .ok (.invokevirtual 56, 3) := by decide +kernel
theorem dX6_tell_69 : decode cX6_tell 69 = .ok (.ifCond .eq 12, 3) := by decide +kernel
theorem dX6_tell_72 : decode cX6_tell 72 = .ok (.aload_n 0, 1) := by decide +kernel
theorem dX6_tell_73 : decode cX6_tell 73 = .ok (.bipush 59, 2) := by decide +kernel
theorem dX6_tell_75 : decode cX6_tell 75 = .ok (.invokevirtual 60, 3) := by decide +kernel
theorem dX6_tell_78 : decode cX6_tell 78 = .ok (.ifCond .ne 5, 3) := by decide +kernel
theorem dX6_tell_81 : decode cX6_tell 81 = .ok (.iconst (-1), 1) := by decide +kernel
theorem dX6_tell_82 : decode cX6_tell 82 = .ok (.ireturn, 1) := by decide +kernel
theorem dX6_tell_83 : decode cX6_tell 83 = .ok (.iinc 3 1, 3) := by decide +kernel
theorem dX6_tell_86 : decode cX6_tell 86 = .ok (.goto (-53), 3) := by decide +kernel
theorem dX6_tell_89 : decode cX6_tell 89 = .ok (.iload_n 3, 1) := by decide +kernel
theorem dX6_tell_90 : decode cX6_tell 90 = .ok (.ireturn, 1) := by decide +kernel
theorem dX6_statement_0 : decode cX6_statement 0 = .ok (.aload_n 0, 1) := by decide +kernel
theorem dX6_statement_1 : decode cX6_statement 1 = .ok (.getfield 12, 3) := by decide +kernel
theorem dX6_statement_4 : decode cX6_statement 4 = .ok (.getfield 49, 3) := by decide +kernel
theorem dX6_statement_7 : decode cX6_statement 7 = .ok (.iconst 4, 1) := by decide +kernel
theorem dX6_statement_8 : decode cX6_statement 8 = .ok (.if_icmp .ne 13, 3) := by decide +kernel
theorem dX6_statement_11 : decode cX6_statement 11 = .ok (.aload_n 0, 1) := by decide +kernel
theorem dX6_statement_12 : decode cX6_statement 12 = .ok (.getfield 12, 3) := by decide +kernel
theorem dX6_statement_15 : decode cX6_statement 15 = .ok (.getfield 64, 3) := by decide +kernel
theorem dX6_statement_18 : decode cX6_statement 18 = .ok (.goto 4, 3) := by decide +kernel
theorem dX6_statement_21 : decode cX6_statement 21 = .ok (.iconst (-1), 1) := by decide +kernel
theorem dX6_statement_22 : decode cX6_statement 22 = .ok (.tableswitch 106 0 12 #[66, 106, 71, 106, 106, 106, 76, 106, 81, 86, 91, 96, 101], 66) := by decide +kernel
theorem dX6_statement_88 : decode cX6_statement 88 = .ok (.aload_n 0, 1) := by decide +kernel
theorem dX6_statement_89 : decode cX6_statement 89 = .ok (.invokevirtual 67, 3) := by decide +kernel
theorem dX6_statement_92 : decode cX6_statement 92 = .ok (.ireturn, 1) := by decide +kernel
theorem dX6_statement_93 : decode cX6_statement 93 = .ok (.aload_n 0, 1) := by decide +kernel
theorem dX6_statement_94 : decode cX6_statement 94 = .ok (.invokevirtual 70, 3) := by decide +kernel
theorem dX6_statement_97 : decode cX6_statement 97 = .ok (.ireturn, 1) := by decide +kernel
theorem dX6_statement_98 : decode cX6_statement 98 = .ok (.aload_n 0, 1) := by decide +kernel
theorem dX6_statement_99 : decode cX6_statement 99 = .ok (.invokevirtual 73, 3) := by decide +kernel
theorem dX6_statement_102 : decode cX6_statement 102 = .ok (.ireturn, 1) := by decide +kernel
theorem dX6_statement_103 : decode cX6_statement 103 = .ok (.aload_n 0, 1) := by decide +kernel
theorem dX6_statement_104 : decode cX6_statement 104 = .ok (.invokevirtual 76, 3) := by decide +kernel
theorem dX6_statement_107 : decode cX6_statement 107 = .ok (.ireturn, 1) := by decide +kernel
theorem dX6_statement_108 : decode cX6_statement 108 = .ok (.aload_n 0, 1) := by decide +kernel
theorem dX6_statement_109 : decode cX6_statement 109 = .ok (.invokevirtual 79, 3) := by decide +kernel
theorem dX6_statement_112 : decode cX6_statement 112 = .ok (.ireturn, 1) := by decide +kernel
