theorem dX6_statement_113 : decode cX6_statement 113 = .ok (.aload_n 0, 1) := by decide +kernel
theorem dX6_statement_114 : decode cX6_statement 114 = .ok (.invokevirtual 82, 3) := by decide +kernel
theorem dX6_statement_117 : decode cX6_statement 117 = .ok (.ireturn, 1) := by decide +kernel
theorem dX6_statement_118 : decode cX6_statement 118 = .ok (.aload_n 0, 1) := by decide +kernel
theorem dX6_statement_119 : decode cX6_statement 119 = .ok (.invokevirtual 85, 3) := by decide +kernel
theorem dX6_statement_122 : decode cX6_statement 122 = .ok (.ireturn, 1) := by decide +kernel
theorem dX6_statement_123 : decode cX6_statement 123 = .ok (.aload_n 0, 1) := by decide +kernel
theorem dX6_statement_124 : decode cX6_statement 124 = .ok (.invokevirtual 88, 3) := by decide +kernel
theorem dX6_statement_127 : decode cX6_statement 127 = .ok (.ireturn, 1) := by decide +kernel
theorem dX6_statement_128 : decode cX6_statement 128 = .ok (.aload_n 0, 1) := by decide +kernel
theorem dX6_statement_129 : decode cX6_statement 129 = .ok (.iconst 1, 1) := by decide +kernel
theorem dX6_statement_130 : decode cX6_statement 130 = .ok (.invokevirtual 52, 3) := by decide +kernel
theorem dX6_statement_133 : decode cX6_statement 133 = .ok (.ireturn, 1) := by decide +kernel
theorem dX6_tellPerson_0 : decode cX6_tellPerson 0 = .ok (.aload_n 0, 1) := by decide +kernel
theorem dX6_tellPerson_1 : decode cX6_tellPerson 1 = .ok (.iconst 0, 1) := by decide +kernel
theorem dX6_tellPerson_2 : decode cX6_tellPerson 2 = .ok (.invokevirtual 91, 3) := by decide +kernel
theorem dX6_tellPerson_5 : decode cX6_tellPerson 5 = .ok (.istore_n 1, 1) := by decide +kernel
theorem dX6_tellPerson_6 : decode cX6_tellPerson 6 = .ok (.iload_n 1, 1) := by decide +kernel
theorem dX6_tellPerson_7 : decode cX6_tellPerson 7 = .ok (.iconst (-1), 1) := by decide +kernel
theorem dX6_tellPerson_8 : decode cX6_tellPerson 8 = .ok (.if_icmp .eq 11, 3) := by decide +kernel
theorem dX6_tellPerson_11 : decode cX6_tellPerson 11 = .ok (.aload_n 0, 1) := by decide +kernel
theorem dX6_tellPerson_12 : decode cX6_tellPerson 12 = .ok (.iconst 1, 1) := by decide +kernel
theorem dX6_tellPerson_13 : decode cX6_tellPerson 13 = .ok (.invokevirtual 95, 3) := by decide +kernel
theorem dX6_tellPerson_16 : decode cX6_tellPerson 16 = .ok (.ifCond .ne 5, 3) := by decide +kernel
theorem dX6_tellPerson_19 : decode cX6_tellPerson 19 = .ok (.iconst 0, 1) := by decide +kernel
theorem dX6_tellPerson_20 : decode cX6_tellPerson 20 = .ok (.ireturn, 1) := by decide +kernel
theorem dX6_tellPerson_21 : decode cX6_tellPerson 21 = .ok (.aload_n 0, 1) := by decide +kernel
theorem dX6_tellPerson_22 : decode cX6_tellPerson 22 = .ok (.iconst 0, 1) := by decide +kernel
theorem dX6_tellPerson_23 : decode cX6_tellPerson 23 = .ok (.bipush 9, 2) := by decide +kernel
theorem dX6_tellPerson_25 : decode cX6_tellPerson 25 = .ok (.invokevirtual 98, 3) := by decide +kernel
theorem dX6_tellPerson_28 : decode cX6_tellPerson 28 = .ok (.istore_n 2, 1) := by decide +kernel
theorem dX6_tellPerson_29 : decode cX6_tellPerson 29 = .ok (.aload_n 0, 1) := by decide +kernel
theorem dX6_tellPerson_30 : decode cX6_tellPerson 30 = .ok (.getfield 21, 3) := by decide +kernel
theorem dX6_tellPerson_33 : decode cX6_tellPerson 33 = .ok (.getfield 102, 3) := by decide +kernel
theorem dX6_tellPerson_36 : decode cX6_tellPerson 36 = .ok (.iload_n 1, 1) := by decide +kernel
theorem dX6_tellPerson_37 : decode cX6_tellPerson 37 = .ok (.iload_n 2, 1) := by decide +kernel
theorem dX6_tellPerson_38 : decode cX6_tellPerson 38 = .ok (.iastore, 1) := by decide +kernel
theorem dX6_tellPerson_39 : decode cX6_tellPerson 39 = .ok (.iload_n 2, 1) := by decide +kernel
theorem dX6_tellPerson_40 : decode cX6_tellPerson 40 = .ok (.iconst (-1), 1) := by decide +kernel
theorem dX6_tellPerson_41 : decode cX6_tellPerson 41 = .ok (.if_icmp .eq 7, 3) := by decide +kernel
theorem dX6_tellPerson_44 : decode cX6_tellPerson 44 = .ok (.iconst 1, 1) := by decide +kernel
theorem dX6_tellPerson_45 : decode cX6_tellPerson 45 = .ok (.goto 4, 3) := by decide +kernel
theorem dX6_tellPerson_48 : decode cX6_tellPerson 48 = .ok (.iconst 0, 1) := by decide +kernel
theorem dX6_tellPerson_49 : decode cX6_tellPerson 49 = .ok (.ireturn, 1) := by decide +kernel
theorem dX6_tellCoin_0 : decode cX6_tellCoin 0 = .ok (.aload_n 0, 1) := by decide +kernel
theorem dX6_tellCoin_1 : decode cX6_tellCoin 1 = .ok (.iconst 1, 1) := by decide +kernel
theorem dX6_tellCoin_2 : decode cX6_tellCoin 2 = .ok (.invokevirtual 91, 3) := by decide +kernel
theorem dX6_tellCoin_5 : decode cX6_tellCoin 5 = .ok (.istore_n 1, 1) := by decide +kernel
theorem dX6_tellCoin_6 : decode cX6_tellCoin 6 = .ok (.iload_n 1, 1) := by decide +kernel
theorem dX6_tellCoin_7 : decode cX6_tellCoin 7 = .ok (.iconst (-1), 1) := by decide +kernel
theorem dX6_tellCoin_8 : decode cX6_tellCoin 8 = .ok (.if_icmp .eq 11, 3) := by decide +kernel
theorem dX6_tellCoin_11 : decode cX6_tellCoin 11 = .ok (.aload_n 0, 1) := by decide +kernel
theorem dX6_tellCoin_12 : decode cX6_tellCoin 12 = .ok (.iconst 3, 1) := by decide +kernel
theorem dX6_tellCoin_13 : decode cX6_tellCoin 13 = .ok (.invokevirtual 95, 3) := by decide +kernel
theorem dX6_tellCoin_16 : decode cX6_tellCoin 16 = .ok (.ifCond .ne 5, 3) := by decide +kernel
theorem dX6_tellCoin_19 : decode cX6_tellCoin 19 = .ok (.iconst 0, 1) := by decide +kernel
theorem dX6_tellCoin_20 : decode cX6_tellCoin 20 = .ok (.ireturn, 1) := by decide +kernel
theorem dX6_tellCoin_21 : decode cX6_tellCoin 21 = .ok (.aload_n 0, 1) := by decide +kernel
theorem dX6_tellCoin_22 : decode cX6_tellCoin 22 = .ok (.iconst 1, 1) := by decide +kernel
theorem dX6_tellCoin_23 : decode cX6_tellCoin 23 = .ok (.bipush 99, 2) := by decide +kernel
theorem dX6_tellCoin_25 : decode cX6_tellCoin 25 = .ok (.invokevirtual 98, 3) := by decide +kernel
theorem dX6_tellCoin_28 : decode cX6_tellCoin 28 = .ok (.istore_n 2, 1) := by decide +kernel
theorem dX6_tellCoin_29 : decode cX6_tellCoin 29 = .ok (.iload_n 2, 1) := by decide +kernel
theorem dX6_tellCoin_30 : decode cX6_tellCoin 30 = .ok (.iconst (-1), 1) := by decide +kernel
theorem dX6_tellCoin_31 : decode cX6_tellCoin 31 = .ok (.if_icmp .eq 11, 3) := by decide +kernel
theorem dX6_tellCoin_34 : decode cX6_tellCoin 34 = .ok (.aload_n 0, 1) := by decide +kernel
theorem dX6_tellCoin_35 : decode cX6_tellCoin 35 = .ok (.iconst 4, 1) := by decide +kernel
theorem dX6_tellCoin_36 : decode cX6_tellCoin 36 = .ok (.invokevirtual 95, 3) := by decide +kernel
theorem dX6_tellCoin_39 : decode cX6_tellCoin 39 = .ok (.ifCond .ne 5, 3) := by decide +kernel
theorem dX6_tellCoin_42 : decode cX6_tellCoin 42 = .ok (.iconst 0, 1) := by decide +kernel
theorem dX6_tellCoin_43 : decode cX6_tellCoin 43 = .ok (.ireturn, 1) := by decide +kernel
theorem dX6_tellCoin_44 : decode cX6_tellCoin 44 = .ok (.aload_n 0, 1) := by decide +kernel
theorem dX6_tellCoin_45 : decode cX6_tellCoin 45 = .ok (.iconst 0, 1) := by decide +kernel
theorem dX6_tellCoin_46 : decode cX6_tellCoin 46 = .ok (.iconst 0, 1) := by decide +kernel
theorem dX6_tellCoin_47 : decode cX6_tellCoin 47 = .ok (.invokevirtual 106, 3) := by decide +kernel
theorem dX6_tellCoin_50 : decode cX6_tellCoin 50 = .ok (.istore_n 3, 1) := by decide +kernel
theorem dX6_tellCoin_51 : decode cX6_tellCoin 51 = .ok (.iload_n 3, 1) := by decide +kernel
theorem dX6_tellCoin_52 : decode cX6_tellCoin 52 = .ok (.iconst (-1), 1) := by decide +kernel
theorem dX6_tellCoin_53 : decode cX6_tellCoin 53 = .ok (.if_icmp .ne 5, 3) := by decide +kernel
theorem dX6_tellCoin_56 : decode cX6_tellCoin 56 = .ok (.iconst 0, 1) := by decide +kernel
theorem dX6_tellCoin_57 : decode cX6_tellCoin 57 = .ok (.ireturn, 1) := by decide +kernel
theorem dX6_tellCoin_58 : decode cX6_tellCoin 58 = .ok (.aload_n 0, 1) := by decide +kernel
theorem dX6_tellCoin_59 : decode cX6_tellCoin 59 = .ok (.getfield 21, 3) := by decide +kernel
theorem dX6_tellCoin_62 : decode cX6_tellCoin 62 = .ok (.getfield 109, 3) := by decide +kernel
theorem dX6_tellCoin_65 : decode cX6_tellCoin 65 = .ok (.iload_n 1, 1) := by decide +kernel
theorem dX6_tellCoin_66 : decode cX6_tellCoin 66 = .ok (.iload_n 2, 1) := by decide +kernel
theorem dX6_tellCoin_67 : decode cX6_tellCoin 67 = .ok (.iastore, 1) := by decide +kernel
theorem dX6_tellCoin_68 : decode cX6_tellCoin 68 = .ok (.aload_n 0, 1) := by decide +kernel
theorem dX6_tellCoin_69 : decode cX6_tellCoin 69 = .ok (.getfield 21, 3) := by decide +kernel
theorem dX6_tellCoin_72 : decode cX6_tellCoin 72 = .ok (.getfield 112, 3) := by decide +kernel
theorem dX6_tellCoin_75 : decode cX6_tellCoin 75 = .ok (.iload_n 1, 1) := by decide +kernel
theorem dX6_tellCoin_76 : decode cX6_tellCoin 76 = .ok (.iload_n 3, 1) := by decide +kernel
theorem dX6_tellCoin_77 : decode cX6_tellCoin 77 = .ok (.iastore, 1) := by decide +kernel
theorem dX6_tellCoin_78 : decode cX6_tellCoin 78 = .ok (.aload_n 0, 1) := by decide +kernel
theorem dX6_tellCoin_79 : decode cX6_tellCoin 79 = .ok (.getfield 21, 3) := by decide +kernel
theorem dX6_tellCoin_82 : decode cX6_tellCoin 82 = .ok (.getfield 115, 3) := by decide +kernel
theorem dX6_tellCoin_85 : decode cX6_tellCoin 85 = .ok (.iload_n 1, 1) := by decide +kernel
theorem dX6_tellCoin_86 : decode cX6_tellCoin 86 = .ok (.iconst 1, 1) := by decide +kernel
theorem dX6_tellCoin_87 : decode cX6_tellCoin 87 = .ok (.iload_n 3, 1) := by decide +kernel
theorem dX6_tellCoin_88 : decode cX6_tellCoin 88 = .ok (.ishl, 1) := by decide +kernel
theorem dX6_tellCoin_89 : decode cX6_tellCoin 89 = .ok (.iastore, 1) := by decide +kernel
theorem dX6_tellCoin_90 : decode cX6_tellCoin 90 = .ok (.aload_n 0, 1) := by decide +kernel
theorem dX6_tellCoin_91 : decode cX6_tellCoin 91 = .ok (.getfield 21, 3) := by decide +kernel
theorem dX6_tellCoin_94 : decode cX6_tellCoin 94 = .ok (.getfield 118, 3) := by decide +kernel
theorem dX6_tellCoin_97 : decode cX6_tellCoin 97 = .ok (.iload_n 1, 1) := by decide +kernel
theorem dX6_tellCoin_98 : decode cX6_tellCoin 98 = .ok (.iconst 0, 1) := by decide +kernel
theorem dX6_tellCoin_99 : decode cX6_tellCoin 99 = .ok (.iastore, 1) := by decide +kernel
theorem dX6_tellCoin_100 : decode cX6_tellCoin 100 = .ok (.aload_n 0, 1) := by decide +kernel
theorem dX6_tellCoin_101 : decode cX6_tellCoin 101 = .ok (.getfield 12, 3) := by decide +kernel
theorem dX6_tellCoin_104 : decode cX6_tellCoin 104 = .ok (.iconst 5, 1) := by decide +kernel
theorem dX6_tellCoin_105 : decode cX6_tellCoin 105 = .ok (.invokevirtual 121, 3) := by decide +kernel
theorem dX6_tellCoin_108 : decode cX6_tellCoin 108 = .ok (.ifCond .eq 11, 3) := by decide +kernel
theorem dX6_tellCoin_111 : decode cX6_tellCoin 111 = .ok (.aload_n 0, 1) := by decide +kernel
theorem dX6_tellCoin_112 : decode cX6_tellCoin 112 = .ok (.iload_n 1, 1) := by decide +kernel
theorem dX6_tellCoin_113 : decode cX6_tellCoin 113 = .ok (.invokevirtual 124, 3) := by decide +kernel
theorem dX6_tellCoin_116 : decode cX6_tellCoin 116 = .ok (.ifCond .eq 7, 3) := by decide +kernel
theorem dX6_tellCoin_119 : decode cX6_tellCoin 119 = .ok (.iconst 1, 1) := by decide +kernel
theorem dX6_tellCoin_120 : decode cX6_tellCoin 120 = .ok (.goto 4, 3) := by decide +kernel
theorem dX6_tellCoin_123 : decode cX6_tellCoin 123 = .ok (.iconst 0, 1) := by decide +kernel
theorem dX6_tellCoin_124 : decode cX6_tellCoin 124 = .ok (.ireturn, 1) := by decide +kernel
theorem dX6_tellKnown_0 : decode cX6_tellKnown 0 = .ok (.aload_n 0, 1) := by decide +kernel
theorem dX6_tellKnown_1 : decode cX6_tellKnown 1 = .ok (.getfield 12, 3) := by decide +kernel
theorem dX6_tellKnown_4 : decode cX6_tellKnown 4 = .ok (.invokevirtual 127, 3) := by decide +kernel
theorem dX6_tellKnown_7 : decode cX6_tellKnown 7 = .ok (.iconst 0, 1) := by decide +kernel
theorem dX6_tellKnown_8 : decode cX6_tellKnown 8 = .ok (.istore_n 2, 1) := by decide +kernel
theorem dX6_tellKnown_9 : decode cX6_tellKnown 9 = .ok (.iload_n 2, 1) := by decide +kernel
theorem dX6_tellKnown_10 : decode cX6_tellKnown 10 = .ok (.sipush 1600, 3) := by decide +kernel
theorem dX6_tellKnown_13 : decode cX6_tellKnown 13 = .ok (.if_icmp .ge 61, 3) := by decide +kernel
theorem dX6_tellKnown_16 : decode cX6_tellKnown 16 = .ok (.iload_n 2, 1) := by decide +kernel
theorem dX6_tellKnown_17 : decode cX6_tellKnown 17 = .ok (.ifCond .eq 14, 3) := by decide +kernel
theorem dX6_tellKnown_20 : decode cX6_tellKnown 20 = .ok (.aload_n 0, 1) := by decide +kernel
theorem dX6_tellKnown_21 : decode cX6_tellKnown 21 = .ok (.getfield 12, 3) := by decide +kernel
theorem dX6_tellKnown_24 : decode cX6_tellKnown 24 = .ok (.getfield 49, 3) := by decide +kernel
theorem dX6_tellKnown_27 : decode cX6_tellKnown 27 = .ok (.iconst 3, 1) := by decide +kernel
theorem dX6_tellKnown_28 : decode cX6_tellKnown 28 = .ok (.if_icmp .ne 46, 3) := by decide +kernel
theorem dX6_tellKnown_31 : decode cX6_tellKnown 31 = .ok (.aload_n 0, 1) := by decide +kernel
theorem dX6_tellKnown_32 : decode cX6_tellKnown 32 = .ok (.iconst 0, 1) := by decide +kernel
theorem dX6_tellKnown_33 : decode cX6_tellKnown 33 = .ok (.aload_n 0, 1) := by decide +kernel
theorem dX6_tellKnown_34 : decode cX6_tellKnown 34 = .ok (.getfield 21, 3) := by decide +kernel
theorem dX6_tellKnown_37 : decode cX6_tellKnown 37 = .ok (.getfield 115, 3) := by decide +kernel
theorem dX6_tellKnown_40 : decode cX6_tellKnown 40 = .ok (.iload_n 1, 1) := by decide +kernel
theorem dX6_tellKnown_41 : decode cX6_tellKnown 41 = .ok (.iaload, 1) := by decide +kernel
theorem dX6_tellKnown_42 : decode cX6_tellKnown 42 = .ok (.invokevirtual 106, 3) := by decide +kernel
theorem dX6_tellKnown_45 : decode cX6_tellKnown 45 = .ok (.istore_n 3, 1) := by decide +kernel
theorem dX6_tellKnown_46 : decode cX6_tellKnown 46 = .ok (.iload_n 3, 1) := by decide +kernel
theorem dX6_tellKnown_47 : decode cX6_tellKnown 47 = .ok (.iconst (-1), 1) := by decide +kernel
theorem dX6_tellKnown_48 : decode cX6_tellKnown 48 = .ok (.if_icmp .ne 5, 3) := by decide +kernel
theorem dX6_tellKnown_51 : decode cX6_tellKnown 51 = .ok (.iconst 0, 1) := by decide +kernel
theorem dX6_tellKnown_52 : decode cX6_tellKnown 52 = .ok (.ireturn, 1) := by decide +kernel
theorem dX6_tellKnown_53 : decode cX6_tellKnown 53 = .ok (.aload_n 0, 1) := by decide +kernel
theorem dX6_tellKnown_54 : decode cX6_tellKnown 54 = .ok (.getfield 21, 3) := by decide +kernel
theorem dX6_tellKnown_57 : decode cX6_tellKnown 57 = .ok (.getfield 115, 3) := by decide +kernel
theorem dX6_tellKnown_60 : decode cX6_tellKnown 60 = .ok (.iload_n 1, 1) := by decide +kernel
theorem dX6_tellKnown_61 : decode cX6_tellKnown 61 = .ok (.dup2, 1) := by decide +kernel
theorem dX6_tellKnown_62 : decode cX6_tellKnown 62 = .ok (.iaload, 1) := by decide +kernel
theorem dX6_tellKnown_63 : decode cX6_tellKnown 63 = .ok (.iconst 1, 1) := by decide +kernel
theorem dX6_tellKnown_64 : decode cX6_tellKnown 64 = .ok (.iload_n 3, 1) := by decide +kernel
theorem dX6_tellKnown_65 : decode cX6_tellKnown 65 = .ok (.ishl, 1) := by decide +kernel
theorem dX6_tellKnown_66 : decode cX6_tellKnown 66 = .ok (.ior, 1) := by decide +kernel
theorem dX6_tellKnown_67 : decode cX6_tellKnown 67 = .ok (.iastore, 1) := by decide +kernel
theorem dX6_tellKnown_68 : decode cX6_tellKnown 68 = .ok (.iinc 2 1, 3) := by decide +kernel
theorem dX6_tellKnown_71 : decode cX6_tellKnown 71 = .ok (.goto (-62), 3) := by decide +kernel
theorem dX6_tellKnown_74 : decode cX6_tellKnown 74 = .ok (.iconst 1, 1) := by decide +kernel
theorem dX6_tellKnown_75 : decode cX6_tellKnown 75 = .ok (.ireturn, 1) := by decide +kernel
theorem dX6_tellGoods_0 : decode cX6_tellGoods 0 = .ok (.aload_n 0, 1) := by decide +kernel
theorem dX6_tellGoods_1 : decode cX6_tellGoods 1 = .ok (.iconst 2, 1) := by decide +kernel
theorem dX6_tellGoods_2 : decode cX6_tellGoods 2 = .ok (.invokevirtual 91, 3) := by decide +kernel
theorem dX6_tellGoods_5 : decode cX6_tellGoods 5 = .ok (.istore_n 1, 1) := by decide +kernel
theorem dX6_tellGoods_6 : decode cX6_tellGoods 6 = .ok (.iload_n 1, 1) := by decide +kernel
theorem dX6_tellGoods_7 : decode cX6_tellGoods 7 = .ok (.iconst (-1), 1) := by decide +kernel
theorem dX6_tellGoods_8 : decode cX6_tellGoods 8 = .ok (.if_icmp .eq 11, 3) := by decide +kernel
theorem dX6_tellGoods_11 : decode cX6_tellGoods 11 = .ok (.aload_n 0, 1) := by decide +kernel
theorem dX6_tellGoods_12 : decode cX6_tellGoods 12 = .ok (.iconst 3, 1) := by decide +kernel
theorem dX6_tellGoods_13 : decode cX6_tellGoods 13 = .ok (.invokevirtual 95, 3) := by decide +kernel
theorem dX6_tellGoods_16 : decode cX6_tellGoods 16 = .ok (.ifCond .ne 5, 3) := by decide +kernel
theorem dX6_tellGoods_19 : decode cX6_tellGoods 19 = .ok (.iconst 0, 1) := by decide +kernel
theorem dX6_tellGoods_20 : decode cX6_tellGoods 20 = .ok (.ireturn, 1) := by decide +kernel
theorem dX6_tellGoods_21 : decode cX6_tellGoods 21 = .ok (.aload_n 0, 1) := by decide +kernel
theorem dX6_tellGoods_22 : decode cX6_tellGoods 22 = .ok (.iconst 0, 1) := by decide +kernel
theorem dX6_tellGoods_23 : decode cX6_tellGoods 23 = .ok (.bipush 99, 2) := by decide +kernel
theorem dX6_tellGoods_25 : decode cX6_tellGoods 25 = .ok (.invokevirtual 98, 3) := by decide +kernel
theorem dX6_tellGoods_28 : decode cX6_tellGoods 28 = .ok (.istore_n 2, 1) := by decide +kernel
theorem dX6_tellGoods_29 : decode cX6_tellGoods 29 = .ok (.iload_n 2, 1) := by decide +kernel
theorem dX6_tellGoods_30 : decode cX6_tellGoods 30 = .ok (.iconst (-1), 1) := by decide +kernel
theorem dX6_tellGoods_31 : decode cX6_tellGoods 31 = .ok (.if_icmp .eq 12, 3) := by decide +kernel
theorem dX6_tellGoods_34 : decode cX6_tellGoods 34 = .ok (.aload_n 0, 1) := by decide +kernel
theorem dX6_tellGoods_35 : decode cX6_tellGoods 35 = .ok (.bipush 7, 2) := by decide +kernel
theorem dX6_tellGoods_37 : decode cX6_tellGoods 37 = .ok (.invokevirtual 95, 3) := by decide +kernel
theorem dX6_tellGoods_40 : decode cX6_tellGoods 40 = .ok (.ifCond .ne 5, 3) := by decide +kernel
theorem dX6_tellGoods_43 : decode cX6_tellGoods 43 = .ok (.iconst 0, 1) := by decide +kernel
theorem dX6_tellGoods_44 : decode cX6_tellGoods 44 = .ok (.ireturn, 1) := by decide +kernel
theorem dX6_tellGoods_45 : decode cX6_tellGoods 45 = .ok (.aload_n 0, 1) := by decide +kernel
theorem dX6_tellGoods_46 : decode cX6_tellGoods 46 = .ok (.iconst 0, 1) := by decide +kernel
theorem dX6_tellGoods_47 : decode cX6_tellGoods 47 = .ok (.iconst 0, 1) := by decide +kernel
theorem dX6_tellGoods_48 : decode cX6_tellGoods 48 = .ok (.invokevirtual 106, 3) := by decide +kernel
theorem dX6_tellGoods_51 : decode cX6_tellGoods 51 = .ok (.istore_n 3, 1) := by decide +kernel
theorem dX6_tellGoods_52 : decode cX6_tellGoods 52 = .ok (.aload_n 0, 1) := by decide +kernel
theorem dX6_tellGoods_53 : decode cX6_tellGoods 53 = .ok (.getfield 21, 3) := by decide +kernel
theorem dX6_tellGoods_56 : decode cX6_tellGoods 56 = .ok (.getfield 130, 3) := by decide +kernel
theorem dX6_tellGoods_59 : decode cX6_tellGoods 59 = .ok (.iload_n 1, 1) := by decide +kernel
theorem dX6_tellGoods_60 : decode cX6_tellGoods 60 = .ok (.iload_n 2, 1) := by decide +kernel
theorem dX6_tellGoods_61 : decode cX6_tellGoods 61 = .ok (.iastore, 1) := by decide +kernel
theorem dX6_tellGoods_62 : decode cX6_tellGoods 62 = .ok (.aload_n 0, 1) := by decide +kernel
theorem dX6_tellGoods_63 : decode cX6_tellGoods 63 = .ok (.getfield 21, 3) := by decide +kernel
theorem dX6_tellGoods_66 : decode cX6_tellGoods 66 = .ok (.getfield 133, 3) := by decide +kernel
theorem dX6_tellGoods_69 : decode cX6_tellGoods 69 = .ok (.iload_n 1, 1) := by decide +kernel
theorem dX6_tellGoods_70 : decode cX6_tellGoods 70 = .ok (.iload_n 3, 1) := by decide +kernel
theorem dX6_tellGoods_71 : decode cX6_tellGoods 71 = .ok (.iastore, 1) := by decide +kernel
theorem dX6_tellGoods_72 : decode cX6_tellGoods 72 = .ok (.iload_n 3, 1) := by decide +kernel
theorem dX6_tellGoods_73 : decode cX6_tellGoods 73 = .ok (.iconst (-1), 1) := by decide +kernel
theorem dX6_tellGoods_74 : decode cX6_tellGoods 74 = .ok (.if_icmp .eq 7, 3) := by decide +kernel
theorem dX6_tellGoods_77 : decode cX6_tellGoods 77 = .ok (.iconst 1, 1) := by decide +kernel
theorem dX6_tellGoods_78 : decode cX6_tellGoods 78 = .ok (.goto 4, 3) := by decide +kernel
theorem dX6_tellGoods_81 : decode cX6_tellGoods 81 = .ok (.iconst 0, 1) := by decide +kernel
theorem dX6_tellGoods_82 : decode cX6_tellGoods 82 = .ok (.ireturn, 1) := by decide +kernel
theorem dX6_tellSnub_0 : decode cX6_tellSnub 0 = .ok (.aload_n 0, 1) := by decide +kernel
theorem dX6_tellSnub_1 : decode cX6_tellSnub 1 = .ok (.getfield 12, 3) := by decide +kernel
theorem dX6_tellSnub_4 : decode cX6_tellSnub 4 = .ok (.invokevirtual 127, 3) := by decide +kernel
theorem dX6_tellSnub_7 : decode cX6_tellSnub 7 = .ok (.aload_n 0, 1) := by decide +kernel
theorem dX6_tellSnub_8 : decode cX6_tellSnub 8 = .ok (.iconst 1, 1) := by decide +kernel
theorem dX6_tellSnub_9 : decode cX6_tellSnub 9 = .ok (.iconst 0, 1) := by decide +kernel
theorem dX6_tellSnub_10 : decode cX6_tellSnub 10 = .ok (.invokevirtual 106, 3) := by decide +kernel
theorem dX6_tellSnub_13 : decode cX6_tellSnub 13 = .ok (.istore_n 1, 1) := by decide +kernel
theorem dX6_tellSnub_14 : decode cX6_tellSnub 14 = .ok (.iload_n 1, 1) := by decide +kernel
theorem dX6_tellSnub_15 : decode cX6_tellSnub 15 = .ok (.iconst (-1), 1) := by decide +kernel
theorem dX6_tellSnub_16 : decode cX6_tellSnub 16 = .ok (.if_icmp .ne 5, 3) := by decide +kernel
theorem dX6_tellSnub_19 : decode cX6_tellSnub 19 = .ok (.iconst 0, 1) := by decide +kernel
theorem dX6_tellSnub_20 : decode cX6_tellSnub 20 = .ok (.ireturn, 1) := by decide +kernel
theorem dX6_tellSnub_21 : decode cX6_tellSnub 21 = .ok (.aload_n 0, 1) := by decide +kernel
theorem dX6_tellSnub_22 : decode cX6_tellSnub 22 = .ok (.iconst 0, 1) := by decide +kernel
theorem dX6_tellSnub_23 : decode cX6_tellSnub 23 = .ok (.aload_n 0, 1) := by decide +kernel
theorem dX6_tellSnub_24 : decode cX6_tellSnub 24 = .ok (.getfield 21, 3) := by decide +kernel
theorem dX6_tellSnub_27 : decode cX6_tellSnub 27 = .ok (.getfield 115, 3) := by decide +kernel
theorem dX6_tellSnub_30 : decode cX6_tellSnub 30 = .ok (.iload_n 1, 1) := by decide +kernel
theorem dX6_tellSnub_31 : decode cX6_tellSnub 31 = .ok (.iaload, 1) := by decide +kernel
theorem dX6_tellSnub_32 : decode cX6_tellSnub 32 = .ok (.aload_n 0, 1) := by decide +kernel
theorem dX6_tellSnub_33 : decode cX6_tellSnub 33 = .ok (.getfield 21, 3) := by decide +kernel
theorem dX6_tellSnub_36 : decode cX6_tellSnub 36 = .ok (.getfield 118, 3) := by decide +kernel
theorem dX6_tellSnub_39 : decode cX6_tellSnub 39 = .ok (.iload_n 1, 1) := by decide +kernel
theorem dX6_tellSnub_40 : decode cX6_tellSnub 40 = .ok (.iaload, 1) := by decide +kernel
theorem dX6_tellSnub_41 : decode cX6_tellSnub 41 = .ok (.ior, 1) := by decide +kernel
theorem dX6_tellSnub_42 : decode cX6_tellSnub 42 = .ok (.invokevirtual 106, 3) := by decide +kernel
theorem dX6_tellSnub_45 : decode cX6_tellSnub 45 = .ok (.istore_n 2, 1) := by decide +kernel
theorem dX6_tellSnub_46 : decode cX6_tellSnub 46 = .ok (.iload_n 2, 1) := by decide +kernel
theorem dX6_tellSnub_47 : decode cX6_tellSnub 47 = .ok (.iconst (-1), 1) := by decide +kernel
theorem dX6_tellSnub_48 : decode cX6_tellSnub 48 = .ok (.if_icmp .ne 5, 3) := by decide +kernel
theorem dX6_tellSnub_51 : decode cX6_tellSnub 51 = .ok (.iconst 0, 1) := by decide +kernel
theorem dX6_tellSnub_52 : decode cX6_tellSnub 52 = .ok (.ireturn, 1) := by decide +kernel
theorem dX6_tellSnub_53 : decode cX6_tellSnub 53 = .ok (.aload_n 0, 1) := by decide +kernel
theorem dX6_tellSnub_54 : decode cX6_tellSnub 54 = .ok (.getfield 21, 3) := by decide +kernel
theorem dX6_tellSnub_57 : decode cX6_tellSnub 57 = .ok (.getfield 118, 3) := by decide +kernel
theorem dX6_tellSnub_60 : decode cX6_tellSnub 60 = .ok (.iload_n 1, 1) := by decide +kernel
theorem dX6_tellSnub_61 : decode cX6_tellSnub 61 = .ok (.dup2, 1) := by decide +kernel
theorem dX6_tellSnub_62 : decode cX6_tellSnub 62 = .ok (.iaload, 1) := by decide +kernel
theorem dX6_tellSnub_63 : decode cX6_tellSnub 63 = .ok (.iconst 1, 1) := by decide +kernel
theorem dX6_tellSnub_64 : decode cX6_tellSnub 64 = .ok (.iload_n 2, 1) := by decide +kernel
theorem dX6_tellSnub_65 : decode cX6_tellSnub 65 = .ok (.ishl, 1) := by decide +kernel
theorem dX6_tellSnub_66 : decode cX6_tellSnub 66 = .ok (.ior, 1) := by decide +kernel
theorem dX6_tellSnub_67 : decode cX6_tellSnub 67 = .ok (.iastore, 1) := by decide +kernel
theorem dX6_tellSnub_68 : decode cX6_tellSnub 68 = .ok (.iconst 1, 1) := by decide +kernel
theorem dX6_tellSnub_69 : decode cX6_tellSnub 69 = .ok (.ireturn, 1) := by decide +kernel
theorem dX6_tellFades_0 : decode cX6_tellFades 0 = .ok (.aload_n 0, 1) := by decide +kernel
theorem dX6_tellFades_1 : decode cX6_tellFades 1 = .ok (.getfield 12, 3) := by decide +kernel
theorem dX6_tellFades_4 : decode cX6_tellFades 4 = .ok (.invokevirtual 127, 3) := by decide +kernel
theorem dX6_tellFades_7 : decode cX6_tellFades 7 = .ok (.aload_n 0, 1) := by decide +kernel
theorem dX6_tellFades_8 : decode cX6_tellFades 8 = .ok (.getfield 21, 3) := by decide +kernel
theorem dX6_tellFades_11 : decode cX6_tellFades 11 = .ok (.aload_n 0, 1) := by decide +kernel
theorem dX6_tellFades_12 : decode cX6_tellFades 12 = .ok (.iconst 0, 1) := by decide +kernel
theorem dX6_tellFades_13 : decode cX6_tellFades 13 = .ok (.bipush 99, 2) := by decide +kernel
theorem dX6_tellFades_15 : decode cX6_tellFades 15 = .ok (.invokevirtual 98, 3) := by decide +kernel
theorem dX6_tellFades_18 : decode cX6_tellFades 18 = .ok (.putfield 136, 3) := by decide +kernel
theorem dX6_tellFades_21 : decode cX6_tellFades 21 = .ok (.aload_n 0, 1) := by decide +kernel
theorem dX6_tellFades_22 : decode cX6_tellFades 22 = .ok (.getfield 21, 3) := by decide +kernel
theorem dX6_tellFades_25 : decode cX6_tellFades 25 = .ok (.getfield 136, 3) := by decide +kernel
theorem dX6_tellFades_28 : decode cX6_tellFades 28 = .ok (.iconst (-1), 1) := by decide +kernel
theorem dX6_tellFades_29 : decode cX6_tellFades 29 = .ok (.if_icmp .eq 7, 3) := by decide +kernel
theorem dX6_tellFades_32 : decode cX6_tellFades 32 = .ok (.iconst 1, 1) := by decide +kernel
theorem dX6_tellFades_33 : decode cX6_tellFades 33 = .ok (.goto 4, 3) := by decide +kernel
theorem dX6_tellFades_36 : decode cX6_tellFades 36 = .ok (.iconst 0, 1) := by decide +kernel
theorem dX6_tellFades_37 : decode cX6_tellFades 37 = .ok (.ireturn, 1) := by decide +kernel
theorem dX6_tellVogue_0 : decode cX6_tellVogue 0 = .ok (.aload_n 0, 1) := by decide +kernel
theorem dX6_tellVogue_1 : decode cX6_tellVogue 1 = .ok (.getfield 12, 3) := by decide +kernel
theorem dX6_tellVogue_4 : decode cX6_tellVogue 4 = .ok (.invokevirtual 127, 3) := by decide +kernel
theorem dX6_tellVogue_7 : decode cX6_tellVogue 7 = .ok (.aload_n 0, 1) := by decide +kernel
theorem dX6_tellVogue_8 : decode cX6_tellVogue 8 = .ok (.getfield 21, 3) := by decide +kernel
theorem dX6_tellVogue_11 : decode cX6_tellVogue 11 = .ok (.aload_n 0, 1) := by decide +kernel
theorem dX6_tellVogue_12 : decode cX6_tellVogue 12 = .ok (.iconst 0, 1) := by decide +kernel
theorem dX6_tellVogue_13 : decode cX6_tellVogue 13 = .ok (.bipush 100, 2) := by decide +kernel
theorem dX6_tellVogue_15 : decode cX6_tellVogue 15 = .ok (.invokevirtual 98, 3) := by decide +kernel
theorem dX6_tellVogue_18 : decode cX6_tellVogue 18 = .ok (.putfield 139, 3) := by decide +kernel
theorem dX6_tellVogue_21 : decode cX6_tellVogue 21 = .ok (.aload_n 0, 1) := by decide +kernel
theorem dX6_tellVogue_22 : decode cX6_tellVogue 22 = .ok (.getfield 21, 3) := by decide +kernel
theorem dX6_tellVogue_25 : decode cX6_tellVogue 25 = .ok (.getfield 139, 3) := by decide +kernel
theorem dX6_tellVogue_28 : decode cX6_tellVogue 28 = .ok (.iconst (-1), 1) := by decide +kernel
theorem dX6_tellVogue_29 : decode cX6_tellVogue 29 = .ok (.if_icmp .eq 7, 3) := by decide +kernel
theorem dX6_tellVogue_32 : decode cX6_tellVogue 32 = .ok (.iconst 1, 1) := by decide +kernel
theorem dX6_tellVogue_33 : decode cX6_tellVogue 33 = .ok (.goto 4, 3) := by decide +kernel
theorem dX6_tellVogue_36 : decode cX6_tellVogue 36 = .ok (.iconst 0, 1) := by decide +kernel
theorem dX6_tellVogue_37 : decode cX6_tellVogue 37 = .ok (.ireturn, 1) := by decide +kernel
theorem dX6_tellPresents_0 : decode cX6_tellPresents 0 = .ok (.aload_n 0, 1) := by decide +kernel
theorem dX6_tellPresents_1 : decode cX6_tellPresents 1 = .ok (.getfield 21, 3) := by decide +kernel
theorem dX6_tellPresents_4 : decode cX6_tellPresents 4 = .ok (.getfield 25, 3) := by decide +kernel
theorem dX6_tellPresents_7 : decode cX6_tellPresents 7 = .ok (.invokevirtual 142, 3) := by decide +kernel
theorem dX6_tellPresents_10 : decode cX6_tellPresents 10 = .ok (.ifCond .eq 10, 3) := by decide +kernel
theorem dX6_tellPresents_13 : decode cX6_tellPresents 13 = .ok (.aload_n 0, 1) := by decide +kernel
theorem dX6_tellPresents_14 : decode cX6_tellPresents 14 = .ok (.bipush 6, 2) := by decide +kernel
theorem dX6_tellPresents_16 : decode cX6_tellPresents 16 = .ok (.invokevirtual 52, 3) := by decide +kernel
theorem dX6_tellPresents_19 : decode cX6_tellPresents 19 = .ok (.ireturn, 1) := by decide +kernel
theorem dX6_tellPresents_20 : decode cX6_tellPresents 20 = .ok (.aload_n 0, 1) := by decide +kernel
theorem dX6_tellPresents_21 : decode cX6_tellPresents 21 = .ok (.getfield 12, 3) := by decide +kernel
theorem dX6_tellPresents_24 : decode cX6_tellPresents 24 = .ok (.invokevirtual 127, 3) := by decide +kernel
theorem dX6_tellPresents_27 : decode cX6_tellPresents 27 = .ok (.aload_n 0, 1) := by decide +kernel
theorem dX6_tellPresents_28 : decode cX6_tellPresents 28 = .ok (.aload_n 0, 1) := by decide +kernel
theorem dX6_tellPresents_29 : decode cX6_tellPresents 29 = .ok (.getfield 21, 3) := by decide +kernel
theorem dX6_tellPresents_32 : decode cX6_tellPresents 32 = .ok (.getfield 25, 3) := by decide +kernel
theorem dX6_tellPresents_35 : decode cX6_tellPresents 35 = .ok (.putfield 29, 3) := by decide +kernel
theorem dX6_tellPresents_38 : decode cX6_tellPresents 38 = .ok (.aload_n 0, 1) := by decide +kernel
theorem dX6_tellPresents_39 : decode cX6_tellPresents 39 = .ok (.invokevirtual 147, 3) := by decide +kernel
theorem dX6_tellPresents_42 : decode cX6_tellPresents 42 = .ok (.ireturn, 1) := by decide +kernel
theorem dX6_tellPrice_0 : decode cX6_tellPrice 0 = .ok (.aload_n 0, 1) := by decide +kernel
theorem dX6_tellPrice_1 : decode cX6_tellPrice 1 = .ok (.getfield 21, 3) := by decide +kernel
theorem dX6_tellPrice_4 : decode cX6_tellPrice 4 = .ok (.getfield 150, 3) := by decide +kernel
theorem dX6_tellPrice_7 : decode cX6_tellPrice 7 = .ok (.invokevirtual 142, 3) := by decide +kernel
theorem dX6_tellPrice_10 : decode cX6_tellPrice 10 = .ok (.ifCond .eq 10, 3) := by decide +kernel
theorem dX6_tellPrice_13 : decode cX6_tellPrice 13 = .ok (.aload_n 0, 1) := by decide +kernel
theorem dX6_tellPrice_14 : decode cX6_tellPrice 14 = .ok (.bipush 6, 2) := by decide +kernel
theorem dX6_tellPrice_16 : decode cX6_tellPrice 16 = .ok (.invokevirtual 52, 3) := by decide +kernel
theorem dX6_tellPrice_19 : decode cX6_tellPrice 19 = .ok (.ireturn, 1) := by decide +kernel
theorem dX6_tellPrice_20 : decode cX6_tellPrice 20 = .ok (.aload_n 0, 1) := by decide +kernel
theorem dX6_tellPrice_21 : decode cX6_tellPrice 21 = .ok (.getfield 12, 3) := by decide +kernel
theorem dX6_tellPrice_24 : decode cX6_tellPrice 24 = .ok (.invokevirtual 127, 3) := by decide +kernel
theorem dX6_tellPrice_27 : decode cX6_tellPrice 27 = .ok (.aload_n 0, 1) := by decide +kernel
theorem dX6_tellPrice_28 : decode cX6_tellPrice 28 = .ok (.aload_n 0, 1) := by decide +kernel
theorem dX6_tellPrice_29 : decode cX6_tellPrice 29 = .ok (.getfield 21, 3) := by decide +kernel
theorem dX6_tellPrice_32 : decode cX6_tellPrice 32 = .ok (.getfield 150, 3) := by decide +kernel
theorem dX6_tellPrice_35 : decode cX6_tellPrice 35 = .ok (.putfield 29, 3) := by decide +kernel
theorem dX6_tellPrice_38 : decode cX6_tellPrice 38 = .ok (.aload_n 0, 1) := by decide +kernel
theorem dX6_tellPrice_39 : decode cX6_tellPrice 39 = .ok (.invokevirtual 153, 3) := by decide +kernel
theorem dX6_tellPrice_42 : decode cX6_tellPrice 42 = .ok (.ireturn, 1) := by decide +kernel
theorem dX6_fail_0 : decode cX6_fail 0 = .ok (.aload_n 0, 1) := by decide +kernel
theorem dX6_fail_1 : decode cX6_fail 1 = .ok (.iload_n 1, 1) := by decide +kernel
theorem dX6_fail_2 : decode cX6_fail 2 = .ok (.putfield 42, 3) := by decide +kernel
theorem dX6_fail_5 : decode cX6_fail 5 = .ok (.aload_n 0, 1) := by decide +kernel
theorem dX6_fail_6 : decode cX6_fail 6 = .ok (.iload_n 1, 1) := by decide +kernel
theorem dX6_fail_7 : decode cX6_fail 7 = .ok (.iconst 1, 1) := by decide +kernel
theorem dX6_fail_8 : decode cX6_fail 8 = .ok (.if_icmp .ne 13, 3) := by decide +kernel
theorem dX6_fail_11 : decode cX6_fail 11 = .ok (.aload_n 0, 1) := by decide +kernel
theorem dX6_fail_12 : decode cX6_fail 12 = .ok (.getfield 12, 3) := by decide +kernel
theorem dX6_fail_15 : decode cX6_fail 15 = .ok (.getfield 156, 3) := by decide +kernel
theorem dX6_fail_18 : decode cX6_fail 18 = .ok (.goto 10, 3) := by decide +kernel
theorem dX6_fail_21 : decode cX6_fail 21 = .ok (.aload_n 0, 1) := by decide +kernel
theorem dX6_fail_22 : decode cX6_fail 22 = .ok (.getfield 12, 3) := by decide +kernel
theorem dX6_fail_25 : decode cX6_fail 25 = .ok (.getfield 157, 3) := by decide +kernel
theorem dX6_fail_28 : decode cX6_fail 28 = .ok (.putfield 32, 3) := by decide +kernel
theorem dX6_fail_31 : decode cX6_fail 31 = .ok (.iconst 0, 1) := by decide +kernel
theorem dX6_fail_32 : decode cX6_fail 32 = .ok (.ireturn, 1) := by decide +kernel
theorem dX6_sign_0 : decode cX6_sign 0 = .ok (.aload_n 0, 1) := by decide +kernel
theorem dX6_sign_1 : decode cX6_sign 1 = .ok (.getfield 12, 3) := by decide +kernel
theorem dX6_sign_4 : decode cX6_sign 4 = .ok (.iload_n 1, 1) := by decide +kernel
theorem dX6_sign_5 : decode cX6_sign 5 = .ok (.invokevirtual 160, 3) := by decide +kernel
theorem dX6_sign_8 : decode cX6_sign 8 = .ok (.ifCond .ne 9, 3) := by decide +kernel
theorem dX6_sign_11 : decode cX6_sign 11 = .ok (.aload_n 0, 1) := by decide +kernel
theorem dX6_sign_12 : decode cX6_sign 12 = .ok (.iconst 1, 1) := by decide +kernel
theorem dX6_sign_13 : decode cX6_sign 13 = .ok (.invokevirtual 52, 3) := by decide +kernel
theorem dX6_sign_16 : decode cX6_sign 16 = .ok (.ireturn, 1) := by decide +kernel
theorem dX6_sign_17 : decode cX6_sign 17 = .ok (.aload_n 0, 1) := by decide +kernel
theorem dX6_sign_18 : decode cX6_sign 18 = .ok (.getfield 12, 3) := by decide +kernel
theorem dX6_sign_21 : decode cX6_sign 21 = .ok (.invokevirtual 127, 3) := by decide +kernel
theorem dX6_sign_24 : decode cX6_sign 24 = .ok (.iconst 1, 1) := by decide +kernel
theorem dX6_sign_25 : decode cX6_sign 25 = .ok (.ireturn, 1) := by decide +kernel
theorem dX6_word_0 : decode cX6_word 0 = .ok (.aload_n 0, 1) := by decide +kernel
theorem dX6_word_1 : decode cX6_word 1 = .ok (.getfield 12, 3) := by decide +kernel
theorem dX6_word_4 : decode cX6_word 4 = .ok (.iload_n 1, 1) := by decide +kernel
theorem dX6_word_5 : decode cX6_word 5 = .ok (.invokevirtual 121, 3) := by decide +kernel
theorem dX6_word_8 : decode cX6_word 8 = .ok (.ifCond .ne 9, 3) := by decide +kernel
theorem dX6_word_11 : decode cX6_word 11 = .ok (.aload_n 0, 1) := by decide +kernel
theorem dX6_word_12 : decode cX6_word 12 = .ok (.iconst 1, 1) := by decide +kernel
theorem dX6_word_13 : decode cX6_word 13 = .ok (.invokevirtual 52, 3) := by decide +kernel
theorem dX6_word_16 : decode cX6_word 16 = .ok (.ireturn, 1) := by decide +kernel
theorem dX6_word_17 : decode cX6_word 17 = .ok (.aload_n 0, 1) := by decide +kernel
theorem dX6_word_18 : decode cX6_word 18 = .ok (.getfield 12, 3) := by decide +kernel
theorem dX6_word_21 : decode cX6_word 21 = .ok (.invokevirtual 127, 3) := by decide +kernel
theorem dX6_word_24 : decode cX6_word 24 = .ok (.iconst 1, 1) := by decide +kernel
theorem dX6_word_25 : decode cX6_word 25 = .ok (.ireturn, 1) := by decide +kernel
theorem dX6_number_0 : decode cX6_number 0 = .ok (.aload_n 0, 1) := by decide +kernel
theorem dX6_number_1 : decode cX6_number 1 = .ok (.getfield 12, 3) := by decide +kernel
theorem dX6_number_4 : decode cX6_number 4 = .ok (.getfield 49, 3) := by decide +kernel
theorem dX6_number_7 : decode cX6_number 7 = .ok (.iconst 2, 1) := by decide +kernel
theorem dX6_number_8 : decode cX6_number 8 = .ok (.if_icmp .eq 11, 3) := by decide +kernel
theorem dX6_number_11 : decode cX6_number 11 = .ok (.aload_n 0, 1) := by decide +kernel
theorem dX6_number_12 : decode cX6_number 12 = .ok (.iconst 1, 1) := by decide +kernel
theorem dX6_number_13 : decode cX6_number 13 = .ok (.invokevirtual 52, 3) := by decide +kernel
theorem dX6_number_16 : decode cX6_number 16 = .ok (.pop, 1) := by decide +kernel
theorem dX6_number_17 : decode cX6_number 17 = .ok (.iconst (-1), 1) := by decide +kernel
theorem dX6_number_18 : decode cX6_number 18 = .ok (.ireturn, 1) := by decide +kernel
theorem dX6_number_19 : decode cX6_number 19 = .ok (.aload_n 0, 1) := by decide +kernel
theorem dX6_number_20 : decode cX6_number 20 = .ok (.getfield 12, 3) := by decide +kernel
theorem dX6_number_23 : decode cX6_number 23 = .ok (.getfield 64, 3) := by decide +kernel
theorem dX6_number_26 : decode cX6_number 26 = .ok (.istore_n 3, 1) := by decide +kernel
theorem dX6_number_27 : decode cX6_number 27 = .ok (.iload_n 3, 1) := by decide +kernel
theorem dX6_number_28 : decode cX6_number 28 = .ok (.iload_n 1, 1) := by decide +kernel
theorem dX6_number_29 : decode cX6_number 29 = .ok (.if_icmp .lt 8, 3) := by decide +kernel
theorem dX6_number_32 : decode cX6_number 32 = .ok (.iload_n 3, 1) := by decide +kernel
theorem dX6_number_33 : decode cX6_number 33 = .ok (.iload_n 2, 1) := by decide +kernel
theorem dX6_number_34 : decode cX6_number 34 = .ok (.if_icmp .le 11, 3) := by decide +kernel
theorem dX6_number_37 : decode cX6_number 37 = .ok (.aload_n 0, 1) := by decide +kernel
theorem dX6_number_38 : decode cX6_number 38 = .ok (.iconst 4, 1) := by decide +kernel
theorem dX6_number_39 : decode cX6_number 39 = .ok (.invokevirtual 52, 3) := by decide +kernel
theorem dX6_number_42 : decode cX6_number 42 = .ok (.pop, 1) := by decide +kernel
theorem dX6_number_43 : decode cX6_number 43 = .ok (.iconst (-1), 1) := by decide +kernel
theorem dX6_number_44 : decode cX6_number 44 = .ok (.ireturn, 1) := by decide +kernel
theorem dX6_number_45 : decode cX6_number 45 = .ok (.aload_n 0, 1) := by decide +kernel
theorem dX6_number_46 : decode cX6_number 46 = .ok (.getfield 12, 3) := by decide +kernel
theorem dX6_number_49 : decode cX6_number 49 = .ok (.invokevirtual 127, 3) := by decide +kernel
theorem dX6_number_52 : decode cX6_number 52 = .ok (.iload_n 3, 1) := by decide +kernel
theorem dX6_number_53 : decode cX6_number 53 = .ok (.ireturn, 1) := by decide +kernel
theorem dX6_newOne_0 : decode cX6_newOne 0 = .ok (.aload_n 0, 1) := by decide +kernel
theorem dX6_newOne_1 : decode cX6_newOne 1 = .ok (.getfield 21, 3) := by decide +kernel
theorem dX6_newOne_4 : decode cX6_newOne 4 = .ok (.iload_n 1, 1) := by decide +kernel
theorem dX6_newOne_5 : decode cX6_newOne 5 = .ok (.invokevirtual 163, 3) := by decide +kernel
theorem dX6_newOne_8 : decode cX6_newOne 8 = .ok (.ifCond .eq 12, 3) := by decide +kernel
theorem dX6_newOne_11 : decode cX6_newOne 11 = .ok (.aload_n 0, 1) := by decide +kernel
theorem dX6_newOne_12 : decode cX6_newOne 12 = .ok (.bipush 6, 2) := by decide +kernel
theorem dX6_newOne_14 : decode cX6_newOne 14 = .ok (.invokevirtual 52, 3) := by decide +kernel
theorem dX6_newOne_17 : decode cX6_newOne 17 = .ok (.pop, 1) := by decide +kernel
theorem dX6_newOne_18 : decode cX6_newOne 18 = .ok (.iconst (-1), 1) := by decide +kernel
theorem dX6_newOne_19 : decode cX6_newOne 19 = .ok (.ireturn, 1) := by decide +kernel
theorem dX6_newOne_20 : decode cX6_newOne 20 = .ok (.aload_n 0, 1) := by decide +kernel
theorem dX6_newOne_21 : decode cX6_newOne 21 = .ok (.getfield 12, 3) := by decide +kernel
theorem dX6_newOne_24 : decode cX6_newOne 24 = .ok (.invokevirtual 127, 3) := by decide +kernel
theorem dX6_newOne_27 : decode cX6_newOne 27 = .ok (.aload_n 0, 1) := by decide +kernel
theorem dX6_newOne_28 : decode cX6_newOne 28 = .ok (.getfield 12, 3) := by decide +kernel
theorem dX6_newOne_31 : decode cX6_newOne 31 = .ok (.getfield 49, 3) := by decide +kernel
theorem dX6_newOne_34 : decode cX6_newOne 34 = .ok (.iconst 3, 1) := by decide +kernel
theorem dX6_newOne_35 : decode cX6_newOne 35 = .ok (.if_icmp .eq 11, 3) := by decide +kernel
theorem dX6_newOne_38 : decode cX6_newOne 38 = .ok (.aload_n 0, 1) := by decide +kernel
theorem dX6_newOne_39 : decode cX6_newOne 39 = .ok (.iconst 1, 1) := by decide +kernel
theorem dX6_newOne_40 : decode cX6_newOne 40 = .ok (.invokevirtual 52, 3) := by decide +kernel
theorem dX6_newOne_43 : decode cX6_newOne 43 = .ok (.pop, 1) := by decide +kernel
theorem dX6_newOne_44 : decode cX6_newOne 44 = .ok (.iconst (-1), 1) := by decide +kernel
theorem dX6_newOne_45 : decode cX6_newOne 45 = .ok (.ireturn, 1) := by decide +kernel
theorem dX6_newOne_46 : decode cX6_newOne 46 = .ok (.aload_n 0, 1) := by decide +kernel
theorem dX6_newOne_47 : decode cX6_newOne 47 = .ok (.getfield 12, 3) := by decide +kernel
theorem dX6_newOne_50 : decode cX6_newOne 50 = .ok (.getfield 64, 3) := by decide +kernel
theorem dX6_newOne_53 : decode cX6_newOne 53 = .ok (.istore_n 2, 1) := by decide +kernel
theorem dX6_newOne_54 : decode cX6_newOne 54 = .ok (.aload_n 0, 1) := by decide +kernel
theorem dX6_newOne_55 : decode cX6_newOne 55 = .ok (.getfield 21, 3) := by decide +kernel
theorem dX6_newOne_58 : decode cX6_newOne 58 = .ok (.iload_n 2, 1) := by decide +kernel
theorem dX6_newOne_59 : decode cX6_newOne 59 = .ok (.invokevirtual 166, 3) := by decide +kernel
theorem dX6_newOne_62 : decode cX6_newOne 62 = .ok (.ifCond .eq 11, 3) := by decide +kernel
theorem dX6_newOne_65 : decode cX6_newOne 65 = .ok (.aload_n 0, 1) := by decide +kernel
theorem dX6_newOne_66 : decode cX6_newOne 66 = .ok (.iconst 2, 1) := by decide +kernel
theorem dX6_newOne_67 : decode cX6_newOne 67 = .ok (.invokevirtual 52, 3) := by decide +kernel
theorem dX6_newOne_70 : decode cX6_newOne 70 = .ok (.pop, 1) := by decide +kernel
theorem dX6_newOne_71 : decode cX6_newOne 71 = .ok (.iconst (-1), 1) := by decide +kernel
theorem dX6_newOne_72 : decode cX6_newOne 72 = .ok (.ireturn, 1) := by decide +kernel
theorem dX6_newOne_73 : decode cX6_newOne 73 = .ok (.aload_n 0, 1) := by decide +kernel
theorem dX6_newOne_74 : decode cX6_newOne 74 = .ok (.getfield 12, 3) := by decide +kernel
theorem dX6_newOne_77 : decode cX6_newOne 77 = .ok (.invokevirtual 127, 3) := by decide +kernel
theorem dX6_newOne_80 : decode cX6_newOne 80 = .ok (.aload_n 0, 1) := by decide +kernel
theorem dX6_newOne_81 : decode cX6_newOne 81 = .ok (.getfield 21, 3) := by decide +kernel
theorem dX6_newOne_84 : decode cX6_newOne 84 = .ok (.iload_n 1, 1) := by decide +kernel
theorem dX6_newOne_85 : decode cX6_newOne 85 = .ok (.iload_n 2, 1) := by decide +kernel
theorem dX6_newOne_86 : decode cX6_newOne 86 = .ok (.invokevirtual 169, 3) := by decide +kernel
theorem dX6_newOne_89 : decode cX6_newOne 89 = .ok (.ireturn, 1) := by decide +kernel
theorem dX6_asked_0 : decode cX6_asked 0 = .ok (.aload_n 0, 1) := by decide +kernel
theorem dX6_asked_1 : decode cX6_asked 1 = .ok (.getfield 12, 3) := by decide +kernel
theorem dX6_asked_4 : decode cX6_asked 4 = .ok (.getfield 49, 3) := by decide +kernel
theorem dX6_asked_7 : decode cX6_asked 7 = .ok (.iconst 3, 1) := by decide +kernel
theorem dX6_asked_8 : decode cX6_asked 8 = .ok (.if_icmp .eq 11, 3) := by decide +kernel
theorem dX6_asked_11 : decode cX6_asked 11 = .ok (.aload_n 0, 1) := by decide +kernel
theorem dX6_asked_12 : decode cX6_asked 12 = .ok (.iconst 1, 1) := by decide +kernel
theorem dX6_asked_13 : decode cX6_asked 13 = .ok (.invokevirtual 52, 3) := by decide +kernel
theorem dX6_asked_16 : decode cX6_asked 16 = .ok (.pop, 1) := by decide +kernel
theorem dX6_asked_17 : decode cX6_asked 17 = .ok (.iconst (-1), 1) := by decide +kernel
theorem dX6_asked_18 : decode cX6_asked 18 = .ok (.ireturn, 1) := by decide +kernel
theorem dX6_asked_19 : decode cX6_asked 19 = .ok (.aload_n 0, 1) := by decide +kernel
theorem dX6_asked_20 : decode cX6_asked 20 = .ok (.getfield 21, 3) := by decide +kernel
theorem dX6_asked_23 : decode cX6_asked 23 = .ok (.iload_n 1, 1) := by decide +kernel
theorem dX6_asked_24 : decode cX6_asked 24 = .ok (.aload_n 0, 1) := by decide +kernel
theorem dX6_asked_25 : decode cX6_asked 25 = .ok (.getfield 12, 3) := by decide +kernel
theorem dX6_asked_28 : decode cX6_asked 28 = .ok (.getfield 64, 3) := by decide +kernel
theorem dX6_asked_31 : decode cX6_asked 31 = .ok (.invokevirtual 172, 3) := by decide +kernel
theorem dX6_asked_34 : decode cX6_asked 34 = .ok (.istore_n 3, 1) := by decide +kernel
theorem dX6_asked_35 : decode cX6_asked 35 = .ok (.iload_n 3, 1) := by decide +kernel
theorem dX6_asked_36 : decode cX6_asked 36 = .ok (.iconst (-1), 1) := by decide +kernel
theorem dX6_asked_37 : decode cX6_asked 37 = .ok (.if_icmp .eq 11, 3) := by decide +kernel
theorem dX6_asked_40 : decode cX6_asked 40 = .ok (.iload_n 2, 1) := by decide +kernel
theorem dX6_asked_41 : decode cX6_asked 41 = .ok (.iload_n 3, 1) := by decide +kernel
theorem dX6_asked_42 : decode cX6_asked 42 = .ok (.invokestatic 175, 3) := by decide +kernel
theorem dX6_asked_45 : decode cX6_asked 45 = .ok (.ifCond .eq 11, 3) := by decide +kernel
theorem dX6_asked_48 : decode cX6_asked 48 = .ok (.aload_n 0, 1) := by decide +kernel
theorem dX6_asked_49 : decode cX6_asked 49 = .ok (.iconst 3, 1) := by decide +kernel
theorem dX6_asked_50 : decode cX6_asked 50 = .ok (.invokevirtual 52, 3) := by decide +kernel
theorem dX6_asked_53 : decode cX6_asked 53 = .ok (.pop, 1) := by decide +kernel
theorem dX6_asked_54 : decode cX6_asked 54 = .ok (.iconst (-1), 1) := by decide +kernel
theorem dX6_asked_55 : decode cX6_asked 55 = .ok (.ireturn, 1) := by decide +kernel
theorem dX6_asked_56 : decode cX6_asked 56 = .ok (.aload_n 0, 1) := by decide +kernel
theorem dX6_asked_57 : decode cX6_asked 57 = .ok (.getfield 12, 3) := by decide +kernel
theorem dX6_asked_60 : decode cX6_asked 60 = .ok (.invokevirtual 127, 3) := by decide +kernel
theorem dX6_asked_63 : decode cX6_asked 63 = .ok (.iload_n 3, 1) := by decide +kernel
theorem dX6_asked_64 : decode cX6_asked 64 = .ok (.ireturn, 1) := by decide +kernel
theorem dX6_enter_0 : decode cX6_enter 0 = .ok (.aload_n 0, 1) := by decide +kernel
theorem dX6_enter_1 : decode cX6_enter 1 = .ok (.getfield 39, 3) := by decide +kernel
theorem dX6_enter_4 : decode cX6_enter 4 = .ok (.bipush 7, 2) := by decide +kernel
theorem dX6_enter_6 : decode cX6_enter 6 = .ok (.if_icmp .lt 9, 3) := by decide +kernel
theorem dX6_enter_9 : decode cX6_enter 9 = .ok (.aload_n 0, 1) := by decide +kernel
theorem dX6_enter_10 : decode cX6_enter 10 = .ok (.iconst 5, 1) := by decide +kernel
theorem dX6_enter_11 : decode cX6_enter 11 = .ok (.invokevirtual 52, 3) := by decide +kernel
theorem dX6_enter_14 : decode cX6_enter 14 = .ok (.ireturn, 1) := by decide +kernel
theorem dX6_enter_15 : decode cX6_enter 15 = .ok (.aload_n 0, 1) := by decide +kernel
theorem dX6_enter_16 : decode cX6_enter 16 = .ok (.dup, 1) := by decide +kernel
theorem dX6_enter_17 : decode cX6_enter 17 = .ok (.getfield 39, 3) := by decide +kernel
theorem dX6_enter_20 : decode cX6_enter 20 = .ok (.iconst 1, 1) := by decide +kernel
theorem dX6_enter_21 : decode cX6_enter 21 = .ok (.iadd, 1) := by decide +kernel
theorem dX6_enter_22 : decode cX6_enter 22 = .ok (.putfield 39, 3) := by decide +kernel
theorem dX6_enter_25 : decode cX6_enter 25 = .ok (.aload_n 0, 1) := by decide +kernel
theorem dX6_enter_26 : decode cX6_enter 26 = .ok (.getfield 12, 3) := by decide +kernel
theorem dX6_enter_29 : decode cX6_enter 29 = .ok (.invokevirtual 127, 3) := by decide +kernel
theorem dX6_enter_32 : decode cX6_enter 32 = .ok (.iconst 1, 1) := by decide +kernel
theorem dX6_enter_33 : decode cX6_enter 33 = .ok (.ireturn, 1) := by decide +kernel
theorem dX6_test_0 : decode cX6_test 0 = .ok (.aload_n 0, 1) := by decide +kernel
theorem dX6_test_1 : decode cX6_test 1 = .ok (.invokevirtual 179, 3) := by decide +kernel
theorem dX6_test_4 : decode cX6_test 4 = .ok (.ifCond .ne 5, 3) := by decide +kernel
theorem dX6_test_7 : decode cX6_test 7 = .ok (.iconst 0, 1) := by decide +kernel
theorem dX6_test_8 : decode cX6_test 8 = .ok (.ireturn, 1) := by decide +kernel
theorem dX6_test_9 : decode cX6_test 9 = .ok (.iconst 0, 1) := by decide +kernel
theorem dX6_test_10 : decode cX6_test 10 = .ok (.istore_n 1, 1) := by decide +kernel
theorem dX6_test_11 : decode cX6_test 11 = .ok (.iload_n 1, 1) := by decide +kernel
theorem dX6_test_12 : decode cX6_test 12 = .ok (.sipush 1600, 3) := by decide +kernel
theorem dX6_test_15 : decode cX6_test 15 = .ok (.if_icmp .ge 46, 3) := by decide +kernel
theorem dX6_test_18 : decode cX6_test 18 = .ok (.aload_n 0, 1) := by decide +kernel
theorem dX6_test_19 : decode cX6_test 19 = .ok (.getfield 12, 3) := by decide +kernel
theorem dX6_test_22 : decode cX6_test 22 = .ok (.bipush 17, 2) := by decide +kernel
theorem dX6_test_24 : decode cX6_test 24 = .ok (.invokevirtual 121, 3) := by decide +kernel
theorem dX6_test_27 : decode cX6_test 27 = .ok (.ifCond .eq 34, 3) := by decide +kernel
theorem dX6_test_30 : decode cX6_test 30 = .ok (.aload_n 0, 1) := by decide +kernel
theorem dX6_test_31 : decode cX6_test 31 = .ok (.getfield 12, 3) := by decide +kernel
theorem dX6_test_34 : decode cX6_test 34 = .ok (.invokevirtual 127, 3) := by decide +kernel
theorem dX6_test_37 : decode cX6_test 37 = .ok (.aload_n 0, 1) := by decide +kernel
theorem dX6_test_38 : decode cX6_test 38 = .ok (.invokevirtual 179, 3) := by decide +kernel
theorem dX6_test_41 : decode cX6_test 41 = .ok (.ifCond .ne 5, 3) := by decide +kernel
theorem dX6_test_44 : decode cX6_test 44 = .ok (.iconst 0, 1) := by decide +kernel
theorem dX6_test_45 : decode cX6_test 45 = .ok (.ireturn, 1) := by decide +kernel
theorem dX6_test_46 : decode cX6_test 46 = .ok (.aload_n 0, 1) := by decide +kernel
theorem dX6_test_47 : decode cX6_test 47 = .ok (.getfield 29, 3) := by decide +kernel
theorem dX6_test_50 : decode cX6_test 50 = .ok (.bipush (-8), 2) := by decide +kernel
theorem dX6_test_52 : decode cX6_test 52 = .ok (.invokevirtual 182, 3) := by decide +kernel
theorem dX6_test_55 : decode cX6_test 55 = .ok (.iinc 1 1, 3) := by decide +kernel
theorem dX6_test_58 : decode cX6_test 58 = .ok (.goto (-47), 3) := by decide +kernel
theorem dX6_test_61 : decode cX6_test 61 = .ok (.iconst 1, 1) := by decide +kernel
theorem dX6_test_62 : decode cX6_test 62 = .ok (.ireturn, 1) := by decide +kernel
theorem dX6_both_0 : decode cX6_both 0 = .ok (.aload_n 0, 1) := by decide +kernel
theorem dX6_both_1 : decode cX6_both 1 = .ok (.invokevirtual 186, 3) := by decide +kernel
theorem dX6_both_4 : decode cX6_both 4 = .ok (.ifCond .ne 5, 3) := by decide +kernel
theorem dX6_both_7 : decode cX6_both 7 = .ok (.iconst 0, 1) := by decide +kernel
theorem dX6_both_8 : decode cX6_both 8 = .ok (.ireturn, 1) := by decide +kernel
theorem dX6_both_9 : decode cX6_both 9 = .ok (.iconst 0, 1) := by decide +kernel
theorem dX6_both_10 : decode cX6_both 10 = .ok (.istore_n 1, 1) := by decide +kernel
theorem dX6_both_11 : decode cX6_both 11 = .ok (.iload_n 1, 1) := by decide +kernel
theorem dX6_both_12 : decode cX6_both 12 = .ok (.sipush 1600, 3) := by decide +kernel
theorem dX6_both_15 : decode cX6_both 15 = .ok (.if_icmp .ge 46, 3) := by decide +kernel
theorem dX6_both_18 : decode cX6_both 18 = .ok (.aload_n 0, 1) := by decide +kernel
theorem dX6_both_19 : decode cX6_both 19 = .ok (.getfield 12, 3) := by decide +kernel
theorem dX6_both_22 : decode cX6_both 22 = .ok (.bipush 18, 2) := by decide +kernel
theorem dX6_both_24 : decode cX6_both 24 = .ok (.invokevirtual 121, 3) := by decide +kernel
theorem dX6_both_27 : decode cX6_both 27 = .ok (.ifCond .eq 34, 3) := by decide +kernel
theorem dX6_both_30 : decode cX6_both 30 = .ok (.aload_n 0, 1) := by decide +kernel
theorem dX6_both_31 : decode cX6_both 31 = .ok (.getfield 12, 3) := by decide +kernel
theorem dX6_both_34 : decode cX6_both 34 = .ok (.invokevirtual 127, 3) := by decide +kernel
theorem dX6_both_37 : decode cX6_both 37 = .ok (.aload_n 0, 1) := by decide +kernel
theorem dX6_both_38 : decode cX6_both 38 = .ok (.invokevirtual 186, 3) := by decide +kernel
theorem dX6_both_41 : decode cX6_both 41 = .ok (.ifCond .ne 5, 3) := by decide +kernel
theorem dX6_both_44 : decode cX6_both 44 = .ok (.iconst 0, 1) := by decide +kernel
theorem dX6_both_45 : decode cX6_both 45 = .ok (.ireturn, 1) := by decide +kernel
theorem dX6_both_46 : decode cX6_both 46 = .ok (.aload_n 0, 1) := by decide +kernel
theorem dX6_both_47 : decode cX6_both 47 = .ok (.getfield 29, 3) := by decide +kernel
theorem dX6_both_50 : decode cX6_both 50 = .ok (.bipush (-7), 2) := by decide +kernel
theorem dX6_both_52 : decode cX6_both 52 = .ok (.invokevirtual 182, 3) := by decide +kernel
theorem dX6_both_55 : decode cX6_both 55 = .ok (.iinc 1 1, 3) := by decide +kernel
theorem dX6_both_58 : decode cX6_both 58 = .ok (.goto (-47), 3) := by decide +kernel
theorem dX6_both_61 : decode cX6_both 61 = .ok (.iconst 1, 1) := by decide +kernel
theorem dX6_both_62 : decode cX6_both 62 = .ok (.ireturn, 1) := by decide +kernel
theorem dX6_fact_0 : decode cX6_fact 0 = .ok (.aload_n 0, 1) := by decide +kernel
theorem dX6_fact_1 : decode cX6_fact 1 = .ok (.getfield 12, 3) := by decide +kernel
theorem dX6_fact_4 : decode cX6_fact 4 = .ok (.bipush 19, 2) := by decide +kernel
theorem dX6_fact_6 : decode cX6_fact 6 = .ok (.invokevirtual 121, 3) := by decide +kernel
theorem dX6_fact_9 : decode cX6_fact 9 = .ok (.ifCond .eq 8, 3) := by decide +kernel
theorem dX6_fact_12 : decode cX6_fact 12 = .ok (.aload_n 0, 1) := by decide +kernel
theorem dX6_fact_13 : decode cX6_fact 13 = .ok (.invokevirtual 189, 3) := by decide +kernel
theorem dX6_fact_16 : decode cX6_fact 16 = .ok (.ireturn, 1) := by decide +kernel
theorem dX6_fact_17 : decode cX6_fact 17 = .ok (.aload_n 0, 1) := by decide +kernel
theorem dX6_fact_18 : decode cX6_fact 18 = .ok (.getfield 12, 3) := by decide +kernel
theorem dX6_fact_21 : decode cX6_fact 21 = .ok (.bipush 91, 2) := by decide +kernel
theorem dX6_fact_23 : decode cX6_fact 23 = .ok (.invokevirtual 160, 3) := by decide +kernel
theorem dX6_fact_26 : decode cX6_fact 26 = .ok (.ifCond .eq 8, 3) := by decide +kernel
theorem dX6_fact_29 : decode cX6_fact 29 = .ok (.aload_n 0, 1) := by decide +kernel
theorem dX6_fact_30 : decode cX6_fact 30 = .ok (.invokevirtual 192, 3) := by decide +kernel
theorem dX6_fact_33 : decode cX6_fact 33 = .ok (.ireturn, 1) := by decide +kernel
theorem dX6_fact_34 : decode cX6_fact 34 = .ok (.aload_n 0, 1) := by decide +kernel
theorem dX6_fact_35 : decode cX6_fact 35 = .ok (.getfield 12, 3) := by decide +kernel
theorem dX6_fact_38 : decode cX6_fact 38 = .ok (.bipush 20, 2) := by decide +kernel
theorem dX6_fact_40 : decode cX6_fact 40 = .ok (.invokevirtual 121, 3) := by decide +kernel
theorem dX6_fact_43 : decode cX6_fact 43 = .ok (.ifCond .eq 20, 3) := by decide +kernel
theorem dX6_fact_46 : decode cX6_fact 46 = .ok (.aload_n 0, 1) := by decide +kernel
theorem dX6_fact_47 : decode cX6_fact 47 = .ok (.getfield 12, 3) := by decide +kernel
theorem dX6_fact_50 : decode cX6_fact 50 = .ok (.invokevirtual 127, 3) := by decide +kernel
theorem dX6_fact_53 : decode cX6_fact 53 = .ok (.aload_n 0, 1) := by decide +kernel
theorem dX6_fact_54 : decode cX6_fact 54 = .ok (.getfield 29, 3) := by decide +kernel
theorem dX6_fact_57 : decode cX6_fact 57 = .ok (.iconst 1, 1) := by decide +kernel
theorem dX6_fact_58 : decode cX6_fact 58 = .ok (.invokevirtual 182, 3) := by decide +kernel
theorem dX6_fact_61 : decode cX6_fact 61 = .ok (.iconst 1, 1) := by decide +kernel
theorem dX6_fact_62 : decode cX6_fact 62 = .ok (.ireturn, 1) := by decide +kernel
theorem dX6_fact_63 : decode cX6_fact 63 = .ok (.aload_n 0, 1) := by decide +kernel
theorem dX6_fact_64 : decode cX6_fact 64 = .ok (.invokevirtual 153, 3) := by decide +kernel
theorem dX6_fact_67 : decode cX6_fact 67 = .ok (.ifCond .ne 5, 3) := by decide +kernel
theorem dX6_fact_70 : decode cX6_fact 70 = .ok (.iconst 0, 1) := by decide +kernel
theorem dX6_fact_71 : decode cX6_fact 71 = .ok (.ireturn, 1) := by decide +kernel
theorem dX6_fact_72 : decode cX6_fact 72 = .ok (.aload_n 0, 1) := by decide +kernel
theorem dX6_fact_73 : decode cX6_fact 73 = .ok (.invokevirtual 195, 3) := by decide +kernel
theorem dX6_fact_76 : decode cX6_fact 76 = .ok (.istore_n 1, 1) := by decide +kernel
theorem dX6_fact_77 : decode cX6_fact 77 = .ok (.iload_n 1, 1) := by decide +kernel
theorem dX6_fact_78 : decode cX6_fact 78 = .ok (.iconst (-1), 1) := by decide +kernel
theorem dX6_fact_79 : decode cX6_fact 79 = .ok (.if_icmp .ne 9, 3) := by decide +kernel
theorem dX6_fact_82 : decode cX6_fact 82 = .ok (.aload_n 0, 1) := by decide +kernel
theorem dX6_fact_83 : decode cX6_fact 83 = .ok (.iconst 1, 1) := by decide +kernel
theorem dX6_fact_84 : decode cX6_fact 84 = .ok (.invokevirtual 52, 3) := by decide +kernel
theorem dX6_fact_87 : decode cX6_fact 87 = .ok (.ireturn, 1) := by decide +kernel
theorem dX6_fact_88 : decode cX6_fact 88 = .ok (.aload_n 0, 1) := by decide +kernel
theorem dX6_fact_89 : decode cX6_fact 89 = .ok (.getfield 12, 3) := by decide +kernel
theorem dX6_fact_92 : decode cX6_fact 92 = .ok (.invokevirtual 127, 3) := by decide +kernel
theorem dX6_fact_95 : decode cX6_fact 95 = .ok (.aload_n 0, 1) := by decide +kernel
theorem dX6_fact_96 : decode cX6_fact 96 = .ok (.invokevirtual 153, 3) := by decide +kernel
theorem dX6_fact_99 : decode cX6_fact 99 = .ok (.ifCond .ne 5, 3) := by decide +kernel
theorem dX6_fact_102 : decode cX6_fact 102 = .ok (.iconst 0, 1) := by decide +kernel
theorem dX6_fact_103 : decode cX6_fact 103 = .ok (.ireturn, 1) := by decide +kernel
theorem dX6_fact_104 : decode cX6_fact 104 = .ok (.aload_n 0, 1) := by decide +kernel
theorem dX6_fact_105 : decode cX6_fact 105 = .ok (.getfield 29, 3) := by decide +kernel
theorem dX6_fact_108 : decode cX6_fact 108 = .ok (.iload_n 1, 1) := by decide +kernel
theorem dX6_fact_109 : decode cX6_fact 109 = .ok (.invokevirtual 182, 3) := by decide +kernel
theorem dX6_fact_112 : decode cX6_fact 112 = .ok (.iconst 1, 1) := by decide +kernel
theorem dX6_fact_113 : decode cX6_fact 113 = .ok (.ireturn, 1) := by decide +kernel
theorem dX6_inBrackets_0 : decode cX6_inBrackets 0 = .ok (.aload_n 0, 1) := by decide +kernel
theorem dX6_inBrackets_1 : decode cX6_inBrackets 1 = .ok (.invokevirtual 199, 3) := by decide +kernel
theorem dX6_inBrackets_4 : decode cX6_inBrackets 4 = .ok (.ifCond .eq 10, 3) := by decide +kernel
theorem dX6_inBrackets_7 : decode cX6_inBrackets 7 = .ok (.aload_n 0, 1) := by decide +kernel
theorem dX6_inBrackets_8 : decode cX6_inBrackets 8 = .ok (.invokevirtual 147, 3) := by decide +kernel
theorem dX6_inBrackets_11 : decode cX6_inBrackets 11 = .ok (.ifCond .ne 5, 3) := by decide +kernel
theorem dX6_inBrackets_14 : decode cX6_inBrackets 14 = .ok (.iconst 0, 1) := by decide +kernel
theorem dX6_inBrackets_15 : decode cX6_inBrackets 15 = .ok (.ireturn, 1) := by decide +kernel
theorem dX6_inBrackets_16 : decode cX6_inBrackets 16 = .ok (.aload_n 0, 1) := by decide +kernel
theorem dX6_inBrackets_17 : decode cX6_inBrackets 17 = .ok (.dup, 1) := by decide +kernel
theorem dX6_inBrackets_18 : decode cX6_inBrackets 18 = .ok (.getfield 39, 3) := by decide +kernel
theorem dX6_inBrackets_21 : decode cX6_inBrackets 21 = .ok (.iconst 1, 1) := by decide +kernel
theorem dX6_inBrackets_22 : decode cX6_inBrackets 22 = .ok (.isub, 1) := by decide +kernel
theorem dX6_inBrackets_23 : decode cX6_inBrackets 23 = .ok (.putfield 39, 3) := by decide +kernel
theorem dX6_inBrackets_26 : decode cX6_inBrackets 26 = .ok (.aload_n 0, 1) := by decide +kernel
theorem dX6_inBrackets_27 : decode cX6_inBrackets 27 = .ok (.bipush 93, 2) := by decide +kernel
theorem dX6_inBrackets_29 : decode cX6_inBrackets 29 = .ok (.invokevirtual 60, 3) := by decide +kernel
theorem dX6_inBrackets_32 : decode cX6_inBrackets 32 = .ok (.ireturn, 1) := by decide +kernel
theorem dX6_notFact_0 : decode cX6_notFact 0 = .ok (.aload_n 0, 1) := by decide +kernel
theorem dX6_notFact_1 : decode cX6_notFact 1 = .ok (.invokevirtual 199, 3) := by decide +kernel
theorem dX6_notFact_4 : decode cX6_notFact 4 = .ok (.ifCond .eq 10, 3) := by decide +kernel
theorem dX6_notFact_7 : decode cX6_notFact 7 = .ok (.aload_n 0, 1) := by decide +kernel
theorem dX6_notFact_8 : decode cX6_notFact 8 = .ok (.invokevirtual 186, 3) := by decide +kernel
theorem dX6_notFact_11 : decode cX6_notFact 11 = .ok (.ifCond .ne 5, 3) := by decide +kernel
theorem dX6_notFact_14 : decode cX6_notFact 14 = .ok (.iconst 0, 1) := by decide +kernel
theorem dX6_notFact_15 : decode cX6_notFact 15 = .ok (.ireturn, 1) := by decide +kernel
theorem dX6_notFact_16 : decode cX6_notFact 16 = .ok (.aload_n 0, 1) := by decide +kernel
theorem dX6_notFact_17 : decode cX6_notFact 17 = .ok (.dup, 1) := by decide +kernel
theorem dX6_notFact_18 : decode cX6_notFact 18 = .ok (.getfield 39, 3) := by decide +kernel
theorem dX6_notFact_21 : decode cX6_notFact 21 = .ok (.iconst 1, 1) := by decide +kernel
theorem dX6_notFact_22 : decode cX6_notFact 22 = .ok (.isub, 1) := by decide +kernel
theorem dX6_notFact_23 : decode cX6_notFact 23 = .ok (.putfield 39, 3) := by decide +kernel
theorem dX6_notFact_26 : decode cX6_notFact 26 = .ok (.aload_n 0, 1) := by decide +kernel
theorem dX6_notFact_27 : decode cX6_notFact 27 = .ok (.getfield 29, 3) := by decide +kernel
theorem dX6_notFact_30 : decode cX6_notFact 30 = .ok (.bipush (-9), 2) := by decide +kernel
theorem dX6_notFact_32 : decode cX6_notFact 32 = .ok (.invokevirtual 182, 3) := by decide +kernel
theorem dX6_notFact_35 : decode cX6_notFact 35 = .ok (.iconst 1, 1) := by decide +kernel
theorem dX6_notFact_36 : decode cX6_notFact 36 = .ok (.ireturn, 1) := by decide +kernel
theorem dX6_sum_0 : decode cX6_sum 0 = .ok (.aload_n 0, 1) := by decide +kernel
theorem dX6_sum_1 : decode cX6_sum 1 = .ok (.invokevirtual 202, 3) := by decide +kernel
theorem dX6_sum_4 : decode cX6_sum 4 = .ok (.ifCond .ne 5, 3) := by decide +kernel
theorem dX6_sum_7 : decode cX6_sum 7 = .ok (.iconst 0, 1) := by decide +kernel
theorem dX6_sum_8 : decode cX6_sum 8 = .ok (.ireturn, 1) := by decide +kernel
theorem dX6_sum_9 : decode cX6_sum 9 = .ok (.iconst 0, 1) := by decide +kernel
theorem dX6_sum_10 : decode cX6_sum 10 = .ok (.istore_n 1, 1) := by decide +kernel
theorem dX6_sum_11 : decode cX6_sum 11 = .ok (.iload_n 1, 1) := by decide +kernel
theorem dX6_sum_12 : decode cX6_sum 12 = .ok (.sipush 1600, 3) := by decide +kernel
theorem dX6_sum_15 : decode cX6_sum 15 = .ok (.if_icmp .ge 77, 3) := by decide +kernel
theorem dX6_sum_18 : decode cX6_sum 18 = .ok (.aload_n 0, 1) := by decide +kernel
theorem dX6_sum_19 : decode cX6_sum 19 = .ok (.getfield 12, 3) := by decide +kernel
theorem dX6_sum_22 : decode cX6_sum 22 = .ok (.bipush 43, 2) := by decide +kernel
theorem dX6_sum_24 : decode cX6_sum 24 = .ok (.invokevirtual 160, 3) := by decide +kernel
theorem dX6_sum_27 : decode cX6_sum 27 = .ok (.ifCond .ne 15, 3) := by decide +kernel
theorem dX6_sum_30 : decode cX6_sum 30 = .ok (.aload_n 0, 1) := by decide +kernel
theorem dX6_sum_31 : decode cX6_sum 31 = .ok (.getfield 12, 3) := by decide +kernel
theorem dX6_sum_34 : decode cX6_sum 34 = .ok (.bipush 45, 2) := by decide +kernel
theorem dX6_sum_36 : decode cX6_sum 36 = .ok (.invokevirtual 160, 3) := by decide +kernel
theorem dX6_sum_39 : decode cX6_sum 39 = .ok (.ifCond .eq 53, 3) := by decide +kernel
theorem dX6_sum_42 : decode cX6_sum 42 = .ok (.aload_n 0, 1) := by decide +kernel
theorem dX6_sum_43 : decode cX6_sum 43 = .ok (.getfield 12, 3) := by decide +kernel
theorem dX6_sum_46 : decode cX6_sum 46 = .ok (.bipush 43, 2) := by decide +kernel
theorem dX6_sum_48 : decode cX6_sum 48 = .ok (.invokevirtual 160, 3) := by decide +kernel
theorem dX6_sum_51 : decode cX6_sum 51 = .ok (.ifCond .eq 8, 3) := by decide +kernel
theorem dX6_sum_54 : decode cX6_sum 54 = .ok (.bipush (-15), 2) := by decide +kernel
theorem dX6_sum_56 : decode cX6_sum 56 = .ok (.goto 5, 3) := by decide +kernel
theorem dX6_sum_59 : decode cX6_sum 59 = .ok (.bipush (-16), 2) := by decide +kernel
theorem dX6_sum_61 : decode cX6_sum 61 = .ok (.istore_n 2, 1) := by decide +kernel
theorem dX6_sum_62 : decode cX6_sum 62 = .ok (.aload_n 0, 1) := by decide +kernel
theorem dX6_sum_63 : decode cX6_sum 63 = .ok (.getfield 12, 3) := by decide +kernel
theorem dX6_sum_66 : decode cX6_sum 66 = .ok (.invokevirtual 127, 3) := by decide +kernel
theorem dX6_sum_69 : decode cX6_sum 69 = .ok (.aload_n 0, 1) := by decide +kernel
theorem dX6_sum_70 : decode cX6_sum 70 = .ok (.invokevirtual 202, 3) := by decide +kernel
theorem dX6_sum_73 : decode cX6_sum 73 = .ok (.ifCond .ne 5, 3) := by decide +kernel
theorem dX6_sum_76 : decode cX6_sum 76 = .ok (.iconst 0, 1) := by decide +kernel
theorem dX6_sum_77 : decode cX6_sum 77 = .ok (.ireturn, 1) := by decide +kernel
theorem dX6_sum_78 : decode cX6_sum 78 = .ok (.aload_n 0, 1) := by decide +kernel
theorem dX6_sum_79 : decode cX6_sum 79 = .ok (.getfield 29, 3) := by decide +kernel
theorem dX6_sum_82 : decode cX6_sum 82 = .ok (.iload_n 2, 1) := by decide +kernel
theorem dX6_sum_83 : decode cX6_sum 83 = .ok (.invokevirtual 182, 3) := by decide +kernel
theorem dX6_sum_86 : decode cX6_sum 86 = .ok (.iinc 1 1, 3) := by decide +kernel
theorem dX6_sum_89 : decode cX6_sum 89 = .ok (.goto (-78), 3) := by decide +kernel
theorem dX6_sum_92 : decode cX6_sum 92 = .ok (.iconst 1, 1) := by decide +kernel
theorem dX6_sum_93 : decode cX6_sum 93 = .ok (.ireturn, 1) := by decide +kernel
theorem dX6_product_0 : decode cX6_product 0 = .ok (.aload_n 0, 1) := by decide +kernel
theorem dX6_product_1 : decode cX6_product 1 = .ok (.invokevirtual 205, 3) := by decide +kernel
theorem dX6_product_4 : decode cX6_product 4 = .ok (.ifCond .ne 5, 3) := by decide +kernel
theorem dX6_product_7 : decode cX6_product 7 = .ok (.iconst 0, 1) := by decide +kernel
theorem dX6_product_8 : decode cX6_product 8 = .ok (.ireturn, 1) := by decide +kernel
theorem dX6_product_9 : decode cX6_product 9 = .ok (.aload_n 0, 1) := by decide +kernel
theorem dX6_product_10 : decode cX6_product 10 = .ok (.invokevirtual 208, 3) := by decide +kernel
theorem dX6_product_13 : decode cX6_product 13 = .ok (.istore_n 1, 1) := by decide +kernel
theorem dX6_product_14 : decode cX6_product 14 = .ok (.iconst 0, 1) := by decide +kernel
theorem dX6_product_15 : decode cX6_product 15 = .ok (.istore_n 2, 1) := by decide +kernel
theorem dX6_product_16 : decode cX6_product 16 = .ok (.iload_n 2, 1) := by decide +kernel
theorem dX6_product_17 : decode cX6_product 17 = .ok (.sipush 1600, 3) := by decide +kernel
theorem dX6_product_20 : decode cX6_product 20 = .ok (.if_icmp .ge 43, 3) := by decide +kernel
theorem dX6_product_23 : decode cX6_product 23 = .ok (.iload_n 1, 1) := by decide +kernel
theorem dX6_product_24 : decode cX6_product 24 = .ok (.iconst (-1), 1) := by decide +kernel
theorem dX6_product_25 : decode cX6_product 25 = .ok (.if_icmp .eq 38, 3) := by decide +kernel
theorem dX6_product_28 : decode cX6_product 28 = .ok (.aload_n 0, 1) := by decide +kernel
theorem dX6_product_29 : decode cX6_product 29 = .ok (.getfield 12, 3) := by decide +kernel
theorem dX6_product_32 : decode cX6_product 32 = .ok (.invokevirtual 127, 3) := by decide +kernel
theorem dX6_product_35 : decode cX6_product 35 = .ok (.aload_n 0, 1) := by decide +kernel
theorem dX6_product_36 : decode cX6_product 36 = .ok (.invokevirtual 205, 3) := by decide +kernel
theorem dX6_product_39 : decode cX6_product 39 = .ok (.ifCond .ne 5, 3) := by decide +kernel
theorem dX6_product_42 : decode cX6_product 42 = .ok (.iconst 0, 1) := by decide +kernel
theorem dX6_product_43 : decode cX6_product 43 = .ok (.ireturn, 1) := by decide +kernel
theorem dX6_product_44 : decode cX6_product 44 = .ok (.aload_n 0, 1) := by decide +kernel
theorem dX6_product_45 : decode cX6_product 45 = .ok (.getfield 29, 3) := by decide +kernel
theorem dX6_product_48 : decode cX6_product 48 = .ok (.iload_n 1, 1) := by decide +kernel
theorem dX6_product_49 : decode cX6_product 49 = .ok (.invokevirtual 182, 3) := by decide +kernel
theorem dX6_product_52 : decode cX6_product 52 = .ok (.aload_n 0, 1) := by decide +kernel
theorem dX6_product_53 : decode cX6_product 53 = .ok (.invokevirtual 208, 3) := by decide +kernel
theorem dX6_product_56 : decode cX6_product 56 = .ok (.istore_n 1, 1) := by decide +kernel
theorem dX6_product_57 : decode cX6_product 57 = .ok (.iinc 2 1, 3) := by decide +kernel
theorem dX6_product_60 : decode cX6_product 60 = .ok (.goto (-44), 3) := by decide +kernel
theorem dX6_product_63 : decode cX6_product 63 = .ok (.iconst 1, 1) := by decide +kernel
theorem dX6_product_64 : decode cX6_product 64 = .ok (.ireturn, 1) := by decide +kernel
theorem dX6_part_0 : decode cX6_part 0 = .ok (.aload_n 0, 1) := by decide +kernel
theorem dX6_part_1 : decode cX6_part 1 = .ok (.getfield 12, 3) := by decide +kernel
theorem dX6_part_4 : decode cX6_part 4 = .ok (.getfield 49, 3) := by decide +kernel
theorem dX6_part_7 : decode cX6_part 7 = .ok (.iconst 2, 1) := by decide +kernel
theorem dX6_part_8 : decode cX6_part 8 = .ok (.if_icmp .ne 26, 3) := by decide +kernel
theorem dX6_part_11 : decode cX6_part 11 = .ok (.aload_n 0, 1) := by decide +kernel
theorem dX6_part_12 : decode cX6_part 12 = .ok (.getfield 29, 3) := by decide +kernel
theorem dX6_part_15 : decode cX6_part 15 = .ok (.aload_n 0, 1) := by decide +kernel
theorem dX6_part_16 : decode cX6_part 16 = .ok (.getfield 12, 3) := by decide +kernel
theorem dX6_part_19 : decode cX6_part 19 = .ok (.getfield 64, 3) := by decide +kernel
theorem dX6_part_22 : decode cX6_part 22 = .ok (.invokevirtual 182, 3) := by decide +kernel
theorem dX6_part_25 : decode cX6_part 25 = .ok (.aload_n 0, 1) := by decide +kernel
theorem dX6_part_26 : decode cX6_part 26 = .ok (.getfield 12, 3) := by decide +kernel
theorem dX6_part_29 : decode cX6_part 29 = .ok (.invokevirtual 127, 3) := by decide +kernel
theorem dX6_part_32 : decode cX6_part 32 = .ok (.iconst 1, 1) := by decide +kernel
theorem dX6_part_33 : decode cX6_part 33 = .ok (.ireturn, 1) := by decide +kernel
theorem dX6_part_34 : decode cX6_part 34 = .ok (.aload_n 0, 1) := by decide +kernel
theorem dX6_part_35 : decode cX6_part 35 = .ok (.getfield 12, 3) := by decide +kernel
theorem dX6_part_38 : decode cX6_part 38 = .ok (.bipush 40, 2) := by decide +kernel
theorem dX6_part_40 : decode cX6_part 40 = .ok (.invokevirtual 160, 3) := by decide +kernel
theorem dX6_part_43 : decode cX6_part 43 = .ok (.ifCond .eq 8, 3) := by decide +kernel
theorem dX6_part_46 : decode cX6_part 46 = .ok (.aload_n 0, 1) := by decide +kernel
theorem dX6_part_47 : decode cX6_part 47 = .ok (.invokevirtual 211, 3) := by decide +kernel
theorem dX6_part_50 : decode cX6_part 50 = .ok (.ireturn, 1) := by decide +kernel
theorem dX6_part_51 : decode cX6_part 51 = .ok (.aload_n 0, 1) := by decide +kernel
theorem dX6_part_52 : decode cX6_part 52 = .ok (.getfield 12, 3) := by decide +kernel
theorem dX6_part_55 : decode cX6_part 55 = .ok (.bipush 21, 2) := by decide +kernel
theorem dX6_part_57 : decode cX6_part 57 = .ok (.invokevirtual 121, 3) := by decide +kernel
theorem dX6_part_60 : decode cX6_part 60 = .ok (.ifCond .ne 15, 3) := by decide +kernel
theorem dX6_part_63 : decode cX6_part 63 = .ok (.aload_n 0, 1) := by decide +kernel
theorem dX6_part_64 : decode cX6_part 64 = .ok (.getfield 12, 3) := by decide +kernel
theorem dX6_part_67 : decode cX6_part 67 = .ok (.bipush 22, 2) := by decide +kernel
theorem dX6_part_69 : decode cX6_part 69 = .ok (.invokevirtual 121, 3) := by decide +kernel
theorem dX6_part_72 : decode cX6_part 72 = .ok (.ifCond .eq 27, 3) := by decide +kernel
theorem dX6_part_75 : decode cX6_part 75 = .ok (.aload_n 0, 1) := by decide +kernel
theorem dX6_part_76 : decode cX6_part 76 = .ok (.aload_n 0, 1) := by decide +kernel
theorem dX6_part_77 : decode cX6_part 77 = .ok (.getfield 12, 3) := by decide +kernel
theorem dX6_part_80 : decode cX6_part 80 = .ok (.bipush 21, 2) := by decide +kernel
theorem dX6_part_82 : decode cX6_part 82 = .ok (.invokevirtual 121, 3) := by decide +kernel
theorem dX6_part_85 : decode cX6_part 85 = .ok (.ifCond .eq 8, 3) := by decide +kernel
theorem dX6_part_88 : decode cX6_part 88 = .ok (.bipush (-10), 2) := by decide +kernel
theorem dX6_part_90 : decode cX6_part 90 = .ok (.goto 5, 3) := by decide +kernel
theorem dX6_part_93 : decode cX6_part 93 = .ok (.bipush (-11), 2) := by decide +kernel
theorem dX6_part_95 : decode cX6_part 95 = .ok (.invokevirtual 214, 3) := by decide +kernel
theorem dX6_part_98 : decode cX6_part 98 = .ok (.ireturn, 1) := by decide +kernel
theorem dX6_part_99 : decode cX6_part 99 = .ok (.aload_n 0, 1) := by decide +kernel
theorem dX6_part_100 : decode cX6_part 100 = .ok (.invokevirtual 217, 3) := by decide +kernel
theorem dX6_part_103 : decode cX6_part 103 = .ok (.istore_n 1, 1) := by decide +kernel
theorem dX6_part_104 : decode cX6_part 104 = .ok (.iload_n 1, 1) := by decide +kernel
theorem dX6_part_105 : decode cX6_part 105 = .ok (.iconst (-1), 1) := by decide +kernel
theorem dX6_part_106 : decode cX6_part 106 = .ok (.if_icmp .ne 9, 3) := by decide +kernel
theorem dX6_part_109 : decode cX6_part 109 = .ok (.aload_n 0, 1) := by decide +kernel
theorem dX6_part_110 : decode cX6_part 110 = .ok (.iconst 1, 1) := by decide +kernel
theorem dX6_part_111 : decode cX6_part 111 = .ok (.invokevirtual 52, 3) := by decide +kernel
theorem dX6_part_114 : decode cX6_part 114 = .ok (.ireturn, 1) := by decide +kernel
theorem dX6_part_115 : decode cX6_part 115 = .ok (.aload_n 0, 1) := by decide +kernel
theorem dX6_part_116 : decode cX6_part 116 = .ok (.getfield 29, 3) := by decide +kernel
theorem dX6_part_119 : decode cX6_part 119 = .ok (.iconst (-1), 1) := by decide +kernel
theorem dX6_part_120 : decode cX6_part 120 = .ok (.iload_n 1, 1) := by decide +kernel
theorem dX6_part_121 : decode cX6_part 121 = .ok (.isub, 1) := by decide +kernel
theorem dX6_part_122 : decode cX6_part 122 = .ok (.invokevirtual 182, 3) := by decide +kernel
theorem dX6_part_125 : decode cX6_part 125 = .ok (.aload_n 0, 1) := by decide +kernel
theorem dX6_part_126 : decode cX6_part 126 = .ok (.getfield 12, 3) := by decide +kernel
theorem dX6_part_129 : decode cX6_part 129 = .ok (.invokevirtual 127, 3) := by decide +kernel
theorem dX6_part_132 : decode cX6_part 132 = .ok (.iconst 1, 1) := by decide +kernel
theorem dX6_part_133 : decode cX6_part 133 = .ok (.ireturn, 1) := by decide +kernel
theorem dX6_inParentheses_0 : decode cX6_inParentheses 0 = .ok (.aload_n 0, 1) := by decide +kernel
theorem dX6_inParentheses_1 : decode cX6_inParentheses 1 = .ok (.invokevirtual 199, 3) := by decide +kernel
theorem dX6_inParentheses_4 : decode cX6_inParentheses 4 = .ok (.ifCond .eq 10, 3) := by decide +kernel
theorem dX6_inParentheses_7 : decode cX6_inParentheses 7 = .ok (.aload_n 0, 1) := by decide +kernel
theorem dX6_inParentheses_8 : decode cX6_inParentheses 8 = .ok (.invokevirtual 153, 3) := by decide +kernel
theorem dX6_inParentheses_11 : decode cX6_inParentheses 11 = .ok (.ifCond .ne 5, 3) := by decide +kernel
theorem dX6_inParentheses_14 : decode cX6_inParentheses 14 = .ok (.iconst 0, 1) := by decide +kernel
theorem dX6_inParentheses_15 : decode cX6_inParentheses 15 = .ok (.ireturn, 1) := by decide +kernel
theorem dX6_inParentheses_16 : decode cX6_inParentheses 16 = .ok (.aload_n 0, 1) := by decide +kernel
theorem dX6_inParentheses_17 : decode cX6_inParentheses 17 = .ok (.dup, 1) := by decide +kernel
theorem dX6_inParentheses_18 : decode cX6_inParentheses 18 = .ok (.getfield 39, 3) := by decide +kernel
theorem dX6_inParentheses_21 : decode cX6_inParentheses 21 = .ok (.iconst 1, 1) := by decide +kernel
theorem dX6_inParentheses_22 : decode cX6_inParentheses 22 = .ok (.isub, 1) := by decide +kernel
theorem dX6_inParentheses_23 : decode cX6_inParentheses 23 = .ok (.putfield 39, 3) := by decide +kernel
theorem dX6_inParentheses_26 : decode cX6_inParentheses 26 = .ok (.aload_n 0, 1) := by decide +kernel
theorem dX6_inParentheses_27 : decode cX6_inParentheses 27 = .ok (.bipush 41, 2) := by decide +kernel
theorem dX6_inParentheses_29 : decode cX6_inParentheses 29 = .ok (.invokevirtual 60, 3) := by decide +kernel
theorem dX6_inParentheses_32 : decode cX6_inParentheses 32 = .ok (.ireturn, 1) := by decide +kernel
theorem dX6_oneOfTwo_0 : decode cX6_oneOfTwo 0 = .ok (.aload_n 0, 1) := by decide +kernel
theorem dX6_oneOfTwo_1 : decode cX6_oneOfTwo 1 = .ok (.getfield 12, 3) := by decide +kernel
theorem dX6_oneOfTwo_4 : decode cX6_oneOfTwo 4 = .ok (.invokevirtual 127, 3) := by decide +kernel
theorem dX6_oneOfTwo_7 : decode cX6_oneOfTwo 7 = .ok (.aload_n 0, 1) := by decide +kernel
theorem dX6_oneOfTwo_8 : decode cX6_oneOfTwo 8 = .ok (.getfield 12, 3) := by decide +kernel
theorem dX6_oneOfTwo_11 : decode cX6_oneOfTwo 11 = .ok (.bipush 40, 2) := by decide +kernel
theorem dX6_oneOfTwo_13 : decode cX6_oneOfTwo 13 = .ok (.invokevirtual 160, 3) := by decide +kernel
theorem dX6_oneOfTwo_16 : decode cX6_oneOfTwo 16 = .ok (.ifCond .ne 9, 3) := by decide +kernel
theorem dX6_oneOfTwo_19 : decode cX6_oneOfTwo 19 = .ok (.aload_n 0, 1) := by decide +kernel
theorem dX6_oneOfTwo_20 : decode cX6_oneOfTwo 20 = .ok (.iconst 1, 1) := by decide +kernel
theorem dX6_oneOfTwo_21 : decode cX6_oneOfTwo 21 = .ok (.invokevirtual 52, 3) := by decide +kernel
theorem dX6_oneOfTwo_24 : decode cX6_oneOfTwo 24 = .ok (.ireturn, 1) := by decide +kernel
theorem dX6_oneOfTwo_25 : decode cX6_oneOfTwo 25 = .ok (.aload_n 0, 1) := by decide +kernel
theorem dX6_oneOfTwo_26 : decode cX6_oneOfTwo 26 = .ok (.invokevirtual 199, 3) := by decide +kernel
theorem dX6_oneOfTwo_29 : decode cX6_oneOfTwo 29 = .ok (.ifCond .eq 26, 3) := by decide +kernel
theorem dX6_oneOfTwo_32 : decode cX6_oneOfTwo 32 = .ok (.aload_n 0, 1) := by decide +kernel
theorem dX6_oneOfTwo_33 : decode cX6_oneOfTwo 33 = .ok (.invokevirtual 153, 3) := by decide +kernel
theorem dX6_oneOfTwo_36 : decode cX6_oneOfTwo 36 = .ok (.ifCond .eq 19, 3) := by decide +kernel
theorem dX6_oneOfTwo_39 : decode cX6_oneOfTwo 39 = .ok (.aload_n 0, 1) := by decide +kernel
theorem dX6_oneOfTwo_40 : decode cX6_oneOfTwo 40 = .ok (.bipush 44, 2) := by decide +kernel
theorem dX6_oneOfTwo_42 : decode cX6_oneOfTwo 42 = .ok (.invokevirtual 60, 3) := by decide +kernel
theorem dX6_oneOfTwo_45 : decode cX6_oneOfTwo 45 = .ok (.ifCond .eq 10, 3) := by decide +kernel
theorem dX6_oneOfTwo_48 : decode cX6_oneOfTwo 48 = .ok (.aload_n 0, 1) := by decide +kernel
theorem dX6_oneOfTwo_49 : decode cX6_oneOfTwo 49 = .ok (.invokevirtual 153, 3) := by decide +kernel
theorem dX6_oneOfTwo_52 : decode cX6_oneOfTwo 52 = .ok (.ifCond .ne 5, 3) := by decide +kernel
theorem dX6_oneOfTwo_55 : decode cX6_oneOfTwo 55 = .ok (.iconst 0, 1) := by decide +kernel
theorem dX6_oneOfTwo_56 : decode cX6_oneOfTwo 56 = .ok (.ireturn, 1) := by decide +kernel
theorem dX6_oneOfTwo_57 : decode cX6_oneOfTwo 57 = .ok (.aload_n 0, 1) := by decide +kernel
theorem dX6_oneOfTwo_58 : decode cX6_oneOfTwo 58 = .ok (.dup, 1) := by decide +kernel
theorem dX6_oneOfTwo_59 : decode cX6_oneOfTwo 59 = .ok (.getfield 39, 3) := by decide +kernel
theorem dX6_oneOfTwo_62 : decode cX6_oneOfTwo 62 = .ok (.iconst 1, 1) := by decide +kernel
theorem dX6_oneOfTwo_63 : decode cX6_oneOfTwo 63 = .ok (.isub, 1) := by decide +kernel
theorem dX6_oneOfTwo_64 : decode cX6_oneOfTwo 64 = .ok (.putfield 39, 3) := by decide +kernel
theorem dX6_oneOfTwo_67 : decode cX6_oneOfTwo 67 = .ok (.aload_n 0, 1) := by decide +kernel
theorem dX6_oneOfTwo_68 : decode cX6_oneOfTwo 68 = .ok (.getfield 29, 3) := by decide +kernel
theorem dX6_oneOfTwo_71 : decode cX6_oneOfTwo 71 = .ok (.iload_n 1, 1) := by decide +kernel
theorem dX6_oneOfTwo_72 : decode cX6_oneOfTwo 72 = .ok (.invokevirtual 182, 3) := by decide +kernel
theorem dX6_oneOfTwo_75 : decode cX6_oneOfTwo 75 = .ok (.aload_n 0, 1) := by decide +kernel
theorem dX6_oneOfTwo_76 : decode cX6_oneOfTwo 76 = .ok (.bipush 41, 2) := by decide +kernel
theorem dX6_oneOfTwo_78 : decode cX6_oneOfTwo 78 = .ok (.invokevirtual 60, 3) := by decide +kernel
theorem dX6_oneOfTwo_81 : decode cX6_oneOfTwo 81 = .ok (.ireturn, 1) := by decide +kernel
theorem dX6_comparison_0 : decode cX6_comparison 0 = .ok (.aload_n 0, 1) := by decide +kernel
theorem dX6_comparison_1 : decode cX6_comparison 1 = .ok (.getfield 12, 3) := by decide +kernel
theorem dX6_comparison_4 : decode cX6_comparison 4 = .ok (.bipush 60, 2) := by decide +kernel
theorem dX6_comparison_6 : decode cX6_comparison 6 = .ok (.invokevirtual 160, 3) := by decide +kernel
theorem dX6_comparison_9 : decode cX6_comparison 9 = .ok (.ifCond .eq 8, 3) := by decide +kernel
theorem dX6_comparison_12 : decode cX6_comparison 12 = .ok (.bipush (-12), 2) := by decide +kernel
theorem dX6_comparison_14 : decode cX6_comparison 14 = .ok (.goto 38, 3) := by decide +kernel
theorem dX6_comparison_17 : decode cX6_comparison 17 = .ok (.aload_n 0, 1) := by decide +kernel
theorem dX6_comparison_18 : decode cX6_comparison 18 = .ok (.getfield 12, 3) := by decide +kernel
theorem dX6_comparison_21 : decode cX6_comparison 21 = .ok (.bipush 62, 2) := by decide +kernel
theorem dX6_comparison_23 : decode cX6_comparison 23 = .ok (.invokevirtual 160, 3) := by decide +kernel
theorem dX6_comparison_26 : decode cX6_comparison 26 = .ok (.ifCond .eq 8, 3) := by decide +kernel
theorem dX6_comparison_29 : decode cX6_comparison 29 = .ok (.bipush (-13), 2) := by decide +kernel
theorem dX6_comparison_31 : decode cX6_comparison 31 = .ok (.goto 21, 3) := by decide +kernel
theorem dX6_comparison_34 : decode cX6_comparison 34 = .ok (.aload_n 0, 1) := by decide +kernel
theorem dX6_comparison_35 : decode cX6_comparison 35 = .ok (.getfield 12, 3) := by decide +kernel
theorem dX6_comparison_38 : decode cX6_comparison 38 = .ok (.bipush 61, 2) := by decide +kernel
theorem dX6_comparison_40 : decode cX6_comparison 40 = .ok (.invokevirtual 160, 3) := by decide +kernel
theorem dX6_comparison_43 : decode cX6_comparison 43 = .ok (.ifCond .eq 8, 3) := by decide +kernel
theorem dX6_comparison_46 : decode cX6_comparison 46 = .ok (.bipush (-14), 2) := by decide +kernel
theorem dX6_comparison_48 : decode cX6_comparison 48 = .ok (.goto 4, 3) := by decide +kernel
theorem dX6_comparison_51 : decode cX6_comparison 51 = .ok (.iconst (-1), 1) := by decide +kernel
theorem dX6_comparison_52 : decode cX6_comparison 52 = .ok (.ireturn, 1) := by decide +kernel
theorem dX6_productDeed_0 : decode cX6_productDeed 0 = .ok (.aload_n 0, 1) := by decide +kernel
theorem dX6_productDeed_1 : decode cX6_productDeed 1 = .ok (.getfield 12, 3) := by decide +kernel
theorem dX6_productDeed_4 : decode cX6_productDeed 4 = .ok (.bipush 42, 2) := by decide +kernel
theorem dX6_productDeed_6 : decode cX6_productDeed 6 = .ok (.invokevirtual 160, 3) := by decide +kernel
theorem dX6_productDeed_9 : decode cX6_productDeed 9 = .ok (.ifCond .eq 8, 3) := by decide +kernel
theorem dX6_productDeed_12 : decode cX6_productDeed 12 = .ok (.bipush (-17), 2) := by decide +kernel
theorem dX6_productDeed_14 : decode cX6_productDeed 14 = .ok (.goto 38, 3) := by decide +kernel
theorem dX6_productDeed_17 : decode cX6_productDeed 17 = .ok (.aload_n 0, 1) := by decide +kernel
theorem dX6_productDeed_18 : decode cX6_productDeed 18 = .ok (.getfield 12, 3) := by decide +kernel
theorem dX6_productDeed_21 : decode cX6_productDeed 21 = .ok (.bipush 47, 2) := by decide +kernel
theorem dX6_productDeed_23 : decode cX6_productDeed 23 = .ok (.invokevirtual 160, 3) := by decide +kernel
theorem dX6_productDeed_26 : decode cX6_productDeed 26 = .ok (.ifCond .eq 8, 3) := by decide +kernel
theorem dX6_productDeed_29 : decode cX6_productDeed 29 = .ok (.bipush (-18), 2) := by decide +kernel
theorem dX6_productDeed_31 : decode cX6_productDeed 31 = .ok (.goto 21, 3) := by decide +kernel
theorem dX6_productDeed_34 : decode cX6_productDeed 34 = .ok (.aload_n 0, 1) := by decide +kernel
theorem dX6_productDeed_35 : decode cX6_productDeed 35 = .ok (.getfield 12, 3) := by decide +kernel
theorem dX6_productDeed_38 : decode cX6_productDeed 38 = .ok (.bipush 37, 2) := by decide +kernel
theorem dX6_productDeed_40 : decode cX6_productDeed 40 = .ok (.invokevirtual 160, 3) := by decide +kernel
theorem dX6_productDeed_43 : decode cX6_productDeed 43 = .ok (.ifCond .eq 8, 3) := by decide +kernel
theorem dX6_productDeed_46 : decode cX6_productDeed 46 = .ok (.bipush (-19), 2) := by decide +kernel
theorem dX6_productDeed_48 : decode cX6_productDeed 48 = .ok (.goto 4, 3) := by decide +kernel
theorem dX6_productDeed_51 : decode cX6_productDeed 51 = .ok (.iconst (-1), 1) := by decide +kernel
theorem dX6_productDeed_52 : decode cX6_productDeed 52 = .ok (.ireturn, 1) := by decide +kernel
theorem dX6_factWord_0 : decode cX6_factWord 0 = .ok (.aload_n 0, 1) := by decide +kernel
theorem dX6_factWord_1 : decode cX6_factWord 1 = .ok (.getfield 12, 3) := by decide +kernel
theorem dX6_factWord_4 : decode cX6_factWord 4 = .ok (.getfield 49, 3) := by decide +kernel
theorem dX6_factWord_7 : decode cX6_factWord 7 = .ok (.iconst 4, 1) := by decide +kernel
theorem dX6_factWord_8 : decode cX6_factWord 8 = .ok (.if_icmp .ne 13, 3) := by decide +kernel
theorem dX6_factWord_11 : decode cX6_factWord 11 = .ok (.aload_n 0, 1) := by decide +kernel
theorem dX6_factWord_12 : decode cX6_factWord 12 = .ok (.getfield 12, 3) := by decide +kernel
theorem dX6_factWord_15 : decode cX6_factWord 15 = .ok (.getfield 64, 3) := by decide +kernel
theorem dX6_factWord_18 : decode cX6_factWord 18 = .ok (.goto 4, 3) := by decide +kernel
theorem dX6_factWord_21 : decode cX6_factWord 21 = .ok (.iconst (-1), 1) := by decide +kernel
theorem dX6_factWord_22 : decode cX6_factWord 22 = .ok (.tableswitch 90 1 16 #[80, 90, 78, 90, 90, 90, 90, 90, 90, 90, 90, 90, 82, 84, 86, 88], 78) := by decide +kernel
theorem dX6_factWord_100 : decode cX6_factWord 100 = .ok (.iconst 0, 1) := by decide +kernel
theorem dX6_factWord_101 : decode cX6_factWord 101 = .ok (.ireturn, 1) := by decide +kernel
theorem dX6_factWord_102 : decode cX6_factWord 102 = .ok (.iconst 1, 1) := by decide +kernel
theorem dX6_factWord_103 : decode cX6_factWord 103 = .ok (.ireturn, 1) := by decide +kernel
theorem dX6_factWord_104 : decode cX6_factWord 104 = .ok (.iconst 2, 1) := by decide +kernel
theorem dX6_factWord_105 : decode cX6_factWord 105 = .ok (.ireturn, 1) := by decide +kernel
theorem dX6_factWord_106 : decode cX6_factWord 106 = .ok (.iconst 3, 1) := by decide +kernel
theorem dX6_factWord_107 : decode cX6_factWord 107 = .ok (.ireturn, 1) := by decide +kernel
theorem dX6_factWord_108 : decode cX6_factWord 108 = .ok (.iconst 4, 1) := by decide +kernel
theorem dX6_factWord_109 : decode cX6_factWord 109 = .ok (.ireturn, 1) := by decide +kernel
theorem dX6_factWord_110 : decode cX6_factWord 110 = .ok (.iconst 5, 1) := by decide +kernel
theorem dX6_factWord_111 : decode cX6_factWord 111 = .ok (.ireturn, 1) := by decide +kernel
theorem dX6_factWord_112 : decode cX6_factWord 112 = .ok (.iconst (-1), 1) := by decide +kernel
theorem dX6_factWord_113 : decode cX6_factWord 113 = .ok (.ireturn, 1) := by decide +kernel
theorem dX7_init_0 : decode cX7_init 0 = .ok (.aload_n 0, 1) := by decide +kernel
theorem dX7_init_1 : decode cX7_init 1 = .ok (.invokespecial 3, 3) := by decide +kernel
theorem dX7_init_4 : decode cX7_init 4 = .ok (.aload_n 0, 1) := by decide +kernel
theorem dX7_init_5 : decode cX7_init 5 = .ok (.sipush 10240, 3) := by decide +kernel
theorem dX7_init_8 : decode cX7_init 8 = .ok (.newarray .int, 2) := by decide +kernel
theorem dX7_init_10 : decode cX7_init 10 = .ok (.putfield 11, 3) := by decide +kernel
theorem dX7_init_13 : decode cX7_init 13 = .ok (.aload_n 0, 1) := by decide +kernel
theorem dX7_init_14 : decode cX7_init 14 = .ok (.sipush 10240, 3) := by decide +kernel
theorem dX7_init_17 : decode cX7_init 17 = .ok (.newarray .int, 2) := by decide +kernel
theorem dX7_init_19 : decode cX7_init 19 = .ok (.putfield 15, 3) := by decide +kernel
theorem dX7_init_22 : decode cX7_init 22 = .ok (.aload_n 0, 1) := by decide +kernel
theorem dX7_init_23 : decode cX7_init 23 = .ok (.sipush 1000, 3) := by decide +kernel
theorem dX7_init_26 : decode cX7_init 26 = .ok (.newarray .int, 2) := by decide +kernel
theorem dX7_init_28 : decode cX7_init 28 = .ok (.putfield 18, 3) := by decide +kernel
theorem dX7_init_31 : decode cX7_init 31 = .ok (.aload_n 0, 1) := by decide +kernel
theorem dX7_init_32 : decode cX7_init 32 = .ok (.bipush 10, 2) := by decide +kernel
theorem dX7_init_34 : decode cX7_init 34 = .ok (.newarray .int, 2) := by decide +kernel
theorem dX7_init_36 : decode cX7_init 36 = .ok (.putfield 21, 3) := by decide +kernel
theorem dX7_init_39 : decode cX7_init 39 = .ok (.aload_n 0, 1) := by decide +kernel
theorem dX7_init_40 : decode cX7_init 40 = .ok (.bipush 20, 2) := by decide +kernel
theorem dX7_init_42 : decode cX7_init 42 = .ok (.newarray .int, 2) := by decide +kernel
theorem dX7_init_44 : decode cX7_init 44 = .ok (.putfield 24, 3) := by decide +kernel
theorem dX7_init_47 : decode cX7_init 47 = .ok (.aload_n 0, 1) := by decide +kernel
theorem dX7_init_48 : decode cX7_init 48 = .ok (.iconst (-1), 1) := by decide +kernel
theorem dX7_init_49 : decode cX7_init 49 = .ok (.putfield 27, 3) := by decide +kernel
theorem dX7_init_52 : decode cX7_init 52 = .ok (.return_, 1) := by decide +kernel
theorem dX7_find_0 : decode cX7_find 0 = .ok (.aload_n 0, 1) := by decide +kernel
theorem dX7_find_1 : decode cX7_find 1 = .ok (.aload_n 1, 1) := by decide +kernel
theorem dX7_find_2 : decode cX7_find 2 = .ok (.iload_n 2, 1) := by decide +kernel
theorem dX7_find_3 : decode cX7_find 3 = .ok (.invokevirtual 31, 3) := by decide +kernel
theorem dX7_find_6 : decode cX7_find 6 = .ok (.aload_n 1, 1) := by decide +kernel
theorem dX7_find_7 : decode cX7_find 7 = .ok (.getfield 35, 3) := by decide +kernel
theorem dX7_find_10 : decode cX7_find 10 = .ok (.getfield 41, 3) := by decide +kernel
theorem dX7_find_13 : decode cX7_find 13 = .ok (.iload_n 2, 1) := by decide +kernel
theorem dX7_find_14 : decode cX7_find 14 = .ok (.iaload, 1) := by decide +kernel
theorem dX7_find_15 : decode cX7_find 15 = .ok (.istore 4, 2) := by decide +kernel
theorem dX7_find_17 : decode cX7_find 17 = .ok (.aload_n 1, 1) := by decide +kernel
theorem dX7_find_18 : decode cX7_find 18 = .ok (.getfield 35, 3) := by decide +kernel
theorem dX7_find_21 : decode cX7_find 21 = .ok (.getfield 46, 3) := by decide +kernel
theorem dX7_find_24 : decode cX7_find 24 = .ok (.iload_n 2, 1) := by decide +kernel
theorem dX7_find_25 : decode cX7_find 25 = .ok (.iaload, 1) := by decide +kernel
theorem dX7_find_26 : decode cX7_find 26 = .ok (.istore 5, 2) := by decide +kernel
theorem dX7_find_28 : decode cX7_find 28 = .ok (.aload_n 0, 1) := by decide +kernel
theorem dX7_find_29 : decode cX7_find 29 = .ok (.iload 4, 2) := by decide +kernel
theorem dX7_find_31 : decode cX7_find 31 = .ok (.iload 5, 2) := by decide +kernel
theorem dX7_find_33 : decode cX7_find 33 = .ok (.iconst (-1), 1) := by decide +kernel
theorem dX7_find_34 : decode cX7_find 34 = .ok (.invokevirtual 49, 3) := by decide +kernel
theorem dX7_find_37 : decode cX7_find 37 = .ok (.iload 4, 2) := by decide +kernel
theorem dX7_find_39 : decode cX7_find 39 = .ok (.iload_n 3, 1) := by decide +kernel
theorem dX7_find_40 : decode cX7_find 40 = .ok (.if_icmp .ne 14, 3) := by decide +kernel
theorem dX7_find_43 : decode cX7_find 43 = .ok (.aload_n 0, 1) := by decide +kernel
theorem dX7_find_44 : decode cX7_find 44 = .ok (.iload 4, 2) := by decide +kernel
theorem dX7_find_46 : decode cX7_find 46 = .ok (.iload 5, 2) := by decide +kernel
theorem dX7_find_48 : decode cX7_find 48 = .ok (.invokevirtual 53, 3) := by decide +kernel
theorem dX7_find_51 : decode cX7_find 51 = .ok (.goto 4, 3) := by decide +kernel
theorem dX7_find_54 : decode cX7_find 54 = .ok (.iconst (-1), 1) := by decide +kernel
theorem dX7_find_55 : decode cX7_find 55 = .ok (.istore 6, 2) := by decide +kernel
theorem dX7_find_57 : decode cX7_find 57 = .ok (.iconst 0, 1) := by decide +kernel
theorem dX7_find_58 : decode cX7_find 58 = .ok (.istore 7, 2) := by decide +kernel
theorem dX7_find_60 : decode cX7_find 60 = .ok (.iload 7, 2) := by decide +kernel
theorem dX7_find_62 : decode cX7_find 62 = .ok (.aload_n 0, 1) := by decide +kernel
theorem dX7_find_63 : decode cX7_find 63 = .ok (.getfield 57, 3) := by decide +kernel
theorem dX7_find_66 : decode cX7_find 66 = .ok (.if_icmp .ge 71, 3) := by decide +kernel
theorem dX7_find_69 : decode cX7_find 69 = .ok (.iload 7, 2) := by decide +kernel
theorem dX7_find_71 : decode cX7_find 71 = .ok (.sipush 10240, 3) := by decide +kernel
theorem dX7_find_74 : decode cX7_find 74 = .ok (.if_icmp .ge 63, 3) := by decide +kernel
theorem dX7_find_77 : decode cX7_find 77 = .ok (.iload 6, 2) := by decide +kernel
theorem dX7_find_79 : decode cX7_find 79 = .ok (.iconst (-1), 1) := by decide +kernel
theorem dX7_find_80 : decode cX7_find 80 = .ok (.if_icmp .ne 57, 3) := by decide +kernel
theorem dX7_find_83 : decode cX7_find 83 = .ok (.aload_n 0, 1) := by decide +kernel
theorem dX7_find_84 : decode cX7_find 84 = .ok (.getfield 15, 3) := by decide +kernel
theorem dX7_find_87 : decode cX7_find 87 = .ok (.iload 7, 2) := by decide +kernel
theorem dX7_find_89 : decode cX7_find 89 = .ok (.iaload, 1) := by decide +kernel
theorem dX7_find_90 : decode cX7_find 90 = .ok (.istore 8, 2) := by decide +kernel
theorem dX7_find_92 : decode cX7_find 92 = .ok (.aload_n 0, 1) := by decide +kernel
theorem dX7_find_93 : decode cX7_find 93 = .ok (.iload 8, 2) := by decide +kernel
theorem dX7_find_95 : decode cX7_find 95 = .ok (.aload_n 0, 1) := by decide +kernel
theorem dX7_find_96 : decode cX7_find 96 = .ok (.getfield 60, 3) := by decide +kernel
theorem dX7_find_99 : decode cX7_find 99 = .ok (.ishr, 1) := by decide +kernel
theorem dX7_find_100 : decode cX7_find 100 = .ok (.iload 8, 2) := by decide +kernel
theorem dX7_find_102 : decode cX7_find 102 = .ok (.iconst 1, 1) := by decide +kernel
theorem dX7_find_103 : decode cX7_find 103 = .ok (.aload_n 0, 1) := by decide +kernel
theorem dX7_find_104 : decode cX7_find 104 = .ok (.getfield 60, 3) := by decide +kernel
theorem dX7_find_107 : decode cX7_find 107 = .ok (.ishl, 1) := by decide +kernel
theorem dX7_find_108 : decode cX7_find 108 = .ok (.iconst 1, 1) := by decide +kernel
theorem dX7_find_109 : decode cX7_find 109 = .ok (.isub, 1) := by decide +kernel
theorem dX7_find_110 : decode cX7_find 110 = .ok (.iand, 1) := by decide +kernel
theorem dX7_find_111 : decode cX7_find 111 = .ok (.iload_n 3, 1) := by decide +kernel
theorem dX7_find_112 : decode cX7_find 112 = .ok (.invokevirtual 63, 3) := by decide +kernel
theorem dX7_find_115 : decode cX7_find 115 = .ok (.istore 6, 2) := by decide +kernel
theorem dX7_find_117 : decode cX7_find 117 = .ok (.iload 6, 2) := by decide +kernel
theorem dX7_find_119 : decode cX7_find 119 = .ok (.iconst (-1), 1) := by decide +kernel
theorem dX7_find_120 : decode cX7_find 120 = .ok (.if_icmp .ne 11, 3) := by decide +kernel
theorem dX7_find_123 : decode cX7_find 123 = .ok (.aload_n 0, 1) := by decide +kernel
theorem dX7_find_124 : decode cX7_find 124 = .ok (.aload_n 1, 1) := by decide +kernel
theorem dX7_find_125 : decode cX7_find 125 = .ok (.iload_n 2, 1) := by decide +kernel
theorem dX7_find_126 : decode cX7_find 126 = .ok (.iload 8, 2) := by decide +kernel
theorem dX7_find_128 : decode cX7_find 128 = .ok (.invokevirtual 67, 3) := by decide +kernel
theorem dX7_find_131 : decode cX7_find 131 = .ok (.iinc 7 1, 3) := by decide +kernel
theorem dX7_find_134 : decode cX7_find 134 = .ok (.goto (-74), 3) := by decide +kernel
theorem dX7_find_137 : decode cX7_find 137 = .ok (.aload_n 0, 1) := by decide +kernel
theorem dX7_find_138 : decode cX7_find 138 = .ok (.iconst (-1), 1) := by decide +kernel
theorem dX7_find_139 : decode cX7_find 139 = .ok (.putfield 27, 3) := by decide +kernel
theorem dX7_find_142 : decode cX7_find 142 = .ok (.iload 6, 2) := by decide +kernel
theorem dX7_find_144 : decode cX7_find 144 = .ok (.iconst (-1), 1) := by decide +kernel
theorem dX7_find_145 : decode cX7_find 145 = .ok (.if_icmp .eq 9, 3) := by decide +kernel
theorem dX7_find_148 : decode cX7_find 148 = .ok (.aload_n 0, 1) := by decide +kernel
theorem dX7_find_149 : decode cX7_find 149 = .ok (.iload 6, 2) := by decide +kernel
theorem dX7_find_151 : decode cX7_find 151 = .ok (.invokevirtual 71, 3) := by decide +kernel
theorem dX7_find_154 : decode cX7_find 154 = .ok (.aload_n 0, 1) := by decide +kernel
theorem dX7_find_155 : decode cX7_find 155 = .ok (.getfield 27, 3) := by decide +kernel
theorem dX7_find_158 : decode cX7_find 158 = .ok (.ireturn, 1) := by decide +kernel
theorem dX7_act_0 : decode cX7_act 0 = .ok (.aload_n 0, 1) := by decide +kernel
theorem dX7_act_1 : decode cX7_act 1 = .ok (.getfield 27, 3) := by decide +kernel
theorem dX7_act_4 : decode cX7_act 4 = .ok (.iconst 1, 1) := by decide +kernel
theorem dX7_act_5 : decode cX7_act 5 = .ok (.isub, 1) := by decide +kernel
theorem dX7_act_6 : decode cX7_act 6 = .ok (.iload_n 1, 1) := by decide +kernel
theorem dX7_act_7 : decode cX7_act 7 = .ok (.isub, 1) := by decide +kernel
theorem dX7_act_8 : decode cX7_act 8 = .ok (.istore_n 2, 1) := by decide +kernel
theorem dX7_act_9 : decode cX7_act 9 = .ok (.iload_n 1, 1) := by decide +kernel
theorem dX7_act_10 : decode cX7_act 10 = .ok (.ifCond .lt 22, 3) := by decide +kernel
theorem dX7_act_13 : decode cX7_act 13 = .ok (.iload_n 2, 1) := by decide +kernel
theorem dX7_act_14 : decode cX7_act 14 = .ok (.ifCond .lt 18, 3) := by decide +kernel
theorem dX7_act_17 : decode cX7_act 17 = .ok (.iload_n 2, 1) := by decide +kernel
theorem dX7_act_18 : decode cX7_act 18 = .ok (.bipush 20, 2) := by decide +kernel
theorem dX7_act_20 : decode cX7_act 20 = .ok (.if_icmp .ge 12, 3) := by decide +kernel
theorem dX7_act_23 : decode cX7_act 23 = .ok (.aload_n 0, 1) := by decide +kernel
theorem dX7_act_24 : decode cX7_act 24 = .ok (.getfield 24, 3) := by decide +kernel
theorem dX7_act_27 : decode cX7_act 27 = .ok (.iload_n 2, 1) := by decide +kernel
theorem dX7_act_28 : decode cX7_act 28 = .ok (.iaload, 1) := by decide +kernel
theorem dX7_act_29 : decode cX7_act 29 = .ok (.goto 4, 3) := by decide +kernel
theorem dX7_act_32 : decode cX7_act 32 = .ok (.iconst (-1), 1) := by decide +kernel
theorem dX7_act_33 : decode cX7_act 33 = .ok (.ireturn, 1) := by decide +kernel
theorem dX7_begin_0 : decode cX7_begin 0 = .ok (.aload_n 0, 1) := by decide +kernel
theorem dX7_begin_1 : decode cX7_begin 1 = .ok (.aload_n 1, 1) := by decide +kernel
theorem dX7_begin_2 : decode cX7_begin 2 = .ok (.getfield 75, 3) := by decide +kernel
theorem dX7_begin_5 : decode cX7_begin 5 = .ok (.getfield 79, 3) := by decide +kernel
theorem dX7_begin_8 : decode cX7_begin 8 = .ok (.iconst 0, 1) := by decide +kernel
theorem dX7_begin_9 : decode cX7_begin 9 = .ok (.iaload, 1) := by decide +kernel
theorem dX7_begin_10 : decode cX7_begin 10 = .ok (.putfield 60, 3) := by decide +kernel
theorem dX7_begin_13 : decode cX7_begin 13 = .ok (.iconst 0, 1) := by decide +kernel
theorem dX7_begin_14 : decode cX7_begin 14 = .ok (.istore_n 3, 1) := by decide +kernel
theorem dX7_begin_15 : decode cX7_begin 15 = .ok (.iload_n 3, 1) := by decide +kernel
theorem dX7_begin_16 : decode cX7_begin 16 = .ok (.aload_n 0, 1) := by decide +kernel
theorem dX7_begin_17 : decode cX7_begin 17 = .ok (.getfield 60, 3) := by decide +kernel
theorem dX7_begin_20 : decode cX7_begin 20 = .ok (.aload_n 0, 1) := by decide +kernel
theorem dX7_begin_21 : decode cX7_begin 21 = .ok (.getfield 60, 3) := by decide +kernel
theorem dX7_begin_24 : decode cX7_begin 24 = .ok (.ishl, 1) := by decide +kernel
theorem dX7_begin_25 : decode cX7_begin 25 = .ok (.if_icmp .ge 23, 3) := by decide +kernel
theorem dX7_begin_28 : decode cX7_begin 28 = .ok (.iload_n 3, 1) := by decide +kernel
theorem dX7_begin_29 : decode cX7_begin 29 = .ok (.sipush 10240, 3) := by decide +kernel
theorem dX7_begin_32 : decode cX7_begin 32 = .ok (.if_icmp .ge 16, 3) := by decide +kernel
theorem dX7_begin_35 : decode cX7_begin 35 = .ok (.aload_n 0, 1) := by decide +kernel
theorem dX7_begin_36 : decode cX7_begin 36 = .ok (.getfield 11, 3) := by decide +kernel
theorem dX7_begin_39 : decode cX7_begin 39 = .ok (.iload_n 3, 1) := by decide +kernel
theorem dX7_begin_40 : decode cX7_begin 40 = .ok (.iconst 0, 1) := by decide +kernel
theorem dX7_begin_41 : decode cX7_begin 41 = .ok (.iastore, 1) := by decide +kernel
theorem dX7_begin_42 : decode cX7_begin 42 = .ok (.iinc 3 1, 3) := by decide +kernel
theorem dX7_begin_45 : decode cX7_begin 45 = .ok (.goto (-30), 3) := by decide +kernel
theorem dX7_begin_48 : decode cX7_begin 48 = .ok (.aload_n 0, 1) := by decide +kernel
theorem dX7_begin_49 : decode cX7_begin 49 = .ok (.getfield 18, 3) := by decide +kernel
theorem dX7_begin_52 : decode cX7_begin 52 = .ok (.iconst 0, 1) := by decide +kernel
theorem dX7_begin_53 : decode cX7_begin 53 = .ok (.invokestatic 84, 3) := by decide +kernel
theorem dX7_begin_56 : decode cX7_begin 56 = .ok (.aload_n 0, 1) := by decide +kernel
theorem dX7_begin_57 : decode cX7_begin 57 = .ok (.iconst 0, 1) := by decide +kernel
theorem dX7_begin_58 : decode cX7_begin 58 = .ok (.putfield 57, 3) := by decide +kernel
theorem dX7_begin_61 : decode cX7_begin 61 = .ok (.aload_n 1, 1) := by decide +kernel
theorem dX7_begin_62 : decode cX7_begin 62 = .ok (.getfield 35, 3) := by decide +kernel
theorem dX7_begin_65 : decode cX7_begin 65 = .ok (.getfield 41, 3) := by decide +kernel
theorem dX7_begin_68 : decode cX7_begin 68 = .ok (.iload_n 2, 1) := by decide +kernel
theorem dX7_begin_69 : decode cX7_begin 69 = .ok (.iaload, 1) := by decide +kernel
theorem dX7_begin_70 : decode cX7_begin 70 = .ok (.istore_n 3, 1) := by decide +kernel
theorem dX7_begin_71 : decode cX7_begin 71 = .ok (.iconst 0, 1) := by decide +kernel
theorem dX7_begin_72 : decode cX7_begin 72 = .ok (.istore 4, 2) := by decide +kernel
theorem dX7_begin_74 : decode cX7_begin 74 = .ok (.iload 4, 2) := by decide +kernel
theorem dX7_begin_76 : decode cX7_begin 76 = .ok (.bipush 10, 2) := by decide +kernel
theorem dX7_begin_78 : decode cX7_begin 78 = .ok (.if_icmp .ge 37, 3) := by decide +kernel
theorem dX7_begin_81 : decode cX7_begin 81 = .ok (.aload_n 0, 1) := by decide +kernel
theorem dX7_begin_82 : decode cX7_begin 82 = .ok (.getfield 21, 3) := by decide +kernel
theorem dX7_begin_85 : decode cX7_begin 85 = .ok (.iload 4, 2) := by decide +kernel
theorem dX7_begin_87 : decode cX7_begin 87 = .ok (.aload_n 1, 1) := by decide +kernel
theorem dX7_begin_88 : decode cX7_begin 88 = .ok (.iload 4, 2) := by decide +kernel
theorem dX7_begin_90 : decode cX7_begin 90 = .ok (.invokevirtual 90, 3) := by decide +kernel
theorem dX7_begin_93 : decode cX7_begin 93 = .ok (.invokestatic 94, 3) := by decide +kernel
theorem dX7_begin_96 : decode cX7_begin 96 = .ok (.iload 4, 2) := by decide +kernel
theorem dX7_begin_98 : decode cX7_begin 98 = .ok (.iload_n 3, 1) := by decide +kernel
theorem dX7_begin_99 : decode cX7_begin 99 = .ok (.if_icmp .ne 7, 3) := by decide +kernel
theorem dX7_begin_102 : decode cX7_begin 102 = .ok (.iconst 0, 1) := by decide +kernel
theorem dX7_begin_103 : decode cX7_begin 103 = .ok (.goto 4, 3) := by decide +kernel
theorem dX7_begin_106 : decode cX7_begin 106 = .ok (.iconst 1, 1) := by decide +kernel
theorem dX7_begin_107 : decode cX7_begin 107 = .ok (.iadd, 1) := by decide +kernel
theorem dX7_begin_108 : decode cX7_begin 108 = .ok (.iastore, 1) := by decide +kernel
theorem dX7_begin_109 : decode cX7_begin 109 = .ok (.iinc 4 1, 3) := by decide +kernel
theorem dX7_begin_112 : decode cX7_begin 112 = .ok (.goto (-38), 3) := by decide +kernel
theorem dX7_begin_115 : decode cX7_begin 115 = .ok (.return_, 1) := by decide +kernel
theorem dX7_stateOf_0 : decode cX7_stateOf 0 = .ok (.iload_n 1, 1) := by decide +kernel
theorem dX7_stateOf_1 : decode cX7_stateOf 1 = .ok (.aload_n 0, 1) := by decide +kernel
theorem dX7_stateOf_2 : decode cX7_stateOf 2 = .ok (.getfield 60, 3) := by decide +kernel
theorem dX7_stateOf_5 : decode cX7_stateOf 5 = .ok (.ishl, 1) := by decide +kernel
theorem dX7_stateOf_6 : decode cX7_stateOf 6 = .ok (.iload_n 2, 1) := by decide +kernel
theorem dX7_stateOf_7 : decode cX7_stateOf 7 = .ok (.ior, 1) := by decide +kernel
theorem dX7_stateOf_8 : decode cX7_stateOf 8 = .ok (.ireturn, 1) := by decide +kernel
theorem dX7_reach_0 : decode cX7_reach 0 = .ok (.aload_n 0, 1) := by decide +kernel
theorem dX7_reach_1 : decode cX7_reach 1 = .ok (.iload_n 1, 1) := by decide +kernel
theorem dX7_reach_2 : decode cX7_reach 2 = .ok (.iload_n 2, 1) := by decide +kernel
theorem dX7_reach_3 : decode cX7_reach 3 = .ok (.invokevirtual 53, 3) := by decide +kernel
theorem dX7_reach_6 : decode cX7_reach 6 = .ok (.istore 4, 2) := by decide +kernel
theorem dX7_reach_8 : decode cX7_reach 8 = .ok (.iload 4, 2) := by decide +kernel
theorem dX7_reach_10 : decode cX7_reach 10 = .ok (.ifCond .lt 60, 3) := by decide +kernel
theorem dX7_reach_13 : decode cX7_reach 13 = .ok (.iload 4, 2) := by decide +kernel
theorem dX7_reach_15 : decode cX7_reach 15 = .ok (.sipush 10240, 3) := by decide +kernel
theorem dX7_reach_18 : decode cX7_reach 18 = .ok (.if_icmp .ge 52, 3) := by decide +kernel
theorem dX7_reach_21 : decode cX7_reach 21 = .ok (.aload_n 0, 1) := by decide +kernel
theorem dX7_reach_22 : decode cX7_reach 22 = .ok (.getfield 11, 3) := by decide +kernel
theorem dX7_reach_25 : decode cX7_reach 25 = .ok (.iload 4, 2) := by decide +kernel
theorem dX7_reach_27 : decode cX7_reach 27 = .ok (.iaload, 1) := by decide +kernel
theorem dX7_reach_28 : decode cX7_reach 28 = .ok (.ifCond .ne 42, 3) := by decide +kernel
theorem dX7_reach_31 : decode cX7_reach 31 = .ok (.aload_n 0, 1) := by decide +kernel
theorem dX7_reach_32 : decode cX7_reach 32 = .ok (.getfield 57, 3) := by decide +kernel
theorem dX7_reach_35 : decode cX7_reach 35 = .ok (.sipush 10240, 3) := by decide +kernel
theorem dX7_reach_38 : decode cX7_reach 38 = .ok (.if_icmp .ge 32, 3) := by decide +kernel
theorem dX7_reach_41 : decode cX7_reach 41 = .ok (.aload_n 0, 1) := by decide +kernel
theorem dX7_reach_42 : decode cX7_reach 42 = .ok (.getfield 11, 3) := by decide +kernel
theorem dX7_reach_45 : decode cX7_reach 45 = .ok (.iload 4, 2) := by decide +kernel
theorem dX7_reach_47 : decode cX7_reach 47 = .ok (.iload_n 3, 1) := by decide +kernel
theorem dX7_reach_48 : decode cX7_reach 48 = .ok (.iastore, 1) := by decide +kernel
theorem dX7_reach_49 : decode cX7_reach 49 = .ok (.aload_n 0, 1) := by decide +kernel
theorem dX7_reach_50 : decode cX7_reach 50 = .ok (.getfield 15, 3) := by decide +kernel
theorem dX7_reach_53 : decode cX7_reach 53 = .ok (.aload_n 0, 1) := by decide +kernel
theorem dX7_reach_54 : decode cX7_reach 54 = .ok (.getfield 57, 3) := by decide +kernel
theorem dX7_reach_57 : decode cX7_reach 57 = .ok (.iload 4, 2) := by decide +kernel
theorem dX7_reach_59 : decode cX7_reach 59 = .ok (.iastore, 1) := by decide +kernel
theorem dX7_reach_60 : decode cX7_reach 60 = .ok (.aload_n 0, 1) := by decide +kernel
theorem dX7_reach_61 : decode cX7_reach 61 = .ok (.dup, 1) := by decide +kernel
theorem dX7_reach_62 : decode cX7_reach 62 = .ok (.getfield 57, 3) := by decide +kernel
theorem dX7_reach_65 : decode cX7_reach 65 = .ok (.iconst 1, 1) := by decide +kernel
theorem dX7_reach_66 : decode cX7_reach 66 = .ok (.iadd, 1) := by decide +kernel
theorem dX7_reach_67 : decode cX7_reach 67 = .ok (.putfield 57, 3) := by decide +kernel
theorem dX7_reach_70 : decode cX7_reach 70 = .ok (.return_, 1) := by decide +kernel
theorem dX7_payFrom_0 : decode cX7_payFrom 0 = .ok (.iload_n 2, 1) := by decide +kernel
theorem dX7_payFrom_1 : decode cX7_payFrom 1 = .ok (.iload_n 3, 1) := by decide +kernel
theorem dX7_payFrom_2 : decode cX7_payFrom 2 = .ok (.invokestatic 99, 3) := by decide +kernel
theorem dX7_payFrom_5 : decode cX7_payFrom 5 = .ok (.ifCond .eq 24, 3) := by decide +kernel
theorem dX7_payFrom_8 : decode cX7_payFrom 8 = .ok (.aload_n 0, 1) := by decide +kernel
theorem dX7_payFrom_9 : decode cX7_payFrom 9 = .ok (.iload_n 3, 1) := by decide +kernel
theorem dX7_payFrom_10 : decode cX7_payFrom 10 = .ok (.iload_n 2, 1) := by decide +kernel
theorem dX7_payFrom_11 : decode cX7_payFrom 11 = .ok (.iconst 1, 1) := by decide +kernel
theorem dX7_payFrom_12 : decode cX7_payFrom 12 = .ok (.iload_n 3, 1) := by decide +kernel
theorem dX7_payFrom_13 : decode cX7_payFrom 13 = .ok (.iadd, 1) := by decide +kernel
theorem dX7_payFrom_14 : decode cX7_payFrom 14 = .ok (.bipush 20, 2) := by decide +kernel
theorem dX7_payFrom_16 : decode cX7_payFrom 16 = .ok (.iload_n 1, 1) := by decide +kernel
theorem dX7_payFrom_17 : decode cX7_payFrom 17 = .ok (.imul, 1) := by decide +kernel
theorem dX7_payFrom_18 : decode cX7_payFrom 18 = .ok (.iadd, 1) := by decide +kernel
theorem dX7_payFrom_19 : decode cX7_payFrom 19 = .ok (.invokevirtual 49, 3) := by decide +kernel
theorem dX7_payFrom_22 : decode cX7_payFrom 22 = .ok (.aload_n 0, 1) := by decide +kernel
theorem dX7_payFrom_23 : decode cX7_payFrom 23 = .ok (.iload_n 3, 1) := by decide +kernel
theorem dX7_payFrom_24 : decode cX7_payFrom 24 = .ok (.iload_n 2, 1) := by decide +kernel
theorem dX7_payFrom_25 : decode cX7_payFrom 25 = .ok (.invokevirtual 53, 3) := by decide +kernel
theorem dX7_payFrom_28 : decode cX7_payFrom 28 = .ok (.ireturn, 1) := by decide +kernel
theorem dX7_payFrom_29 : decode cX7_payFrom 29 = .ok (.iconst 0, 1) := by decide +kernel
theorem dX7_payFrom_30 : decode cX7_payFrom 30 = .ok (.istore 4, 2) := by decide +kernel
theorem dX7_payFrom_32 : decode cX7_payFrom 32 = .ok (.iload 4, 2) := by decide +kernel
theorem dX7_payFrom_34 : decode cX7_payFrom 34 = .ok (.aload_n 0, 1) := by decide +kernel
theorem dX7_payFrom_35 : decode cX7_payFrom 35 = .ok (.getfield 60, 3) := by decide +kernel
theorem dX7_payFrom_38 : decode cX7_payFrom 38 = .ok (.if_icmp .ge 40, 3) := by decide +kernel
theorem dX7_payFrom_41 : decode cX7_payFrom 41 = .ok (.iload 4, 2) := by decide +kernel
theorem dX7_payFrom_43 : decode cX7_payFrom 43 = .ok (.iload_n 1, 1) := by decide +kernel
theorem dX7_payFrom_44 : decode cX7_payFrom 44 = .ok (.if_icmp .eq 28, 3) := by decide +kernel
theorem dX7_payFrom_47 : decode cX7_payFrom 47 = .ok (.iload_n 2, 1) := by decide +kernel
theorem dX7_payFrom_48 : decode cX7_payFrom 48 = .ok (.iload 4, 2) := by decide +kernel
theorem dX7_payFrom_50 : decode cX7_payFrom 50 = .ok (.invokestatic 99, 3) := by decide +kernel
theorem dX7_payFrom_53 : decode cX7_payFrom 53 = .ok (.ifCond .eq 19, 3) := by decide +kernel
theorem dX7_payFrom_56 : decode cX7_payFrom 56 = .ok (.aload_n 0, 1) := by decide +kernel
theorem dX7_payFrom_57 : decode cX7_payFrom 57 = .ok (.iload 4, 2) := by decide +kernel
theorem dX7_payFrom_59 : decode cX7_payFrom 59 = .ok (.iload_n 2, 1) := by decide +kernel
theorem dX7_payFrom_60 : decode cX7_payFrom 60 = .ok (.iconst 1, 1) := by decide +kernel
theorem dX7_payFrom_61 : decode cX7_payFrom 61 = .ok (.iload 4, 2) := by decide +kernel
theorem dX7_payFrom_63 : decode cX7_payFrom 63 = .ok (.iadd, 1) := by decide +kernel
theorem dX7_payFrom_64 : decode cX7_payFrom 64 = .ok (.bipush 20, 2) := by decide +kernel
theorem dX7_payFrom_66 : decode cX7_payFrom 66 = .ok (.iload_n 1, 1) := by decide +kernel
theorem dX7_payFrom_67 : decode cX7_payFrom 67 = .ok (.imul, 1) := by decide +kernel
theorem dX7_payFrom_68 : decode cX7_payFrom 68 = .ok (.iadd, 1) := by decide +kernel
theorem dX7_payFrom_69 : decode cX7_payFrom 69 = .ok (.invokevirtual 49, 3) := by decide +kernel
theorem dX7_payFrom_72 : decode cX7_payFrom 72 = .ok (.iinc 4 1, 3) := by decide +kernel
theorem dX7_payFrom_75 : decode cX7_payFrom 75 = .ok (.goto (-43), 3) := by decide +kernel
theorem dX7_payFrom_78 : decode cX7_payFrom 78 = .ok (.iconst (-1), 1) := by decide +kernel
theorem dX7_payFrom_79 : decode cX7_payFrom 79 = .ok (.ireturn, 1) := by decide +kernel
theorem dX7_presentFrom_0 : decode cX7_presentFrom 0 = .ok (.iload_n 3, 1) := by decide +kernel
theorem dX7_presentFrom_1 : decode cX7_presentFrom 1 = .ok (.aload_n 0, 1) := by decide +kernel
theorem dX7_presentFrom_2 : decode cX7_presentFrom 2 = .ok (.getfield 60, 3) := by decide +kernel
theorem dX7_presentFrom_5 : decode cX7_presentFrom 5 = .ok (.ishr, 1) := by decide +kernel
theorem dX7_presentFrom_6 : decode cX7_presentFrom 6 = .ok (.istore 4, 2) := by decide +kernel
theorem dX7_presentFrom_8 : decode cX7_presentFrom 8 = .ok (.iload_n 3, 1) := by decide +kernel
theorem dX7_presentFrom_9 : decode cX7_presentFrom 9 = .ok (.iconst 1, 1) := by decide +kernel
theorem dX7_presentFrom_10 : decode cX7_presentFrom 10 = .ok (.aload_n 0, 1) := by decide +kernel
theorem dX7_presentFrom_11 : decode cX7_presentFrom 11 = .ok (.getfield 60, 3) := by decide +kernel
theorem dX7_presentFrom_14 : decode cX7_presentFrom 14 = .ok (.ishl, 1) := by decide +kernel
theorem dX7_presentFrom_15 : decode cX7_presentFrom 15 = .ok (.iconst 1, 1) := by decide +kernel
theorem dX7_presentFrom_16 : decode cX7_presentFrom 16 = .ok (.isub, 1) := by decide +kernel
theorem dX7_presentFrom_17 : decode cX7_presentFrom 17 = .ok (.iand, 1) := by decide +kernel
theorem dX7_presentFrom_18 : decode cX7_presentFrom 18 = .ok (.istore 5, 2) := by decide +kernel
theorem dX7_presentFrom_20 : decode cX7_presentFrom 20 = .ok (.iload 5, 2) := by decide +kernel
theorem dX7_presentFrom_22 : decode cX7_presentFrom 22 = .ok (.aload_n 1, 1) := by decide +kernel
theorem dX7_presentFrom_23 : decode cX7_presentFrom 23 = .ok (.getfield 35, 3) := by decide +kernel
theorem dX7_presentFrom_26 : decode cX7_presentFrom 26 = .ok (.getfield 103, 3) := by decide +kernel
theorem dX7_presentFrom_29 : decode cX7_presentFrom 29 = .ok (.iload_n 2, 1) := by decide +kernel
theorem dX7_presentFrom_30 : decode cX7_presentFrom 30 = .ok (.iaload, 1) := by decide +kernel
theorem dX7_presentFrom_31 : decode cX7_presentFrom 31 = .ok (.ior, 1) := by decide +kernel
theorem dX7_presentFrom_32 : decode cX7_presentFrom 32 = .ok (.istore 6, 2) := by decide +kernel
theorem dX7_presentFrom_34 : decode cX7_presentFrom 34 = .ok (.iconst 0, 1) := by decide +kernel
theorem dX7_presentFrom_35 : decode cX7_presentFrom 35 = .ok (.istore 7, 2) := by decide +kernel
theorem dX7_presentFrom_37 : decode cX7_presentFrom 37 = .ok (.iload 7, 2) := by decide +kernel
theorem dX7_presentFrom_39 : decode cX7_presentFrom 39 = .ok (.aload_n 0, 1) := by decide +kernel
theorem dX7_presentFrom_40 : decode cX7_presentFrom 40 = .ok (.getfield 60, 3) := by decide +kernel
theorem dX7_presentFrom_43 : decode cX7_presentFrom 43 = .ok (.if_icmp .ge 61, 3) := by decide +kernel
theorem dX7_presentFrom_46 : decode cX7_presentFrom 46 = .ok (.iload 6, 2) := by decide +kernel
theorem dX7_presentFrom_48 : decode cX7_presentFrom 48 = .ok (.iload 7, 2) := by decide +kernel
theorem dX7_presentFrom_50 : decode cX7_presentFrom 50 = .ok (.invokestatic 99, 3) := by decide +kernel
theorem dX7_presentFrom_53 : decode cX7_presentFrom 53 = .ok (.ifCond .ne 45, 3) := by decide +kernel
theorem dX7_presentFrom_56 : decode cX7_presentFrom 56 = .ok (.aload_n 0, 1) := by decide +kernel
theorem dX7_presentFrom_57 : decode cX7_presentFrom 57 = .ok (.aload_n 1, 1) := by decide +kernel
theorem dX7_presentFrom_58 : decode cX7_presentFrom 58 = .ok (.iload_n 2, 1) := by decide +kernel
theorem dX7_presentFrom_59 : decode cX7_presentFrom 59 = .ok (.iload 4, 2) := by decide +kernel
theorem dX7_presentFrom_61 : decode cX7_presentFrom 61 = .ok (.iload 7, 2) := by decide +kernel
theorem dX7_presentFrom_63 : decode cX7_presentFrom 63 = .ok (.iload 5, 2) := by decide +kernel
theorem dX7_presentFrom_65 : decode cX7_presentFrom 65 = .ok (.invokestatic 94, 3) := by decide +kernel
theorem dX7_presentFrom_68 : decode cX7_presentFrom 68 = .ok (.invokevirtual 106, 3) := by decide +kernel
theorem dX7_presentFrom_71 : decode cX7_presentFrom 71 = .ok (.ifCond .eq 27, 3) := by decide +kernel
theorem dX7_presentFrom_74 : decode cX7_presentFrom 74 = .ok (.aload_n 0, 1) := by decide +kernel
theorem dX7_presentFrom_75 : decode cX7_presentFrom 75 = .ok (.iload 4, 2) := by decide +kernel
theorem dX7_presentFrom_77 : decode cX7_presentFrom 77 = .ok (.iload 5, 2) := by decide +kernel
theorem dX7_presentFrom_79 : decode cX7_presentFrom 79 = .ok (.iconst 1, 1) := by decide +kernel
theorem dX7_presentFrom_80 : decode cX7_presentFrom 80 = .ok (.iload 7, 2) := by decide +kernel
theorem dX7_presentFrom_82 : decode cX7_presentFrom 82 = .ok (.ishl, 1) := by decide +kernel
theorem dX7_presentFrom_83 : decode cX7_presentFrom 83 = .ok (.ior, 1) := by decide +kernel
theorem dX7_presentFrom_84 : decode cX7_presentFrom 84 = .ok (.bipush 11, 2) := by decide +kernel
theorem dX7_presentFrom_86 : decode cX7_presentFrom 86 = .ok (.iload 7, 2) := by decide +kernel
theorem dX7_presentFrom_88 : decode cX7_presentFrom 88 = .ok (.iadd, 1) := by decide +kernel
theorem dX7_presentFrom_89 : decode cX7_presentFrom 89 = .ok (.bipush 20, 2) := by decide +kernel
theorem dX7_presentFrom_91 : decode cX7_presentFrom 91 = .ok (.iload 4, 2) := by decide +kernel
theorem dX7_presentFrom_93 : decode cX7_presentFrom 93 = .ok (.imul, 1) := by decide +kernel
theorem dX7_presentFrom_94 : decode cX7_presentFrom 94 = .ok (.iadd, 1) := by decide +kernel
theorem dX7_presentFrom_95 : decode cX7_presentFrom 95 = .ok (.invokevirtual 49, 3) := by decide +kernel
theorem dX7_presentFrom_98 : decode cX7_presentFrom 98 = .ok (.iinc 7 1, 3) := by decide +kernel
theorem dX7_presentFrom_101 : decode cX7_presentFrom 101 = .ok (.goto (-64), 3) := by decide +kernel
theorem dX7_presentFrom_104 : decode cX7_presentFrom 104 = .ok (.return_, 1) := by decide +kernel
theorem dX7_testHolds_0 : decode cX7_testHolds 0 = .ok (.iload_n 3, 1) := by decide +kernel
theorem dX7_testHolds_1 : decode cX7_testHolds 1 = .ok (.bipush 10, 2) := by decide +kernel
theorem dX7_testHolds_3 : decode cX7_testHolds 3 = .ok (.imul, 1) := by decide +kernel
theorem dX7_testHolds_4 : decode cX7_testHolds 4 = .ok (.iload 4, 2) := by decide +kernel
theorem dX7_testHolds_6 : decode cX7_testHolds 6 = .ok (.iadd, 1) := by decide +kernel
theorem dX7_testHolds_7 : decode cX7_testHolds 7 = .ok (.bipush 10, 2) := by decide +kernel
theorem dX7_testHolds_9 : decode cX7_testHolds 9 = .ok (.imul, 1) := by decide +kernel
theorem dX7_testHolds_10 : decode cX7_testHolds 10 = .ok (.iload 5, 2) := by decide +kernel
theorem dX7_testHolds_12 : decode cX7_testHolds 12 = .ok (.iadd, 1) := by decide +kernel
theorem dX7_testHolds_13 : decode cX7_testHolds 13 = .ok (.iconst 1, 1) := by decide +kernel
theorem dX7_testHolds_14 : decode cX7_testHolds 14 = .ok (.isub, 1) := by decide +kernel
theorem dX7_testHolds_15 : decode cX7_testHolds 15 = .ok (.istore 6, 2) := by decide +kernel
theorem dX7_testHolds_17 : decode cX7_testHolds 17 = .ok (.iload 6, 2) := by decide +kernel
theorem dX7_testHolds_19 : decode cX7_testHolds 19 = .ok (.ifCond .lt 13, 3) := by decide +kernel
theorem dX7_testHolds_22 : decode cX7_testHolds 22 = .ok (.iload 6, 2) := by decide +kernel
theorem dX7_testHolds_24 : decode cX7_testHolds 24 = .ok (.aload_n 0, 1) := by decide +kernel
theorem dX7_testHolds_25 : decode cX7_testHolds 25 = .ok (.getfield 18, 3) := by decide +kernel
theorem dX7_testHolds_28 : decode cX7_testHolds 28 = .ok (.arraylength, 1) := by decide +kernel
theorem dX7_testHolds_29 : decode cX7_testHolds 29 = .ok (.if_icmp .lt 5, 3) := by decide +kernel
theorem dX7_testHolds_32 : decode cX7_testHolds 32 = .ok (.iconst 0, 1) := by decide +kernel
theorem dX7_testHolds_33 : decode cX7_testHolds 33 = .ok (.ireturn, 1) := by decide +kernel
theorem dX7_testHolds_34 : decode cX7_testHolds 34 = .ok (.aload_n 0, 1) := by decide +kernel
theorem dX7_testHolds_35 : decode cX7_testHolds 35 = .ok (.getfield 18, 3) := by decide +kernel
theorem dX7_testHolds_38 : decode cX7_testHolds 38 = .ok (.iload 6, 2) := by decide +kernel
theorem dX7_testHolds_40 : decode cX7_testHolds 40 = .ok (.iaload, 1) := by decide +kernel
theorem dX7_testHolds_41 : decode cX7_testHolds 41 = .ok (.ifCond .ne 34, 3) := by decide +kernel
theorem dX7_testHolds_44 : decode cX7_testHolds 44 = .ok (.aload_n 0, 1) := by decide +kernel
theorem dX7_testHolds_45 : decode cX7_testHolds 45 = .ok (.getfield 18, 3) := by decide +kernel
theorem dX7_testHolds_48 : decode cX7_testHolds 48 = .ok (.iload 6, 2) := by decide +kernel
theorem dX7_testHolds_50 : decode cX7_testHolds 50 = .ok (.aload_n 1, 1) := by decide +kernel
theorem dX7_testHolds_51 : decode cX7_testHolds 51 = .ok (.iload_n 2, 1) := by decide +kernel
theorem dX7_testHolds_52 : decode cX7_testHolds 52 = .ok (.iload_n 3, 1) := by decide +kernel
theorem dX7_testHolds_53 : decode cX7_testHolds 53 = .ok (.iload 4, 2) := by decide +kernel
theorem dX7_testHolds_55 : decode cX7_testHolds 55 = .ok (.iload 5, 2) := by decide +kernel
theorem dX7_testHolds_57 : decode cX7_testHolds 57 = .ok (.aload_n 0, 1) := by decide +kernel
theorem dX7_testHolds_58 : decode cX7_testHolds 58 = .ok (.getfield 21, 3) := by decide +kernel
theorem dX7_testHolds_61 : decode cX7_testHolds 61 = .ok (.iload_n 3, 1) := by decide +kernel
theorem dX7_testHolds_62 : decode cX7_testHolds 62 = .ok (.iaload, 1) := by decide +kernel
theorem dX7_testHolds_63 : decode cX7_testHolds 63 = .ok (.invokevirtual 110, 3) := by decide +kernel
theorem dX7_testHolds_66 : decode cX7_testHolds 66 = .ok (.ifCond .eq 7, 3) := by decide +kernel
theorem dX7_testHolds_69 : decode cX7_testHolds 69 = .ok (.iconst 1, 1) := by decide +kernel
theorem dX7_testHolds_70 : decode cX7_testHolds 70 = .ok (.goto 4, 3) := by decide +kernel
theorem dX7_testHolds_73 : decode cX7_testHolds 73 = .ok (.iconst 2, 1) := by decide +kernel
theorem dX7_testHolds_74 : decode cX7_testHolds 74 = .ok (.iastore, 1) := by decide +kernel
theorem dX7_testHolds_75 : decode cX7_testHolds 75 = .ok (.aload_n 0, 1) := by decide +kernel
theorem dX7_testHolds_76 : decode cX7_testHolds 76 = .ok (.getfield 18, 3) := by decide +kernel
theorem dX7_testHolds_79 : decode cX7_testHolds 79 = .ok (.iload 6, 2) := by decide +kernel
theorem dX7_testHolds_81 : decode cX7_testHolds 81 = .ok (.iaload, 1) := by decide +kernel
theorem dX7_testHolds_82 : decode cX7_testHolds 82 = .ok (.iconst 1, 1) := by decide +kernel
theorem dX7_testHolds_83 : decode cX7_testHolds 83 = .ok (.if_icmp .ne 7, 3) := by decide +kernel
theorem dX7_testHolds_86 : decode cX7_testHolds 86 = .ok (.iconst 1, 1) := by decide +kernel
theorem dX7_testHolds_87 : decode cX7_testHolds 87 = .ok (.goto 4, 3) := by decide +kernel
theorem dX7_testHolds_90 : decode cX7_testHolds 90 = .ok (.iconst 0, 1) := by decide +kernel
theorem dX7_testHolds_91 : decode cX7_testHolds 91 = .ok (.ireturn, 1) := by decide +kernel
theorem dX7_trace_0 : decode cX7_trace 0 = .ok (.iload_n 1, 1) := by decide +kernel
theorem dX7_trace_1 : decode cX7_trace 1 = .ok (.istore_n 2, 1) := by decide +kernel
theorem dX7_trace_2 : decode cX7_trace 2 = .ok (.aload_n 0, 1) := by decide +kernel
theorem dX7_trace_3 : decode cX7_trace 3 = .ok (.iconst 0, 1) := by decide +kernel
theorem dX7_trace_4 : decode cX7_trace 4 = .ok (.putfield 27, 3) := by decide +kernel
theorem dX7_trace_7 : decode cX7_trace 7 = .ok (.iconst 0, 1) := by decide +kernel
theorem dX7_trace_8 : decode cX7_trace 8 = .ok (.istore_n 3, 1) := by decide +kernel
theorem dX7_trace_9 : decode cX7_trace 9 = .ok (.iload_n 3, 1) := by decide +kernel
theorem dX7_trace_10 : decode cX7_trace 10 = .ok (.bipush 20, 2) := by decide +kernel
theorem dX7_trace_12 : decode cX7_trace 12 = .ok (.if_icmp .ge 110, 3) := by decide +kernel
theorem dX7_trace_15 : decode cX7_trace 15 = .ok (.iload_n 2, 1) := by decide +kernel
theorem dX7_trace_16 : decode cX7_trace 16 = .ok (.ifCond .lt 106, 3) := by decide +kernel
theorem dX7_trace_19 : decode cX7_trace 19 = .ok (.iload_n 2, 1) := by decide +kernel
theorem dX7_trace_20 : decode cX7_trace 20 = .ok (.sipush 10240, 3) := by decide +kernel
theorem dX7_trace_23 : decode cX7_trace 23 = .ok (.if_icmp .ge 99, 3) := by decide +kernel
theorem dX7_trace_26 : decode cX7_trace 26 = .ok (.aload_n 0, 1) := by decide +kernel
theorem dX7_trace_27 : decode cX7_trace 27 = .ok (.getfield 11, 3) := by decide +kernel
theorem dX7_trace_30 : decode cX7_trace 30 = .ok (.iload_n 2, 1) := by decide +kernel
theorem dX7_trace_31 : decode cX7_trace 31 = .ok (.iaload, 1) := by decide +kernel
theorem dX7_trace_32 : decode cX7_trace 32 = .ok (.ifCond .le 90, 3) := by decide +kernel
theorem dX7_trace_35 : decode cX7_trace 35 = .ok (.aload_n 0, 1) := by decide +kernel
theorem dX7_trace_36 : decode cX7_trace 36 = .ok (.getfield 11, 3) := by decide +kernel
theorem dX7_trace_39 : decode cX7_trace 39 = .ok (.iload_n 2, 1) := by decide +kernel
theorem dX7_trace_40 : decode cX7_trace 40 = .ok (.iaload, 1) := by decide +kernel
theorem dX7_trace_41 : decode cX7_trace 41 = .ok (.iconst 1, 1) := by decide +kernel
theorem dX7_trace_42 : decode cX7_trace 42 = .ok (.isub, 1) := by decide +kernel
theorem dX7_trace_43 : decode cX7_trace 43 = .ok (.istore 4, 2) := by decide +kernel
theorem dX7_trace_45 : decode cX7_trace 45 = .ok (.iload 4, 2) := by decide +kernel
theorem dX7_trace_47 : decode cX7_trace 47 = .ok (.bipush 20, 2) := by decide +kernel
theorem dX7_trace_49 : decode cX7_trace 49 = .ok (.irem, 1) := by decide +kernel
theorem dX7_trace_50 : decode cX7_trace 50 = .ok (.istore 5, 2) := by decide +kernel
theorem dX7_trace_52 : decode cX7_trace 52 = .ok (.iload_n 2, 1) := by decide +kernel
theorem dX7_trace_53 : decode cX7_trace 53 = .ok (.iconst 1, 1) := by decide +kernel
theorem dX7_trace_54 : decode cX7_trace 54 = .ok (.aload_n 0, 1) := by decide +kernel
theorem dX7_trace_55 : decode cX7_trace 55 = .ok (.getfield 60, 3) := by decide +kernel
theorem dX7_trace_58 : decode cX7_trace 58 = .ok (.ishl, 1) := by decide +kernel
theorem dX7_trace_59 : decode cX7_trace 59 = .ok (.iconst 1, 1) := by decide +kernel
theorem dX7_trace_60 : decode cX7_trace 60 = .ok (.isub, 1) := by decide +kernel
theorem dX7_trace_61 : decode cX7_trace 61 = .ok (.iand, 1) := by decide +kernel
theorem dX7_trace_62 : decode cX7_trace 62 = .ok (.istore 6, 2) := by decide +kernel
theorem dX7_trace_64 : decode cX7_trace 64 = .ok (.aload_n 0, 1) := by decide +kernel
theorem dX7_trace_65 : decode cX7_trace 65 = .ok (.getfield 24, 3) := by decide +kernel
theorem dX7_trace_68 : decode cX7_trace 68 = .ok (.iload_n 3, 1) := by decide +kernel
theorem dX7_trace_69 : decode cX7_trace 69 = .ok (.iload 5, 2) := by decide +kernel
theorem dX7_trace_71 : decode cX7_trace 71 = .ok (.iastore, 1) := by decide +kernel
theorem dX7_trace_72 : decode cX7_trace 72 = .ok (.aload_n 0, 1) := by decide +kernel
theorem dX7_trace_73 : decode cX7_trace 73 = .ok (.dup, 1) := by decide +kernel
theorem dX7_trace_74 : decode cX7_trace 74 = .ok (.getfield 27, 3) := by decide +kernel
theorem dX7_trace_77 : decode cX7_trace 77 = .ok (.iconst 1, 1) := by decide +kernel
theorem dX7_trace_78 : decode cX7_trace 78 = .ok (.iadd, 1) := by decide +kernel
theorem dX7_trace_79 : decode cX7_trace 79 = .ok (.putfield 27, 3) := by decide +kernel
theorem dX7_trace_82 : decode cX7_trace 82 = .ok (.aload_n 0, 1) := by decide +kernel
theorem dX7_trace_83 : decode cX7_trace 83 = .ok (.iload 4, 2) := by decide +kernel
theorem dX7_trace_85 : decode cX7_trace 85 = .ok (.bipush 20, 2) := by decide +kernel
theorem dX7_trace_87 : decode cX7_trace 87 = .ok (.idiv, 1) := by decide +kernel
theorem dX7_trace_88 : decode cX7_trace 88 = .ok (.iload 5, 2) := by decide +kernel
theorem dX7_trace_90 : decode cX7_trace 90 = .ok (.bipush 10, 2) := by decide +kernel
theorem dX7_trace_92 : decode cX7_trace 92 = .ok (.if_icmp .ge 8, 3) := by decide +kernel
theorem dX7_trace_95 : decode cX7_trace 95 = .ok (.iload 6, 2) := by decide +kernel
theorem dX7_trace_97 : decode cX7_trace 97 = .ok (.goto 15, 3) := by decide +kernel
theorem dX7_trace_100 : decode cX7_trace 100 = .ok (.iload 6, 2) := by decide +kernel
theorem dX7_trace_102 : decode cX7_trace 102 = .ok (.iconst 1, 1) := by decide +kernel
theorem dX7_trace_103 : decode cX7_trace 103 = .ok (.iload 5, 2) := by decide +kernel
theorem dX7_trace_105 : decode cX7_trace 105 = .ok (.bipush 10, 2) := by decide +kernel
theorem dX7_trace_107 : decode cX7_trace 107 = .ok (.isub, 1) := by decide +kernel
theorem dX7_trace_108 : decode cX7_trace 108 = .ok (.ishl, 1) := by decide +kernel
theorem dX7_trace_109 : decode cX7_trace 109 = .ok (.iconst (-1), 1) := by decide +kernel
theorem dX7_trace_110 : decode cX7_trace 110 = .ok (.ixor, 1) := by decide +kernel
theorem dX7_trace_111 : decode cX7_trace 111 = .ok (.iand, 1) := by decide +kernel
theorem dX7_trace_112 : decode cX7_trace 112 = .ok (.invokevirtual 53, 3) := by decide +kernel
theorem dX7_trace_115 : decode cX7_trace 115 = .ok (.istore_n 2, 1) := by decide +kernel
theorem dX7_trace_116 : decode cX7_trace 116 = .ok (.iinc 3 1, 3) := by decide +kernel
theorem dX7_trace_119 : decode cX7_trace 119 = .ok (.goto (-110), 3) := by decide +kernel
theorem dX7_trace_122 : decode cX7_trace 122 = .ok (.return_, 1) := by decide +kernel
theorem dX8_init_0 : decode cX8_init 0 = .ok (.aload_n 0, 1) := by decide +kernel
theorem dX8_init_1 : decode cX8_init 1 = .ok (.invokespecial 3, 3) := by decide +kernel
theorem dX8_init_4 : decode cX8_init 4 = .ok (.aload_n 0, 1) := by decide +kernel
theorem dX8_init_5 : decode cX8_init 5 = .ok (.sipush 1600, 3) := by decide +kernel
theorem dX8_init_8 : decode cX8_init 8 = .ok (.newarray .byte, 2) := by decide +kernel
theorem dX8_init_10 : decode cX8_init 10 = .ok (.putfield 9, 3) := by decide +kernel
theorem dX8_init_13 : decode cX8_init 13 = .ok (.aload_n 0, 1) := by decide +kernel
theorem dX8_init_14 : decode cX8_init 14 = .ok (.new 13, 3) := by decide +kernel
theorem dX8_init_17 : decode cX8_init 17 = .ok (.dup, 1) := by decide +kernel
theorem dX8_init_18 : decode cX8_init 18 = .ok (.invokespecial 15, 3) := by decide +kernel
theorem dX8_init_21 : decode cX8_init 21 = .ok (.putfield 16, 3) := by decide +kernel
theorem dX8_init_24 : decode cX8_init 24 = .ok (.aload_n 0, 1) := by decide +kernel
theorem dX8_init_25 : decode cX8_init 25 = .ok (.new 20, 3) := by decide +kernel
theorem dX8_init_28 : decode cX8_init 28 = .ok (.dup, 1) := by decide +kernel
theorem dX8_init_29 : decode cX8_init 29 = .ok (.invokespecial 22, 3) := by decide +kernel
theorem dX8_init_32 : decode cX8_init 32 = .ok (.putfield 23, 3) := by decide +kernel
theorem dX8_init_35 : decode cX8_init 35 = .ok (.aload_n 0, 1) := by decide +kernel
theorem dX8_init_36 : decode cX8_init 36 = .ok (.new 27, 3) := by decide +kernel
theorem dX8_init_39 : decode cX8_init 39 = .ok (.dup, 1) := by decide +kernel
theorem dX8_init_40 : decode cX8_init 40 = .ok (.invokespecial 29, 3) := by decide +kernel
theorem dX8_init_43 : decode cX8_init 43 = .ok (.putfield 30, 3) := by decide +kernel
theorem dX8_init_46 : decode cX8_init 46 = .ok (.aload_n 0, 1) := by decide +kernel
theorem dX8_init_47 : decode cX8_init 47 = .ok (.bipush 6, 2) := by decide +kernel
theorem dX8_init_49 : decode cX8_init 49 = .ok (.newarray .int, 2) := by decide +kernel
theorem dX8_init_51 : decode cX8_init 51 = .ok (.putfield 34, 3) := by decide +kernel
theorem dX8_init_54 : decode cX8_init 54 = .ok (.aload_n 0, 1) := by decide +kernel
theorem dX8_init_55 : decode cX8_init 55 = .ok (.bipush 20, 2) := by decide +kernel
theorem dX8_init_57 : decode cX8_init 57 = .ok (.newarray .int, 2) := by decide +kernel
theorem dX8_init_59 : decode cX8_init 59 = .ok (.putfield 38, 3) := by decide +kernel
theorem dX8_init_62 : decode cX8_init 62 = .ok (.aload_n 0, 1) := by decide +kernel
theorem dX8_init_63 : decode cX8_init 63 = .ok (.sipush 135, 3) := by decide +kernel
theorem dX8_init_66 : decode cX8_init 66 = .ok (.newarray .byte, 2) := by decide +kernel
theorem dX8_init_68 : decode cX8_init 68 = .ok (.putfield 41, 3) := by decide +kernel
theorem dX8_init_71 : decode cX8_init 71 = .ok (.aload_n 0, 1) := by decide +kernel
theorem dX8_init_72 : decode cX8_init 72 = .ok (.iconst 1, 1) := by decide +kernel
theorem dX8_init_73 : decode cX8_init 73 = .ok (.putfield 44, 3) := by decide +kernel
theorem dX8_init_76 : decode cX8_init 76 = .ok (.new 48, 3) := by decide +kernel
theorem dX8_init_79 : decode cX8_init 79 = .ok (.dup, 1) := by decide +kernel
theorem dX8_init_80 : decode cX8_init 80 = .ok (.invokespecial 50, 3) := by decide +kernel
theorem dX8_init_83 : decode cX8_init 83 = .ok (.astore_n 1, 1) := by decide +kernel
theorem dX8_init_84 : decode cX8_init 84 = .ok (.aload_n 0, 1) := by decide +kernel
theorem dX8_init_85 : decode cX8_init 85 = .ok (.aload_n 1, 1) := by decide +kernel
theorem dX8_init_86 : decode cX8_init 86 = .ok (.putfield 51, 3) := by decide +kernel
theorem dX8_init_89 : decode cX8_init 89 = .ok (.aload_n 0, 1) := by decide +kernel
theorem dX8_init_90 : decode cX8_init 90 = .ok (.new 55, 3) := by decide +kernel
theorem dX8_init_93 : decode cX8_init 93 = .ok (.dup, 1) := by decide +kernel
theorem dX8_init_94 : decode cX8_init 94 = .ok (.aload_n 1, 1) := by decide +kernel
theorem dX8_init_95 : decode cX8_init 95 = .ok (.invokespecial 57, 3) := by decide +kernel
theorem dX8_init_98 : decode cX8_init 98 = .ok (.putfield 60, 3) := by decide +kernel
theorem dX8_init_101 : decode cX8_init 101 = .ok (.aload_n 0, 1) := by decide +kernel
theorem dX8_init_102 : decode cX8_init 102 = .ok (.new 55, 3) := by decide +kernel
theorem dX8_init_105 : decode cX8_init 105 = .ok (.dup, 1) := by decide +kernel
theorem dX8_init_106 : decode cX8_init 106 = .ok (.aload_n 1, 1) := by decide +kernel
theorem dX8_init_107 : decode cX8_init 107 = .ok (.invokespecial 57, 3) := by decide +kernel
theorem dX8_init_110 : decode cX8_init 110 = .ok (.putfield 64, 3) := by decide +kernel
theorem dX8_init_113 : decode cX8_init 113 = .ok (.return_, 1) := by decide +kernel
theorem dX8_feed_0 : decode cX8_feed 0 = .ok (.aload_n 0, 1) := by decide +kernel
theorem dX8_feed_1 : decode cX8_feed 1 = .ok (.getfield 67, 3) := by decide +kernel
theorem dX8_feed_4 : decode cX8_feed 4 = .ok (.bipush 20, 2) := by decide +kernel
theorem dX8_feed_6 : decode cX8_feed 6 = .ok (.iadd, 1) := by decide +kernel
theorem dX8_feed_7 : decode cX8_feed 7 = .ok (.sipush 1600, 3) := by decide +kernel
theorem dX8_feed_10 : decode cX8_feed 10 = .ok (.if_icmp .le 9, 3) := by decide +kernel
theorem dX8_feed_13 : decode cX8_feed 13 = .ok (.aload_n 0, 1) := by decide +kernel
theorem dX8_feed_14 : decode cX8_feed 14 = .ok (.iconst 0, 1) := by decide +kernel
theorem dX8_feed_15 : decode cX8_feed 15 = .ok (.invokevirtual 70, 3) := by decide +kernel
theorem dX8_feed_18 : decode cX8_feed 18 = .ok (.ireturn, 1) := by decide +kernel
theorem dX8_feed_19 : decode cX8_feed 19 = .ok (.aload_n 0, 1) := by decide +kernel
theorem dX8_feed_20 : decode cX8_feed 20 = .ok (.aload_n 0, 1) := by decide +kernel
theorem dX8_feed_21 : decode cX8_feed 21 = .ok (.getfield 67, 3) := by decide +kernel
theorem dX8_feed_24 : decode cX8_feed 24 = .ok (.iload_n 1, 1) := by decide +kernel
theorem dX8_feed_25 : decode cX8_feed 25 = .ok (.invokevirtual 74, 3) := by decide +kernel
theorem dX8_feed_28 : decode cX8_feed 28 = .ok (.aload_n 0, 1) := by decide +kernel
theorem dX8_feed_29 : decode cX8_feed 29 = .ok (.aload_n 0, 1) := by decide +kernel
theorem dX8_feed_30 : decode cX8_feed 30 = .ok (.getfield 67, 3) := by decide +kernel
theorem dX8_feed_33 : decode cX8_feed 33 = .ok (.iconst 4, 1) := by decide +kernel
theorem dX8_feed_34 : decode cX8_feed 34 = .ok (.iadd, 1) := by decide +kernel
theorem dX8_feed_35 : decode cX8_feed 35 = .ok (.iload_n 2, 1) := by decide +kernel
theorem dX8_feed_36 : decode cX8_feed 36 = .ok (.invokevirtual 74, 3) := by decide +kernel
theorem dX8_feed_39 : decode cX8_feed 39 = .ok (.aload_n 0, 1) := by decide +kernel
theorem dX8_feed_40 : decode cX8_feed 40 = .ok (.aload_n 0, 1) := by decide +kernel
theorem dX8_feed_41 : decode cX8_feed 41 = .ok (.getfield 67, 3) := by decide +kernel
theorem dX8_feed_44 : decode cX8_feed 44 = .ok (.bipush 8, 2) := by decide +kernel
theorem dX8_feed_46 : decode cX8_feed 46 = .ok (.iadd, 1) := by decide +kernel
theorem dX8_feed_47 : decode cX8_feed 47 = .ok (.iload_n 3, 1) := by decide +kernel
theorem dX8_feed_48 : decode cX8_feed 48 = .ok (.invokevirtual 74, 3) := by decide +kernel
theorem dX8_feed_51 : decode cX8_feed 51 = .ok (.aload_n 0, 1) := by decide +kernel
theorem dX8_feed_52 : decode cX8_feed 52 = .ok (.aload_n 0, 1) := by decide +kernel
theorem dX8_feed_53 : decode cX8_feed 53 = .ok (.getfield 67, 3) := by decide +kernel
theorem dX8_feed_56 : decode cX8_feed 56 = .ok (.bipush 12, 2) := by decide +kernel
theorem dX8_feed_58 : decode cX8_feed 58 = .ok (.iadd, 1) := by decide +kernel
theorem dX8_feed_59 : decode cX8_feed 59 = .ok (.iload 4, 2) := by decide +kernel
theorem dX8_feed_61 : decode cX8_feed 61 = .ok (.invokevirtual 74, 3) := by decide +kernel
theorem dX8_feed_64 : decode cX8_feed 64 = .ok (.aload_n 0, 1) := by decide +kernel
theorem dX8_feed_65 : decode cX8_feed 65 = .ok (.aload_n 0, 1) := by decide +kernel
theorem dX8_feed_66 : decode cX8_feed 66 = .ok (.getfield 67, 3) := by decide +kernel
theorem dX8_feed_69 : decode cX8_feed 69 = .ok (.bipush 16, 2) := by decide +kernel
theorem dX8_feed_71 : decode cX8_feed 71 = .ok (.iadd, 1) := by decide +kernel
theorem dX8_feed_72 : decode cX8_feed 72 = .ok (.iload 5, 2) := by decide +kernel
theorem dX8_feed_74 : decode cX8_feed 74 = .ok (.invokevirtual 74, 3) := by decide +kernel
theorem dX8_feed_77 : decode cX8_feed 77 = .ok (.aload_n 0, 1) := by decide +kernel
theorem dX8_feed_78 : decode cX8_feed 78 = .ok (.dup, 1) := by decide +kernel
theorem dX8_feed_79 : decode cX8_feed 79 = .ok (.getfield 67, 3) := by decide +kernel
theorem dX8_feed_82 : decode cX8_feed 82 = .ok (.bipush 20, 2) := by decide +kernel
theorem dX8_feed_84 : decode cX8_feed 84 = .ok (.iadd, 1) := by decide +kernel
theorem dX8_feed_85 : decode cX8_feed 85 = .ok (.putfield 67, 3) := by decide +kernel
theorem dX8_feed_88 : decode cX8_feed 88 = .ok (.aload_n 0, 1) := by decide +kernel
theorem dX8_feed_89 : decode cX8_feed 89 = .ok (.getfield 67, 3) := by decide +kernel
theorem dX8_feed_92 : decode cX8_feed 92 = .ok (.ireturn, 1) := by decide +kernel
theorem dX8_putNumber_0 : decode cX8_putNumber 0 = .ok (.iconst 0, 1) := by decide +kernel
theorem dX8_putNumber_1 : decode cX8_putNumber 1 = .ok (.istore_n 3, 1) := by decide +kernel
theorem dX8_putNumber_2 : decode cX8_putNumber 2 = .ok (.iload_n 3, 1) := by decide +kernel
theorem dX8_putNumber_3 : decode cX8_putNumber 3 = .ok (.iconst 4, 1) := by decide +kernel
theorem dX8_putNumber_4 : decode cX8_putNumber 4 = .ok (.if_icmp .ge 40, 3) := by decide +kernel
theorem dX8_putNumber_7 : decode cX8_putNumber 7 = .ok (.iload_n 1, 1) := by decide +kernel
theorem dX8_putNumber_8 : decode cX8_putNumber 8 = .ok (.ifCond .lt 30, 3) := by decide +kernel
theorem dX8_putNumber_11 : decode cX8_putNumber 11 = .ok (.iload_n 1, 1) := by decide +kernel
theorem dX8_putNumber_12 : decode cX8_putNumber 12 = .ok (.iload_n 3, 1) := by decide +kernel
theorem dX8_putNumber_13 : decode cX8_putNumber 13 = .ok (.iadd, 1) := by decide +kernel
theorem dX8_putNumber_14 : decode cX8_putNumber 14 = .ok (.sipush 1600, 3) := by decide +kernel
theorem dX8_putNumber_17 : decode cX8_putNumber 17 = .ok (.if_icmp .ge 21, 3) := by decide +kernel
theorem dX8_putNumber_20 : decode cX8_putNumber 20 = .ok (.aload_n 0, 1) := by decide +kernel
theorem dX8_putNumber_21 : decode cX8_putNumber 21 = .ok (.getfield 9, 3) := by decide +kernel
theorem dX8_putNumber_24 : decode cX8_putNumber 24 = .ok (.iload_n 1, 1) := by decide +kernel
theorem dX8_putNumber_25 : decode cX8_putNumber 25 = .ok (.iload_n 3, 1) := by decide +kernel
theorem dX8_putNumber_26 : decode cX8_putNumber 26 = .ok (.iadd, 1) := by decide +kernel
theorem dX8_putNumber_27 : decode cX8_putNumber 27 = .ok (.iload_n 2, 1) := by decide +kernel
theorem dX8_putNumber_28 : decode cX8_putNumber 28 = .ok (.bipush 24, 2) := by decide +kernel
theorem dX8_putNumber_30 : decode cX8_putNumber 30 = .ok (.bipush 8, 2) := by decide +kernel
theorem dX8_putNumber_32 : decode cX8_putNumber 32 = .ok (.iload_n 3, 1) := by decide +kernel
theorem dX8_putNumber_33 : decode cX8_putNumber 33 = .ok (.imul, 1) := by decide +kernel
theorem dX8_putNumber_34 : decode cX8_putNumber 34 = .ok (.isub, 1) := by decide +kernel
theorem dX8_putNumber_35 : decode cX8_putNumber 35 = .ok (.ishr, 1) := by decide +kernel
theorem dX8_putNumber_36 : decode cX8_putNumber 36 = .ok (.i2b, 1) := by decide +kernel
theorem dX8_putNumber_37 : decode cX8_putNumber 37 = .ok (.bastore, 1) := by decide +kernel
theorem dX8_putNumber_38 : decode cX8_putNumber 38 = .ok (.iinc 3 1, 3) := by decide +kernel
theorem dX8_putNumber_41 : decode cX8_putNumber 41 = .ok (.goto (-39), 3) := by decide +kernel
theorem dX8_putNumber_44 : decode cX8_putNumber 44 = .ok (.return_, 1) := by decide +kernel
theorem dX8_tapeByte_0 : decode cX8_tapeByte 0 = .ok (.iload_n 1, 1) := by decide +kernel
theorem dX8_tapeByte_1 : decode cX8_tapeByte 1 = .ok (.ifCond .lt 23, 3) := by decide +kernel
theorem dX8_tapeByte_4 : decode cX8_tapeByte 4 = .ok (.iload_n 1, 1) := by decide +kernel
theorem dX8_tapeByte_5 : decode cX8_tapeByte 5 = .ok (.sipush 1600, 3) := by decide +kernel
theorem dX8_tapeByte_8 : decode cX8_tapeByte 8 = .ok (.if_icmp .ge 16, 3) := by decide +kernel
theorem dX8_tapeByte_11 : decode cX8_tapeByte 11 = .ok (.aload_n 0, 1) := by decide +kernel
theorem dX8_tapeByte_12 : decode cX8_tapeByte 12 = .ok (.getfield 9, 3) := by decide +kernel
theorem dX8_tapeByte_15 : decode cX8_tapeByte 15 = .ok (.iload_n 1, 1) := by decide +kernel
theorem dX8_tapeByte_16 : decode cX8_tapeByte 16 = .ok (.baload, 1) := by decide +kernel
theorem dX8_tapeByte_17 : decode cX8_tapeByte 17 = .ok (.sipush 255, 3) := by decide +kernel
theorem dX8_tapeByte_20 : decode cX8_tapeByte 20 = .ok (.iand, 1) := by decide +kernel
theorem dX8_tapeByte_21 : decode cX8_tapeByte 21 = .ok (.goto 4, 3) := by decide +kernel
theorem dX8_tapeByte_24 : decode cX8_tapeByte 24 = .ok (.iconst 0, 1) := by decide +kernel
theorem dX8_tapeByte_25 : decode cX8_tapeByte 25 = .ok (.ireturn, 1) := by decide +kernel
theorem dX8_end_0 : decode cX8_end 0 = .ok (.iload_n 1, 1) := by decide +kernel
theorem dX8_end_1 : decode cX8_end 1 = .ok (.ifCond .lt 11, 3) := by decide +kernel
theorem dX8_end_4 : decode cX8_end 4 = .ok (.iload_n 1, 1) := by decide +kernel
theorem dX8_end_5 : decode cX8_end 5 = .ok (.aload_n 0, 1) := by decide +kernel
theorem dX8_end_6 : decode cX8_end 6 = .ok (.getfield 67, 3) := by decide +kernel
theorem dX8_end_9 : decode cX8_end 9 = .ok (.if_icmp .le 11, 3) := by decide +kernel
theorem dX8_end_12 : decode cX8_end 12 = .ok (.aload_n 0, 1) := by decide +kernel
theorem dX8_end_13 : decode cX8_end 13 = .ok (.iconst 0, 1) := by decide +kernel
theorem dX8_end_14 : decode cX8_end 14 = .ok (.invokevirtual 70, 3) := by decide +kernel
theorem dX8_end_17 : decode cX8_end 17 = .ok (.pop, 1) := by decide +kernel
theorem dX8_end_18 : decode cX8_end 18 = .ok (.iconst 0, 1) := by decide +kernel
theorem dX8_end_19 : decode cX8_end 19 = .ok (.ireturn, 1) := by decide +kernel
theorem dX8_end_20 : decode cX8_end 20 = .ok (.aload_n 0, 1) := by decide +kernel
theorem dX8_end_21 : decode cX8_end 21 = .ok (.iload_n 1, 1) := by decide +kernel
theorem dX8_end_22 : decode cX8_end 22 = .ok (.putfield 67, 3) := by decide +kernel
theorem dX8_end_25 : decode cX8_end 25 = .ok (.iconst 1, 1) := by decide +kernel
theorem dX8_end_26 : decode cX8_end 26 = .ok (.ireturn, 1) := by decide +kernel
theorem dX8_society_0 : decode cX8_society 0 = .ok (.aload_n 0, 1) := by decide +kernel
theorem dX8_society_1 : decode cX8_society 1 = .ok (.getfield 16, 3) := by decide +kernel
theorem dX8_society_4 : decode cX8_society 4 = .ok (.aload_n 0, 1) := by decide +kernel
theorem dX8_society_5 : decode cX8_society 5 = .ok (.getfield 9, 3) := by decide +kernel
theorem dX8_society_8 : decode cX8_society 8 = .ok (.aload_n 0, 1) := by decide +kernel
theorem dX8_society_9 : decode cX8_society 9 = .ok (.getfield 67, 3) := by decide +kernel
theorem dX8_society_12 : decode cX8_society 12 = .ok (.invokevirtual 78, 3) := by decide +kernel
theorem dX8_society_15 : decode cX8_society 15 = .ok (.istore_n 1, 1) := by decide +kernel
theorem dX8_society_16 : decode cX8_society 16 = .ok (.aload_n 0, 1) := by decide +kernel
theorem dX8_society_17 : decode cX8_society 17 = .ok (.iconst 0, 1) := by decide +kernel
theorem dX8_society_18 : decode cX8_society 18 = .ok (.putfield 67, 3) := by decide +kernel
theorem dX8_society_21 : decode cX8_society 21 = .ok (.iload_n 1, 1) := by decide +kernel
theorem dX8_society_22 : decode cX8_society 22 = .ok (.iconst (-1), 1) := by decide +kernel
theorem dX8_society_23 : decode cX8_society 23 = .ok (.if_icmp .ne 9, 3) := by decide +kernel
theorem dX8_society_26 : decode cX8_society 26 = .ok (.aload_n 0, 1) := by decide +kernel
theorem dX8_society_27 : decode cX8_society 27 = .ok (.iconst 1, 1) := by decide +kernel
theorem dX8_society_28 : decode cX8_society 28 = .ok (.invokevirtual 70, 3) := by decide +kernel
theorem dX8_society_31 : decode cX8_society 31 = .ok (.ireturn, 1) := by decide +kernel
theorem dX8_society_32 : decode cX8_society 32 = .ok (.aload_n 0, 1) := by decide +kernel
theorem dX8_society_33 : decode cX8_society 33 = .ok (.aload_n 0, 1) := by decide +kernel
theorem dX8_society_34 : decode cX8_society 34 = .ok (.getfield 16, 3) := by decide +kernel
theorem dX8_society_37 : decode cX8_society 37 = .ok (.aload_n 0, 1) := by decide +kernel
theorem dX8_society_38 : decode cX8_society 38 = .ok (.getfield 51, 3) := by decide +kernel
theorem dX8_society_41 : decode cX8_society 41 = .ok (.invokevirtual 82, 3) := by decide +kernel
theorem dX8_society_44 : decode cX8_society 44 = .ok (.putfield 51, 3) := by decide +kernel
theorem dX8_society_47 : decode cX8_society 47 = .ok (.aload_n 0, 1) := by decide +kernel
theorem dX8_society_48 : decode cX8_society 48 = .ok (.getfield 60, 3) := by decide +kernel
theorem dX8_society_51 : decode cX8_society 51 = .ok (.aload_n 0, 1) := by decide +kernel
theorem dX8_society_52 : decode cX8_society 52 = .ok (.getfield 51, 3) := by decide +kernel
theorem dX8_society_55 : decode cX8_society 55 = .ok (.invokevirtual 86, 3) := by decide +kernel
theorem dX8_society_58 : decode cX8_society 58 = .ok (.aload_n 0, 1) := by decide +kernel
theorem dX8_society_59 : decode cX8_society 59 = .ok (.getfield 64, 3) := by decide +kernel
theorem dX8_society_62 : decode cX8_society 62 = .ok (.aload_n 0, 1) := by decide +kernel
theorem dX8_society_63 : decode cX8_society 63 = .ok (.getfield 51, 3) := by decide +kernel
theorem dX8_society_66 : decode cX8_society 66 = .ok (.invokevirtual 86, 3) := by decide +kernel
theorem dX8_society_69 : decode cX8_society 69 = .ok (.aload_n 0, 1) := by decide +kernel
theorem dX8_society_70 : decode cX8_society 70 = .ok (.getfield 23, 3) := by decide +kernel
theorem dX8_society_73 : decode cX8_society 73 = .ok (.invokevirtual 89, 3) := by decide +kernel
theorem dX8_society_76 : decode cX8_society 76 = .ok (.aload_n 0, 1) := by decide +kernel
theorem dX8_society_77 : decode cX8_society 77 = .ok (.iconst 0, 1) := by decide +kernel
theorem dX8_society_78 : decode cX8_society 78 = .ok (.putfield 92, 3) := by decide +kernel
theorem dX8_society_81 : decode cX8_society 81 = .ok (.iload_n 1, 1) := by decide +kernel
theorem dX8_society_82 : decode cX8_society 82 = .ok (.ireturn, 1) := by decide +kernel
theorem dX8_fault_0 : decode cX8_fault 0 = .ok (.iload_n 1, 1) := by decide +kernel
theorem dX8_fault_1 : decode cX8_fault 1 = .ok (.lookupswitch 43 #[(0, 27), (1, 35)], 27) := by decide +kernel
theorem dX8_fault_28 : decode cX8_fault 28 = .ok (.aload_n 0, 1) := by decide +kernel
theorem dX8_fault_29 : decode cX8_fault 29 = .ok (.getfield 16, 3) := by decide +kernel
theorem dX8_fault_32 : decode cX8_fault 32 = .ok (.getfield 95, 3) := by decide +kernel
theorem dX8_fault_35 : decode cX8_fault 35 = .ok (.ireturn, 1) := by decide +kernel
theorem dX8_fault_36 : decode cX8_fault 36 = .ok (.aload_n 0, 1) := by decide +kernel
theorem dX8_fault_37 : decode cX8_fault 37 = .ok (.getfield 16, 3) := by decide +kernel
theorem dX8_fault_40 : decode cX8_fault 40 = .ok (.getfield 98, 3) := by decide +kernel
theorem dX8_fault_43 : decode cX8_fault 43 = .ok (.ireturn, 1) := by decide +kernel
theorem dX8_fault_44 : decode cX8_fault 44 = .ok (.iconst (-1), 1) := by decide +kernel
theorem dX8_fault_45 : decode cX8_fault 45 = .ok (.ireturn, 1) := by decide +kernel
theorem dX8_has_0 : decode cX8_has 0 = .ok (.iload_n 1, 1) := by decide +kernel
theorem dX8_has_1 : decode cX8_has 1 = .ok (.tableswitch 165 0 11 #[63, 73, 83, 93, 101, 109, 120, 128, 136, 144, 152, 160], 63) := by decide +kernel
theorem dX8_has_64 : decode cX8_has 64 = .ok (.aload_n 0, 1) := by decide +kernel
theorem dX8_has_65 : decode cX8_has 65 = .ok (.getfield 51, 3) := by decide +kernel
theorem dX8_has_68 : decode cX8_has 68 = .ok (.getfield 101, 3) := by decide +kernel
theorem dX8_has_71 : decode cX8_has 71 = .ok (.iconst 0, 1) := by decide +kernel
theorem dX8_has_72 : decode cX8_has 72 = .ok (.iaload, 1) := by decide +kernel
theorem dX8_has_73 : decode cX8_has 73 = .ok (.ireturn, 1) := by decide +kernel
theorem dX8_has_74 : decode cX8_has 74 = .ok (.aload_n 0, 1) := by decide +kernel
theorem dX8_has_75 : decode cX8_has 75 = .ok (.getfield 51, 3) := by decide +kernel
theorem dX8_has_78 : decode cX8_has 78 = .ok (.getfield 101, 3) := by decide +kernel
theorem dX8_has_81 : decode cX8_has 81 = .ok (.iconst 1, 1) := by decide +kernel
theorem dX8_has_82 : decode cX8_has 82 = .ok (.iaload, 1) := by decide +kernel
theorem dX8_has_83 : decode cX8_has 83 = .ok (.ireturn, 1) := by decide +kernel
theorem dX8_has_84 : decode cX8_has 84 = .ok (.aload_n 0, 1) := by decide +kernel
theorem dX8_has_85 : decode cX8_has 85 = .ok (.getfield 51, 3) := by decide +kernel
theorem dX8_has_88 : decode cX8_has 88 = .ok (.getfield 101, 3) := by decide +kernel
theorem dX8_has_91 : decode cX8_has 91 = .ok (.iconst 2, 1) := by decide +kernel
theorem dX8_has_92 : decode cX8_has 92 = .ok (.iaload, 1) := by decide +kernel
theorem dX8_has_93 : decode cX8_has 93 = .ok (.ireturn, 1) := by decide +kernel
theorem dX8_has_94 : decode cX8_has 94 = .ok (.aload_n 0, 1) := by decide +kernel
theorem dX8_has_95 : decode cX8_has 95 = .ok (.getfield 51, 3) := by decide +kernel
theorem dX8_has_98 : decode cX8_has 98 = .ok (.getfield 104, 3) := by decide +kernel
theorem dX8_has_101 : decode cX8_has 101 = .ok (.ireturn, 1) := by decide +kernel
theorem dX8_has_102 : decode cX8_has 102 = .ok (.aload_n 0, 1) := by decide +kernel
theorem dX8_has_103 : decode cX8_has 103 = .ok (.getfield 51, 3) := by decide +kernel
theorem dX8_has_106 : decode cX8_has 106 = .ok (.getfield 107, 3) := by decide +kernel
theorem dX8_has_109 : decode cX8_has 109 = .ok (.ireturn, 1) := by decide +kernel
theorem dX8_has_110 : decode cX8_has 110 = .ok (.aload_n 0, 1) := by decide +kernel
theorem dX8_has_111 : decode cX8_has 111 = .ok (.getfield 60, 3) := by decide +kernel
theorem dX8_has_114 : decode cX8_has 114 = .ok (.getfield 110, 3) := by decide +kernel
theorem dX8_has_117 : decode cX8_has 117 = .ok (.getfield 114, 3) := by decide +kernel
theorem dX8_has_120 : decode cX8_has 120 = .ok (.ireturn, 1) := by decide +kernel
theorem dX8_has_121 : decode cX8_has 121 = .ok (.aload_n 0, 1) := by decide +kernel
theorem dX8_has_122 : decode cX8_has 122 = .ok (.getfield 60, 3) := by decide +kernel
theorem dX8_has_125 : decode cX8_has 125 = .ok (.invokevirtual 119, 3) := by decide +kernel
theorem dX8_has_128 : decode cX8_has 128 = .ok (.ireturn, 1) := by decide +kernel
theorem dX8_has_129 : decode cX8_has 129 = .ok (.aload_n 0, 1) := by decide +kernel
theorem dX8_has_130 : decode cX8_has 130 = .ok (.getfield 60, 3) := by decide +kernel
theorem dX8_has_133 : decode cX8_has 133 = .ok (.invokevirtual 123, 3) := by decide +kernel
theorem dX8_has_136 : decode cX8_has 136 = .ok (.ireturn, 1) := by decide +kernel
theorem dX8_has_137 : decode cX8_has 137 = .ok (.aload_n 0, 1) := by decide +kernel
theorem dX8_has_138 : decode cX8_has 138 = .ok (.getfield 60, 3) := by decide +kernel
theorem dX8_has_141 : decode cX8_has 141 = .ok (.invokevirtual 126, 3) := by decide +kernel
theorem dX8_has_144 : decode cX8_has 144 = .ok (.ireturn, 1) := by decide +kernel
theorem dX8_has_145 : decode cX8_has 145 = .ok (.aload_n 0, 1) := by decide +kernel
theorem dX8_has_146 : decode cX8_has 146 = .ok (.getfield 60, 3) := by decide +kernel
theorem dX8_has_149 : decode cX8_has 149 = .ok (.invokevirtual 129, 3) := by decide +kernel
theorem dX8_has_152 : decode cX8_has 152 = .ok (.ireturn, 1) := by decide +kernel
theorem dX8_has_153 : decode cX8_has 153 = .ok (.aload_n 0, 1) := by decide +kernel
theorem dX8_has_154 : decode cX8_has 154 = .ok (.getfield 23, 3) := by decide +kernel
theorem dX8_has_157 : decode cX8_has 157 = .ok (.getfield 132, 3) := by decide +kernel
theorem dX8_has_160 : decode cX8_has 160 = .ok (.ireturn, 1) := by decide +kernel
theorem dX8_has_161 : decode cX8_has 161 = .ok (.aload_n 0, 1) := by decide +kernel
theorem dX8_has_162 : decode cX8_has 162 = .ok (.getfield 44, 3) := by decide +kernel
theorem dX8_has_165 : decode cX8_has 165 = .ok (.ireturn, 1) := by decide +kernel
theorem dX8_has_166 : decode cX8_has 166 = .ok (.iconst (-1), 1) := by decide +kernel
theorem dX8_has_167 : decode cX8_has 167 = .ok (.ireturn, 1) := by decide +kernel
theorem dX8_letter_0 : decode cX8_letter 0 = .ok (.aload_n 0, 1) := by decide +kernel
theorem dX8_letter_1 : decode cX8_letter 1 = .ok (.getfield 51, 3) := by decide +kernel
theorem dX8_letter_4 : decode cX8_letter 4 = .ok (.iload_n 1, 1) := by decide +kernel
theorem dX8_letter_5 : decode cX8_letter 5 = .ok (.iload_n 2, 1) := by decide +kernel
theorem dX8_letter_6 : decode cX8_letter 6 = .ok (.invokevirtual 135, 3) := by decide +kernel
theorem dX8_letter_9 : decode cX8_letter 9 = .ok (.ifCond .eq 13, 3) := by decide +kernel
theorem dX8_letter_12 : decode cX8_letter 12 = .ok (.iload_n 3, 1) := by decide +kernel
theorem dX8_letter_13 : decode cX8_letter 13 = .ok (.ifCond .lt 9, 3) := by decide +kernel
theorem dX8_letter_16 : decode cX8_letter 16 = .ok (.iload_n 3, 1) := by decide +kernel
theorem dX8_letter_17 : decode cX8_letter 17 = .ok (.bipush 6, 2) := by decide +kernel
theorem dX8_letter_19 : decode cX8_letter 19 = .ok (.if_icmp .lt 5, 3) := by decide +kernel
theorem dX8_letter_22 : decode cX8_letter 22 = .ok (.iconst (-1), 1) := by decide +kernel
theorem dX8_letter_23 : decode cX8_letter 23 = .ok (.ireturn, 1) := by decide +kernel
theorem dX8_letter_24 : decode cX8_letter 24 = .ok (.aload_n 0, 1) := by decide +kernel
theorem dX8_letter_25 : decode cX8_letter 25 = .ok (.getfield 51, 3) := by decide +kernel
theorem dX8_letter_28 : decode cX8_letter 28 = .ok (.iload_n 1, 1) := by decide +kernel
theorem dX8_letter_29 : decode cX8_letter 29 = .ok (.iload_n 2, 1) := by decide +kernel
theorem dX8_letter_30 : decode cX8_letter 30 = .ok (.invokevirtual 139, 3) := by decide +kernel
theorem dX8_letter_33 : decode cX8_letter 33 = .ok (.i2l, 1) := by decide +kernel
theorem dX8_letter_34 : decode cX8_letter 34 = .ok (.iload_n 3, 1) := by decide +kernel
theorem dX8_letter_35 : decode cX8_letter 35 = .ok (.invokestatic 143, 3) := by decide +kernel
theorem dX8_letter_38 : decode cX8_letter 38 = .ok (.ireturn, 1) := by decide +kernel
theorem dX8_person_0 : decode cX8_person 0 = .ok (.aload_n 0, 1) := by decide +kernel
theorem dX8_person_1 : decode cX8_person 1 = .ok (.getfield 51, 3) := by decide +kernel
theorem dX8_person_4 : decode cX8_person 4 = .ok (.iconst 0, 1) := by decide +kernel
theorem dX8_person_5 : decode cX8_person 5 = .ok (.iload_n 1, 1) := by decide +kernel
theorem dX8_person_6 : decode cX8_person 6 = .ok (.invokevirtual 135, 3) := by decide +kernel
theorem dX8_person_9 : decode cX8_person 9 = .ok (.ifCond .ne 5, 3) := by decide +kernel
theorem dX8_person_12 : decode cX8_person 12 = .ok (.iconst (-1), 1) := by decide +kernel
theorem dX8_person_13 : decode cX8_person 13 = .ok (.ireturn, 1) := by decide +kernel
theorem dX8_person_14 : decode cX8_person 14 = .ok (.iload_n 2, 1) := by decide +kernel
theorem dX8_person_15 : decode cX8_person 15 = .ok (.tableswitch 107 0 5 #[37, 47, 56, 72, 81, 90], 37) := by decide +kernel
theorem dX8_person_52 : decode cX8_person 52 = .ok (.aload_n 0, 1) := by decide +kernel
theorem dX8_person_53 : decode cX8_person 53 = .ok (.getfield 51, 3) := by decide +kernel
theorem dX8_person_56 : decode cX8_person 56 = .ok (.getfield 147, 3) := by decide +kernel
theorem dX8_person_59 : decode cX8_person 59 = .ok (.iload_n 1, 1) := by decide +kernel
theorem dX8_person_60 : decode cX8_person 60 = .ok (.iaload, 1) := by decide +kernel
theorem dX8_person_61 : decode cX8_person 61 = .ok (.ireturn, 1) := by decide +kernel
theorem dX8_person_62 : decode cX8_person 62 = .ok (.aload_n 0, 1) := by decide +kernel
theorem dX8_person_63 : decode cX8_person 63 = .ok (.getfield 60, 3) := by decide +kernel
theorem dX8_person_66 : decode cX8_person 66 = .ok (.iload_n 1, 1) := by decide +kernel
theorem dX8_person_67 : decode cX8_person 67 = .ok (.invokevirtual 150, 3) := by decide +kernel
theorem dX8_person_70 : decode cX8_person 70 = .ok (.ireturn, 1) := by decide +kernel
theorem dX8_person_71 : decode cX8_person 71 = .ok (.aload_n 0, 1) := by decide +kernel
theorem dX8_person_72 : decode cX8_person 72 = .ok (.getfield 51, 3) := by decide +kernel
theorem dX8_person_75 : decode cX8_person 75 = .ok (.aload_n 0, 1) := by decide +kernel
theorem dX8_person_76 : decode cX8_person 76 = .ok (.getfield 60, 3) := by decide +kernel
theorem dX8_person_79 : decode cX8_person 79 = .ok (.iload_n 1, 1) := by decide +kernel
theorem dX8_person_80 : decode cX8_person 80 = .ok (.invokevirtual 150, 3) := by decide +kernel
theorem dX8_person_83 : decode cX8_person 83 = .ok (.invokevirtual 153, 3) := by decide +kernel
theorem dX8_person_86 : decode cX8_person 86 = .ok (.ireturn, 1) := by decide +kernel
theorem dX8_person_87 : decode cX8_person 87 = .ok (.aload_n 0, 1) := by decide +kernel
theorem dX8_person_88 : decode cX8_person 88 = .ok (.getfield 60, 3) := by decide +kernel
theorem dX8_person_91 : decode cX8_person 91 = .ok (.iload_n 1, 1) := by decide +kernel
theorem dX8_person_92 : decode cX8_person 92 = .ok (.invokevirtual 156, 3) := by decide +kernel
theorem dX8_person_95 : decode cX8_person 95 = .ok (.ireturn, 1) := by decide +kernel
theorem dX8_person_96 : decode cX8_person 96 = .ok (.aload_n 0, 1) := by decide +kernel
theorem dX8_person_97 : decode cX8_person 97 = .ok (.getfield 60, 3) := by decide +kernel
theorem dX8_person_100 : decode cX8_person 100 = .ok (.iload_n 1, 1) := by decide +kernel
theorem dX8_person_101 : decode cX8_person 101 = .ok (.invokevirtual 159, 3) := by decide +kernel
theorem dX8_person_104 : decode cX8_person 104 = .ok (.ireturn, 1) := by decide +kernel
theorem dX8_person_105 : decode cX8_person 105 = .ok (.aload_n 0, 1) := by decide +kernel
theorem dX8_person_106 : decode cX8_person 106 = .ok (.getfield 60, 3) := by decide +kernel
theorem dX8_person_109 : decode cX8_person 109 = .ok (.iload_n 1, 1) := by decide +kernel
theorem dX8_person_110 : decode cX8_person 110 = .ok (.invokevirtual 162, 3) := by decide +kernel
theorem dX8_person_113 : decode cX8_person 113 = .ok (.ifCond .eq 7, 3) := by decide +kernel
theorem dX8_person_116 : decode cX8_person 116 = .ok (.iconst 1, 1) := by decide +kernel
theorem dX8_person_117 : decode cX8_person 117 = .ok (.goto 4, 3) := by decide +kernel
theorem dX8_person_120 : decode cX8_person 120 = .ok (.iconst 0, 1) := by decide +kernel
theorem dX8_person_121 : decode cX8_person 121 = .ok (.ireturn, 1) := by decide +kernel
theorem dX8_person_122 : decode cX8_person 122 = .ok (.iconst (-1), 1) := by decide +kernel
theorem dX8_person_123 : decode cX8_person 123 = .ok (.ireturn, 1) := by decide +kernel
theorem dX8_coin_0 : decode cX8_coin 0 = .ok (.aload_n 0, 1) := by decide +kernel
theorem dX8_coin_1 : decode cX8_coin 1 = .ok (.getfield 51, 3) := by decide +kernel
theorem dX8_coin_4 : decode cX8_coin 4 = .ok (.iconst 1, 1) := by decide +kernel
theorem dX8_coin_5 : decode cX8_coin 5 = .ok (.iload_n 1, 1) := by decide +kernel
theorem dX8_coin_6 : decode cX8_coin 6 = .ok (.invokevirtual 135, 3) := by decide +kernel
theorem dX8_coin_9 : decode cX8_coin 9 = .ok (.ifCond .ne 5, 3) := by decide +kernel
theorem dX8_coin_12 : decode cX8_coin 12 = .ok (.iconst (-1), 1) := by decide +kernel
theorem dX8_coin_13 : decode cX8_coin 13 = .ok (.ireturn, 1) := by decide +kernel
theorem dX8_coin_14 : decode cX8_coin 14 = .ok (.iload_n 2, 1) := by decide +kernel
theorem dX8_coin_15 : decode cX8_coin 15 = .ok (.tableswitch 98 0 4 #[33, 43, 56, 69, 82], 33) := by decide +kernel
theorem dX8_coin_48 : decode cX8_coin 48 = .ok (.aload_n 0, 1) := by decide +kernel
theorem dX8_coin_49 : decode cX8_coin 49 = .ok (.getfield 51, 3) := by decide +kernel
theorem dX8_coin_52 : decode cX8_coin 52 = .ok (.getfield 166, 3) := by decide +kernel
theorem dX8_coin_55 : decode cX8_coin 55 = .ok (.iload_n 1, 1) := by decide +kernel
theorem dX8_coin_56 : decode cX8_coin 56 = .ok (.iaload, 1) := by decide +kernel
theorem dX8_coin_57 : decode cX8_coin 57 = .ok (.ireturn, 1) := by decide +kernel
theorem dX8_coin_58 : decode cX8_coin 58 = .ok (.aload_n 0, 1) := by decide +kernel
