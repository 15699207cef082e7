theorem dX9_teaOf_12 : decode cX9_teaOf 12 = .ok (.getfield 51, 3) := by decide +kernel
theorem dX9_teaOf_15 : decode cX9_teaOf 15 = .ok (.iaload, 1) := by decide +kernel
theorem dX9_teaOf_16 : decode cX9_teaOf 16 = .ok (.if_icmp .ge 102, 3) := by decide +kernel
theorem dX9_teaOf_19 : decode cX9_teaOf 19 = .ok (.iload_n 2, 1) := by decide +kernel
theorem dX9_teaOf_20 : decode cX9_teaOf 20 = .ok (.aload_n 0, 1) := by decide +kernel
theorem dX9_teaOf_21 : decode cX9_teaOf 21 = .ok (.getfield 162, 3) := by decide +kernel
theorem dX9_teaOf_24 : decode cX9_teaOf 24 = .ok (.bipush 12, 2) := by decide +kernel
theorem dX9_teaOf_26 : decode cX9_teaOf 26 = .ok (.iload_n 1, 1) := by decide +kernel
theorem dX9_teaOf_27 : decode cX9_teaOf 27 = .ok (.imul, 1) := by decide +kernel
theorem dX9_teaOf_28 : decode cX9_teaOf 28 = .ok (.iload 4, 2) := by decide +kernel
theorem dX9_teaOf_30 : decode cX9_teaOf 30 = .ok (.iadd, 1) := by decide +kernel
theorem dX9_teaOf_31 : decode cX9_teaOf 31 = .ok (.iaload, 1) := by decide +kernel
theorem dX9_teaOf_32 : decode cX9_teaOf 32 = .ok (.invokestatic 373, 3) := by decide +kernel
theorem dX9_teaOf_35 : decode cX9_teaOf 35 = .ok (.ifCond .ne 6, 3) := by decide +kernel
theorem dX9_teaOf_38 : decode cX9_teaOf 38 = .ok (.goto 74, 3) := by decide +kernel
theorem dX9_teaOf_41 : decode cX9_teaOf 41 = .ok (.iconst 0, 1) := by decide +kernel
theorem dX9_teaOf_42 : decode cX9_teaOf 42 = .ok (.istore 5, 2) := by decide +kernel
theorem dX9_teaOf_44 : decode cX9_teaOf 44 = .ok (.iload 5, 2) := by decide +kernel
theorem dX9_teaOf_46 : decode cX9_teaOf 46 = .ok (.aload_n 0, 1) := by decide +kernel
theorem dX9_teaOf_47 : decode cX9_teaOf 47 = .ok (.getfield 54, 3) := by decide +kernel
theorem dX9_teaOf_50 : decode cX9_teaOf 50 = .ok (.aload_n 0, 1) := by decide +kernel
theorem dX9_teaOf_51 : decode cX9_teaOf 51 = .ok (.getfield 51, 3) := by decide +kernel
theorem dX9_teaOf_54 : decode cX9_teaOf 54 = .ok (.iaload, 1) := by decide +kernel
theorem dX9_teaOf_55 : decode cX9_teaOf 55 = .ok (.if_icmp .ge 57, 3) := by decide +kernel
theorem dX9_teaOf_58 : decode cX9_teaOf 58 = .ok (.iload_n 2, 1) := by decide +kernel
theorem dX9_teaOf_59 : decode cX9_teaOf 59 = .ok (.iload 5, 2) := by decide +kernel
theorem dX9_teaOf_61 : decode cX9_teaOf 61 = .ok (.invokestatic 373, 3) := by decide +kernel
theorem dX9_teaOf_64 : decode cX9_teaOf 64 = .ok (.ifCond .eq 42, 3) := by decide +kernel
theorem dX9_teaOf_67 : decode cX9_teaOf 67 = .ok (.aload_n 0, 1) := by decide +kernel
theorem dX9_teaOf_68 : decode cX9_teaOf 68 = .ok (.iload_n 1, 1) := by decide +kernel
theorem dX9_teaOf_69 : decode cX9_teaOf 69 = .ok (.iload 4, 2) := by decide +kernel
theorem dX9_teaOf_71 : decode cX9_teaOf 71 = .ok (.iload 5, 2) := by decide +kernel
theorem dX9_teaOf_73 : decode cX9_teaOf 73 = .ok (.invokevirtual 480, 3) := by decide +kernel
theorem dX9_teaOf_76 : decode cX9_teaOf 76 = .ok (.ifCond .eq 30, 3) := by decide +kernel
theorem dX9_teaOf_79 : decode cX9_teaOf 79 = .ok (.aload_n 0, 1) := by decide +kernel
theorem dX9_teaOf_80 : decode cX9_teaOf 80 = .ok (.iload_n 1, 1) := by decide +kernel
theorem dX9_teaOf_81 : decode cX9_teaOf 81 = .ok (.iload 4, 2) := by decide +kernel
theorem dX9_teaOf_83 : decode cX9_teaOf 83 = .ok (.iload 5, 2) := by decide +kernel
theorem dX9_teaOf_85 : decode cX9_teaOf 85 = .ok (.invokevirtual 483, 3) := by decide +kernel
theorem dX9_teaOf_88 : decode cX9_teaOf 88 = .ok (.ifCond .ne 6, 3) := by decide +kernel
theorem dX9_teaOf_91 : decode cX9_teaOf 91 = .ok (.goto 15, 3) := by decide +kernel
theorem dX9_teaOf_94 : decode cX9_teaOf 94 = .ok (.aload_n 0, 1) := by decide +kernel
theorem dX9_teaOf_95 : decode cX9_teaOf 95 = .ok (.iload_n 1, 1) := by decide +kernel
theorem dX9_teaOf_96 : decode cX9_teaOf 96 = .ok (.iload 4, 2) := by decide +kernel
theorem dX9_teaOf_98 : decode cX9_teaOf 98 = .ok (.iload 5, 2) := by decide +kernel
theorem dX9_teaOf_100 : decode cX9_teaOf 100 = .ok (.invokevirtual 499, 3) := by decide +kernel
theorem dX9_teaOf_103 : decode cX9_teaOf 103 = .ok (.iinc 3 1, 3) := by decide +kernel
theorem dX9_teaOf_106 : decode cX9_teaOf 106 = .ok (.iinc 5 1, 3) := by decide +kernel
theorem dX9_teaOf_109 : decode cX9_teaOf 109 = .ok (.goto (-65), 3) := by decide +kernel
theorem dX9_teaOf_112 : decode cX9_teaOf 112 = .ok (.iinc 4 1, 3) := by decide +kernel
theorem dX9_teaOf_115 : decode cX9_teaOf 115 = .ok (.goto (-110), 3) := by decide +kernel
theorem dX9_teaOf_118 : decode cX9_teaOf 118 = .ok (.iload_n 3, 1) := by decide +kernel
theorem dX9_teaOf_119 : decode cX9_teaOf 119 = .ok (.ireturn, 1) := by decide +kernel
theorem dX9_tea_0 : decode cX9_tea 0 = .ok (.iload_n 1, 1) := by decide +kernel
theorem dX9_tea_1 : decode cX9_tea 1 = .ok (.iconst 0, 1) := by decide +kernel
theorem dX9_tea_2 : decode cX9_tea 2 = .ok (.iconst 1, 1) := by decide +kernel
theorem dX9_tea_3 : decode cX9_tea 3 = .ok (.aload_n 0, 1) := by decide +kernel
theorem dX9_tea_4 : decode cX9_tea 4 = .ok (.getfield 54, 3) := by decide +kernel
theorem dX9_tea_7 : decode cX9_tea 7 = .ok (.aload_n 0, 1) := by decide +kernel
theorem dX9_tea_8 : decode cX9_tea 8 = .ok (.getfield 51, 3) := by decide +kernel
theorem dX9_tea_11 : decode cX9_tea 11 = .ok (.iaload, 1) := by decide +kernel
theorem dX9_tea_12 : decode cX9_tea 12 = .ok (.ishl, 1) := by decide +kernel
theorem dX9_tea_13 : decode cX9_tea 13 = .ok (.iconst 1, 1) := by decide +kernel
theorem dX9_tea_14 : decode cX9_tea 14 = .ok (.isub, 1) := by decide +kernel
theorem dX9_tea_15 : decode cX9_tea 15 = .ok (.invokestatic 314, 3) := by decide +kernel
theorem dX9_tea_18 : decode cX9_tea 18 = .ok (.ifCond .eq 15, 3) := by decide +kernel
theorem dX9_tea_21 : decode cX9_tea 21 = .ok (.iload_n 1, 1) := by decide +kernel
theorem dX9_tea_22 : decode cX9_tea 22 = .ok (.invokestatic 448, 3) := by decide +kernel
theorem dX9_tea_25 : decode cX9_tea 25 = .ok (.iconst 2, 1) := by decide +kernel
theorem dX9_tea_26 : decode cX9_tea 26 = .ok (.iconst 4, 1) := by decide +kernel
theorem dX9_tea_27 : decode cX9_tea 27 = .ok (.invokestatic 314, 3) := by decide +kernel
theorem dX9_tea_30 : decode cX9_tea 30 = .ok (.ifCond .ne 9, 3) := by decide +kernel
theorem dX9_tea_33 : decode cX9_tea 33 = .ok (.aload_n 0, 1) := by decide +kernel
theorem dX9_tea_34 : decode cX9_tea 34 = .ok (.iconst 3, 1) := by decide +kernel
theorem dX9_tea_35 : decode cX9_tea 35 = .ok (.invokevirtual 228, 3) := by decide +kernel
theorem dX9_tea_38 : decode cX9_tea 38 = .ok (.ireturn, 1) := by decide +kernel
theorem dX9_tea_39 : decode cX9_tea 39 = .ok (.aload_n 0, 1) := by decide +kernel
theorem dX9_tea_40 : decode cX9_tea 40 = .ok (.invokevirtual 502, 3) := by decide +kernel
theorem dX9_tea_43 : decode cX9_tea 43 = .ok (.aload_n 0, 1) := by decide +kernel
theorem dX9_tea_44 : decode cX9_tea 44 = .ok (.iconst 0, 1) := by decide +kernel
theorem dX9_tea_45 : decode cX9_tea 45 = .ok (.iload_n 1, 1) := by decide +kernel
theorem dX9_tea_46 : decode cX9_tea 46 = .ok (.invokevirtual 514, 3) := by decide +kernel
theorem dX9_tea_49 : decode cX9_tea 49 = .ok (.ireturn, 1) := by decide +kernel
theorem dX9_dayGoes_0 : decode cX9_dayGoes 0 = .ok (.iconst 0, 1) := by decide +kernel
theorem dX9_dayGoes_1 : decode cX9_dayGoes 1 = .ok (.istore_n 2, 1) := by decide +kernel
theorem dX9_dayGoes_2 : decode cX9_dayGoes 2 = .ok (.aload_n 0, 1) := by decide +kernel
theorem dX9_dayGoes_3 : decode cX9_dayGoes 3 = .ok (.getfield 159, 3) := by decide +kernel
theorem dX9_dayGoes_6 : decode cX9_dayGoes 6 = .ok (.iload_n 1, 1) := by decide +kernel
theorem dX9_dayGoes_7 : decode cX9_dayGoes 7 = .ok (.dup2, 1) := by decide +kernel
theorem dX9_dayGoes_8 : decode cX9_dayGoes 8 = .ok (.iaload, 1) := by decide +kernel
theorem dX9_dayGoes_9 : decode cX9_dayGoes 9 = .ok (.iconst 1, 1) := by decide +kernel
theorem dX9_dayGoes_10 : decode cX9_dayGoes 10 = .ok (.iadd, 1) := by decide +kernel
theorem dX9_dayGoes_11 : decode cX9_dayGoes 11 = .ok (.iastore, 1) := by decide +kernel
theorem dX9_dayGoes_12 : decode cX9_dayGoes 12 = .ok (.aload_n 0, 1) := by decide +kernel
theorem dX9_dayGoes_13 : decode cX9_dayGoes 13 = .ok (.getfield 84, 3) := by decide +kernel
theorem dX9_dayGoes_16 : decode cX9_dayGoes 16 = .ok (.aload_n 0, 1) := by decide +kernel
theorem dX9_dayGoes_17 : decode cX9_dayGoes 17 = .ok (.getfield 51, 3) := by decide +kernel
theorem dX9_dayGoes_20 : decode cX9_dayGoes 20 = .ok (.iaload, 1) := by decide +kernel
theorem dX9_dayGoes_21 : decode cX9_dayGoes 21 = .ok (.ifCond .ne 5, 3) := by decide +kernel
theorem dX9_dayGoes_24 : decode cX9_dayGoes 24 = .ok (.iconst 0, 1) := by decide +kernel
theorem dX9_dayGoes_25 : decode cX9_dayGoes 25 = .ok (.ireturn, 1) := by decide +kernel
theorem dX9_dayGoes_26 : decode cX9_dayGoes 26 = .ok (.iconst 0, 1) := by decide +kernel
theorem dX9_dayGoes_27 : decode cX9_dayGoes 27 = .ok (.istore_n 3, 1) := by decide +kernel
theorem dX9_dayGoes_28 : decode cX9_dayGoes 28 = .ok (.iload_n 3, 1) := by decide +kernel
theorem dX9_dayGoes_29 : decode cX9_dayGoes 29 = .ok (.aload_n 0, 1) := by decide +kernel
theorem dX9_dayGoes_30 : decode cX9_dayGoes 30 = .ok (.getfield 60, 3) := by decide +kernel
theorem dX9_dayGoes_33 : decode cX9_dayGoes 33 = .ok (.aload_n 0, 1) := by decide +kernel
theorem dX9_dayGoes_34 : decode cX9_dayGoes 34 = .ok (.getfield 51, 3) := by decide +kernel
theorem dX9_dayGoes_37 : decode cX9_dayGoes 37 = .ok (.iaload, 1) := by decide +kernel
theorem dX9_dayGoes_38 : decode cX9_dayGoes 38 = .ok (.if_icmp .ge 125, 3) := by decide +kernel
theorem dX9_dayGoes_41 : decode cX9_dayGoes 41 = .ok (.bipush 12, 2) := by decide +kernel
theorem dX9_dayGoes_43 : decode cX9_dayGoes 43 = .ok (.iload_n 1, 1) := by decide +kernel
theorem dX9_dayGoes_44 : decode cX9_dayGoes 44 = .ok (.imul, 1) := by decide +kernel
theorem dX9_dayGoes_45 : decode cX9_dayGoes 45 = .ok (.iload_n 3, 1) := by decide +kernel
theorem dX9_dayGoes_46 : decode cX9_dayGoes 46 = .ok (.iadd, 1) := by decide +kernel
theorem dX9_dayGoes_47 : decode cX9_dayGoes 47 = .ok (.istore 4, 2) := by decide +kernel
theorem dX9_dayGoes_49 : decode cX9_dayGoes 49 = .ok (.iconst 0, 1) := by decide +kernel
theorem dX9_dayGoes_50 : decode cX9_dayGoes 50 = .ok (.istore 5, 2) := by decide +kernel
theorem dX9_dayGoes_52 : decode cX9_dayGoes 52 = .ok (.iload 5, 2) := by decide +kernel
theorem dX9_dayGoes_54 : decode cX9_dayGoes 54 = .ok (.aload_n 0, 1) := by decide +kernel
theorem dX9_dayGoes_55 : decode cX9_dayGoes 55 = .ok (.getfield 54, 3) := by decide +kernel
theorem dX9_dayGoes_58 : decode cX9_dayGoes 58 = .ok (.aload_n 0, 1) := by decide +kernel
theorem dX9_dayGoes_59 : decode cX9_dayGoes 59 = .ok (.getfield 51, 3) := by decide +kernel
theorem dX9_dayGoes_62 : decode cX9_dayGoes 62 = .ok (.iaload, 1) := by decide +kernel
theorem dX9_dayGoes_63 : decode cX9_dayGoes 63 = .ok (.if_icmp .ge 94, 3) := by decide +kernel
theorem dX9_dayGoes_66 : decode cX9_dayGoes 66 = .ok (.aload_n 0, 1) := by decide +kernel
theorem dX9_dayGoes_67 : decode cX9_dayGoes 67 = .ok (.getfield 162, 3) := by decide +kernel
theorem dX9_dayGoes_70 : decode cX9_dayGoes 70 = .ok (.iload 4, 2) := by decide +kernel
theorem dX9_dayGoes_72 : decode cX9_dayGoes 72 = .ok (.iaload, 1) := by decide +kernel
theorem dX9_dayGoes_73 : decode cX9_dayGoes 73 = .ok (.iload 5, 2) := by decide +kernel
theorem dX9_dayGoes_75 : decode cX9_dayGoes 75 = .ok (.if_icmp .eq 76, 3) := by decide +kernel
theorem dX9_dayGoes_78 : decode cX9_dayGoes 78 = .ok (.aload_n 0, 1) := by decide +kernel
theorem dX9_dayGoes_79 : decode cX9_dayGoes 79 = .ok (.getfield 165, 3) := by decide +kernel
theorem dX9_dayGoes_82 : decode cX9_dayGoes 82 = .ok (.iload 4, 2) := by decide +kernel
theorem dX9_dayGoes_84 : decode cX9_dayGoes 84 = .ok (.iaload, 1) := by decide +kernel
theorem dX9_dayGoes_85 : decode cX9_dayGoes 85 = .ok (.iload 5, 2) := by decide +kernel
theorem dX9_dayGoes_87 : decode cX9_dayGoes 87 = .ok (.invokestatic 373, 3) := by decide +kernel
theorem dX9_dayGoes_90 : decode cX9_dayGoes 90 = .ok (.ifCond .eq 61, 3) := by decide +kernel
theorem dX9_dayGoes_93 : decode cX9_dayGoes 93 = .ok (.aload_n 0, 1) := by decide +kernel
theorem dX9_dayGoes_94 : decode cX9_dayGoes 94 = .ok (.getfield 159, 3) := by decide +kernel
theorem dX9_dayGoes_97 : decode cX9_dayGoes 97 = .ok (.iload_n 1, 1) := by decide +kernel
theorem dX9_dayGoes_98 : decode cX9_dayGoes 98 = .ok (.iaload, 1) := by decide +kernel
theorem dX9_dayGoes_99 : decode cX9_dayGoes 99 = .ok (.aload_n 0, 1) := by decide +kernel
theorem dX9_dayGoes_100 : decode cX9_dayGoes 100 = .ok (.getfield 171, 3) := by decide +kernel
theorem dX9_dayGoes_103 : decode cX9_dayGoes 103 = .ok (.bipush 120, 2) := by decide +kernel
theorem dX9_dayGoes_105 : decode cX9_dayGoes 105 = .ok (.iload_n 1, 1) := by decide +kernel
theorem dX9_dayGoes_106 : decode cX9_dayGoes 106 = .ok (.imul, 1) := by decide +kernel
theorem dX9_dayGoes_107 : decode cX9_dayGoes 107 = .ok (.bipush 10, 2) := by decide +kernel
theorem dX9_dayGoes_109 : decode cX9_dayGoes 109 = .ok (.iload_n 3, 1) := by decide +kernel
theorem dX9_dayGoes_110 : decode cX9_dayGoes 110 = .ok (.imul, 1) := by decide +kernel
theorem dX9_dayGoes_111 : decode cX9_dayGoes 111 = .ok (.iadd, 1) := by decide +kernel
theorem dX9_dayGoes_112 : decode cX9_dayGoes 112 = .ok (.iload 5, 2) := by decide +kernel
theorem dX9_dayGoes_114 : decode cX9_dayGoes 114 = .ok (.iadd, 1) := by decide +kernel
theorem dX9_dayGoes_115 : decode cX9_dayGoes 115 = .ok (.iaload, 1) := by decide +kernel
theorem dX9_dayGoes_116 : decode cX9_dayGoes 116 = .ok (.isub, 1) := by decide +kernel
theorem dX9_dayGoes_117 : decode cX9_dayGoes 117 = .ok (.aload_n 0, 1) := by decide +kernel
theorem dX9_dayGoes_118 : decode cX9_dayGoes 118 = .ok (.getfield 84, 3) := by decide +kernel
theorem dX9_dayGoes_121 : decode cX9_dayGoes 121 = .ok (.aload_n 0, 1) := by decide +kernel
theorem dX9_dayGoes_122 : decode cX9_dayGoes 122 = .ok (.getfield 51, 3) := by decide +kernel
theorem dX9_dayGoes_125 : decode cX9_dayGoes 125 = .ok (.iaload, 1) := by decide +kernel
theorem dX9_dayGoes_126 : decode cX9_dayGoes 126 = .ok (.if_icmp .ge 6, 3) := by decide +kernel
theorem dX9_dayGoes_129 : decode cX9_dayGoes 129 = .ok (.goto 22, 3) := by decide +kernel
theorem dX9_dayGoes_132 : decode cX9_dayGoes 132 = .ok (.aload_n 0, 1) := by decide +kernel
theorem dX9_dayGoes_133 : decode cX9_dayGoes 133 = .ok (.getfield 165, 3) := by decide +kernel
theorem dX9_dayGoes_136 : decode cX9_dayGoes 136 = .ok (.iload 4, 2) := by decide +kernel
theorem dX9_dayGoes_138 : decode cX9_dayGoes 138 = .ok (.dup2, 1) := by decide +kernel
theorem dX9_dayGoes_139 : decode cX9_dayGoes 139 = .ok (.iaload, 1) := by decide +kernel
theorem dX9_dayGoes_140 : decode cX9_dayGoes 140 = .ok (.iconst 1, 1) := by decide +kernel
theorem dX9_dayGoes_141 : decode cX9_dayGoes 141 = .ok (.iload 5, 2) := by decide +kernel
theorem dX9_dayGoes_143 : decode cX9_dayGoes 143 = .ok (.ishl, 1) := by decide +kernel
theorem dX9_dayGoes_144 : decode cX9_dayGoes 144 = .ok (.iconst (-1), 1) := by decide +kernel
theorem dX9_dayGoes_145 : decode cX9_dayGoes 145 = .ok (.ixor, 1) := by decide +kernel
theorem dX9_dayGoes_146 : decode cX9_dayGoes 146 = .ok (.iand, 1) := by decide +kernel
theorem dX9_dayGoes_147 : decode cX9_dayGoes 147 = .ok (.iastore, 1) := by decide +kernel
theorem dX9_dayGoes_148 : decode cX9_dayGoes 148 = .ok (.iinc 2 1, 3) := by decide +kernel
theorem dX9_dayGoes_151 : decode cX9_dayGoes 151 = .ok (.iinc 5 1, 3) := by decide +kernel
theorem dX9_dayGoes_154 : decode cX9_dayGoes 154 = .ok (.goto (-102), 3) := by decide +kernel
theorem dX9_dayGoes_157 : decode cX9_dayGoes 157 = .ok (.iinc 3 1, 3) := by decide +kernel
theorem dX9_dayGoes_160 : decode cX9_dayGoes 160 = .ok (.goto (-132), 3) := by decide +kernel
theorem dX9_dayGoes_163 : decode cX9_dayGoes 163 = .ok (.iload_n 2, 1) := by decide +kernel
theorem dX9_dayGoes_164 : decode cX9_dayGoes 164 = .ok (.ireturn, 1) := by decide +kernel
theorem dX9_days_0 : decode cX9_days 0 = .ok (.iload_n 1, 1) := by decide +kernel
theorem dX9_days_1 : decode cX9_days 1 = .ok (.iconst 1, 1) := by decide +kernel
theorem dX9_days_2 : decode cX9_days 2 = .ok (.bipush 100, 2) := by decide +kernel
theorem dX9_days_4 : decode cX9_days 4 = .ok (.invokestatic 314, 3) := by decide +kernel
theorem dX9_days_7 : decode cX9_days 7 = .ok (.ifCond .eq 17, 3) := by decide +kernel
theorem dX9_days_10 : decode cX9_days 10 = .ok (.aload_n 0, 1) := by decide +kernel
theorem dX9_days_11 : decode cX9_days 11 = .ok (.getfield 159, 3) := by decide +kernel
theorem dX9_days_14 : decode cX9_days 14 = .ok (.iconst 0, 1) := by decide +kernel
theorem dX9_days_15 : decode cX9_days 15 = .ok (.iaload, 1) := by decide +kernel
theorem dX9_days_16 : decode cX9_days 16 = .ok (.iload_n 1, 1) := by decide +kernel
theorem dX9_days_17 : decode cX9_days 17 = .ok (.iadd, 1) := by decide +kernel
theorem dX9_days_18 : decode cX9_days 18 = .ok (.sipush 999, 3) := by decide +kernel
theorem dX9_days_21 : decode cX9_days 21 = .ok (.if_icmp .le 9, 3) := by decide +kernel
theorem dX9_days_24 : decode cX9_days 24 = .ok (.aload_n 0, 1) := by decide +kernel
theorem dX9_days_25 : decode cX9_days 25 = .ok (.iconst 4, 1) := by decide +kernel
theorem dX9_days_26 : decode cX9_days 26 = .ok (.invokevirtual 228, 3) := by decide +kernel
theorem dX9_days_29 : decode cX9_days 29 = .ok (.ireturn, 1) := by decide +kernel
theorem dX9_days_30 : decode cX9_days 30 = .ok (.aload_n 0, 1) := by decide +kernel
theorem dX9_days_31 : decode cX9_days 31 = .ok (.invokevirtual 502, 3) := by decide +kernel
theorem dX9_days_34 : decode cX9_days 34 = .ok (.iconst 0, 1) := by decide +kernel
theorem dX9_days_35 : decode cX9_days 35 = .ok (.istore_n 2, 1) := by decide +kernel
theorem dX9_days_36 : decode cX9_days 36 = .ok (.iconst 0, 1) := by decide +kernel
theorem dX9_days_37 : decode cX9_days 37 = .ok (.istore_n 3, 1) := by decide +kernel
theorem dX9_days_38 : decode cX9_days 38 = .ok (.iload_n 3, 1) := by decide +kernel
theorem dX9_days_39 : decode cX9_days 39 = .ok (.iload_n 1, 1) := by decide +kernel
theorem dX9_days_40 : decode cX9_days 40 = .ok (.if_icmp .ge 17, 3) := by decide +kernel
theorem dX9_days_43 : decode cX9_days 43 = .ok (.iload_n 2, 1) := by decide +kernel
theorem dX9_days_44 : decode cX9_days 44 = .ok (.aload_n 0, 1) := by decide +kernel
theorem dX9_days_45 : decode cX9_days 45 = .ok (.iconst 0, 1) := by decide +kernel
theorem dX9_days_46 : decode cX9_days 46 = .ok (.invokevirtual 517, 3) := by decide +kernel
theorem dX9_days_49 : decode cX9_days 49 = .ok (.iadd, 1) := by decide +kernel
theorem dX9_days_50 : decode cX9_days 50 = .ok (.istore_n 2, 1) := by decide +kernel
theorem dX9_days_51 : decode cX9_days 51 = .ok (.iinc 3 1, 3) := by decide +kernel
theorem dX9_days_54 : decode cX9_days 54 = .ok (.goto (-16), 3) := by decide +kernel
theorem dX9_days_57 : decode cX9_days 57 = .ok (.iload_n 2, 1) := by decide +kernel
theorem dX9_days_58 : decode cX9_days 58 = .ok (.ireturn, 1) := by decide +kernel
theorem dX9_draw_0 : decode cX9_draw 0 = .ok (.aload_n 0, 1) := by decide +kernel
theorem dX9_draw_1 : decode cX9_draw 1 = .ok (.ldc2_w 520, 3) := by decide +kernel
theorem dX9_draw_4 : decode cX9_draw 4 = .ok (.aload_n 0, 1) := by decide +kernel
theorem dX9_draw_5 : decode cX9_draw 5 = .ok (.getfield 180, 3) := by decide +kernel
theorem dX9_draw_8 : decode cX9_draw 8 = .ok (.lmul, 1) := by decide +kernel
theorem dX9_draw_9 : decode cX9_draw 9 = .ok (.ldc2_w 522, 3) := by decide +kernel
theorem dX9_draw_12 : decode cX9_draw 12 = .ok (.ladd, 1) := by decide +kernel
theorem dX9_draw_13 : decode cX9_draw 13 = .ok (.ldc2_w 524, 3) := by decide +kernel
theorem dX9_draw_16 : decode cX9_draw 16 = .ok (.lrem, 1) := by decide +kernel
theorem dX9_draw_17 : decode cX9_draw 17 = .ok (.putfield 180, 3) := by decide +kernel
theorem dX9_draw_20 : decode cX9_draw 20 = .ok (.aload_n 0, 1) := by decide +kernel
theorem dX9_draw_21 : decode cX9_draw 21 = .ok (.getfield 180, 3) := by decide +kernel
theorem dX9_draw_24 : decode cX9_draw 24 = .ok (.ldc2_w 526, 3) := by decide +kernel
theorem dX9_draw_27 : decode cX9_draw 27 = .ok (.ldiv, 1) := by decide +kernel
theorem dX9_draw_28 : decode cX9_draw 28 = .ok (.iload_n 1, 1) := by decide +kernel
theorem dX9_draw_29 : decode cX9_draw 29 = .ok (.i2l, 1) := by decide +kernel
theorem dX9_draw_30 : decode cX9_draw 30 = .ok (.lrem, 1) := by decide +kernel
theorem dX9_draw_31 : decode cX9_draw 31 = .ok (.l2i, 1) := by decide +kernel
theorem dX9_draw_32 : decode cX9_draw 32 = .ok (.ireturn, 1) := by decide +kernel
theorem dX9_calls_0 : decode cX9_calls 0 = .ok (.iload_n 1, 1) := by decide +kernel
theorem dX9_calls_1 : decode cX9_calls 1 = .ok (.iconst 1, 1) := by decide +kernel
theorem dX9_calls_2 : decode cX9_calls 2 = .ok (.bipush 50, 2) := by decide +kernel
theorem dX9_calls_4 : decode cX9_calls 4 = .ok (.invokestatic 314, 3) := by decide +kernel
theorem dX9_calls_7 : decode cX9_calls 7 = .ok (.ifCond .eq 17, 3) := by decide +kernel
theorem dX9_calls_10 : decode cX9_calls 10 = .ok (.aload_n 0, 1) := by decide +kernel
theorem dX9_calls_11 : decode cX9_calls 11 = .ok (.getfield 159, 3) := by decide +kernel
theorem dX9_calls_14 : decode cX9_calls 14 = .ok (.iconst 0, 1) := by decide +kernel
theorem dX9_calls_15 : decode cX9_calls 15 = .ok (.iaload, 1) := by decide +kernel
theorem dX9_calls_16 : decode cX9_calls 16 = .ok (.iload_n 1, 1) := by decide +kernel
theorem dX9_calls_17 : decode cX9_calls 17 = .ok (.iadd, 1) := by decide +kernel
theorem dX9_calls_18 : decode cX9_calls 18 = .ok (.sipush 999, 3) := by decide +kernel
theorem dX9_calls_21 : decode cX9_calls 21 = .ok (.if_icmp .le 9, 3) := by decide +kernel
theorem dX9_calls_24 : decode cX9_calls 24 = .ok (.aload_n 0, 1) := by decide +kernel
theorem dX9_calls_25 : decode cX9_calls 25 = .ok (.iconst 4, 1) := by decide +kernel
theorem dX9_calls_26 : decode cX9_calls 26 = .ok (.invokevirtual 228, 3) := by decide +kernel
theorem dX9_calls_29 : decode cX9_calls 29 = .ok (.ireturn, 1) := by decide +kernel
theorem dX9_calls_30 : decode cX9_calls 30 = .ok (.aload_n 0, 1) := by decide +kernel
theorem dX9_calls_31 : decode cX9_calls 31 = .ok (.invokevirtual 502, 3) := by decide +kernel
theorem dX9_calls_34 : decode cX9_calls 34 = .ok (.iconst 0, 1) := by decide +kernel
theorem dX9_calls_35 : decode cX9_calls 35 = .ok (.istore_n 2, 1) := by decide +kernel
theorem dX9_calls_36 : decode cX9_calls 36 = .ok (.iconst 0, 1) := by decide +kernel
theorem dX9_calls_37 : decode cX9_calls 37 = .ok (.istore_n 3, 1) := by decide +kernel
theorem dX9_calls_38 : decode cX9_calls 38 = .ok (.iload_n 3, 1) := by decide +kernel
theorem dX9_calls_39 : decode cX9_calls 39 = .ok (.iload_n 1, 1) := by decide +kernel
theorem dX9_calls_40 : decode cX9_calls 40 = .ok (.if_icmp .ge 106, 3) := by decide +kernel
theorem dX9_calls_43 : decode cX9_calls 43 = .ok (.aload_n 0, 1) := by decide +kernel
theorem dX9_calls_44 : decode cX9_calls 44 = .ok (.iconst 0, 1) := by decide +kernel
theorem dX9_calls_45 : decode cX9_calls 45 = .ok (.invokevirtual 517, 3) := by decide +kernel
theorem dX9_calls_48 : decode cX9_calls 48 = .ok (.pop, 1) := by decide +kernel
theorem dX9_calls_49 : decode cX9_calls 49 = .ok (.aload_n 0, 1) := by decide +kernel
theorem dX9_calls_50 : decode cX9_calls 50 = .ok (.bipush 100, 2) := by decide +kernel
theorem dX9_calls_52 : decode cX9_calls 52 = .ok (.invokevirtual 528, 3) := by decide +kernel
theorem dX9_calls_55 : decode cX9_calls 55 = .ok (.aload_n 0, 1) := by decide +kernel
theorem dX9_calls_56 : decode cX9_calls 56 = .ok (.getfield 87, 3) := by decide +kernel
theorem dX9_calls_59 : decode cX9_calls 59 = .ok (.aload_n 0, 1) := by decide +kernel
theorem dX9_calls_60 : decode cX9_calls 60 = .ok (.getfield 51, 3) := by decide +kernel
theorem dX9_calls_63 : decode cX9_calls 63 = .ok (.iaload, 1) := by decide +kernel
theorem dX9_calls_64 : decode cX9_calls 64 = .ok (.if_icmp .ge 76, 3) := by decide +kernel
theorem dX9_calls_67 : decode cX9_calls 67 = .ok (.aload_n 0, 1) := by decide +kernel
theorem dX9_calls_68 : decode cX9_calls 68 = .ok (.getfield 60, 3) := by decide +kernel
theorem dX9_calls_71 : decode cX9_calls 71 = .ok (.aload_n 0, 1) := by decide +kernel
theorem dX9_calls_72 : decode cX9_calls 72 = .ok (.getfield 51, 3) := by decide +kernel
theorem dX9_calls_75 : decode cX9_calls 75 = .ok (.iaload, 1) := by decide +kernel
theorem dX9_calls_76 : decode cX9_calls 76 = .ok (.ifCond .ne 6, 3) := by decide +kernel
theorem dX9_calls_79 : decode cX9_calls 79 = .ok (.goto 61, 3) := by decide +kernel
theorem dX9_calls_82 : decode cX9_calls 82 = .ok (.aload_n 0, 1) := by decide +kernel
theorem dX9_calls_83 : decode cX9_calls 83 = .ok (.aload_n 0, 1) := by decide +kernel
theorem dX9_calls_84 : decode cX9_calls 84 = .ok (.getfield 60, 3) := by decide +kernel
theorem dX9_calls_87 : decode cX9_calls 87 = .ok (.aload_n 0, 1) := by decide +kernel
theorem dX9_calls_88 : decode cX9_calls 88 = .ok (.getfield 51, 3) := by decide +kernel
theorem dX9_calls_91 : decode cX9_calls 91 = .ok (.iaload, 1) := by decide +kernel
theorem dX9_calls_92 : decode cX9_calls 92 = .ok (.invokevirtual 528, 3) := by decide +kernel
theorem dX9_calls_95 : decode cX9_calls 95 = .ok (.istore 4, 2) := by decide +kernel
theorem dX9_calls_97 : decode cX9_calls 97 = .ok (.aload_n 0, 1) := by decide +kernel
theorem dX9_calls_98 : decode cX9_calls 98 = .ok (.aload_n 0, 1) := by decide +kernel
theorem dX9_calls_99 : decode cX9_calls 99 = .ok (.getfield 54, 3) := by decide +kernel
theorem dX9_calls_102 : decode cX9_calls 102 = .ok (.aload_n 0, 1) := by decide +kernel
theorem dX9_calls_103 : decode cX9_calls 103 = .ok (.getfield 51, 3) := by decide +kernel
theorem dX9_calls_106 : decode cX9_calls 106 = .ok (.iaload, 1) := by decide +kernel
theorem dX9_calls_107 : decode cX9_calls 107 = .ok (.invokevirtual 528, 3) := by decide +kernel
theorem dX9_calls_110 : decode cX9_calls 110 = .ok (.istore 5, 2) := by decide +kernel
theorem dX9_calls_112 : decode cX9_calls 112 = .ok (.aload_n 0, 1) := by decide +kernel
theorem dX9_calls_113 : decode cX9_calls 113 = .ok (.iconst 0, 1) := by decide +kernel
theorem dX9_calls_114 : decode cX9_calls 114 = .ok (.iload 4, 2) := by decide +kernel
theorem dX9_calls_116 : decode cX9_calls 116 = .ok (.iload 5, 2) := by decide +kernel
theorem dX9_calls_118 : decode cX9_calls 118 = .ok (.invokevirtual 480, 3) := by decide +kernel
theorem dX9_calls_121 : decode cX9_calls 121 = .ok (.ifCond .ne 6, 3) := by decide +kernel
theorem dX9_calls_124 : decode cX9_calls 124 = .ok (.goto 16, 3) := by decide +kernel
theorem dX9_calls_127 : decode cX9_calls 127 = .ok (.aload_n 0, 1) := by decide +kernel
theorem dX9_calls_128 : decode cX9_calls 128 = .ok (.iconst 0, 1) := by decide +kernel
theorem dX9_calls_129 : decode cX9_calls 129 = .ok (.iload 4, 2) := by decide +kernel
theorem dX9_calls_131 : decode cX9_calls 131 = .ok (.iload 5, 2) := by decide +kernel
theorem dX9_calls_133 : decode cX9_calls 133 = .ok (.invokevirtual 505, 3) := by decide +kernel
theorem dX9_calls_136 : decode cX9_calls 136 = .ok (.pop, 1) := by decide +kernel
theorem dX9_calls_137 : decode cX9_calls 137 = .ok (.iinc 2 1, 3) := by decide +kernel
theorem dX9_calls_140 : decode cX9_calls 140 = .ok (.iinc 3 1, 3) := by decide +kernel
theorem dX9_calls_143 : decode cX9_calls 143 = .ok (.goto (-105), 3) := by decide +kernel
theorem dX9_calls_146 : decode cX9_calls 146 = .ok (.iload_n 2, 1) := by decide +kernel
theorem dX9_calls_147 : decode cX9_calls 147 = .ok (.ireturn, 1) := by decide +kernel
theorem dX9_seed_0 : decode cX9_seed 0 = .ok (.iload_n 1, 1) := by decide +kernel
theorem dX9_seed_1 : decode cX9_seed 1 = .ok (.ifCond .ge 17, 3) := by decide +kernel
theorem dX9_seed_4 : decode cX9_seed 4 = .ok (.aload_n 0, 1) := by decide +kernel
theorem dX9_seed_5 : decode cX9_seed 5 = .ok (.iconst 5, 1) := by decide +kernel
theorem dX9_seed_6 : decode cX9_seed 6 = .ok (.invokevirtual 228, 3) := by decide +kernel
theorem dX9_seed_9 : decode cX9_seed 9 = .ok (.ifCond .lt 7, 3) := by decide +kernel
theorem dX9_seed_12 : decode cX9_seed 12 = .ok (.iconst 1, 1) := by decide +kernel
theorem dX9_seed_13 : decode cX9_seed 13 = .ok (.goto 4, 3) := by decide +kernel
theorem dX9_seed_16 : decode cX9_seed 16 = .ok (.iconst 0, 1) := by decide +kernel
theorem dX9_seed_17 : decode cX9_seed 17 = .ok (.ireturn, 1) := by decide +kernel
theorem dX9_seed_18 : decode cX9_seed 18 = .ok (.aload_n 0, 1) := by decide +kernel
theorem dX9_seed_19 : decode cX9_seed 19 = .ok (.iload_n 1, 1) := by decide +kernel
theorem dX9_seed_20 : decode cX9_seed 20 = .ok (.i2l, 1) := by decide +kernel
theorem dX9_seed_21 : decode cX9_seed 21 = .ok (.putfield 180, 3) := by decide +kernel
theorem dX9_seed_24 : decode cX9_seed 24 = .ok (.iconst 1, 1) := by decide +kernel
theorem dX9_seed_25 : decode cX9_seed 25 = .ok (.ireturn, 1) := by decide +kernel
theorem dX9_introduce_0 : decode cX9_introduce 0 = .ok (.aload_n 0, 1) := by decide +kernel
theorem dX9_introduce_1 : decode cX9_introduce 1 = .ok (.iload_n 1, 1) := by decide +kernel
theorem dX9_introduce_2 : decode cX9_introduce 2 = .ok (.invokevirtual 471, 3) := by decide +kernel
theorem dX9_introduce_5 : decode cX9_introduce 5 = .ok (.ifCond .eq 30, 3) := by decide +kernel
theorem dX9_introduce_8 : decode cX9_introduce 8 = .ok (.aload_n 0, 1) := by decide +kernel
theorem dX9_introduce_9 : decode cX9_introduce 9 = .ok (.iload_n 2, 1) := by decide +kernel
theorem dX9_introduce_10 : decode cX9_introduce 10 = .ok (.invokevirtual 471, 3) := by decide +kernel
theorem dX9_introduce_13 : decode cX9_introduce 13 = .ok (.ifCond .eq 22, 3) := by decide +kernel
theorem dX9_introduce_16 : decode cX9_introduce 16 = .ok (.iload_n 1, 1) := by decide +kernel
theorem dX9_introduce_17 : decode cX9_introduce 17 = .ok (.iload_n 2, 1) := by decide +kernel
theorem dX9_introduce_18 : decode cX9_introduce 18 = .ok (.if_icmp .eq 17, 3) := by decide +kernel
theorem dX9_introduce_21 : decode cX9_introduce 21 = .ok (.iload_n 3, 1) := by decide +kernel
theorem dX9_introduce_22 : decode cX9_introduce 22 = .ok (.ifCond .lt 13, 3) := by decide +kernel
theorem dX9_introduce_25 : decode cX9_introduce 25 = .ok (.iload 4, 2) := by decide +kernel
theorem dX9_introduce_27 : decode cX9_introduce 27 = .ok (.iconst 0, 1) := by decide +kernel
theorem dX9_introduce_28 : decode cX9_introduce 28 = .ok (.iconst 2, 1) := by decide +kernel
theorem dX9_introduce_29 : decode cX9_introduce 29 = .ok (.invokestatic 314, 3) := by decide +kernel
theorem dX9_introduce_32 : decode cX9_introduce 32 = .ok (.ifCond .ne 5, 3) := by decide +kernel
theorem dX9_introduce_35 : decode cX9_introduce 35 = .ok (.iconst (-1), 1) := by decide +kernel
theorem dX9_introduce_36 : decode cX9_introduce 36 = .ok (.ireturn, 1) := by decide +kernel
theorem dX9_introduce_37 : decode cX9_introduce 37 = .ok (.aload_n 0, 1) := by decide +kernel
theorem dX9_introduce_38 : decode cX9_introduce 38 = .ok (.iconst 0, 1) := by decide +kernel
theorem dX9_introduce_39 : decode cX9_introduce 39 = .ok (.iload_n 1, 1) := by decide +kernel
theorem dX9_introduce_40 : decode cX9_introduce 40 = .ok (.invokevirtual 451, 3) := by decide +kernel
theorem dX9_introduce_43 : decode cX9_introduce 43 = .ok (.istore 5, 2) := by decide +kernel
theorem dX9_introduce_45 : decode cX9_introduce 45 = .ok (.iconst 0, 1) := by decide +kernel
theorem dX9_introduce_46 : decode cX9_introduce 46 = .ok (.istore 6, 2) := by decide +kernel
theorem dX9_introduce_48 : decode cX9_introduce 48 = .ok (.iconst 0, 1) := by decide +kernel
theorem dX9_introduce_49 : decode cX9_introduce 49 = .ok (.istore 7, 2) := by decide +kernel
theorem dX9_introduce_51 : decode cX9_introduce 51 = .ok (.iload 7, 2) := by decide +kernel
theorem dX9_introduce_53 : decode cX9_introduce 53 = .ok (.aload_n 0, 1) := by decide +kernel
theorem dX9_introduce_54 : decode cX9_introduce 54 = .ok (.getfield 60, 3) := by decide +kernel
theorem dX9_introduce_57 : decode cX9_introduce 57 = .ok (.aload_n 0, 1) := by decide +kernel
theorem dX9_introduce_58 : decode cX9_introduce 58 = .ok (.getfield 51, 3) := by decide +kernel
theorem dX9_introduce_61 : decode cX9_introduce 61 = .ok (.iaload, 1) := by decide +kernel
theorem dX9_introduce_62 : decode cX9_introduce 62 = .ok (.if_icmp .ge 54, 3) := by decide +kernel
theorem dX9_introduce_65 : decode cX9_introduce 65 = .ok (.iload 6, 2) := by decide +kernel
theorem dX9_introduce_67 : decode cX9_introduce 67 = .ok (.iload 5, 2) := by decide +kernel
theorem dX9_introduce_69 : decode cX9_introduce 69 = .ok (.iload 7, 2) := by decide +kernel
theorem dX9_introduce_71 : decode cX9_introduce 71 = .ok (.invokestatic 373, 3) := by decide +kernel
theorem dX9_introduce_74 : decode cX9_introduce 74 = .ok (.ifCond .eq 32, 3) := by decide +kernel
theorem dX9_introduce_77 : decode cX9_introduce 77 = .ok (.aload_n 0, 1) := by decide +kernel
theorem dX9_introduce_78 : decode cX9_introduce 78 = .ok (.iconst 0, 1) := by decide +kernel
theorem dX9_introduce_79 : decode cX9_introduce 79 = .ok (.iload 7, 2) := by decide +kernel
theorem dX9_introduce_81 : decode cX9_introduce 81 = .ok (.iload_n 2, 1) := by decide +kernel
theorem dX9_introduce_82 : decode cX9_introduce 82 = .ok (.invokevirtual 480, 3) := by decide +kernel
theorem dX9_introduce_85 : decode cX9_introduce 85 = .ok (.ifCond .eq 21, 3) := by decide +kernel
theorem dX9_introduce_88 : decode cX9_introduce 88 = .ok (.aload_n 0, 1) := by decide +kernel
theorem dX9_introduce_89 : decode cX9_introduce 89 = .ok (.iconst 0, 1) := by decide +kernel
theorem dX9_introduce_90 : decode cX9_introduce 90 = .ok (.iload 7, 2) := by decide +kernel
theorem dX9_introduce_92 : decode cX9_introduce 92 = .ok (.iload_n 2, 1) := by decide +kernel
theorem dX9_introduce_93 : decode cX9_introduce 93 = .ok (.invokevirtual 483, 3) := by decide +kernel
theorem dX9_introduce_96 : decode cX9_introduce 96 = .ok (.ifCond .eq 10, 3) := by decide +kernel
theorem dX9_introduce_99 : decode cX9_introduce 99 = .ok (.iconst 1, 1) := by decide +kernel
theorem dX9_introduce_100 : decode cX9_introduce 100 = .ok (.iload 7, 2) := by decide +kernel
theorem dX9_introduce_102 : decode cX9_introduce 102 = .ok (.ishl, 1) := by decide +kernel
theorem dX9_introduce_103 : decode cX9_introduce 103 = .ok (.goto 4, 3) := by decide +kernel
theorem dX9_introduce_106 : decode cX9_introduce 106 = .ok (.iconst 0, 1) := by decide +kernel
theorem dX9_introduce_107 : decode cX9_introduce 107 = .ok (.ior, 1) := by decide +kernel
theorem dX9_introduce_108 : decode cX9_introduce 108 = .ok (.istore 6, 2) := by decide +kernel
theorem dX9_introduce_110 : decode cX9_introduce 110 = .ok (.iinc 7 1, 3) := by decide +kernel
theorem dX9_introduce_113 : decode cX9_introduce 113 = .ok (.goto (-62), 3) := by decide +kernel
theorem dX9_introduce_116 : decode cX9_introduce 116 = .ok (.aload_n 0, 1) := by decide +kernel
theorem dX9_introduce_117 : decode cX9_introduce 117 = .ok (.iload_n 1, 1) := by decide +kernel
theorem dX9_introduce_118 : decode cX9_introduce 118 = .ok (.iload_n 2, 1) := by decide +kernel
theorem dX9_introduce_119 : decode cX9_introduce 119 = .ok (.invokevirtual 492, 3) := by decide +kernel
theorem dX9_introduce_122 : decode cX9_introduce 122 = .ok (.istore 7, 2) := by decide +kernel
theorem dX9_introduce_124 : decode cX9_introduce 124 = .ok (.iconst (-1), 1) := by decide +kernel
theorem dX9_introduce_125 : decode cX9_introduce 125 = .ok (.istore 8, 2) := by decide +kernel
theorem dX9_introduce_127 : decode cX9_introduce 127 = .ok (.iconst 0, 1) := by decide +kernel
theorem dX9_introduce_128 : decode cX9_introduce 128 = .ok (.istore 9, 2) := by decide +kernel
theorem dX9_introduce_130 : decode cX9_introduce 130 = .ok (.iload 9, 2) := by decide +kernel
theorem dX9_introduce_132 : decode cX9_introduce 132 = .ok (.iconst 1, 1) := by decide +kernel
theorem dX9_introduce_133 : decode cX9_introduce 133 = .ok (.aload_n 0, 1) := by decide +kernel
theorem dX9_introduce_134 : decode cX9_introduce 134 = .ok (.getfield 60, 3) := by decide +kernel
theorem dX9_introduce_137 : decode cX9_introduce 137 = .ok (.aload_n 0, 1) := by decide +kernel
theorem dX9_introduce_138 : decode cX9_introduce 138 = .ok (.getfield 51, 3) := by decide +kernel
theorem dX9_introduce_141 : decode cX9_introduce 141 = .ok (.iaload, 1) := by decide +kernel
theorem dX9_introduce_142 : decode cX9_introduce 142 = .ok (.ishl, 1) := by decide +kernel
theorem dX9_introduce_143 : decode cX9_introduce 143 = .ok (.if_icmp .ge 103, 3) := by decide +kernel
theorem dX9_introduce_146 : decode cX9_introduce 146 = .ok (.iload 9, 2) := by decide +kernel
theorem dX9_introduce_148 : decode cX9_introduce 148 = .ok (.iload 6, 2) := by decide +kernel
theorem dX9_introduce_150 : decode cX9_introduce 150 = .ok (.iconst (-1), 1) := by decide +kernel
theorem dX9_introduce_151 : decode cX9_introduce 151 = .ok (.ixor, 1) := by decide +kernel
theorem dX9_introduce_152 : decode cX9_introduce 152 = .ok (.iand, 1) := by decide +kernel
theorem dX9_introduce_153 : decode cX9_introduce 153 = .ok (.ifCond .ne 87, 3) := by decide +kernel
theorem dX9_introduce_156 : decode cX9_introduce 156 = .ok (.iload 7, 2) := by decide +kernel
theorem dX9_introduce_158 : decode cX9_introduce 158 = .ok (.aload_n 0, 1) := by decide +kernel
theorem dX9_introduce_159 : decode cX9_introduce 159 = .ok (.iload 9, 2) := by decide +kernel
theorem dX9_introduce_161 : decode cX9_introduce 161 = .ok (.invokevirtual 474, 3) := by decide +kernel
theorem dX9_introduce_164 : decode cX9_introduce 164 = .ok (.iadd, 1) := by decide +kernel
theorem dX9_introduce_165 : decode cX9_introduce 165 = .ok (.iload_n 3, 1) := by decide +kernel
theorem dX9_introduce_166 : decode cX9_introduce 166 = .ok (.if_icmp .ge 6, 3) := by decide +kernel
theorem dX9_introduce_169 : decode cX9_introduce 169 = .ok (.goto 71, 3) := by decide +kernel
theorem dX9_introduce_172 : decode cX9_introduce 172 = .ok (.iload 8, 2) := by decide +kernel
theorem dX9_introduce_174 : decode cX9_introduce 174 = .ok (.iconst (-1), 1) := by decide +kernel
theorem dX9_introduce_175 : decode cX9_introduce 175 = .ok (.if_icmp .eq 44, 3) := by decide +kernel
theorem dX9_introduce_178 : decode cX9_introduce 178 = .ok (.iload 9, 2) := by decide +kernel
theorem dX9_introduce_180 : decode cX9_introduce 180 = .ok (.invokestatic 448, 3) := by decide +kernel
theorem dX9_introduce_183 : decode cX9_introduce 183 = .ok (.iload 8, 2) := by decide +kernel
theorem dX9_introduce_185 : decode cX9_introduce 185 = .ok (.invokestatic 448, 3) := by decide +kernel
theorem dX9_introduce_188 : decode cX9_introduce 188 = .ok (.if_icmp .lt 31, 3) := by decide +kernel
theorem dX9_introduce_191 : decode cX9_introduce 191 = .ok (.iload 9, 2) := by decide +kernel
theorem dX9_introduce_193 : decode cX9_introduce 193 = .ok (.invokestatic 448, 3) := by decide +kernel
theorem dX9_introduce_196 : decode cX9_introduce 196 = .ok (.iload 8, 2) := by decide +kernel
theorem dX9_introduce_198 : decode cX9_introduce 198 = .ok (.invokestatic 448, 3) := by decide +kernel
theorem dX9_introduce_201 : decode cX9_introduce 201 = .ok (.if_icmp .ne 22, 3) := by decide +kernel
theorem dX9_introduce_204 : decode cX9_introduce 204 = .ok (.aload_n 0, 1) := by decide +kernel
theorem dX9_introduce_205 : decode cX9_introduce 205 = .ok (.iload 9, 2) := by decide +kernel
theorem dX9_introduce_207 : decode cX9_introduce 207 = .ok (.invokevirtual 474, 3) := by decide +kernel
theorem dX9_introduce_210 : decode cX9_introduce 210 = .ok (.aload_n 0, 1) := by decide +kernel
theorem dX9_introduce_211 : decode cX9_introduce 211 = .ok (.iload 8, 2) := by decide +kernel
theorem dX9_introduce_213 : decode cX9_introduce 213 = .ok (.invokevirtual 474, 3) := by decide +kernel
theorem dX9_introduce_216 : decode cX9_introduce 216 = .ok (.if_icmp .le 7, 3) := by decide +kernel
theorem dX9_introduce_219 : decode cX9_introduce 219 = .ok (.iconst 1, 1) := by decide +kernel
theorem dX9_introduce_220 : decode cX9_introduce 220 = .ok (.goto 4, 3) := by decide +kernel
theorem dX9_introduce_223 : decode cX9_introduce 223 = .ok (.iconst 0, 1) := by decide +kernel
theorem dX9_introduce_224 : decode cX9_introduce 224 = .ok (.istore 10, 2) := by decide +kernel
theorem dX9_introduce_226 : decode cX9_introduce 226 = .ok (.iload 10, 2) := by decide +kernel
theorem dX9_introduce_228 : decode cX9_introduce 228 = .ok (.ifCond .eq 8, 3) := by decide +kernel
theorem dX9_introduce_231 : decode cX9_introduce 231 = .ok (.iload 9, 2) := by decide +kernel
theorem dX9_introduce_233 : decode cX9_introduce 233 = .ok (.goto 5, 3) := by decide +kernel
theorem dX9_introduce_236 : decode cX9_introduce 236 = .ok (.iload 8, 2) := by decide +kernel
theorem dX9_introduce_238 : decode cX9_introduce 238 = .ok (.istore 8, 2) := by decide +kernel
theorem dX9_introduce_240 : decode cX9_introduce 240 = .ok (.iinc 9 1, 3) := by decide +kernel
theorem dX9_introduce_243 : decode cX9_introduce 243 = .ok (.goto (-113), 3) := by decide +kernel
theorem dX9_introduce_246 : decode cX9_introduce 246 = .ok (.iload 8, 2) := by decide +kernel
theorem dX9_introduce_248 : decode cX9_introduce 248 = .ok (.iconst (-1), 1) := by decide +kernel
theorem dX9_introduce_249 : decode cX9_introduce 249 = .ok (.if_icmp .ne 7, 3) := by decide +kernel
theorem dX9_introduce_252 : decode cX9_introduce 252 = .ok (.iconst (-1), 1) := by decide +kernel
theorem dX9_introduce_253 : decode cX9_introduce 253 = .ok (.goto 36, 3) := by decide +kernel
theorem dX9_introduce_256 : decode cX9_introduce 256 = .ok (.iload 4, 2) := by decide +kernel
theorem dX9_introduce_258 : decode cX9_introduce 258 = .ok (.ifCond .ne 11, 3) := by decide +kernel
theorem dX9_introduce_261 : decode cX9_introduce 261 = .ok (.iload 8, 2) := by decide +kernel
theorem dX9_introduce_263 : decode cX9_introduce 263 = .ok (.invokestatic 448, 3) := by decide +kernel
theorem dX9_introduce_266 : decode cX9_introduce 266 = .ok (.goto 23, 3) := by decide +kernel
theorem dX9_introduce_269 : decode cX9_introduce 269 = .ok (.iload 4, 2) := by decide +kernel
theorem dX9_introduce_271 : decode cX9_introduce 271 = .ok (.iconst 1, 1) := by decide +kernel
theorem dX9_introduce_272 : decode cX9_introduce 272 = .ok (.if_icmp .ne 8, 3) := by decide +kernel
theorem dX9_introduce_275 : decode cX9_introduce 275 = .ok (.iload 8, 2) := by decide +kernel
theorem dX9_introduce_277 : decode cX9_introduce 277 = .ok (.goto 12, 3) := by decide +kernel
theorem dX9_introduce_280 : decode cX9_introduce 280 = .ok (.iload 7, 2) := by decide +kernel
theorem dX9_introduce_282 : decode cX9_introduce 282 = .ok (.aload_n 0, 1) := by decide +kernel
theorem dX9_introduce_283 : decode cX9_introduce 283 = .ok (.iload 8, 2) := by decide +kernel
theorem dX9_introduce_285 : decode cX9_introduce 285 = .ok (.invokevirtual 474, 3) := by decide +kernel
theorem dX9_introduce_288 : decode cX9_introduce 288 = .ok (.iadd, 1) := by decide +kernel
theorem dX9_introduce_289 : decode cX9_introduce 289 = .ok (.ireturn, 1) := by decide +kernel
theorem dX9_reaches_0 : decode cX9_reaches 0 = .ok (.sipush 1024, 3) := by decide +kernel
theorem dX9_reaches_3 : decode cX9_reaches 3 = .ok (.iload_n 1, 1) := by decide +kernel
theorem dX9_reaches_4 : decode cX9_reaches 4 = .ok (.imul, 1) := by decide +kernel
theorem dX9_reaches_5 : decode cX9_reaches 5 = .ok (.iload_n 2, 1) := by decide +kernel
theorem dX9_reaches_6 : decode cX9_reaches 6 = .ok (.iadd, 1) := by decide +kernel
theorem dX9_reaches_7 : decode cX9_reaches 7 = .ok (.istore 5, 2) := by decide +kernel
theorem dX9_reaches_9 : decode cX9_reaches 9 = .ok (.aload_n 0, 1) := by decide +kernel
theorem dX9_reaches_10 : decode cX9_reaches 10 = .ok (.getfield 207, 3) := by decide +kernel
theorem dX9_reaches_13 : decode cX9_reaches 13 = .ok (.iload 5, 2) := by decide +kernel
theorem dX9_reaches_15 : decode cX9_reaches 15 = .ok (.iaload, 1) := by decide +kernel
theorem dX9_reaches_16 : decode cX9_reaches 16 = .ok (.iconst (-1), 1) := by decide +kernel
theorem dX9_reaches_17 : decode cX9_reaches 17 = .ok (.if_icmp .eq 4, 3) := by decide +kernel
theorem dX9_reaches_20 : decode cX9_reaches 20 = .ok (.return_, 1) := by decide +kernel
theorem dX9_reaches_21 : decode cX9_reaches 21 = .ok (.aload_n 0, 1) := by decide +kernel
theorem dX9_reaches_22 : decode cX9_reaches 22 = .ok (.getfield 207, 3) := by decide +kernel
theorem dX9_reaches_25 : decode cX9_reaches 25 = .ok (.iload 5, 2) := by decide +kernel
theorem dX9_reaches_27 : decode cX9_reaches 27 = .ok (.iload 4, 2) := by decide +kernel
theorem dX9_reaches_29 : decode cX9_reaches 29 = .ok (.iastore, 1) := by decide +kernel
theorem dX9_reaches_30 : decode cX9_reaches 30 = .ok (.aload_n 0, 1) := by decide +kernel
theorem dX9_reaches_31 : decode cX9_reaches 31 = .ok (.getfield 204, 3) := by decide +kernel
theorem dX9_reaches_34 : decode cX9_reaches 34 = .ok (.iload 5, 2) := by decide +kernel
theorem dX9_reaches_36 : decode cX9_reaches 36 = .ok (.iload_n 3, 1) := by decide +kernel
theorem dX9_reaches_37 : decode cX9_reaches 37 = .ok (.iastore, 1) := by decide +kernel
theorem dX9_reaches_38 : decode cX9_reaches 38 = .ok (.aload_n 0, 1) := by decide +kernel
theorem dX9_reaches_39 : decode cX9_reaches 39 = .ok (.getfield 210, 3) := by decide +kernel
theorem dX9_reaches_42 : decode cX9_reaches 42 = .ok (.aload_n 0, 1) := by decide +kernel
theorem dX9_reaches_43 : decode cX9_reaches 43 = .ok (.getfield 213, 3) := by decide +kernel
theorem dX9_reaches_46 : decode cX9_reaches 46 = .ok (.iload 5, 2) := by decide +kernel
theorem dX9_reaches_48 : decode cX9_reaches 48 = .ok (.iastore, 1) := by decide +kernel
theorem dX9_reaches_49 : decode cX9_reaches 49 = .ok (.aload_n 0, 1) := by decide +kernel
theorem dX9_reaches_50 : decode cX9_reaches 50 = .ok (.dup, 1) := by decide +kernel
theorem dX9_reaches_51 : decode cX9_reaches 51 = .ok (.getfield 213, 3) := by decide +kernel
theorem dX9_reaches_54 : decode cX9_reaches 54 = .ok (.iconst 1, 1) := by decide +kernel
theorem dX9_reaches_55 : decode cX9_reaches 55 = .ok (.iadd, 1) := by decide +kernel
theorem dX9_reaches_56 : decode cX9_reaches 56 = .ok (.putfield 213, 3) := by decide +kernel
theorem dX9_reaches_59 : decode cX9_reaches 59 = .ok (.return_, 1) := by decide +kernel
theorem dX9_goesOn__0 : decode cX9_goesOn_ 0 = .ok (.iload_n 2, 1) := by decide +kernel
theorem dX9_goesOn__1 : decode cX9_goesOn_ 1 = .ok (.sipush 1024, 3) := by decide +kernel
theorem dX9_goesOn__4 : decode cX9_goesOn_ 4 = .ok (.idiv, 1) := by decide +kernel
theorem dX9_goesOn__5 : decode cX9_goesOn_ 5 = .ok (.istore_n 3, 1) := by decide +kernel
theorem dX9_goesOn__6 : decode cX9_goesOn_ 6 = .ok (.iload_n 2, 1) := by decide +kernel
theorem dX9_goesOn__7 : decode cX9_goesOn_ 7 = .ok (.sipush 1024, 3) := by decide +kernel
theorem dX9_goesOn__10 : decode cX9_goesOn_ 10 = .ok (.irem, 1) := by decide +kernel
theorem dX9_goesOn__11 : decode cX9_goesOn_ 11 = .ok (.istore 4, 2) := by decide +kernel
theorem dX9_goesOn__13 : decode cX9_goesOn_ 13 = .ok (.aload_n 0, 1) := by decide +kernel
theorem dX9_goesOn__14 : decode cX9_goesOn_ 14 = .ok (.iconst 0, 1) := by decide +kernel
theorem dX9_goesOn__15 : decode cX9_goesOn_ 15 = .ok (.iload_n 3, 1) := by decide +kernel
theorem dX9_goesOn__16 : decode cX9_goesOn_ 16 = .ok (.invokevirtual 451, 3) := by decide +kernel
theorem dX9_goesOn__19 : decode cX9_goesOn_ 19 = .ok (.iconst 1, 1) := by decide +kernel
theorem dX9_goesOn__20 : decode cX9_goesOn_ 20 = .ok (.iload_n 1, 1) := by decide +kernel
theorem dX9_goesOn__21 : decode cX9_goesOn_ 21 = .ok (.ishl, 1) := by decide +kernel
theorem dX9_goesOn__22 : decode cX9_goesOn_ 22 = .ok (.iconst (-1), 1) := by decide +kernel
theorem dX9_goesOn__23 : decode cX9_goesOn_ 23 = .ok (.ixor, 1) := by decide +kernel
theorem dX9_goesOn__24 : decode cX9_goesOn_ 24 = .ok (.iand, 1) := by decide +kernel
theorem dX9_goesOn__25 : decode cX9_goesOn_ 25 = .ok (.invokestatic 448, 3) := by decide +kernel
theorem dX9_goesOn__28 : decode cX9_goesOn_ 28 = .ok (.iconst 1, 1) := by decide +kernel
theorem dX9_goesOn__29 : decode cX9_goesOn_ 29 = .ok (.iadd, 1) := by decide +kernel
theorem dX9_goesOn__30 : decode cX9_goesOn_ 30 = .ok (.istore 5, 2) := by decide +kernel
theorem dX9_goesOn__32 : decode cX9_goesOn_ 32 = .ok (.iconst 0, 1) := by decide +kernel
theorem dX9_goesOn__33 : decode cX9_goesOn_ 33 = .ok (.istore 6, 2) := by decide +kernel
theorem dX9_goesOn__35 : decode cX9_goesOn_ 35 = .ok (.iload 6, 2) := by decide +kernel
theorem dX9_goesOn__37 : decode cX9_goesOn_ 37 = .ok (.aload_n 0, 1) := by decide +kernel
theorem dX9_goesOn__38 : decode cX9_goesOn_ 38 = .ok (.getfield 54, 3) := by decide +kernel
theorem dX9_goesOn__41 : decode cX9_goesOn_ 41 = .ok (.aload_n 0, 1) := by decide +kernel
theorem dX9_goesOn__42 : decode cX9_goesOn_ 42 = .ok (.getfield 51, 3) := by decide +kernel
theorem dX9_goesOn__45 : decode cX9_goesOn_ 45 = .ok (.iaload, 1) := by decide +kernel
theorem dX9_goesOn__46 : decode cX9_goesOn_ 46 = .ok (.if_icmp .ge 36, 3) := by decide +kernel
theorem dX9_goesOn__49 : decode cX9_goesOn_ 49 = .ok (.iload 6, 2) := by decide +kernel
theorem dX9_goesOn__51 : decode cX9_goesOn_ 51 = .ok (.iload_n 3, 1) := by decide +kernel
theorem dX9_goesOn__52 : decode cX9_goesOn_ 52 = .ok (.if_icmp .eq 24, 3) := by decide +kernel
theorem dX9_goesOn__55 : decode cX9_goesOn_ 55 = .ok (.iload 4, 2) := by decide +kernel
theorem dX9_goesOn__57 : decode cX9_goesOn_ 57 = .ok (.iload 6, 2) := by decide +kernel
theorem dX9_goesOn__59 : decode cX9_goesOn_ 59 = .ok (.invokestatic 373, 3) := by decide +kernel
theorem dX9_goesOn__62 : decode cX9_goesOn_ 62 = .ok (.ifCond .eq 14, 3) := by decide +kernel
theorem dX9_goesOn__65 : decode cX9_goesOn_ 65 = .ok (.aload_n 0, 1) := by decide +kernel
theorem dX9_goesOn__66 : decode cX9_goesOn_ 66 = .ok (.iload 6, 2) := by decide +kernel
theorem dX9_goesOn__68 : decode cX9_goesOn_ 68 = .ok (.iload 4, 2) := by decide +kernel
theorem dX9_goesOn__70 : decode cX9_goesOn_ 70 = .ok (.iload_n 2, 1) := by decide +kernel
theorem dX9_goesOn__71 : decode cX9_goesOn_ 71 = .ok (.iload 6, 2) := by decide +kernel
theorem dX9_goesOn__73 : decode cX9_goesOn_ 73 = .ok (.invokevirtual 531, 3) := by decide +kernel
theorem dX9_goesOn__76 : decode cX9_goesOn_ 76 = .ok (.iinc 6 1, 3) := by decide +kernel
theorem dX9_goesOn__79 : decode cX9_goesOn_ 79 = .ok (.goto (-44), 3) := by decide +kernel
theorem dX9_goesOn__82 : decode cX9_goesOn_ 82 = .ok (.iconst 0, 1) := by decide +kernel
theorem dX9_goesOn__83 : decode cX9_goesOn_ 83 = .ok (.istore 6, 2) := by decide +kernel
theorem dX9_goesOn__85 : decode cX9_goesOn_ 85 = .ok (.iload 6, 2) := by decide +kernel
theorem dX9_goesOn__87 : decode cX9_goesOn_ 87 = .ok (.aload_n 0, 1) := by decide +kernel
theorem dX9_goesOn__88 : decode cX9_goesOn_ 88 = .ok (.getfield 54, 3) := by decide +kernel
theorem dX9_goesOn__91 : decode cX9_goesOn_ 91 = .ok (.aload_n 0, 1) := by decide +kernel
theorem dX9_goesOn__92 : decode cX9_goesOn_ 92 = .ok (.getfield 51, 3) := by decide +kernel
theorem dX9_goesOn__95 : decode cX9_goesOn_ 95 = .ok (.iaload, 1) := by decide +kernel
theorem dX9_goesOn__96 : decode cX9_goesOn_ 96 = .ok (.if_icmp .ge 68, 3) := by decide +kernel
theorem dX9_goesOn__99 : decode cX9_goesOn_ 99 = .ok (.iload 4, 2) := by decide +kernel
theorem dX9_goesOn__101 : decode cX9_goesOn_ 101 = .ok (.aload_n 0, 1) := by decide +kernel
theorem dX9_goesOn__102 : decode cX9_goesOn_ 102 = .ok (.getfield 168, 3) := by decide +kernel
theorem dX9_goesOn__105 : decode cX9_goesOn_ 105 = .ok (.iload_n 1, 1) := by decide +kernel
theorem dX9_goesOn__106 : decode cX9_goesOn_ 106 = .ok (.iaload, 1) := by decide +kernel
theorem dX9_goesOn__107 : decode cX9_goesOn_ 107 = .ok (.ior, 1) := by decide +kernel
theorem dX9_goesOn__108 : decode cX9_goesOn_ 108 = .ok (.iload 6, 2) := by decide +kernel
theorem dX9_goesOn__110 : decode cX9_goesOn_ 110 = .ok (.invokestatic 373, 3) := by decide +kernel
theorem dX9_goesOn__113 : decode cX9_goesOn_ 113 = .ok (.ifCond .ne 45, 3) := by decide +kernel
theorem dX9_goesOn__116 : decode cX9_goesOn_ 116 = .ok (.aload_n 0, 1) := by decide +kernel
theorem dX9_goesOn__117 : decode cX9_goesOn_ 117 = .ok (.iload_n 1, 1) := by decide +kernel
theorem dX9_goesOn__118 : decode cX9_goesOn_ 118 = .ok (.iload_n 3, 1) := by decide +kernel
theorem dX9_goesOn__119 : decode cX9_goesOn_ 119 = .ok (.iload 6, 2) := by decide +kernel
theorem dX9_goesOn__121 : decode cX9_goesOn_ 121 = .ok (.iload 4, 2) := by decide +kernel
theorem dX9_goesOn__123 : decode cX9_goesOn_ 123 = .ok (.invokestatic 448, 3) := by decide +kernel
theorem dX9_goesOn__126 : decode cX9_goesOn_ 126 = .ok (.iload 5, 2) := by decide +kernel
theorem dX9_goesOn__128 : decode cX9_goesOn_ 128 = .ok (.aload_n 0, 1) := by decide +kernel
theorem dX9_goesOn__129 : decode cX9_goesOn_ 129 = .ok (.getfield 159, 3) := by decide +kernel
theorem dX9_goesOn__132 : decode cX9_goesOn_ 132 = .ok (.iconst 0, 1) := by decide +kernel
theorem dX9_goesOn__133 : decode cX9_goesOn_ 133 = .ok (.iaload, 1) := by decide +kernel
theorem dX9_goesOn__134 : decode cX9_goesOn_ 134 = .ok (.invokevirtual 454, 3) := by decide +kernel
theorem dX9_goesOn__137 : decode cX9_goesOn_ 137 = .ok (.ifCond .eq 21, 3) := by decide +kernel
theorem dX9_goesOn__140 : decode cX9_goesOn_ 140 = .ok (.aload_n 0, 1) := by decide +kernel
theorem dX9_goesOn__141 : decode cX9_goesOn_ 141 = .ok (.iload_n 3, 1) := by decide +kernel
theorem dX9_goesOn__142 : decode cX9_goesOn_ 142 = .ok (.iload 4, 2) := by decide +kernel
theorem dX9_goesOn__144 : decode cX9_goesOn_ 144 = .ok (.iconst 1, 1) := by decide +kernel
theorem dX9_goesOn__145 : decode cX9_goesOn_ 145 = .ok (.iload 6, 2) := by decide +kernel
theorem dX9_goesOn__147 : decode cX9_goesOn_ 147 = .ok (.ishl, 1) := by decide +kernel
theorem dX9_goesOn__148 : decode cX9_goesOn_ 148 = .ok (.ior, 1) := by decide +kernel
theorem dX9_goesOn__149 : decode cX9_goesOn_ 149 = .ok (.iload_n 2, 1) := by decide +kernel
theorem dX9_goesOn__150 : decode cX9_goesOn_ 150 = .ok (.bipush 10, 2) := by decide +kernel
theorem dX9_goesOn__152 : decode cX9_goesOn_ 152 = .ok (.iload 6, 2) := by decide +kernel
theorem dX9_goesOn__154 : decode cX9_goesOn_ 154 = .ok (.iadd, 1) := by decide +kernel
theorem dX9_goesOn__155 : decode cX9_goesOn_ 155 = .ok (.invokevirtual 531, 3) := by decide +kernel
theorem dX9_goesOn__158 : decode cX9_goesOn_ 158 = .ok (.iinc 6 1, 3) := by decide +kernel
theorem dX9_goesOn__161 : decode cX9_goesOn_ 161 = .ok (.goto (-76), 3) := by decide +kernel
theorem dX9_goesOn__164 : decode cX9_goesOn_ 164 = .ok (.return_, 1) := by decide +kernel
theorem dX9_findsState_0 : decode cX9_findsState 0 = .ok (.iconst 0, 1) := by decide +kernel
theorem dX9_findsState_1 : decode cX9_findsState 1 = .ok (.istore_n 3, 1) := by decide +kernel
theorem dX9_findsState_2 : decode cX9_findsState 2 = .ok (.iload_n 3, 1) := by decide +kernel
theorem dX9_findsState_3 : decode cX9_findsState 3 = .ok (.sipush 10240, 3) := by decide +kernel
theorem dX9_findsState_6 : decode cX9_findsState 6 = .ok (.if_icmp .ge 16, 3) := by decide +kernel
theorem dX9_findsState_9 : decode cX9_findsState 9 = .ok (.aload_n 0, 1) := by decide +kernel
theorem dX9_findsState_10 : decode cX9_findsState 10 = .ok (.getfield 207, 3) := by decide +kernel
theorem dX9_findsState_13 : decode cX9_findsState 13 = .ok (.iload_n 3, 1) := by decide +kernel
theorem dX9_findsState_14 : decode cX9_findsState 14 = .ok (.iconst (-1), 1) := by decide +kernel
theorem dX9_findsState_15 : decode cX9_findsState 15 = .ok (.iastore, 1) := by decide +kernel
theorem dX9_findsState_16 : decode cX9_findsState 16 = .ok (.iinc 3 1, 3) := by decide +kernel
theorem dX9_findsState_19 : decode cX9_findsState 19 = .ok (.goto (-17), 3) := by decide +kernel
theorem dX9_findsState_22 : decode cX9_findsState 22 = .ok (.aload_n 0, 1) := by decide +kernel
theorem dX9_findsState_23 : decode cX9_findsState 23 = .ok (.iconst 0, 1) := by decide +kernel
theorem dX9_findsState_24 : decode cX9_findsState 24 = .ok (.putfield 213, 3) := by decide +kernel
theorem dX9_findsState_27 : decode cX9_findsState 27 = .ok (.aload_n 0, 1) := by decide +kernel
theorem dX9_findsState_28 : decode cX9_findsState 28 = .ok (.aload_n 0, 1) := by decide +kernel
theorem dX9_findsState_29 : decode cX9_findsState 29 = .ok (.getfield 162, 3) := by decide +kernel
theorem dX9_findsState_32 : decode cX9_findsState 32 = .ok (.iload_n 1, 1) := by decide +kernel
theorem dX9_findsState_33 : decode cX9_findsState 33 = .ok (.iaload, 1) := by decide +kernel
theorem dX9_findsState_34 : decode cX9_findsState 34 = .ok (.aload_n 0, 1) := by decide +kernel
theorem dX9_findsState_35 : decode cX9_findsState 35 = .ok (.getfield 165, 3) := by decide +kernel
theorem dX9_findsState_38 : decode cX9_findsState 38 = .ok (.iload_n 1, 1) := by decide +kernel
theorem dX9_findsState_39 : decode cX9_findsState 39 = .ok (.iaload, 1) := by decide +kernel
theorem dX9_findsState_40 : decode cX9_findsState 40 = .ok (.iconst (-1), 1) := by decide +kernel
theorem dX9_findsState_41 : decode cX9_findsState 41 = .ok (.ldc_w 535, 3) := by decide +kernel
theorem dX9_findsState_44 : decode cX9_findsState 44 = .ok (.invokevirtual 531, 3) := by decide +kernel
theorem dX9_findsState_47 : decode cX9_findsState 47 = .ok (.iconst 0, 1) := by decide +kernel
theorem dX9_findsState_48 : decode cX9_findsState 48 = .ok (.istore_n 3, 1) := by decide +kernel
theorem dX9_findsState_49 : decode cX9_findsState 49 = .ok (.iload_n 3, 1) := by decide +kernel
theorem dX9_findsState_50 : decode cX9_findsState 50 = .ok (.aload_n 0, 1) := by decide +kernel
theorem dX9_findsState_51 : decode cX9_findsState 51 = .ok (.getfield 213, 3) := by decide +kernel
theorem dX9_findsState_54 : decode cX9_findsState 54 = .ok (.if_icmp .ge 41, 3) := by decide +kernel
theorem dX9_findsState_57 : decode cX9_findsState 57 = .ok (.aload_n 0, 1) := by decide +kernel
theorem dX9_findsState_58 : decode cX9_findsState 58 = .ok (.getfield 210, 3) := by decide +kernel
theorem dX9_findsState_61 : decode cX9_findsState 61 = .ok (.iload_n 3, 1) := by decide +kernel
theorem dX9_findsState_62 : decode cX9_findsState 62 = .ok (.iaload, 1) := by decide +kernel
theorem dX9_findsState_63 : decode cX9_findsState 63 = .ok (.sipush 1024, 3) := by decide +kernel
theorem dX9_findsState_66 : decode cX9_findsState 66 = .ok (.idiv, 1) := by decide +kernel
theorem dX9_findsState_67 : decode cX9_findsState 67 = .ok (.iload_n 2, 1) := by decide +kernel
theorem dX9_findsState_68 : decode cX9_findsState 68 = .ok (.if_icmp .ne 10, 3) := by decide +kernel
theorem dX9_findsState_71 : decode cX9_findsState 71 = .ok (.aload_n 0, 1) := by decide +kernel
theorem dX9_findsState_72 : decode cX9_findsState 72 = .ok (.getfield 210, 3) := by decide +kernel
theorem dX9_findsState_75 : decode cX9_findsState 75 = .ok (.iload_n 3, 1) := by decide +kernel
theorem dX9_findsState_76 : decode cX9_findsState 76 = .ok (.iaload, 1) := by decide +kernel
theorem dX9_findsState_77 : decode cX9_findsState 77 = .ok (.ireturn, 1) := by decide +kernel
theorem dX9_findsState_78 : decode cX9_findsState 78 = .ok (.aload_n 0, 1) := by decide +kernel
theorem dX9_findsState_79 : decode cX9_findsState 79 = .ok (.iload_n 1, 1) := by decide +kernel
theorem dX9_findsState_80 : decode cX9_findsState 80 = .ok (.aload_n 0, 1) := by decide +kernel
theorem dX9_findsState_81 : decode cX9_findsState 81 = .ok (.getfield 210, 3) := by decide +kernel
theorem dX9_findsState_84 : decode cX9_findsState 84 = .ok (.iload_n 3, 1) := by decide +kernel
theorem dX9_findsState_85 : decode cX9_findsState 85 = .ok (.iaload, 1) := by decide +kernel
theorem dX9_findsState_86 : decode cX9_findsState 86 = .ok (.invokevirtual 536, 3) := by decide +kernel
theorem dX9_findsState_89 : decode cX9_findsState 89 = .ok (.iinc 3 1, 3) := by decide +kernel
theorem dX9_findsState_92 : decode cX9_findsState 92 = .ok (.goto (-43), 3) := by decide +kernel
theorem dX9_findsState_95 : decode cX9_findsState 95 = .ok (.iconst (-1), 1) := by decide +kernel
theorem dX9_findsState_96 : decode cX9_findsState 96 = .ok (.ireturn, 1) := by decide +kernel
theorem dX9_comes_0 : decode cX9_comes 0 = .ok (.aload_n 0, 1) := by decide +kernel
theorem dX9_comes_1 : decode cX9_comes 1 = .ok (.iload_n 1, 1) := by decide +kernel
theorem dX9_comes_2 : decode cX9_comes 2 = .ok (.invokevirtual 477, 3) := by decide +kernel
theorem dX9_comes_5 : decode cX9_comes 5 = .ok (.ifCond .eq 11, 3) := by decide +kernel
theorem dX9_comes_8 : decode cX9_comes 8 = .ok (.aload_n 0, 1) := by decide +kernel
theorem dX9_comes_9 : decode cX9_comes 9 = .ok (.iload_n 2, 1) := by decide +kernel
theorem dX9_comes_10 : decode cX9_comes 10 = .ok (.invokevirtual 471, 3) := by decide +kernel
theorem dX9_comes_13 : decode cX9_comes 13 = .ok (.ifCond .ne 5, 3) := by decide +kernel
theorem dX9_comes_16 : decode cX9_comes 16 = .ok (.iconst (-1), 1) := by decide +kernel
theorem dX9_comes_17 : decode cX9_comes 17 = .ok (.ireturn, 1) := by decide +kernel
theorem dX9_comes_18 : decode cX9_comes 18 = .ok (.aload_n 0, 1) := by decide +kernel
theorem dX9_comes_19 : decode cX9_comes 19 = .ok (.iload_n 1, 1) := by decide +kernel
theorem dX9_comes_20 : decode cX9_comes 20 = .ok (.iload_n 2, 1) := by decide +kernel
theorem dX9_comes_21 : decode cX9_comes 21 = .ok (.invokevirtual 538, 3) := by decide +kernel
theorem dX9_comes_24 : decode cX9_comes 24 = .ok (.istore 4, 2) := by decide +kernel
theorem dX9_comes_26 : decode cX9_comes 26 = .ok (.iload 4, 2) := by decide +kernel
theorem dX9_comes_28 : decode cX9_comes 28 = .ok (.iconst (-1), 1) := by decide +kernel
theorem dX9_comes_29 : decode cX9_comes 29 = .ok (.if_icmp .ne 5, 3) := by decide +kernel
theorem dX9_comes_32 : decode cX9_comes 32 = .ok (.iconst (-1), 1) := by decide +kernel
theorem dX9_comes_33 : decode cX9_comes 33 = .ok (.ireturn, 1) := by decide +kernel
theorem dX9_comes_34 : decode cX9_comes 34 = .ok (.iconst 0, 1) := by decide +kernel
theorem dX9_comes_35 : decode cX9_comes 35 = .ok (.istore 5, 2) := by decide +kernel
theorem dX9_comes_37 : decode cX9_comes 37 = .ok (.iload 4, 2) := by decide +kernel
theorem dX9_comes_39 : decode cX9_comes 39 = .ok (.istore 6, 2) := by decide +kernel
theorem dX9_comes_41 : decode cX9_comes 41 = .ok (.aload_n 0, 1) := by decide +kernel
theorem dX9_comes_42 : decode cX9_comes 42 = .ok (.getfield 204, 3) := by decide +kernel
theorem dX9_comes_45 : decode cX9_comes 45 = .ok (.iload 6, 2) := by decide +kernel
theorem dX9_comes_47 : decode cX9_comes 47 = .ok (.iaload, 1) := by decide +kernel
theorem dX9_comes_48 : decode cX9_comes 48 = .ok (.iconst (-1), 1) := by decide +kernel
theorem dX9_comes_49 : decode cX9_comes 49 = .ok (.if_icmp .eq 18, 3) := by decide +kernel
theorem dX9_comes_52 : decode cX9_comes 52 = .ok (.iinc 5 1, 3) := by decide +kernel
theorem dX9_comes_55 : decode cX9_comes 55 = .ok (.aload_n 0, 1) := by decide +kernel
theorem dX9_comes_56 : decode cX9_comes 56 = .ok (.getfield 204, 3) := by decide +kernel
theorem dX9_comes_59 : decode cX9_comes 59 = .ok (.iload 6, 2) := by decide +kernel
theorem dX9_comes_61 : decode cX9_comes 61 = .ok (.iaload, 1) := by decide +kernel
theorem dX9_comes_62 : decode cX9_comes 62 = .ok (.istore 6, 2) := by decide +kernel
theorem dX9_comes_64 : decode cX9_comes 64 = .ok (.goto (-23), 3) := by decide +kernel
theorem dX9_comes_67 : decode cX9_comes 67 = .ok (.iload_n 3, 1) := by decide +kernel
theorem dX9_comes_68 : decode cX9_comes 68 = .ok (.iconst (-1), 1) := by decide +kernel
theorem dX9_comes_69 : decode cX9_comes 69 = .ok (.if_icmp .ne 6, 3) := by decide +kernel
theorem dX9_comes_72 : decode cX9_comes 72 = .ok (.iload 5, 2) := by decide +kernel
theorem dX9_comes_74 : decode cX9_comes 74 = .ok (.ireturn, 1) := by decide +kernel
theorem dX9_comes_75 : decode cX9_comes 75 = .ok (.iload_n 3, 1) := by decide +kernel
theorem dX9_comes_76 : decode cX9_comes 76 = .ok (.iconst 0, 1) := by decide +kernel
theorem dX9_comes_77 : decode cX9_comes 77 = .ok (.iload 5, 2) := by decide +kernel
theorem dX9_comes_79 : decode cX9_comes 79 = .ok (.iconst 1, 1) := by decide +kernel
theorem dX9_comes_80 : decode cX9_comes 80 = .ok (.isub, 1) := by decide +kernel
theorem dX9_comes_81 : decode cX9_comes 81 = .ok (.invokestatic 314, 3) := by decide +kernel
theorem dX9_comes_84 : decode cX9_comes 84 = .ok (.ifCond .ne 5, 3) := by decide +kernel
theorem dX9_comes_87 : decode cX9_comes 87 = .ok (.iconst (-1), 1) := by decide +kernel
theorem dX9_comes_88 : decode cX9_comes 88 = .ok (.ireturn, 1) := by decide +kernel
theorem dX9_comes_89 : decode cX9_comes 89 = .ok (.iload 4, 2) := by decide +kernel
theorem dX9_comes_91 : decode cX9_comes 91 = .ok (.istore 6, 2) := by decide +kernel
theorem dX9_comes_93 : decode cX9_comes 93 = .ok (.iload 5, 2) := by decide +kernel
theorem dX9_comes_95 : decode cX9_comes 95 = .ok (.iconst 1, 1) := by decide +kernel
theorem dX9_comes_96 : decode cX9_comes 96 = .ok (.isub, 1) := by decide +kernel
theorem dX9_comes_97 : decode cX9_comes 97 = .ok (.istore 7, 2) := by decide +kernel
theorem dX9_comes_99 : decode cX9_comes 99 = .ok (.iload 7, 2) := by decide +kernel
theorem dX9_comes_101 : decode cX9_comes 101 = .ok (.iload_n 3, 1) := by decide +kernel
theorem dX9_comes_102 : decode cX9_comes 102 = .ok (.if_icmp .le 18, 3) := by decide +kernel
theorem dX9_comes_105 : decode cX9_comes 105 = .ok (.aload_n 0, 1) := by decide +kernel
theorem dX9_comes_106 : decode cX9_comes 106 = .ok (.getfield 204, 3) := by decide +kernel
theorem dX9_comes_109 : decode cX9_comes 109 = .ok (.iload 6, 2) := by decide +kernel
theorem dX9_comes_111 : decode cX9_comes 111 = .ok (.iaload, 1) := by decide +kernel
theorem dX9_comes_112 : decode cX9_comes 112 = .ok (.istore 6, 2) := by decide +kernel
theorem dX9_comes_114 : decode cX9_comes 114 = .ok (.iinc 7 (-1), 3) := by decide +kernel
theorem dX9_comes_117 : decode cX9_comes 117 = .ok (.goto (-18), 3) := by decide +kernel
theorem dX9_comes_120 : decode cX9_comes 120 = .ok (.aload_n 0, 1) := by decide +kernel
theorem dX9_comes_121 : decode cX9_comes 121 = .ok (.getfield 207, 3) := by decide +kernel
theorem dX9_comes_124 : decode cX9_comes 124 = .ok (.iload 6, 2) := by decide +kernel
theorem dX9_comes_126 : decode cX9_comes 126 = .ok (.iaload, 1) := by decide +kernel
theorem dX9_comes_127 : decode cX9_comes 127 = .ok (.ireturn, 1) := by decide +kernel
theorem dX9_best_0 : decode cX9_best 0 = .ok (.iload_n 1, 1) := by decide +kernel
theorem dX9_best_1 : decode cX9_best 1 = .ok (.iconst 2, 1) := by decide +kernel
theorem dX9_best_2 : decode cX9_best 2 = .ok (.iconst 4, 1) := by decide +kernel
theorem dX9_best_3 : decode cX9_best 3 = .ok (.invokestatic 314, 3) := by decide +kernel
theorem dX9_best_6 : decode cX9_best 6 = .ok (.ifCond .eq 25, 3) := by decide +kernel
theorem dX9_best_9 : decode cX9_best 9 = .ok (.iload_n 1, 1) := by decide +kernel
theorem dX9_best_10 : decode cX9_best 10 = .ok (.aload_n 0, 1) := by decide +kernel
theorem dX9_best_11 : decode cX9_best 11 = .ok (.getfield 54, 3) := by decide +kernel
theorem dX9_best_14 : decode cX9_best 14 = .ok (.aload_n 0, 1) := by decide +kernel
theorem dX9_best_15 : decode cX9_best 15 = .ok (.getfield 51, 3) := by decide +kernel
theorem dX9_best_18 : decode cX9_best 18 = .ok (.iaload, 1) := by decide +kernel
theorem dX9_best_19 : decode cX9_best 19 = .ok (.if_icmp .gt 12, 3) := by decide +kernel
theorem dX9_best_22 : decode cX9_best 22 = .ok (.iload_n 2, 1) := by decide +kernel
theorem dX9_best_23 : decode cX9_best 23 = .ok (.iconst 0, 1) := by decide +kernel
theorem dX9_best_24 : decode cX9_best 24 = .ok (.iconst 1, 1) := by decide +kernel
theorem dX9_best_25 : decode cX9_best 25 = .ok (.invokestatic 314, 3) := by decide +kernel
theorem dX9_best_28 : decode cX9_best 28 = .ok (.ifCond .ne 5, 3) := by decide +kernel
theorem dX9_best_31 : decode cX9_best 31 = .ok (.iconst (-1), 1) := by decide +kernel
theorem dX9_best_32 : decode cX9_best 32 = .ok (.ireturn, 1) := by decide +kernel
theorem dX9_best_33 : decode cX9_best 33 = .ok (.iconst (-1), 1) := by decide +kernel
theorem dX9_best_34 : decode cX9_best 34 = .ok (.istore_n 3, 1) := by decide +kernel
theorem dX9_best_35 : decode cX9_best 35 = .ok (.iconst (-1), 1) := by decide +kernel
theorem dX9_best_36 : decode cX9_best 36 = .ok (.istore 4, 2) := by decide +kernel
theorem dX9_best_38 : decode cX9_best 38 = .ok (.iconst 0, 1) := by decide +kernel
theorem dX9_best_39 : decode cX9_best 39 = .ok (.istore 5, 2) := by decide +kernel
theorem dX9_best_41 : decode cX9_best 41 = .ok (.iload 5, 2) := by decide +kernel
theorem dX9_best_43 : decode cX9_best 43 = .ok (.iconst 1, 1) := by decide +kernel
theorem dX9_best_44 : decode cX9_best 44 = .ok (.aload_n 0, 1) := by decide +kernel
theorem dX9_best_45 : decode cX9_best 45 = .ok (.getfield 54, 3) := by decide +kernel
theorem dX9_best_48 : decode cX9_best 48 = .ok (.aload_n 0, 1) := by decide +kernel
theorem dX9_best_49 : decode cX9_best 49 = .ok (.getfield 51, 3) := by decide +kernel
theorem dX9_best_52 : decode cX9_best 52 = .ok (.iaload, 1) := by decide +kernel
theorem dX9_best_53 : decode cX9_best 53 = .ok (.ishl, 1) := by decide +kernel
theorem dX9_best_54 : decode cX9_best 54 = .ok (.if_icmp .ge 58, 3) := by decide +kernel
theorem dX9_best_57 : decode cX9_best 57 = .ok (.iload 5, 2) := by decide +kernel
theorem dX9_best_59 : decode cX9_best 59 = .ok (.invokestatic 448, 3) := by decide +kernel
theorem dX9_best_62 : decode cX9_best 62 = .ok (.iload_n 1, 1) := by decide +kernel
theorem dX9_best_63 : decode cX9_best 63 = .ok (.if_icmp .eq 6, 3) := by decide +kernel
theorem dX9_best_66 : decode cX9_best 66 = .ok (.goto 40, 3) := by decide +kernel
theorem dX9_best_69 : decode cX9_best 69 = .ok (.aload_n 0, 1) := by decide +kernel
theorem dX9_best_70 : decode cX9_best 70 = .ok (.iconst 1, 1) := by decide +kernel
theorem dX9_best_71 : decode cX9_best 71 = .ok (.iconst 0, 1) := by decide +kernel
theorem dX9_best_72 : decode cX9_best 72 = .ok (.invokevirtual 416, 3) := by decide +kernel
theorem dX9_best_75 : decode cX9_best 75 = .ok (.aload_n 0, 1) := by decide +kernel
theorem dX9_best_76 : decode cX9_best 76 = .ok (.iconst 1, 1) := by decide +kernel
theorem dX9_best_77 : decode cX9_best 77 = .ok (.iload 5, 2) := by decide +kernel
theorem dX9_best_79 : decode cX9_best 79 = .ok (.invokevirtual 514, 3) := by decide +kernel
theorem dX9_best_82 : decode cX9_best 82 = .ok (.pop, 1) := by decide +kernel
theorem dX9_best_83 : decode cX9_best 83 = .ok (.aload_n 0, 1) := by decide +kernel
theorem dX9_best_84 : decode cX9_best 84 = .ok (.iconst 1, 1) := by decide +kernel
theorem dX9_best_85 : decode cX9_best 85 = .ok (.invokevirtual 463, 3) := by decide +kernel
theorem dX9_best_88 : decode cX9_best 88 = .ok (.iload 4, 2) := by decide +kernel
theorem dX9_best_90 : decode cX9_best 90 = .ok (.if_icmp .gt 6, 3) := by decide +kernel
theorem dX9_best_93 : decode cX9_best 93 = .ok (.goto 13, 3) := by decide +kernel
theorem dX9_best_96 : decode cX9_best 96 = .ok (.aload_n 0, 1) := by decide +kernel
theorem dX9_best_97 : decode cX9_best 97 = .ok (.iconst 1, 1) := by decide +kernel
theorem dX9_best_98 : decode cX9_best 98 = .ok (.invokevirtual 463, 3) := by decide +kernel
theorem dX9_best_101 : decode cX9_best 101 = .ok (.istore 4, 2) := by decide +kernel
theorem dX9_best_103 : decode cX9_best 103 = .ok (.iload 5, 2) := by decide +kernel
theorem dX9_best_105 : decode cX9_best 105 = .ok (.istore_n 3, 1) := by decide +kernel
theorem dX9_best_106 : decode cX9_best 106 = .ok (.iinc 5 1, 3) := by decide +kernel
theorem dX9_best_109 : decode cX9_best 109 = .ok (.goto (-68), 3) := by decide +kernel
theorem dX9_best_112 : decode cX9_best 112 = .ok (.iload_n 2, 1) := by decide +kernel
theorem dX9_best_113 : decode cX9_best 113 = .ok (.ifCond .ne 7, 3) := by decide +kernel
theorem dX9_best_116 : decode cX9_best 116 = .ok (.iload_n 3, 1) := by decide +kernel
theorem dX9_best_117 : decode cX9_best 117 = .ok (.goto 5, 3) := by decide +kernel
theorem dX9_best_120 : decode cX9_best 120 = .ok (.iload 4, 2) := by decide +kernel
theorem dX9_best_122 : decode cX9_best 122 = .ok (.ireturn, 1) := by decide +kernel
theorem dX9_letters_0 : decode cX9_letters 0 = .ok (.aload_n 0, 1) := by decide +kernel
theorem dX9_letters_1 : decode cX9_letters 1 = .ok (.getfield 13, 3) := by decide +kernel
theorem dX9_letters_4 : decode cX9_letters 4 = .ok (.istore_n 1, 1) := by decide +kernel
theorem dX9_letters_5 : decode cX9_letters 5 = .ok (.aload_n 0, 1) := by decide +kernel
theorem dX9_letters_6 : decode cX9_letters 6 = .ok (.iconst 0, 1) := by decide +kernel
theorem dX9_letters_7 : decode cX9_letters 7 = .ok (.putfield 13, 3) := by decide +kernel
theorem dX9_letters_10 : decode cX9_letters 10 = .ok (.iload_n 1, 1) := by decide +kernel
theorem dX9_letters_11 : decode cX9_letters 11 = .ok (.ifCond .le 19, 3) := by decide +kernel
theorem dX9_letters_14 : decode cX9_letters 14 = .ok (.iload_n 1, 1) := by decide +kernel
theorem dX9_letters_15 : decode cX9_letters 15 = .ok (.iconst 2, 1) := by decide +kernel
theorem dX9_letters_16 : decode cX9_letters 16 = .ok (.irem, 1) := by decide +kernel
theorem dX9_letters_17 : decode cX9_letters 17 = .ok (.ifCond .ne 13, 3) := by decide +kernel
theorem dX9_letters_20 : decode cX9_letters 20 = .ok (.iload_n 1, 1) := by decide +kernel
theorem dX9_letters_21 : decode cX9_letters 21 = .ok (.bipush 40, 2) := by decide +kernel
theorem dX9_letters_23 : decode cX9_letters 23 = .ok (.if_icmp .gt 7, 3) := by decide +kernel
theorem dX9_letters_26 : decode cX9_letters 26 = .ok (.iconst 1, 1) := by decide +kernel
theorem dX9_letters_27 : decode cX9_letters 27 = .ok (.goto 4, 3) := by decide +kernel
theorem dX9_letters_30 : decode cX9_letters 30 = .ok (.iconst 0, 1) := by decide +kernel
theorem dX9_letters_31 : decode cX9_letters 31 = .ok (.istore_n 2, 1) := by decide +kernel
theorem dX9_letters_32 : decode cX9_letters 32 = .ok (.iconst 0, 1) := by decide +kernel
theorem dX9_letters_33 : decode cX9_letters 33 = .ok (.istore_n 3, 1) := by decide +kernel
theorem dX9_letters_34 : decode cX9_letters 34 = .ok (.iload_n 3, 1) := by decide +kernel
theorem dX9_letters_35 : decode cX9_letters 35 = .ok (.iload_n 1, 1) := by decide +kernel
theorem dX9_letters_36 : decode cX9_letters 36 = .ok (.if_icmp .ge 47, 3) := by decide +kernel
theorem dX9_letters_39 : decode cX9_letters 39 = .ok (.iload_n 2, 1) := by decide +kernel
theorem dX9_letters_40 : decode cX9_letters 40 = .ok (.ifCond .eq 43, 3) := by decide +kernel
theorem dX9_letters_43 : decode cX9_letters 43 = .ok (.aload_n 0, 1) := by decide +kernel
theorem dX9_letters_44 : decode cX9_letters 44 = .ok (.aload_n 0, 1) := by decide +kernel
theorem dX9_letters_45 : decode cX9_letters 45 = .ok (.getfield 7, 3) := by decide +kernel
theorem dX9_letters_48 : decode cX9_letters 48 = .ok (.iload_n 3, 1) := by decide +kernel
theorem dX9_letters_49 : decode cX9_letters 49 = .ok (.iaload, 1) := by decide +kernel
theorem dX9_letters_50 : decode cX9_letters 50 = .ok (.invokevirtual 477, 3) := by decide +kernel
theorem dX9_letters_53 : decode cX9_letters 53 = .ok (.ifCond .eq 22, 3) := by decide +kernel
theorem dX9_letters_56 : decode cX9_letters 56 = .ok (.aload_n 0, 1) := by decide +kernel
theorem dX9_letters_57 : decode cX9_letters 57 = .ok (.aload_n 0, 1) := by decide +kernel
theorem dX9_letters_58 : decode cX9_letters 58 = .ok (.getfield 7, 3) := by decide +kernel
theorem dX9_letters_61 : decode cX9_letters 61 = .ok (.iload_n 3, 1) := by decide +kernel
theorem dX9_letters_62 : decode cX9_letters 62 = .ok (.iconst 1, 1) := by decide +kernel
theorem dX9_letters_63 : decode cX9_letters 63 = .ok (.iadd, 1) := by decide +kernel
theorem dX9_letters_64 : decode cX9_letters 64 = .ok (.iaload, 1) := by decide +kernel
theorem dX9_letters_65 : decode cX9_letters 65 = .ok (.invokevirtual 471, 3) := by decide +kernel
theorem dX9_letters_68 : decode cX9_letters 68 = .ok (.ifCond .eq 7, 3) := by decide +kernel
theorem dX9_letters_71 : decode cX9_letters 71 = .ok (.iconst 1, 1) := by decide +kernel
theorem dX9_letters_72 : decode cX9_letters 72 = .ok (.goto 4, 3) := by decide +kernel
theorem dX9_letters_75 : decode cX9_letters 75 = .ok (.iconst 0, 1) := by decide +kernel
theorem dX9_letters_76 : decode cX9_letters 76 = .ok (.istore_n 2, 1) := by decide +kernel
theorem dX9_letters_77 : decode cX9_letters 77 = .ok (.iinc 3 2, 3) := by decide +kernel
theorem dX9_letters_80 : decode cX9_letters 80 = .ok (.goto (-46), 3) := by decide +kernel
theorem dX9_letters_83 : decode cX9_letters 83 = .ok (.iload_n 2, 1) := by decide +kernel
theorem dX9_letters_84 : decode cX9_letters 84 = .ok (.ifCond .ne 9, 3) := by decide +kernel
theorem dX9_letters_87 : decode cX9_letters 87 = .ok (.aload_n 0, 1) := by decide +kernel
theorem dX9_letters_88 : decode cX9_letters 88 = .ok (.iconst 5, 1) := by decide +kernel
theorem dX9_letters_89 : decode cX9_letters 89 = .ok (.invokevirtual 228, 3) := by decide +kernel
theorem dX9_letters_92 : decode cX9_letters 92 = .ok (.ireturn, 1) := by decide +kernel
theorem dX9_letters_93 : decode cX9_letters 93 = .ok (.aload_n 0, 1) := by decide +kernel
theorem dX9_letters_94 : decode cX9_letters 94 = .ok (.iload_n 1, 1) := by decide +kernel
theorem dX9_letters_95 : decode cX9_letters 95 = .ok (.iconst 2, 1) := by decide +kernel
theorem dX9_letters_96 : decode cX9_letters 96 = .ok (.idiv, 1) := by decide +kernel
theorem dX9_letters_97 : decode cX9_letters 97 = .ok (.putfield 216, 3) := by decide +kernel
theorem dX9_letters_100 : decode cX9_letters 100 = .ok (.iconst 0, 1) := by decide +kernel
theorem dX9_letters_101 : decode cX9_letters 101 = .ok (.istore_n 3, 1) := by decide +kernel
theorem dX9_letters_102 : decode cX9_letters 102 = .ok (.iconst 0, 1) := by decide +kernel
theorem dX9_letters_103 : decode cX9_letters 103 = .ok (.istore 4, 2) := by decide +kernel
theorem dX9_letters_105 : decode cX9_letters 105 = .ok (.iload 4, 2) := by decide +kernel
theorem dX9_letters_107 : decode cX9_letters 107 = .ok (.aload_n 0, 1) := by decide +kernel
theorem dX9_letters_108 : decode cX9_letters 108 = .ok (.getfield 216, 3) := by decide +kernel
theorem dX9_letters_111 : decode cX9_letters 111 = .ok (.if_icmp .ge 113, 3) := by decide +kernel
theorem dX9_letters_114 : decode cX9_letters 114 = .ok (.aload_n 0, 1) := by decide +kernel
theorem dX9_letters_115 : decode cX9_letters 115 = .ok (.getfield 7, 3) := by decide +kernel
theorem dX9_letters_118 : decode cX9_letters 118 = .ok (.iconst 2, 1) := by decide +kernel
theorem dX9_letters_119 : decode cX9_letters 119 = .ok (.iload 4, 2) := by decide +kernel
theorem dX9_letters_121 : decode cX9_letters 121 = .ok (.imul, 1) := by decide +kernel
theorem dX9_letters_122 : decode cX9_letters 122 = .ok (.iaload, 1) := by decide +kernel
theorem dX9_letters_123 : decode cX9_letters 123 = .ok (.istore 5, 2) := by decide +kernel
theorem dX9_letters_125 : decode cX9_letters 125 = .ok (.aload_n 0, 1) := by decide +kernel
theorem dX9_letters_126 : decode cX9_letters 126 = .ok (.getfield 7, 3) := by decide +kernel
theorem dX9_letters_129 : decode cX9_letters 129 = .ok (.iconst 2, 1) := by decide +kernel
theorem dX9_letters_130 : decode cX9_letters 130 = .ok (.iload 4, 2) := by decide +kernel
theorem dX9_letters_132 : decode cX9_letters 132 = .ok (.imul, 1) := by decide +kernel
theorem dX9_letters_133 : decode cX9_letters 133 = .ok (.iconst 1, 1) := by decide +kernel
theorem dX9_letters_134 : decode cX9_letters 134 = .ok (.iadd, 1) := by decide +kernel
theorem dX9_letters_135 : decode cX9_letters 135 = .ok (.iaload, 1) := by decide +kernel
theorem dX9_letters_136 : decode cX9_letters 136 = .ok (.istore 6, 2) := by decide +kernel
theorem dX9_letters_138 : decode cX9_letters 138 = .ok (.aload_n 0, 1) := by decide +kernel
theorem dX9_letters_139 : decode cX9_letters 139 = .ok (.getfield 219, 3) := by decide +kernel
theorem dX9_letters_142 : decode cX9_letters 142 = .ok (.iload 4, 2) := by decide +kernel
theorem dX9_letters_144 : decode cX9_letters 144 = .ok (.aload_n 0, 1) := by decide +kernel
theorem dX9_letters_145 : decode cX9_letters 145 = .ok (.getfield 165, 3) := by decide +kernel
theorem dX9_letters_148 : decode cX9_letters 148 = .ok (.iload 5, 2) := by decide +kernel
theorem dX9_letters_150 : decode cX9_letters 150 = .ok (.iaload, 1) := by decide +kernel
theorem dX9_letters_151 : decode cX9_letters 151 = .ok (.iload 6, 2) := by decide +kernel
theorem dX9_letters_153 : decode cX9_letters 153 = .ok (.invokestatic 373, 3) := by decide +kernel
theorem dX9_letters_156 : decode cX9_letters 156 = .ok (.ifCond .eq 7, 3) := by decide +kernel
theorem dX9_letters_159 : decode cX9_letters 159 = .ok (.iconst 1, 1) := by decide +kernel
theorem dX9_letters_160 : decode cX9_letters 160 = .ok (.goto 39, 3) := by decide +kernel
theorem dX9_letters_163 : decode cX9_letters 163 = .ok (.aload_n 0, 1) := by decide +kernel
theorem dX9_letters_164 : decode cX9_letters 164 = .ok (.getfield 168, 3) := by decide +kernel
theorem dX9_letters_167 : decode cX9_letters 167 = .ok (.iload 5, 2) := by decide +kernel
theorem dX9_letters_169 : decode cX9_letters 169 = .ok (.iaload, 1) := by decide +kernel
theorem dX9_letters_170 : decode cX9_letters 170 = .ok (.iload 6, 2) := by decide +kernel
theorem dX9_letters_172 : decode cX9_letters 172 = .ok (.invokestatic 373, 3) := by decide +kernel
theorem dX9_letters_175 : decode cX9_letters 175 = .ok (.ifCond .eq 7, 3) := by decide +kernel
theorem dX9_letters_178 : decode cX9_letters 178 = .ok (.iconst 2, 1) := by decide +kernel
theorem dX9_letters_179 : decode cX9_letters 179 = .ok (.goto 20, 3) := by decide +kernel
theorem dX9_letters_182 : decode cX9_letters 182 = .ok (.aload_n 0, 1) := by decide +kernel
theorem dX9_letters_183 : decode cX9_letters 183 = .ok (.iconst 0, 1) := by decide +kernel
theorem dX9_letters_184 : decode cX9_letters 184 = .ok (.iload 5, 2) := by decide +kernel
theorem dX9_letters_186 : decode cX9_letters 186 = .ok (.iload 6, 2) := by decide +kernel
theorem dX9_letters_188 : decode cX9_letters 188 = .ok (.invokevirtual 483, 3) := by decide +kernel
theorem dX9_letters_191 : decode cX9_letters 191 = .ok (.ifCond .eq 7, 3) := by decide +kernel
theorem dX9_letters_194 : decode cX9_letters 194 = .ok (.iconst 0, 1) := by decide +kernel
theorem dX9_letters_195 : decode cX9_letters 195 = .ok (.goto 4, 3) := by decide +kernel
theorem dX9_letters_198 : decode cX9_letters 198 = .ok (.iconst 3, 1) := by decide +kernel
theorem dX9_letters_199 : decode cX9_letters 199 = .ok (.iastore, 1) := by decide +kernel
theorem dX9_letters_200 : decode cX9_letters 200 = .ok (.iload_n 3, 1) := by decide +kernel
theorem dX9_letters_201 : decode cX9_letters 201 = .ok (.aload_n 0, 1) := by decide +kernel
theorem dX9_letters_202 : decode cX9_letters 202 = .ok (.getfield 219, 3) := by decide +kernel
theorem dX9_letters_205 : decode cX9_letters 205 = .ok (.iload 4, 2) := by decide +kernel
theorem dX9_letters_207 : decode cX9_letters 207 = .ok (.iaload, 1) := by decide +kernel
theorem dX9_letters_208 : decode cX9_letters 208 = .ok (.ifCond .le 7, 3) := by decide +kernel
theorem dX9_letters_211 : decode cX9_letters 211 = .ok (.iconst 1, 1) := by decide +kernel
theorem dX9_letters_212 : decode cX9_letters 212 = .ok (.goto 4, 3) := by decide +kernel
theorem dX9_letters_215 : decode cX9_letters 215 = .ok (.iconst 0, 1) := by decide +kernel
theorem dX9_letters_216 : decode cX9_letters 216 = .ok (.iadd, 1) := by decide +kernel
theorem dX9_letters_217 : decode cX9_letters 217 = .ok (.istore_n 3, 1) := by decide +kernel
theorem dX9_letters_218 : decode cX9_letters 218 = .ok (.iinc 4 1, 3) := by decide +kernel
theorem dX9_letters_221 : decode cX9_letters 221 = .ok (.goto (-116), 3) := by decide +kernel
theorem dX9_letters_224 : decode cX9_letters 224 = .ok (.iload_n 3, 1) := by decide +kernel
theorem dX9_letters_225 : decode cX9_letters 225 = .ok (.ireturn, 1) := by decide +kernel
theorem dX9_letterIs_0 : decode cX9_letterIs 0 = .ok (.iload_n 1, 1) := by decide +kernel
theorem dX9_letterIs_1 : decode cX9_letterIs 1 = .ok (.iconst 0, 1) := by decide +kernel
theorem dX9_letterIs_2 : decode cX9_letterIs 2 = .ok (.aload_n 0, 1) := by decide +kernel
theorem dX9_letterIs_3 : decode cX9_letterIs 3 = .ok (.getfield 216, 3) := by decide +kernel
theorem dX9_letterIs_6 : decode cX9_letterIs 6 = .ok (.iconst 1, 1) := by decide +kernel
theorem dX9_letterIs_7 : decode cX9_letterIs 7 = .ok (.isub, 1) := by decide +kernel
theorem dX9_letterIs_8 : decode cX9_letterIs 8 = .ok (.invokestatic 314, 3) := by decide +kernel
theorem dX9_letterIs_11 : decode cX9_letterIs 11 = .ok (.ifCond .eq 12, 3) := by decide +kernel
theorem dX9_letterIs_14 : decode cX9_letterIs 14 = .ok (.aload_n 0, 1) := by decide +kernel
theorem dX9_letterIs_15 : decode cX9_letterIs 15 = .ok (.getfield 219, 3) := by decide +kernel
theorem dX9_letterIs_18 : decode cX9_letterIs 18 = .ok (.iload_n 1, 1) := by decide +kernel
theorem dX9_letterIs_19 : decode cX9_letterIs 19 = .ok (.iaload, 1) := by decide +kernel
theorem dX9_letterIs_20 : decode cX9_letterIs 20 = .ok (.goto 4, 3) := by decide +kernel
theorem dX9_letterIs_23 : decode cX9_letterIs 23 = .ok (.iconst (-1), 1) := by decide +kernel
theorem dX9_letterIs_24 : decode cX9_letterIs 24 = .ok (.ireturn, 1) := by decide +kernel
theorem dX9_fair_0 : decode cX9_fair 0 = .ok (.aload_n 0, 1) := by decide +kernel
theorem dX9_fair_1 : decode cX9_fair 1 = .ok (.iload_n 1, 1) := by decide +kernel
theorem dX9_fair_2 : decode cX9_fair 2 = .ok (.invokevirtual 471, 3) := by decide +kernel
theorem dX9_fair_5 : decode cX9_fair 5 = .ok (.ifCond .eq 12, 3) := by decide +kernel
theorem dX9_fair_8 : decode cX9_fair 8 = .ok (.iload_n 2, 1) := by decide +kernel
theorem dX9_fair_9 : decode cX9_fair 9 = .ok (.iconst 0, 1) := by decide +kernel
theorem dX9_fair_10 : decode cX9_fair 10 = .ok (.iconst 1, 1) := by decide +kernel
theorem dX9_fair_11 : decode cX9_fair 11 = .ok (.invokestatic 314, 3) := by decide +kernel
theorem dX9_fair_14 : decode cX9_fair 14 = .ok (.ifCond .ne 5, 3) := by decide +kernel
theorem dX9_fair_17 : decode cX9_fair 17 = .ok (.iconst (-1), 1) := by decide +kernel
theorem dX9_fair_18 : decode cX9_fair 18 = .ok (.ireturn, 1) := by decide +kernel
theorem dX9_fair_19 : decode cX9_fair 19 = .ok (.aload_n 0, 1) := by decide +kernel
theorem dX9_fair_20 : decode cX9_fair 20 = .ok (.iconst 0, 1) := by decide +kernel
theorem dX9_fair_21 : decode cX9_fair 21 = .ok (.iload_n 1, 1) := by decide +kernel
theorem dX9_fair_22 : decode cX9_fair 22 = .ok (.invokevirtual 451, 3) := by decide +kernel
theorem dX9_fair_25 : decode cX9_fair 25 = .ok (.istore_n 3, 1) := by decide +kernel
theorem dX9_fair_26 : decode cX9_fair 26 = .ok (.iconst (-1), 1) := by decide +kernel
theorem dX9_fair_27 : decode cX9_fair 27 = .ok (.istore 4, 2) := by decide +kernel
theorem dX9_fair_29 : decode cX9_fair 29 = .ok (.ldc_w 535, 3) := by decide +kernel
theorem dX9_fair_32 : decode cX9_fair 32 = .ok (.istore 5, 2) := by decide +kernel
theorem dX9_fair_34 : decode cX9_fair 34 = .ok (.iconst 0, 1) := by decide +kernel
theorem dX9_fair_35 : decode cX9_fair 35 = .ok (.istore 6, 2) := by decide +kernel
theorem dX9_fair_37 : decode cX9_fair 37 = .ok (.iload 6, 2) := by decide +kernel
theorem dX9_fair_39 : decode cX9_fair 39 = .ok (.iconst 1, 1) := by decide +kernel
theorem dX9_fair_40 : decode cX9_fair 40 = .ok (.aload_n 0, 1) := by decide +kernel
theorem dX9_fair_41 : decode cX9_fair 41 = .ok (.getfield 60, 3) := by decide +kernel
theorem dX9_fair_44 : decode cX9_fair 44 = .ok (.aload_n 0, 1) := by decide +kernel
theorem dX9_fair_45 : decode cX9_fair 45 = .ok (.getfield 51, 3) := by decide +kernel
theorem dX9_fair_48 : decode cX9_fair 48 = .ok (.iaload, 1) := by decide +kernel
theorem dX9_fair_49 : decode cX9_fair 49 = .ok (.ishl, 1) := by decide +kernel
theorem dX9_fair_50 : decode cX9_fair 50 = .ok (.if_icmp .ge 70, 3) := by decide +kernel
theorem dX9_fair_53 : decode cX9_fair 53 = .ok (.iload 6, 2) := by decide +kernel
theorem dX9_fair_55 : decode cX9_fair 55 = .ok (.iload_n 3, 1) := by decide +kernel
theorem dX9_fair_56 : decode cX9_fair 56 = .ok (.iconst (-1), 1) := by decide +kernel
theorem dX9_fair_57 : decode cX9_fair 57 = .ok (.ixor, 1) := by decide +kernel
theorem dX9_fair_58 : decode cX9_fair 58 = .ok (.iand, 1) := by decide +kernel
theorem dX9_fair_59 : decode cX9_fair 59 = .ok (.ifCond .eq 6, 3) := by decide +kernel
theorem dX9_fair_62 : decode cX9_fair 62 = .ok (.goto 52, 3) := by decide +kernel
theorem dX9_fair_65 : decode cX9_fair 65 = .ok (.iconst 2, 1) := by decide +kernel
theorem dX9_fair_66 : decode cX9_fair 66 = .ok (.aload_n 0, 1) := by decide +kernel
theorem dX9_fair_67 : decode cX9_fair 67 = .ok (.iload 6, 2) := by decide +kernel
theorem dX9_fair_69 : decode cX9_fair 69 = .ok (.invokevirtual 474, 3) := by decide +kernel
theorem dX9_fair_72 : decode cX9_fair 72 = .ok (.imul, 1) := by decide +kernel
theorem dX9_fair_73 : decode cX9_fair 73 = .ok (.aload_n 0, 1) := by decide +kernel
theorem dX9_fair_74 : decode cX9_fair 74 = .ok (.iload_n 3, 1) := by decide +kernel
theorem dX9_fair_75 : decode cX9_fair 75 = .ok (.invokevirtual 474, 3) := by decide +kernel
theorem dX9_fair_78 : decode cX9_fair 78 = .ok (.isub, 1) := by decide +kernel
theorem dX9_fair_79 : decode cX9_fair 79 = .ok (.istore 7, 2) := by decide +kernel
theorem dX9_fair_81 : decode cX9_fair 81 = .ok (.iload 7, 2) := by decide +kernel
theorem dX9_fair_83 : decode cX9_fair 83 = .ok (.ifCond .ge 9, 3) := by decide +kernel
theorem dX9_fair_86 : decode cX9_fair 86 = .ok (.iload 7, 2) := by decide +kernel
theorem dX9_fair_88 : decode cX9_fair 88 = .ok (.ineg, 1) := by decide +kernel
theorem dX9_fair_89 : decode cX9_fair 89 = .ok (.goto 5, 3) := by decide +kernel
theorem dX9_fair_92 : decode cX9_fair 92 = .ok (.iload 7, 2) := by decide +kernel
theorem dX9_fair_94 : decode cX9_fair 94 = .ok (.istore 7, 2) := by decide +kernel
theorem dX9_fair_96 : decode cX9_fair 96 = .ok (.iload 7, 2) := by decide +kernel
theorem dX9_fair_98 : decode cX9_fair 98 = .ok (.iload 5, 2) := by decide +kernel
theorem dX9_fair_100 : decode cX9_fair 100 = .ok (.if_icmp .lt 6, 3) := by decide +kernel
theorem dX9_fair_103 : decode cX9_fair 103 = .ok (.goto 11, 3) := by decide +kernel
theorem dX9_fair_106 : decode cX9_fair 106 = .ok (.iload 7, 2) := by decide +kernel
theorem dX9_fair_108 : decode cX9_fair 108 = .ok (.istore 5, 2) := by decide +kernel
theorem dX9_fair_110 : decode cX9_fair 110 = .ok (.iload 6, 2) := by decide +kernel
theorem dX9_fair_112 : decode cX9_fair 112 = .ok (.istore 4, 2) := by decide +kernel
theorem dX9_fair_114 : decode cX9_fair 114 = .ok (.iinc 6 1, 3) := by decide +kernel
theorem dX9_fair_117 : decode cX9_fair 117 = .ok (.goto (-80), 3) := by decide +kernel
theorem dX9_fair_120 : decode cX9_fair 120 = .ok (.iload_n 2, 1) := by decide +kernel
theorem dX9_fair_121 : decode cX9_fair 121 = .ok (.ifCond .ne 8, 3) := by decide +kernel
theorem dX9_fair_124 : decode cX9_fair 124 = .ok (.iload 4, 2) := by decide +kernel
theorem dX9_fair_126 : decode cX9_fair 126 = .ok (.goto 5, 3) := by decide +kernel
theorem dX9_fair_129 : decode cX9_fair 129 = .ok (.iload 5, 2) := by decide +kernel
theorem dX9_fair_131 : decode cX9_fair 131 = .ok (.ireturn, 1) := by decide +kernel
theorem dX9_isAhead_0 : decode cX9_isAhead 0 = .ok (.iload_n 1, 1) := by decide +kernel
theorem dX9_isAhead_1 : decode cX9_isAhead 1 = .ok (.iconst 0, 1) := by decide +kernel
theorem dX9_isAhead_2 : decode cX9_isAhead 2 = .ok (.bipush 60, 2) := by decide +kernel
theorem dX9_isAhead_4 : decode cX9_isAhead 4 = .ok (.invokestatic 314, 3) := by decide +kernel
theorem dX9_isAhead_7 : decode cX9_isAhead 7 = .ok (.ifCond .eq 21, 3) := by decide +kernel
theorem dX9_isAhead_10 : decode cX9_isAhead 10 = .ok (.aload_n 0, 1) := by decide +kernel
theorem dX9_isAhead_11 : decode cX9_isAhead 11 = .ok (.getfield 159, 3) := by decide +kernel
theorem dX9_isAhead_14 : decode cX9_isAhead 14 = .ok (.iconst 0, 1) := by decide +kernel
theorem dX9_isAhead_15 : decode cX9_isAhead 15 = .ok (.iaload, 1) := by decide +kernel
theorem dX9_isAhead_16 : decode cX9_isAhead 16 = .ok (.iload_n 1, 1) := by decide +kernel
theorem dX9_isAhead_17 : decode cX9_isAhead 17 = .ok (.iadd, 1) := by decide +kernel
theorem dX9_isAhead_18 : decode cX9_isAhead 18 = .ok (.sipush 999, 3) := by decide +kernel
theorem dX9_isAhead_21 : decode cX9_isAhead 21 = .ok (.if_icmp .gt 7, 3) := by decide +kernel
theorem dX9_isAhead_24 : decode cX9_isAhead 24 = .ok (.iconst 1, 1) := by decide +kernel
theorem dX9_isAhead_25 : decode cX9_isAhead 25 = .ok (.goto 4, 3) := by decide +kernel
theorem dX9_isAhead_28 : decode cX9_isAhead 28 = .ok (.iconst 0, 1) := by decide +kernel
theorem dX9_isAhead_29 : decode cX9_isAhead 29 = .ok (.ireturn, 1) := by decide +kernel
theorem dX9_later_0 : decode cX9_later 0 = .ok (.aload_n 0, 1) := by decide +kernel
theorem dX9_later_1 : decode cX9_later 1 = .ok (.iload_n 1, 1) := by decide +kernel
theorem dX9_later_2 : decode cX9_later 2 = .ok (.invokevirtual 477, 3) := by decide +kernel
theorem dX9_later_5 : decode cX9_later 5 = .ok (.ifCond .eq 11, 3) := by decide +kernel
theorem dX9_later_8 : decode cX9_later 8 = .ok (.aload_n 0, 1) := by decide +kernel
theorem dX9_later_9 : decode cX9_later 9 = .ok (.iload_n 2, 1) := by decide +kernel
theorem dX9_later_10 : decode cX9_later 10 = .ok (.invokevirtual 541, 3) := by decide +kernel
theorem dX9_later_13 : decode cX9_later 13 = .ok (.ifCond .ne 5, 3) := by decide +kernel
theorem dX9_later_16 : decode cX9_later 16 = .ok (.iconst (-1), 1) := by decide +kernel
theorem dX9_later_17 : decode cX9_later 17 = .ok (.ireturn, 1) := by decide +kernel
theorem dX9_later_18 : decode cX9_later 18 = .ok (.aload_n 0, 1) := by decide +kernel
theorem dX9_later_19 : decode cX9_later 19 = .ok (.iconst 1, 1) := by decide +kernel
theorem dX9_later_20 : decode cX9_later 20 = .ok (.iconst 0, 1) := by decide +kernel
theorem dX9_later_21 : decode cX9_later 21 = .ok (.invokevirtual 416, 3) := by decide +kernel
theorem dX9_later_24 : decode cX9_later 24 = .ok (.iconst 0, 1) := by decide +kernel
theorem dX9_later_25 : decode cX9_later 25 = .ok (.istore_n 3, 1) := by decide +kernel
theorem dX9_later_26 : decode cX9_later 26 = .ok (.iload_n 3, 1) := by decide +kernel
theorem dX9_later_27 : decode cX9_later 27 = .ok (.iload_n 2, 1) := by decide +kernel
theorem dX9_later_28 : decode cX9_later 28 = .ok (.if_icmp .ge 15, 3) := by decide +kernel
theorem dX9_later_31 : decode cX9_later 31 = .ok (.aload_n 0, 1) := by decide +kernel
theorem dX9_later_32 : decode cX9_later 32 = .ok (.iconst 1, 1) := by decide +kernel
theorem dX9_later_33 : decode cX9_later 33 = .ok (.invokevirtual 517, 3) := by decide +kernel
theorem dX9_later_36 : decode cX9_later 36 = .ok (.pop, 1) := by decide +kernel
theorem dX9_later_37 : decode cX9_later 37 = .ok (.iinc 3 1, 3) := by decide +kernel
theorem dX9_later_40 : decode cX9_later 40 = .ok (.goto (-14), 3) := by decide +kernel
theorem dX9_later_43 : decode cX9_later 43 = .ok (.aload_n 0, 1) := by decide +kernel
theorem dX9_later_44 : decode cX9_later 44 = .ok (.getfield 165, 3) := by decide +kernel
theorem dX9_later_47 : decode cX9_later 47 = .ok (.bipush 12, 2) := by decide +kernel
theorem dX9_later_49 : decode cX9_later 49 = .ok (.iload_n 1, 1) := by decide +kernel
theorem dX9_later_50 : decode cX9_later 50 = .ok (.iadd, 1) := by decide +kernel
theorem dX9_later_51 : decode cX9_later 51 = .ok (.iaload, 1) := by decide +kernel
theorem dX9_later_52 : decode cX9_later 52 = .ok (.ireturn, 1) := by decide +kernel
theorem dX9_useless_0 : decode cX9_useless 0 = .ok (.iload_n 1, 1) := by decide +kernel
theorem dX9_useless_1 : decode cX9_useless 1 = .ok (.iconst 0, 1) := by decide +kernel
theorem dX9_useless_2 : decode cX9_useless 2 = .ok (.iconst 1, 1) := by decide +kernel
theorem dX9_useless_3 : decode cX9_useless 3 = .ok (.invokestatic 314, 3) := by decide +kernel
theorem dX9_useless_6 : decode cX9_useless 6 = .ok (.ifCond .ne 5, 3) := by decide +kernel
theorem dX9_useless_9 : decode cX9_useless 9 = .ok (.iconst (-1), 1) := by decide +kernel
theorem dX9_useless_10 : decode cX9_useless 10 = .ok (.ireturn, 1) := by decide +kernel
theorem dX9_useless_11 : decode cX9_useless 11 = .ok (.aload_n 0, 1) := by decide +kernel
theorem dX9_useless_12 : decode cX9_useless 12 = .ok (.iconst 1, 1) := by decide +kernel
theorem dX9_useless_13 : decode cX9_useless 13 = .ok (.iconst 0, 1) := by decide +kernel
theorem dX9_useless_14 : decode cX9_useless 14 = .ok (.invokevirtual 416, 3) := by decide +kernel
theorem dX9_useless_17 : decode cX9_useless 17 = .ok (.iconst 0, 1) := by decide +kernel
theorem dX9_useless_18 : decode cX9_useless 18 = .ok (.istore_n 2, 1) := by decide +kernel
theorem dX9_useless_19 : decode cX9_useless 19 = .ok (.aload_n 0, 1) := by decide +kernel
theorem dX9_useless_20 : decode cX9_useless 20 = .ok (.iload_n 2, 1) := by decide +kernel
theorem dX9_useless_21 : decode cX9_useless 21 = .ok (.invokevirtual 541, 3) := by decide +kernel
theorem dX9_useless_24 : decode cX9_useless 24 = .ok (.ifCond .eq 60, 3) := by decide +kernel
theorem dX9_useless_27 : decode cX9_useless 27 = .ok (.iconst 0, 1) := by decide +kernel
theorem dX9_useless_28 : decode cX9_useless 28 = .ok (.istore_n 3, 1) := by decide +kernel
theorem dX9_useless_29 : decode cX9_useless 29 = .ok (.iload_n 3, 1) := by decide +kernel
theorem dX9_useless_30 : decode cX9_useless 30 = .ok (.aload_n 0, 1) := by decide +kernel
theorem dX9_useless_31 : decode cX9_useless 31 = .ok (.getfield 54, 3) := by decide +kernel
theorem dX9_useless_34 : decode cX9_useless 34 = .ok (.aload_n 0, 1) := by decide +kernel
theorem dX9_useless_35 : decode cX9_useless 35 = .ok (.getfield 51, 3) := by decide +kernel
theorem dX9_useless_38 : decode cX9_useless 38 = .ok (.iaload, 1) := by decide +kernel
theorem dX9_useless_39 : decode cX9_useless 39 = .ok (.if_icmp .ge 33, 3) := by decide +kernel
theorem dX9_useless_42 : decode cX9_useless 42 = .ok (.aload_n 0, 1) := by decide +kernel
theorem dX9_useless_43 : decode cX9_useless 43 = .ok (.iconst 1, 1) := by decide +kernel
theorem dX9_useless_44 : decode cX9_useless 44 = .ok (.iload_n 3, 1) := by decide +kernel
theorem dX9_useless_45 : decode cX9_useless 45 = .ok (.invokevirtual 466, 3) := by decide +kernel
theorem dX9_useless_48 : decode cX9_useless 48 = .ok (.ifCond .eq 18, 3) := by decide +kernel
theorem dX9_useless_51 : decode cX9_useless 51 = .ok (.iload_n 1, 1) := by decide +kernel
theorem dX9_useless_52 : decode cX9_useless 52 = .ok (.ifCond .ne 12, 3) := by decide +kernel
theorem dX9_useless_55 : decode cX9_useless 55 = .ok (.aload_n 0, 1) := by decide +kernel
theorem dX9_useless_56 : decode cX9_useless 56 = .ok (.getfield 159, 3) := by decide +kernel
theorem dX9_useless_59 : decode cX9_useless 59 = .ok (.iconst 1, 1) := by decide +kernel
theorem dX9_useless_60 : decode cX9_useless 60 = .ok (.iaload, 1) := by decide +kernel
theorem dX9_useless_61 : decode cX9_useless 61 = .ok (.goto 4, 3) := by decide +kernel
theorem dX9_useless_64 : decode cX9_useless 64 = .ok (.iload_n 3, 1) := by decide +kernel
theorem dX9_useless_65 : decode cX9_useless 65 = .ok (.ireturn, 1) := by decide +kernel
theorem dX9_useless_66 : decode cX9_useless 66 = .ok (.iinc 3 1, 3) := by decide +kernel
theorem dX9_useless_69 : decode cX9_useless 69 = .ok (.goto (-40), 3) := by decide +kernel
theorem dX9_useless_72 : decode cX9_useless 72 = .ok (.aload_n 0, 1) := by decide +kernel
theorem dX9_useless_73 : decode cX9_useless 73 = .ok (.iconst 1, 1) := by decide +kernel
theorem dX9_useless_74 : decode cX9_useless 74 = .ok (.invokevirtual 517, 3) := by decide +kernel
theorem dX9_useless_77 : decode cX9_useless 77 = .ok (.pop, 1) := by decide +kernel
theorem dX9_useless_78 : decode cX9_useless 78 = .ok (.iinc 2 1, 3) := by decide +kernel
theorem dX9_useless_81 : decode cX9_useless 81 = .ok (.goto (-62), 3) := by decide +kernel
theorem dX9_useless_84 : decode cX9_useless 84 = .ok (.iconst (-1), 1) := by decide +kernel
theorem dX9_useless_85 : decode cX9_useless 85 = .ok (.ireturn, 1) := by decide +kernel
theorem dX9_writes_0 : decode cX9_writes 0 = .ok (.aload_n 0, 1) := by decide +kernel
theorem dX9_writes_1 : decode cX9_writes 1 = .ok (.getfield 222, 3) := by decide +kernel
theorem dX9_writes_4 : decode cX9_writes 4 = .ok (.aload_n 0, 1) := by decide +kernel
theorem dX9_writes_5 : decode cX9_writes 5 = .ok (.getfield 225, 3) := by decide +kernel
theorem dX9_writes_8 : decode cX9_writes 8 = .ok (.iload_n 1, 1) := by decide +kernel
theorem dX9_writes_9 : decode cX9_writes 9 = .ok (.sipush 255, 3) := by decide +kernel
theorem dX9_writes_12 : decode cX9_writes 12 = .ok (.iand, 1) := by decide +kernel
theorem dX9_writes_13 : decode cX9_writes 13 = .ok (.iastore, 1) := by decide +kernel
theorem dX9_writes_14 : decode cX9_writes 14 = .ok (.aload_n 0, 1) := by decide +kernel
theorem dX9_writes_15 : decode cX9_writes 15 = .ok (.dup, 1) := by decide +kernel
theorem dX9_writes_16 : decode cX9_writes 16 = .ok (.getfield 225, 3) := by decide +kernel
theorem dX9_writes_19 : decode cX9_writes 19 = .ok (.iconst 1, 1) := by decide +kernel
theorem dX9_writes_20 : decode cX9_writes 20 = .ok (.iadd, 1) := by decide +kernel
theorem dX9_writes_21 : decode cX9_writes 21 = .ok (.putfield 225, 3) := by decide +kernel
theorem dX9_writes_24 : decode cX9_writes 24 = .ok (.return_, 1) := by decide +kernel
theorem dX9_toldOf_0 : decode cX9_toldOf 0 = .ok (.aload_n 0, 1) := by decide +kernel
theorem dX9_toldOf_1 : decode cX9_toldOf 1 = .ok (.getfield 168, 3) := by decide +kernel
theorem dX9_toldOf_4 : decode cX9_toldOf 4 = .ok (.iload_n 1, 1) := by decide +kernel
theorem dX9_toldOf_5 : decode cX9_toldOf 5 = .ok (.iaload, 1) := by decide +kernel
theorem dX9_toldOf_6 : decode cX9_toldOf 6 = .ok (.iload_n 2, 1) := by decide +kernel
theorem dX9_toldOf_7 : decode cX9_toldOf 7 = .ok (.invokestatic 373, 3) := by decide +kernel
theorem dX9_toldOf_10 : decode cX9_toldOf 10 = .ok (.ifCond .eq 5, 3) := by decide +kernel
theorem dX9_toldOf_13 : decode cX9_toldOf 13 = .ok (.iconst 1, 1) := by decide +kernel
theorem dX9_toldOf_14 : decode cX9_toldOf 14 = .ok (.ireturn, 1) := by decide +kernel
theorem dX9_toldOf_15 : decode cX9_toldOf 15 = .ok (.aload_n 0, 1) := by decide +kernel
theorem dX9_toldOf_16 : decode cX9_toldOf 16 = .ok (.getfield 165, 3) := by decide +kernel
theorem dX9_toldOf_19 : decode cX9_toldOf 19 = .ok (.iload_n 1, 1) := by decide +kernel
theorem dX9_toldOf_20 : decode cX9_toldOf 20 = .ok (.iaload, 1) := by decide +kernel
theorem dX9_toldOf_21 : decode cX9_toldOf 21 = .ok (.iload_n 2, 1) := by decide +kernel
theorem dX9_toldOf_22 : decode cX9_toldOf 22 = .ok (.invokestatic 373, 3) := by decide +kernel
theorem dX9_toldOf_25 : decode cX9_toldOf 25 = .ok (.ifCond .ne 5, 3) := by decide +kernel
theorem dX9_toldOf_28 : decode cX9_toldOf 28 = .ok (.iconst 0, 1) := by decide +kernel
theorem dX9_toldOf_29 : decode cX9_toldOf 29 = .ok (.ireturn, 1) := by decide +kernel
theorem dX9_toldOf_30 : decode cX9_toldOf 30 = .ok (.aload_n 0, 1) := by decide +kernel
theorem dX9_toldOf_31 : decode cX9_toldOf 31 = .ok (.getfield 159, 3) := by decide +kernel
theorem dX9_toldOf_34 : decode cX9_toldOf 34 = .ok (.iconst 0, 1) := by decide +kernel
theorem dX9_toldOf_35 : decode cX9_toldOf 35 = .ok (.iaload, 1) := by decide +kernel
theorem dX9_toldOf_36 : decode cX9_toldOf 36 = .ok (.aload_n 0, 1) := by decide +kernel
theorem dX9_toldOf_37 : decode cX9_toldOf 37 = .ok (.getfield 171, 3) := by decide +kernel
theorem dX9_toldOf_40 : decode cX9_toldOf 40 = .ok (.bipush 10, 2) := by decide +kernel
theorem dX9_toldOf_42 : decode cX9_toldOf 42 = .ok (.iload_n 1, 1) := by decide +kernel
theorem dX9_toldOf_43 : decode cX9_toldOf 43 = .ok (.imul, 1) := by decide +kernel
theorem dX9_toldOf_44 : decode cX9_toldOf 44 = .ok (.iload_n 2, 1) := by decide +kernel
theorem dX9_toldOf_45 : decode cX9_toldOf 45 = .ok (.iadd, 1) := by decide +kernel
theorem dX9_toldOf_46 : decode cX9_toldOf 46 = .ok (.iaload, 1) := by decide +kernel
theorem dX9_toldOf_47 : decode cX9_toldOf 47 = .ok (.isub, 1) := by decide +kernel
theorem dX9_toldOf_48 : decode cX9_toldOf 48 = .ok (.istore_n 3, 1) := by decide +kernel
theorem dX9_toldOf_49 : decode cX9_toldOf 49 = .ok (.iconst 2, 1) := by decide +kernel
theorem dX9_toldOf_50 : decode cX9_toldOf 50 = .ok (.iload_n 3, 1) := by decide +kernel
theorem dX9_toldOf_51 : decode cX9_toldOf 51 = .ok (.sipush 200, 3) := by decide +kernel
theorem dX9_toldOf_54 : decode cX9_toldOf 54 = .ok (.if_icmp .le 9, 3) := by decide +kernel
theorem dX9_toldOf_57 : decode cX9_toldOf 57 = .ok (.sipush 200, 3) := by decide +kernel
theorem dX9_toldOf_60 : decode cX9_toldOf 60 = .ok (.goto 4, 3) := by decide +kernel
theorem dX9_toldOf_63 : decode cX9_toldOf 63 = .ok (.iload_n 3, 1) := by decide +kernel
theorem dX9_toldOf_64 : decode cX9_toldOf 64 = .ok (.iadd, 1) := by decide +kernel
theorem dX9_toldOf_65 : decode cX9_toldOf 65 = .ok (.ireturn, 1) := by decide +kernel
theorem dX9_image_0 : decode cX9_image 0 = .ok (.aload_n 0, 1) := by decide +kernel
theorem dX9_image_1 : decode cX9_image 1 = .ok (.iconst 0, 1) := by decide +kernel
theorem dX9_image_2 : decode cX9_image 2 = .ok (.putfield 225, 3) := by decide +kernel
theorem dX9_image_5 : decode cX9_image 5 = .ok (.aload_n 0, 1) := by decide +kernel
theorem dX9_image_6 : decode cX9_image 6 = .ok (.aload_n 0, 1) := by decide +kernel
theorem dX9_image_7 : decode cX9_image 7 = .ok (.getfield 159, 3) := by decide +kernel
theorem dX9_image_10 : decode cX9_image 10 = .ok (.iconst 0, 1) := by decide +kernel
theorem dX9_image_11 : decode cX9_image 11 = .ok (.iaload, 1) := by decide +kernel
theorem dX9_image_12 : decode cX9_image 12 = .ok (.bipush 8, 2) := by decide +kernel
theorem dX9_image_14 : decode cX9_image 14 = .ok (.ishr, 1) := by decide +kernel
theorem dX9_image_15 : decode cX9_image 15 = .ok (.invokevirtual 544, 3) := by decide +kernel
theorem dX9_image_18 : decode cX9_image 18 = .ok (.aload_n 0, 1) := by decide +kernel
theorem dX9_image_19 : decode cX9_image 19 = .ok (.aload_n 0, 1) := by decide +kernel
theorem dX9_image_20 : decode cX9_image 20 = .ok (.getfield 159, 3) := by decide +kernel
theorem dX9_image_23 : decode cX9_image 23 = .ok (.iconst 0, 1) := by decide +kernel
theorem dX9_image_24 : decode cX9_image 24 = .ok (.iaload, 1) := by decide +kernel
theorem dX9_image_25 : decode cX9_image 25 = .ok (.invokevirtual 544, 3) := by decide +kernel
theorem dX9_image_28 : decode cX9_image 28 = .ok (.iconst 0, 1) := by decide +kernel
theorem dX9_image_29 : decode cX9_image 29 = .ok (.istore_n 1, 1) := by decide +kernel
theorem dX9_image_30 : decode cX9_image 30 = .ok (.iload_n 1, 1) := by decide +kernel
theorem dX9_image_31 : decode cX9_image 31 = .ok (.aload_n 0, 1) := by decide +kernel
theorem dX9_image_32 : decode cX9_image 32 = .ok (.getfield 60, 3) := by decide +kernel
theorem dX9_image_35 : decode cX9_image 35 = .ok (.aload_n 0, 1) := by decide +kernel
theorem dX9_image_36 : decode cX9_image 36 = .ok (.getfield 51, 3) := by decide +kernel
theorem dX9_image_39 : decode cX9_image 39 = .ok (.iaload, 1) := by decide +kernel
theorem dX9_image_40 : decode cX9_image 40 = .ok (.if_icmp .ge 50, 3) := by decide +kernel
theorem dX9_image_43 : decode cX9_image 43 = .ok (.aload_n 0, 1) := by decide +kernel
theorem dX9_image_44 : decode cX9_image 44 = .ok (.aload_n 0, 1) := by decide +kernel
theorem dX9_image_45 : decode cX9_image 45 = .ok (.getfield 162, 3) := by decide +kernel
theorem dX9_image_48 : decode cX9_image 48 = .ok (.iload_n 1, 1) := by decide +kernel
theorem dX9_image_49 : decode cX9_image 49 = .ok (.iaload, 1) := by decide +kernel
theorem dX9_image_50 : decode cX9_image 50 = .ok (.invokevirtual 544, 3) := by decide +kernel
theorem dX9_image_53 : decode cX9_image 53 = .ok (.iconst 0, 1) := by decide +kernel
theorem dX9_image_54 : decode cX9_image 54 = .ok (.istore_n 2, 1) := by decide +kernel
theorem dX9_image_55 : decode cX9_image 55 = .ok (.iload_n 2, 1) := by decide +kernel
theorem dX9_image_56 : decode cX9_image 56 = .ok (.aload_n 0, 1) := by decide +kernel
theorem dX9_image_57 : decode cX9_image 57 = .ok (.getfield 54, 3) := by decide +kernel
theorem dX9_image_60 : decode cX9_image 60 = .ok (.aload_n 0, 1) := by decide +kernel
theorem dX9_image_61 : decode cX9_image 61 = .ok (.getfield 51, 3) := by decide +kernel
theorem dX9_image_64 : decode cX9_image 64 = .ok (.iaload, 1) := by decide +kernel
theorem dX9_image_65 : decode cX9_image 65 = .ok (.if_icmp .ge 19, 3) := by decide +kernel
theorem dX9_image_68 : decode cX9_image 68 = .ok (.aload_n 0, 1) := by decide +kernel
theorem dX9_image_69 : decode cX9_image 69 = .ok (.aload_n 0, 1) := by decide +kernel
theorem dX9_image_70 : decode cX9_image 70 = .ok (.iload_n 1, 1) := by decide +kernel
theorem dX9_image_71 : decode cX9_image 71 = .ok (.iload_n 2, 1) := by decide +kernel
theorem dX9_image_72 : decode cX9_image 72 = .ok (.invokevirtual 547, 3) := by decide +kernel
theorem dX9_image_75 : decode cX9_image 75 = .ok (.invokevirtual 544, 3) := by decide +kernel
theorem dX9_image_78 : decode cX9_image 78 = .ok (.iinc 2 1, 3) := by decide +kernel
theorem dX9_image_81 : decode cX9_image 81 = .ok (.goto (-26), 3) := by decide +kernel
theorem dX9_image_84 : decode cX9_image 84 = .ok (.iinc 1 1, 3) := by decide +kernel
theorem dX9_image_87 : decode cX9_image 87 = .ok (.goto (-57), 3) := by decide +kernel
theorem dX9_image_90 : decode cX9_image 90 = .ok (.bipush 103, 2) := by decide +kernel
theorem dX9_image_92 : decode cX9_image 92 = .ok (.istore_n 1, 1) := by decide +kernel
theorem dX9_image_93 : decode cX9_image 93 = .ok (.iconst 0, 1) := by decide +kernel
theorem dX9_image_94 : decode cX9_image 94 = .ok (.istore_n 2, 1) := by decide +kernel
theorem dX9_image_95 : decode cX9_image 95 = .ok (.iload_n 2, 1) := by decide +kernel
theorem dX9_image_96 : decode cX9_image 96 = .ok (.aload_n 0, 1) := by decide +kernel
theorem dX9_image_97 : decode cX9_image 97 = .ok (.getfield 225, 3) := by decide +kernel
theorem dX9_image_100 : decode cX9_image 100 = .ok (.if_icmp .ge 24, 3) := by decide +kernel
theorem dX9_image_103 : decode cX9_image 103 = .ok (.iconst 5, 1) := by decide +kernel
theorem dX9_image_104 : decode cX9_image 104 = .ok (.iload_n 1, 1) := by decide +kernel
theorem dX9_image_105 : decode cX9_image 105 = .ok (.imul, 1) := by decide +kernel
theorem dX9_image_106 : decode cX9_image 106 = .ok (.aload_n 0, 1) := by decide +kernel
theorem dX9_image_107 : decode cX9_image 107 = .ok (.getfield 222, 3) := by decide +kernel
theorem dX9_image_110 : decode cX9_image 110 = .ok (.iload_n 2, 1) := by decide +kernel
theorem dX9_image_111 : decode cX9_image 111 = .ok (.iaload, 1) := by decide +kernel
theorem dX9_image_112 : decode cX9_image 112 = .ok (.iadd, 1) := by decide +kernel
theorem dX9_image_113 : decode cX9_image 113 = .ok (.sipush 251, 3) := by decide +kernel
theorem dX9_image_116 : decode cX9_image 116 = .ok (.irem, 1) := by decide +kernel
theorem dX9_image_117 : decode cX9_image 117 = .ok (.istore_n 1, 1) := by decide +kernel
theorem dX9_image_118 : decode cX9_image 118 = .ok (.iinc 2 1, 3) := by decide +kernel
theorem dX9_image_121 : decode cX9_image 121 = .ok (.goto (-26), 3) := by decide +kernel
theorem dX9_image_124 : decode cX9_image 124 = .ok (.aload_n 0, 1) := by decide +kernel
theorem dX9_image_125 : decode cX9_image 125 = .ok (.iload_n 1, 1) := by decide +kernel
theorem dX9_image_126 : decode cX9_image 126 = .ok (.invokevirtual 544, 3) := by decide +kernel
theorem dX9_image_129 : decode cX9_image 129 = .ok (.aload_n 0, 1) := by decide +kernel
theorem dX9_image_130 : decode cX9_image 130 = .ok (.getfield 225, 3) := by decide +kernel
theorem dX9_image_133 : decode cX9_image 133 = .ok (.ireturn, 1) := by decide +kernel
theorem dX9_octet_0 : decode cX9_octet 0 = .ok (.iload_n 1, 1) := by decide +kernel
theorem dX9_octet_1 : decode cX9_octet 1 = .ok (.iconst 0, 1) := by decide +kernel
theorem dX9_octet_2 : decode cX9_octet 2 = .ok (.aload_n 0, 1) := by decide +kernel
theorem dX9_octet_3 : decode cX9_octet 3 = .ok (.getfield 225, 3) := by decide +kernel
theorem dX9_octet_6 : decode cX9_octet 6 = .ok (.iconst 1, 1) := by decide +kernel
theorem dX9_octet_7 : decode cX9_octet 7 = .ok (.isub, 1) := by decide +kernel
theorem dX9_octet_8 : decode cX9_octet 8 = .ok (.invokestatic 314, 3) := by decide +kernel
theorem dX9_octet_11 : decode cX9_octet 11 = .ok (.ifCond .eq 12, 3) := by decide +kernel
theorem dX9_octet_14 : decode cX9_octet 14 = .ok (.aload_n 0, 1) := by decide +kernel
theorem dX9_octet_15 : decode cX9_octet 15 = .ok (.getfield 222, 3) := by decide +kernel
theorem dX9_octet_18 : decode cX9_octet 18 = .ok (.iload_n 1, 1) := by decide +kernel
theorem dX9_octet_19 : decode cX9_octet 19 = .ok (.iaload, 1) := by decide +kernel
theorem dX9_octet_20 : decode cX9_octet 20 = .ok (.goto 4, 3) := by decide +kernel
theorem dX9_octet_23 : decode cX9_octet 23 = .ok (.iconst (-1), 1) := by decide +kernel
theorem dX9_octet_24 : decode cX9_octet 24 = .ok (.ireturn, 1) := by decide +kernel
theorem dX9_coinOn_0 : decode cX9_coinOn 0 = .ok (.bipush 12, 2) := by decide +kernel
theorem dX9_coinOn_2 : decode cX9_coinOn 2 = .ok (.iload_n 1, 1) := by decide +kernel
theorem dX9_coinOn_3 : decode cX9_coinOn 3 = .ok (.iadd, 1) := by decide +kernel
theorem dX9_coinOn_4 : decode cX9_coinOn 4 = .ok (.istore_n 3, 1) := by decide +kernel
theorem dX9_coinOn_5 : decode cX9_coinOn 5 = .ok (.aload_n 0, 1) := by decide +kernel
theorem dX9_coinOn_6 : decode cX9_coinOn 6 = .ok (.getfield 162, 3) := by decide +kernel
theorem dX9_coinOn_9 : decode cX9_coinOn 9 = .ok (.iload_n 3, 1) := by decide +kernel
theorem dX9_coinOn_10 : decode cX9_coinOn 10 = .ok (.aload_n 0, 1) := by decide +kernel
theorem dX9_coinOn_11 : decode cX9_coinOn 11 = .ok (.getfield 7, 3) := by decide +kernel
theorem dX9_coinOn_14 : decode cX9_coinOn 14 = .ok (.iload_n 2, 1) := by decide +kernel
theorem dX9_coinOn_15 : decode cX9_coinOn 15 = .ok (.iaload, 1) := by decide +kernel
theorem dX9_coinOn_16 : decode cX9_coinOn 16 = .ok (.iastore, 1) := by decide +kernel
theorem dX9_coinOn_17 : decode cX9_coinOn 17 = .ok (.aload_n 0, 1) := by decide +kernel
theorem dX9_coinOn_18 : decode cX9_coinOn 18 = .ok (.getfield 165, 3) := by decide +kernel
theorem dX9_coinOn_21 : decode cX9_coinOn 21 = .ok (.iload_n 3, 1) := by decide +kernel
theorem dX9_coinOn_22 : decode cX9_coinOn 22 = .ok (.iconst 0, 1) := by decide +kernel
theorem dX9_coinOn_23 : decode cX9_coinOn 23 = .ok (.iastore, 1) := by decide +kernel
theorem dX9_coinOn_24 : decode cX9_coinOn 24 = .ok (.aload_n 0, 1) := by decide +kernel
theorem dX9_coinOn_25 : decode cX9_coinOn 25 = .ok (.getfield 168, 3) := by decide +kernel
theorem dX9_coinOn_28 : decode cX9_coinOn 28 = .ok (.iload_n 3, 1) := by decide +kernel
theorem dX9_coinOn_29 : decode cX9_coinOn 29 = .ok (.iconst 0, 1) := by decide +kernel
theorem dX9_coinOn_30 : decode cX9_coinOn 30 = .ok (.iastore, 1) := by decide +kernel
theorem dX9_coinOn_31 : decode cX9_coinOn 31 = .ok (.aload_n 0, 1) := by decide +kernel
theorem dX9_coinOn_32 : decode cX9_coinOn 32 = .ok (.aload_n 0, 1) := by decide +kernel
theorem dX9_coinOn_33 : decode cX9_coinOn 33 = .ok (.getfield 7, 3) := by decide +kernel
theorem dX9_coinOn_36 : decode cX9_coinOn 36 = .ok (.iload_n 2, 1) := by decide +kernel
theorem dX9_coinOn_37 : decode cX9_coinOn 37 = .ok (.iaload, 1) := by decide +kernel
theorem dX9_coinOn_38 : decode cX9_coinOn 38 = .ok (.invokevirtual 471, 3) := by decide +kernel
theorem dX9_coinOn_41 : decode cX9_coinOn 41 = .ok (.ifCond .ne 5, 3) := by decide +kernel
theorem dX9_coinOn_44 : decode cX9_coinOn 44 = .ok (.iconst 0, 1) := by decide +kernel
theorem dX9_coinOn_45 : decode cX9_coinOn 45 = .ok (.ireturn, 1) := by decide +kernel
theorem dX9_coinOn_46 : decode cX9_coinOn 46 = .ok (.iconst 0, 1) := by decide +kernel
theorem dX9_coinOn_47 : decode cX9_coinOn 47 = .ok (.istore 4, 2) := by decide +kernel
theorem dX9_coinOn_49 : decode cX9_coinOn 49 = .ok (.iload 4, 2) := by decide +kernel
theorem dX9_coinOn_51 : decode cX9_coinOn 51 = .ok (.aload_n 0, 1) := by decide +kernel
theorem dX9_coinOn_52 : decode cX9_coinOn 52 = .ok (.getfield 54, 3) := by decide +kernel
theorem dX9_coinOn_55 : decode cX9_coinOn 55 = .ok (.aload_n 0, 1) := by decide +kernel
theorem dX9_coinOn_56 : decode cX9_coinOn 56 = .ok (.getfield 51, 3) := by decide +kernel
theorem dX9_coinOn_59 : decode cX9_coinOn 59 = .ok (.iaload, 1) := by decide +kernel
theorem dX9_coinOn_60 : decode cX9_coinOn 60 = .ok (.if_icmp .ge 127, 3) := by decide +kernel
theorem dX9_coinOn_63 : decode cX9_coinOn 63 = .ok (.aload_n 0, 1) := by decide +kernel
theorem dX9_coinOn_64 : decode cX9_coinOn 64 = .ok (.getfield 7, 3) := by decide +kernel
theorem dX9_coinOn_67 : decode cX9_coinOn 67 = .ok (.iload_n 2, 1) := by decide +kernel
theorem dX9_coinOn_68 : decode cX9_coinOn 68 = .ok (.iconst 1, 1) := by decide +kernel
theorem dX9_coinOn_69 : decode cX9_coinOn 69 = .ok (.iadd, 1) := by decide +kernel
theorem dX9_coinOn_70 : decode cX9_coinOn 70 = .ok (.iload 4, 2) := by decide +kernel
theorem dX9_coinOn_72 : decode cX9_coinOn 72 = .ok (.iadd, 1) := by decide +kernel
theorem dX9_coinOn_73 : decode cX9_coinOn 73 = .ok (.iaload, 1) := by decide +kernel
theorem dX9_coinOn_74 : decode cX9_coinOn 74 = .ok (.istore 5, 2) := by decide +kernel
theorem dX9_coinOn_76 : decode cX9_coinOn 76 = .ok (.iload 5, 2) := by decide +kernel
theorem dX9_coinOn_78 : decode cX9_coinOn 78 = .ok (.sipush 202, 3) := by decide +kernel
theorem dX9_coinOn_81 : decode cX9_coinOn 81 = .ok (.if_icmp .gt 16, 3) := by decide +kernel
theorem dX9_coinOn_84 : decode cX9_coinOn 84 = .ok (.iload 5, 2) := by decide +kernel
theorem dX9_coinOn_86 : decode cX9_coinOn 86 = .ok (.iconst 2, 1) := by decide +kernel
theorem dX9_coinOn_87 : decode cX9_coinOn 87 = .ok (.isub, 1) := by decide +kernel
theorem dX9_coinOn_88 : decode cX9_coinOn 88 = .ok (.aload_n 0, 1) := by decide +kernel
theorem dX9_coinOn_89 : decode cX9_coinOn 89 = .ok (.getfield 159, 3) := by decide +kernel
theorem dX9_coinOn_92 : decode cX9_coinOn 92 = .ok (.iconst 1, 1) := by decide +kernel
theorem dX9_coinOn_93 : decode cX9_coinOn 93 = .ok (.iaload, 1) := by decide +kernel
theorem dX9_coinOn_94 : decode cX9_coinOn 94 = .ok (.if_icmp .le 5, 3) := by decide +kernel
theorem dX9_coinOn_97 : decode cX9_coinOn 97 = .ok (.iconst 0, 1) := by decide +kernel
theorem dX9_coinOn_98 : decode cX9_coinOn 98 = .ok (.ireturn, 1) := by decide +kernel
theorem dX9_coinOn_99 : decode cX9_coinOn 99 = .ok (.aload_n 0, 1) := by decide +kernel
theorem dX9_coinOn_100 : decode cX9_coinOn 100 = .ok (.getfield 165, 3) := by decide +kernel
theorem dX9_coinOn_103 : decode cX9_coinOn 103 = .ok (.iload_n 3, 1) := by decide +kernel
theorem dX9_coinOn_104 : decode cX9_coinOn 104 = .ok (.dup2, 1) := by decide +kernel
theorem dX9_coinOn_105 : decode cX9_coinOn 105 = .ok (.iaload, 1) := by decide +kernel
theorem dX9_coinOn_106 : decode cX9_coinOn 106 = .ok (.iload 5, 2) := by decide +kernel
theorem dX9_coinOn_108 : decode cX9_coinOn 108 = .ok (.iconst 1, 1) := by decide +kernel
theorem dX9_coinOn_109 : decode cX9_coinOn 109 = .ok (.if_icmp .le 10, 3) := by decide +kernel
theorem dX9_coinOn_112 : decode cX9_coinOn 112 = .ok (.iconst 1, 1) := by decide +kernel
theorem dX9_coinOn_113 : decode cX9_coinOn 113 = .ok (.iload 4, 2) := by decide +kernel
theorem dX9_coinOn_115 : decode cX9_coinOn 115 = .ok (.ishl, 1) := by decide +kernel
theorem dX9_coinOn_116 : decode cX9_coinOn 116 = .ok (.goto 4, 3) := by decide +kernel
theorem dX9_coinOn_119 : decode cX9_coinOn 119 = .ok (.iconst 0, 1) := by decide +kernel
theorem dX9_coinOn_120 : decode cX9_coinOn 120 = .ok (.ior, 1) := by decide +kernel
theorem dX9_coinOn_121 : decode cX9_coinOn 121 = .ok (.iastore, 1) := by decide +kernel
theorem dX9_coinOn_122 : decode cX9_coinOn 122 = .ok (.aload_n 0, 1) := by decide +kernel
theorem dX9_coinOn_123 : decode cX9_coinOn 123 = .ok (.getfield 168, 3) := by decide +kernel
theorem dX9_coinOn_126 : decode cX9_coinOn 126 = .ok (.iload_n 3, 1) := by decide +kernel
theorem dX9_coinOn_127 : decode cX9_coinOn 127 = .ok (.dup2, 1) := by decide +kernel
theorem dX9_coinOn_128 : decode cX9_coinOn 128 = .ok (.iaload, 1) := by decide +kernel
theorem dX9_coinOn_129 : decode cX9_coinOn 129 = .ok (.iload 5, 2) := by decide +kernel
theorem dX9_coinOn_131 : decode cX9_coinOn 131 = .ok (.iconst 1, 1) := by decide +kernel
theorem dX9_coinOn_132 : decode cX9_coinOn 132 = .ok (.if_icmp .ne 10, 3) := by decide +kernel
theorem dX9_coinOn_135 : decode cX9_coinOn 135 = .ok (.iconst 1, 1) := by decide +kernel
theorem dX9_coinOn_136 : decode cX9_coinOn 136 = .ok (.iload 4, 2) := by decide +kernel
theorem dX9_coinOn_138 : decode cX9_coinOn 138 = .ok (.ishl, 1) := by decide +kernel
theorem dX9_coinOn_139 : decode cX9_coinOn 139 = .ok (.goto 4, 3) := by decide +kernel
theorem dX9_coinOn_142 : decode cX9_coinOn 142 = .ok (.iconst 0, 1) := by decide +kernel
theorem dX9_coinOn_143 : decode cX9_coinOn 143 = .ok (.ior, 1) := by decide +kernel
theorem dX9_coinOn_144 : decode cX9_coinOn 144 = .ok (.iastore, 1) := by decide +kernel
theorem dX9_coinOn_145 : decode cX9_coinOn 145 = .ok (.aload_n 0, 1) := by decide +kernel
theorem dX9_coinOn_146 : decode cX9_coinOn 146 = .ok (.getfield 171, 3) := by decide +kernel
theorem dX9_coinOn_149 : decode cX9_coinOn 149 = .ok (.bipush 120, 2) := by decide +kernel
theorem dX9_coinOn_151 : decode cX9_coinOn 151 = .ok (.bipush 10, 2) := by decide +kernel
theorem dX9_coinOn_153 : decode cX9_coinOn 153 = .ok (.iload_n 1, 1) := by decide +kernel
theorem dX9_coinOn_154 : decode cX9_coinOn 154 = .ok (.imul, 1) := by decide +kernel
theorem dX9_coinOn_155 : decode cX9_coinOn 155 = .ok (.iadd, 1) := by decide +kernel
theorem dX9_coinOn_156 : decode cX9_coinOn 156 = .ok (.iload 4, 2) := by decide +kernel
theorem dX9_coinOn_158 : decode cX9_coinOn 158 = .ok (.iadd, 1) := by decide +kernel
theorem dX9_coinOn_159 : decode cX9_coinOn 159 = .ok (.iload 5, 2) := by decide +kernel
theorem dX9_coinOn_161 : decode cX9_coinOn 161 = .ok (.iconst 1, 1) := by decide +kernel
theorem dX9_coinOn_162 : decode cX9_coinOn 162 = .ok (.if_icmp .le 17, 3) := by decide +kernel
theorem dX9_coinOn_165 : decode cX9_coinOn 165 = .ok (.aload_n 0, 1) := by decide +kernel
theorem dX9_coinOn_166 : decode cX9_coinOn 166 = .ok (.getfield 159, 3) := by decide +kernel
theorem dX9_coinOn_169 : decode cX9_coinOn 169 = .ok (.iconst 1, 1) := by decide +kernel
theorem dX9_coinOn_170 : decode cX9_coinOn 170 = .ok (.iaload, 1) := by decide +kernel
theorem dX9_coinOn_171 : decode cX9_coinOn 171 = .ok (.iload 5, 2) := by decide +kernel
theorem dX9_coinOn_173 : decode cX9_coinOn 173 = .ok (.isub, 1) := by decide +kernel
theorem dX9_coinOn_174 : decode cX9_coinOn 174 = .ok (.iconst 2, 1) := by decide +kernel
theorem dX9_coinOn_175 : decode cX9_coinOn 175 = .ok (.iadd, 1) := by decide +kernel
theorem dX9_coinOn_176 : decode cX9_coinOn 176 = .ok (.goto 4, 3) := by decide +kernel
theorem dX9_coinOn_179 : decode cX9_coinOn 179 = .ok (.iconst 0, 1) := by decide +kernel
theorem dX9_coinOn_180 : decode cX9_coinOn 180 = .ok (.iastore, 1) := by decide +kernel
theorem dX9_coinOn_181 : decode cX9_coinOn 181 = .ok (.iinc 4 1, 3) := by decide +kernel
theorem dX9_coinOn_184 : decode cX9_coinOn 184 = .ok (.goto (-135), 3) := by decide +kernel
theorem dX9_coinOn_187 : decode cX9_coinOn 187 = .ok (.aload_n 0, 1) := by decide +kernel
theorem dX9_coinOn_188 : decode cX9_coinOn 188 = .ok (.getfield 165, 3) := by decide +kernel
theorem dX9_coinOn_191 : decode cX9_coinOn 191 = .ok (.iload_n 3, 1) := by decide +kernel
theorem dX9_coinOn_192 : decode cX9_coinOn 192 = .ok (.iaload, 1) := by decide +kernel
theorem dX9_coinOn_193 : decode cX9_coinOn 193 = .ok (.aload_n 0, 1) := by decide +kernel
theorem dX9_coinOn_194 : decode cX9_coinOn 194 = .ok (.getfield 7, 3) := by decide +kernel
theorem dX9_coinOn_197 : decode cX9_coinOn 197 = .ok (.iload_n 2, 1) := by decide +kernel
theorem dX9_coinOn_198 : decode cX9_coinOn 198 = .ok (.iaload, 1) := by decide +kernel
theorem dX9_coinOn_199 : decode cX9_coinOn 199 = .ok (.invokestatic 373, 3) := by decide +kernel
theorem dX9_coinOn_202 : decode cX9_coinOn 202 = .ok (.ireturn, 1) := by decide +kernel
theorem dX9_comesOn_0 : decode cX9_comesOn 0 = .ok (.iconst 1, 1) := by decide +kernel
theorem dX9_comesOn_1 : decode cX9_comesOn 1 = .ok (.aload_n 0, 1) := by decide +kernel
theorem dX9_comesOn_2 : decode cX9_comesOn 2 = .ok (.getfield 54, 3) := by decide +kernel
theorem dX9_comesOn_5 : decode cX9_comesOn 5 = .ok (.aload_n 0, 1) := by decide +kernel
theorem dX9_comesOn_6 : decode cX9_comesOn 6 = .ok (.getfield 51, 3) := by decide +kernel
theorem dX9_comesOn_9 : decode cX9_comesOn 9 = .ok (.iaload, 1) := by decide +kernel
theorem dX9_comesOn_10 : decode cX9_comesOn 10 = .ok (.iadd, 1) := by decide +kernel
theorem dX9_comesOn_11 : decode cX9_comesOn 11 = .ok (.istore_n 2, 1) := by decide +kernel
theorem dX9_comesOn_12 : decode cX9_comesOn 12 = .ok (.iload_n 1, 1) := by decide +kernel
theorem dX9_comesOn_13 : decode cX9_comesOn 13 = .ok (.iconst 3, 1) := by decide +kernel
theorem dX9_comesOn_14 : decode cX9_comesOn 14 = .ok (.iload_n 2, 1) := by decide +kernel
theorem dX9_comesOn_15 : decode cX9_comesOn 15 = .ok (.aload_n 0, 1) := by decide +kernel
theorem dX9_comesOn_16 : decode cX9_comesOn 16 = .ok (.getfield 60, 3) := by decide +kernel
theorem dX9_comesOn_19 : decode cX9_comesOn 19 = .ok (.aload_n 0, 1) := by decide +kernel
theorem dX9_comesOn_20 : decode cX9_comesOn 20 = .ok (.getfield 51, 3) := by decide +kernel
theorem dX9_comesOn_23 : decode cX9_comesOn 23 = .ok (.iaload, 1) := by decide +kernel
theorem dX9_comesOn_24 : decode cX9_comesOn 24 = .ok (.imul, 1) := by decide +kernel
theorem dX9_comesOn_25 : decode cX9_comesOn 25 = .ok (.iadd, 1) := by decide +kernel
theorem dX9_comesOn_26 : decode cX9_comesOn 26 = .ok (.if_icmp .ne 25, 3) := by decide +kernel
theorem dX9_comesOn_29 : decode cX9_comesOn 29 = .ok (.aload_n 0, 1) := by decide +kernel
theorem dX9_comesOn_30 : decode cX9_comesOn 30 = .ok (.getfield 7, 3) := by decide +kernel
theorem dX9_comesOn_33 : decode cX9_comesOn 33 = .ok (.iconst 0, 1) := by decide +kernel
theorem dX9_comesOn_34 : decode cX9_comesOn 34 = .ok (.iaload, 1) := by decide +kernel
theorem dX9_comesOn_35 : decode cX9_comesOn 35 = .ok (.bipush 8, 2) := by decide +kernel
theorem dX9_comesOn_37 : decode cX9_comesOn 37 = .ok (.ishl, 1) := by decide +kernel
theorem dX9_comesOn_38 : decode cX9_comesOn 38 = .ok (.aload_n 0, 1) := by decide +kernel
theorem dX9_comesOn_39 : decode cX9_comesOn 39 = .ok (.getfield 7, 3) := by decide +kernel
theorem dX9_comesOn_42 : decode cX9_comesOn 42 = .ok (.iconst 1, 1) := by decide +kernel
theorem dX9_comesOn_43 : decode cX9_comesOn 43 = .ok (.iaload, 1) := by decide +kernel
theorem dX9_comesOn_44 : decode cX9_comesOn 44 = .ok (.ior, 1) := by decide +kernel
theorem dX9_comesOn_45 : decode cX9_comesOn 45 = .ok (.sipush 999, 3) := by decide +kernel
theorem dX9_comesOn_48 : decode cX9_comesOn 48 = .ok (.if_icmp .le 5, 3) := by decide +kernel
theorem dX9_comesOn_51 : decode cX9_comesOn 51 = .ok (.iconst 0, 1) := by decide +kernel
theorem dX9_comesOn_52 : decode cX9_comesOn 52 = .ok (.ireturn, 1) := by decide +kernel
theorem dX9_comesOn_53 : decode cX9_comesOn 53 = .ok (.bipush 103, 2) := by decide +kernel
theorem dX9_comesOn_55 : decode cX9_comesOn 55 = .ok (.istore_n 3, 1) := by decide +kernel
theorem dX9_comesOn_56 : decode cX9_comesOn 56 = .ok (.iconst 0, 1) := by decide +kernel
theorem dX9_comesOn_57 : decode cX9_comesOn 57 = .ok (.istore 4, 2) := by decide +kernel
theorem dX9_comesOn_59 : decode cX9_comesOn 59 = .ok (.iload 4, 2) := by decide +kernel
theorem dX9_comesOn_61 : decode cX9_comesOn 61 = .ok (.iload_n 1, 1) := by decide +kernel
theorem dX9_comesOn_62 : decode cX9_comesOn 62 = .ok (.iconst 1, 1) := by decide +kernel
theorem dX9_comesOn_63 : decode cX9_comesOn 63 = .ok (.isub, 1) := by decide +kernel
theorem dX9_comesOn_64 : decode cX9_comesOn 64 = .ok (.if_icmp .ge 25, 3) := by decide +kernel
theorem dX9_comesOn_67 : decode cX9_comesOn 67 = .ok (.iconst 5, 1) := by decide +kernel
theorem dX9_comesOn_68 : decode cX9_comesOn 68 = .ok (.iload_n 3, 1) := by decide +kernel
theorem dX9_comesOn_69 : decode cX9_comesOn 69 = .ok (.imul, 1) := by decide +kernel
theorem dX9_comesOn_70 : decode cX9_comesOn 70 = .ok (.aload_n 0, 1) := by decide +kernel
theorem dX9_comesOn_71 : decode cX9_comesOn 71 = .ok (.getfield 7, 3) := by decide +kernel
theorem dX9_comesOn_74 : decode cX9_comesOn 74 = .ok (.iload 4, 2) := by decide +kernel
theorem dX9_comesOn_76 : decode cX9_comesOn 76 = .ok (.iaload, 1) := by decide +kernel
theorem dX9_comesOn_77 : decode cX9_comesOn 77 = .ok (.iadd, 1) := by decide +kernel
theorem dX9_comesOn_78 : decode cX9_comesOn 78 = .ok (.sipush 251, 3) := by decide +kernel
theorem dX9_comesOn_81 : decode cX9_comesOn 81 = .ok (.irem, 1) := by decide +kernel
theorem dX9_comesOn_82 : decode cX9_comesOn 82 = .ok (.istore_n 3, 1) := by decide +kernel
theorem dX9_comesOn_83 : decode cX9_comesOn 83 = .ok (.iinc 4 1, 3) := by decide +kernel
theorem dX9_comesOn_86 : decode cX9_comesOn 86 = .ok (.goto (-27), 3) := by decide +kernel
theorem dX9_comesOn_89 : decode cX9_comesOn 89 = .ok (.aload_n 0, 1) := by decide +kernel
theorem dX9_comesOn_90 : decode cX9_comesOn 90 = .ok (.getfield 7, 3) := by decide +kernel
theorem dX9_comesOn_93 : decode cX9_comesOn 93 = .ok (.iload_n 1, 1) := by decide +kernel
theorem dX9_comesOn_94 : decode cX9_comesOn 94 = .ok (.iconst 1, 1) := by decide +kernel
theorem dX9_comesOn_95 : decode cX9_comesOn 95 = .ok (.isub, 1) := by decide +kernel
theorem dX9_comesOn_96 : decode cX9_comesOn 96 = .ok (.iaload, 1) := by decide +kernel
theorem dX9_comesOn_97 : decode cX9_comesOn 97 = .ok (.iload_n 3, 1) := by decide +kernel
theorem dX9_comesOn_98 : decode cX9_comesOn 98 = .ok (.if_icmp .eq 5, 3) := by decide +kernel
theorem dX9_comesOn_101 : decode cX9_comesOn 101 = .ok (.iconst 0, 1) := by decide +kernel
theorem dX9_comesOn_102 : decode cX9_comesOn 102 = .ok (.ireturn, 1) := by decide +kernel
theorem dX9_comesOn_103 : decode cX9_comesOn 103 = .ok (.aload_n 0, 1) := by decide +kernel
theorem dX9_comesOn_104 : decode cX9_comesOn 104 = .ok (.iconst 1, 1) := by decide +kernel
theorem dX9_comesOn_105 : decode cX9_comesOn 105 = .ok (.iconst 0, 1) := by decide +kernel
theorem dX9_comesOn_106 : decode cX9_comesOn 106 = .ok (.invokevirtual 416, 3) := by decide +kernel
theorem dX9_comesOn_109 : decode cX9_comesOn 109 = .ok (.aload_n 0, 1) := by decide +kernel
theorem dX9_comesOn_110 : decode cX9_comesOn 110 = .ok (.getfield 159, 3) := by decide +kernel
theorem dX9_comesOn_113 : decode cX9_comesOn 113 = .ok (.iconst 1, 1) := by decide +kernel
theorem dX9_comesOn_114 : decode cX9_comesOn 114 = .ok (.aload_n 0, 1) := by decide +kernel
theorem dX9_comesOn_115 : decode cX9_comesOn 115 = .ok (.getfield 7, 3) := by decide +kernel
theorem dX9_comesOn_118 : decode cX9_comesOn 118 = .ok (.iconst 0, 1) := by decide +kernel
theorem dX9_comesOn_119 : decode cX9_comesOn 119 = .ok (.iaload, 1) := by decide +kernel
theorem dX9_comesOn_120 : decode cX9_comesOn 120 = .ok (.bipush 8, 2) := by decide +kernel
theorem dX9_comesOn_122 : decode cX9_comesOn 122 = .ok (.ishl, 1) := by decide +kernel
theorem dX9_comesOn_123 : decode cX9_comesOn 123 = .ok (.aload_n 0, 1) := by decide +kernel
theorem dX9_comesOn_124 : decode cX9_comesOn 124 = .ok (.getfield 7, 3) := by decide +kernel
theorem dX9_comesOn_127 : decode cX9_comesOn 127 = .ok (.iconst 1, 1) := by decide +kernel
theorem dX9_comesOn_128 : decode cX9_comesOn 128 = .ok (.iaload, 1) := by decide +kernel
theorem dX9_comesOn_129 : decode cX9_comesOn 129 = .ok (.ior, 1) := by decide +kernel
theorem dX9_comesOn_130 : decode cX9_comesOn 130 = .ok (.iastore, 1) := by decide +kernel
theorem dX9_comesOn_131 : decode cX9_comesOn 131 = .ok (.iconst 0, 1) := by decide +kernel
theorem dX9_comesOn_132 : decode cX9_comesOn 132 = .ok (.istore 4, 2) := by decide +kernel
theorem dX9_comesOn_134 : decode cX9_comesOn 134 = .ok (.iload 4, 2) := by decide +kernel
theorem dX9_comesOn_136 : decode cX9_comesOn 136 = .ok (.aload_n 0, 1) := by decide +kernel
theorem dX9_comesOn_137 : decode cX9_comesOn 137 = .ok (.getfield 60, 3) := by decide +kernel
theorem dX9_comesOn_140 : decode cX9_comesOn 140 = .ok (.aload_n 0, 1) := by decide +kernel
theorem dX9_comesOn_141 : decode cX9_comesOn 141 = .ok (.getfield 51, 3) := by decide +kernel
theorem dX9_comesOn_144 : decode cX9_comesOn 144 = .ok (.iaload, 1) := by decide +kernel
theorem dX9_comesOn_145 : decode cX9_comesOn 145 = .ok (.if_icmp .ge 26, 3) := by decide +kernel
theorem dX9_comesOn_148 : decode cX9_comesOn 148 = .ok (.aload_n 0, 1) := by decide +kernel
theorem dX9_comesOn_149 : decode cX9_comesOn 149 = .ok (.iload 4, 2) := by decide +kernel
theorem dX9_comesOn_151 : decode cX9_comesOn 151 = .ok (.iconst 2, 1) := by decide +kernel
theorem dX9_comesOn_152 : decode cX9_comesOn 152 = .ok (.iload_n 2, 1) := by decide +kernel
theorem dX9_comesOn_153 : decode cX9_comesOn 153 = .ok (.iload 4, 2) := by decide +kernel
theorem dX9_comesOn_155 : decode cX9_comesOn 155 = .ok (.imul, 1) := by decide +kernel
theorem dX9_comesOn_156 : decode cX9_comesOn 156 = .ok (.iadd, 1) := by decide +kernel
theorem dX9_comesOn_157 : decode cX9_comesOn 157 = .ok (.invokevirtual 550, 3) := by decide +kernel
theorem dX9_comesOn_160 : decode cX9_comesOn 160 = .ok (.ifCond .ne 5, 3) := by decide +kernel
theorem dX9_comesOn_163 : decode cX9_comesOn 163 = .ok (.iconst 0, 1) := by decide +kernel
theorem dX9_comesOn_164 : decode cX9_comesOn 164 = .ok (.ireturn, 1) := by decide +kernel
theorem dX9_comesOn_165 : decode cX9_comesOn 165 = .ok (.iinc 4 1, 3) := by decide +kernel
theorem dX9_comesOn_168 : decode cX9_comesOn 168 = .ok (.goto (-34), 3) := by decide +kernel
theorem dX9_comesOn_171 : decode cX9_comesOn 171 = .ok (.iconst 1, 1) := by decide +kernel
theorem dX9_comesOn_172 : decode cX9_comesOn 172 = .ok (.ireturn, 1) := by decide +kernel
theorem dX9_on_0 : decode cX9_on 0 = .ok (.aload_n 0, 1) := by decide +kernel
theorem dX9_on_1 : decode cX9_on 1 = .ok (.getfield 13, 3) := by decide +kernel
theorem dX9_on_4 : decode cX9_on 4 = .ok (.istore_n 1, 1) := by decide +kernel
theorem dX9_on_5 : decode cX9_on 5 = .ok (.aload_n 0, 1) := by decide +kernel
theorem dX9_on_6 : decode cX9_on 6 = .ok (.iconst 0, 1) := by decide +kernel
theorem dX9_on_7 : decode cX9_on 7 = .ok (.putfield 13, 3) := by decide +kernel
theorem dX9_on_10 : decode cX9_on 10 = .ok (.aload_n 0, 1) := by decide +kernel
theorem dX9_on_11 : decode cX9_on 11 = .ok (.iload_n 1, 1) := by decide +kernel
theorem dX9_on_12 : decode cX9_on 12 = .ok (.invokevirtual 553, 3) := by decide +kernel
theorem dX9_on_15 : decode cX9_on 15 = .ok (.ifCond .ne 17, 3) := by decide +kernel
theorem dX9_on_18 : decode cX9_on 18 = .ok (.aload_n 0, 1) := by decide +kernel
theorem dX9_on_19 : decode cX9_on 19 = .ok (.iconst 5, 1) := by decide +kernel
theorem dX9_on_20 : decode cX9_on 20 = .ok (.invokevirtual 228, 3) := by decide +kernel
theorem dX9_on_23 : decode cX9_on 23 = .ok (.ifCond .lt 7, 3) := by decide +kernel
theorem dX9_on_26 : decode cX9_on 26 = .ok (.iconst 1, 1) := by decide +kernel
theorem dX9_on_27 : decode cX9_on 27 = .ok (.goto 4, 3) := by decide +kernel
theorem dX9_on_30 : decode cX9_on 30 = .ok (.iconst 0, 1) := by decide +kernel
theorem dX9_on_31 : decode cX9_on 31 = .ok (.ireturn, 1) := by decide +kernel
theorem dX9_on_32 : decode cX9_on 32 = .ok (.aload_n 0, 1) := by decide +kernel
theorem dX9_on_33 : decode cX9_on 33 = .ok (.iconst 0, 1) := by decide +kernel
theorem dX9_on_34 : decode cX9_on 34 = .ok (.iconst 1, 1) := by decide +kernel
theorem dX9_on_35 : decode cX9_on 35 = .ok (.invokevirtual 416, 3) := by decide +kernel
theorem dX9_on_38 : decode cX9_on 38 = .ok (.aload_n 0, 1) := by decide +kernel
theorem dX9_on_39 : decode cX9_on 39 = .ok (.iconst 0, 1) := by decide +kernel
theorem dX9_on_40 : decode cX9_on 40 = .ok (.putfield 177, 3) := by decide +kernel
theorem dX9_on_43 : decode cX9_on 43 = .ok (.iconst 1, 1) := by decide +kernel
theorem dX9_on_44 : decode cX9_on 44 = .ok (.ireturn, 1) := by decide +kernel
