theorem dX9_society_38 : decode cX9_society 38 = .ok (.aload_n 0, 1) := by decide +kernel
theorem dX9_society_39 : decode cX9_society 39 = .ok (.getfield 54, 3) := by decide +kernel
theorem dX9_society_42 : decode cX9_society 42 = .ok (.aload_n 0, 1) := by decide +kernel
theorem dX9_society_43 : decode cX9_society 43 = .ok (.getfield 121, 3) := by decide +kernel
theorem dX9_society_46 : decode cX9_society 46 = .ok (.iconst 0, 1) := by decide +kernel
theorem dX9_society_47 : decode cX9_society 47 = .ok (.iastore, 1) := by decide +kernel
theorem dX9_society_48 : decode cX9_society 48 = .ok (.aload_n 0, 1) := by decide +kernel
theorem dX9_society_49 : decode cX9_society 49 = .ok (.getfield 60, 3) := by decide +kernel
theorem dX9_society_52 : decode cX9_society 52 = .ok (.aload_n 0, 1) := by decide +kernel
theorem dX9_society_53 : decode cX9_society 53 = .ok (.getfield 121, 3) := by decide +kernel
theorem dX9_society_56 : decode cX9_society 56 = .ok (.iconst 0, 1) := by decide +kernel
theorem dX9_society_57 : decode cX9_society 57 = .ok (.iastore, 1) := by decide +kernel
theorem dX9_society_58 : decode cX9_society 58 = .ok (.aload_n 0, 1) := by decide +kernel
theorem dX9_society_59 : decode cX9_society 59 = .ok (.getfield 75, 3) := by decide +kernel
theorem dX9_society_62 : decode cX9_society 62 = .ok (.aload_n 0, 1) := by decide +kernel
theorem dX9_society_63 : decode cX9_society 63 = .ok (.getfield 121, 3) := by decide +kernel
theorem dX9_society_66 : decode cX9_society 66 = .ok (.iconst 0, 1) := by decide +kernel
theorem dX9_society_67 : decode cX9_society 67 = .ok (.iastore, 1) := by decide +kernel
theorem dX9_society_68 : decode cX9_society 68 = .ok (.aload_n 0, 1) := by decide +kernel
theorem dX9_society_69 : decode cX9_society 69 = .ok (.getfield 84, 3) := by decide +kernel
theorem dX9_society_72 : decode cX9_society 72 = .ok (.aload_n 0, 1) := by decide +kernel
theorem dX9_society_73 : decode cX9_society 73 = .ok (.getfield 121, 3) := by decide +kernel
theorem dX9_society_76 : decode cX9_society 76 = .ok (.iconst 0, 1) := by decide +kernel
theorem dX9_society_77 : decode cX9_society 77 = .ok (.iastore, 1) := by decide +kernel
theorem dX9_society_78 : decode cX9_society 78 = .ok (.aload_n 0, 1) := by decide +kernel
theorem dX9_society_79 : decode cX9_society 79 = .ok (.getfield 87, 3) := by decide +kernel
theorem dX9_society_82 : decode cX9_society 82 = .ok (.aload_n 0, 1) := by decide +kernel
theorem dX9_society_83 : decode cX9_society 83 = .ok (.getfield 121, 3) := by decide +kernel
theorem dX9_society_86 : decode cX9_society 86 = .ok (.iconst 0, 1) := by decide +kernel
theorem dX9_society_87 : decode cX9_society 87 = .ok (.iastore, 1) := by decide +kernel
theorem dX9_society_88 : decode cX9_society 88 = .ok (.aload_n 0, 1) := by decide +kernel
theorem dX9_society_89 : decode cX9_society 89 = .ok (.getfield 90, 3) := by decide +kernel
theorem dX9_society_92 : decode cX9_society 92 = .ok (.aload_n 0, 1) := by decide +kernel
theorem dX9_society_93 : decode cX9_society 93 = .ok (.getfield 121, 3) := by decide +kernel
theorem dX9_society_96 : decode cX9_society 96 = .ok (.iconst (-1), 1) := by decide +kernel
theorem dX9_society_97 : decode cX9_society 97 = .ok (.iastore, 1) := by decide +kernel
theorem dX9_society_98 : decode cX9_society 98 = .ok (.aload_n 0, 1) := by decide +kernel
theorem dX9_society_99 : decode cX9_society 99 = .ok (.getfield 96, 3) := by decide +kernel
theorem dX9_society_102 : decode cX9_society 102 = .ok (.aload_n 0, 1) := by decide +kernel
theorem dX9_society_103 : decode cX9_society 103 = .ok (.getfield 121, 3) := by decide +kernel
theorem dX9_society_106 : decode cX9_society 106 = .ok (.iconst (-1), 1) := by decide +kernel
theorem dX9_society_107 : decode cX9_society 107 = .ok (.iastore, 1) := by decide +kernel
theorem dX9_society_108 : decode cX9_society 108 = .ok (.aload_n 0, 1) := by decide +kernel
theorem dX9_society_109 : decode cX9_society 109 = .ok (.iconst 0, 1) := by decide +kernel
theorem dX9_society_110 : decode cX9_society 110 = .ok (.putfield 118, 3) := by decide +kernel
theorem dX9_society_113 : decode cX9_society 113 = .ok (.iconst 0, 1) := by decide +kernel
theorem dX9_society_114 : decode cX9_society 114 = .ok (.istore_n 1, 1) := by decide +kernel
theorem dX9_society_115 : decode cX9_society 115 = .ok (.aload_n 0, 1) := by decide +kernel
theorem dX9_society_116 : decode cX9_society 116 = .ok (.invokevirtual 257, 3) := by decide +kernel
theorem dX9_society_119 : decode cX9_society 119 = .ok (.aload_n 0, 1) := by decide +kernel
theorem dX9_society_120 : decode cX9_society 120 = .ok (.getfield 36, 3) := by decide +kernel
theorem dX9_society_123 : decode cX9_society 123 = .ok (.ifCond .ne 25, 3) := by decide +kernel
theorem dX9_society_126 : decode cX9_society 126 = .ok (.aload_n 0, 1) := by decide +kernel
theorem dX9_society_127 : decode cX9_society 127 = .ok (.getfield 20, 3) := by decide +kernel
theorem dX9_society_130 : decode cX9_society 130 = .ok (.ifCond .eq 18, 3) := by decide +kernel
theorem dX9_society_133 : decode cX9_society 133 = .ok (.aload_n 0, 1) := by decide +kernel
theorem dX9_society_134 : decode cX9_society 134 = .ok (.invokevirtual 404, 3) := by decide +kernel
theorem dX9_society_137 : decode cX9_society 137 = .ok (.iinc 1 1, 3) := by decide +kernel
theorem dX9_society_140 : decode cX9_society 140 = .ok (.aload_n 0, 1) := by decide +kernel
theorem dX9_society_141 : decode cX9_society 141 = .ok (.iload_n 1, 1) := by decide +kernel
theorem dX9_society_142 : decode cX9_society 142 = .ok (.invokevirtual 407, 3) := by decide +kernel
theorem dX9_society_145 : decode cX9_society 145 = .ok (.goto (-26), 3) := by decide +kernel
theorem dX9_society_148 : decode cX9_society 148 = .ok (.aload_n 0, 1) := by decide +kernel
theorem dX9_society_149 : decode cX9_society 149 = .ok (.aload_n 0, 1) := by decide +kernel
theorem dX9_society_150 : decode cX9_society 150 = .ok (.getfield 36, 3) := by decide +kernel
theorem dX9_society_153 : decode cX9_society 153 = .ok (.putfield 42, 3) := by decide +kernel
theorem dX9_society_156 : decode cX9_society 156 = .ok (.aload_n 0, 1) := by decide +kernel
theorem dX9_society_157 : decode cX9_society 157 = .ok (.aload_n 0, 1) := by decide +kernel
theorem dX9_society_158 : decode cX9_society 158 = .ok (.getfield 39, 3) := by decide +kernel
theorem dX9_society_161 : decode cX9_society 161 = .ok (.putfield 45, 3) := by decide +kernel
theorem dX9_society_164 : decode cX9_society 164 = .ok (.aload_n 0, 1) := by decide +kernel
theorem dX9_society_165 : decode cX9_society 165 = .ok (.getfield 36, 3) := by decide +kernel
theorem dX9_society_168 : decode cX9_society 168 = .ok (.ifCond .le 9, 3) := by decide +kernel
theorem dX9_society_171 : decode cX9_society 171 = .ok (.aload_n 0, 1) := by decide +kernel
theorem dX9_society_172 : decode cX9_society 172 = .ok (.iconst 1, 1) := by decide +kernel
theorem dX9_society_173 : decode cX9_society 173 = .ok (.invokevirtual 228, 3) := by decide +kernel
theorem dX9_society_176 : decode cX9_society 176 = .ok (.ireturn, 1) := by decide +kernel
theorem dX9_society_177 : decode cX9_society 177 = .ok (.aload_n 0, 1) := by decide +kernel
theorem dX9_society_178 : decode cX9_society 178 = .ok (.aload_n 0, 1) := by decide +kernel
theorem dX9_society_179 : decode cX9_society 179 = .ok (.getfield 121, 3) := by decide +kernel
theorem dX9_society_182 : decode cX9_society 182 = .ok (.putfield 51, 3) := by decide +kernel
theorem dX9_society_185 : decode cX9_society 185 = .ok (.aload_n 0, 1) := by decide +kernel
theorem dX9_society_186 : decode cX9_society 186 = .ok (.invokevirtual 410, 3) := by decide +kernel
theorem dX9_society_189 : decode cX9_society 189 = .ok (.iload_n 1, 1) := by decide +kernel
theorem dX9_society_190 : decode cX9_society 190 = .ok (.ireturn, 1) := by decide +kernel
theorem dX9_fault_0 : decode cX9_fault 0 = .ok (.iload_n 1, 1) := by decide +kernel
theorem dX9_fault_1 : decode cX9_fault 1 = .ok (.ifCond .ne 10, 3) := by decide +kernel
theorem dX9_fault_4 : decode cX9_fault 4 = .ok (.aload_n 0, 1) := by decide +kernel
theorem dX9_fault_5 : decode cX9_fault 5 = .ok (.getfield 42, 3) := by decide +kernel
theorem dX9_fault_8 : decode cX9_fault 8 = .ok (.goto 16, 3) := by decide +kernel
theorem dX9_fault_11 : decode cX9_fault 11 = .ok (.iload_n 1, 1) := by decide +kernel
theorem dX9_fault_12 : decode cX9_fault 12 = .ok (.iconst 1, 1) := by decide +kernel
theorem dX9_fault_13 : decode cX9_fault 13 = .ok (.if_icmp .ne 10, 3) := by decide +kernel
theorem dX9_fault_16 : decode cX9_fault 16 = .ok (.aload_n 0, 1) := by decide +kernel
theorem dX9_fault_17 : decode cX9_fault 17 = .ok (.getfield 45, 3) := by decide +kernel
theorem dX9_fault_20 : decode cX9_fault 20 = .ok (.goto 4, 3) := by decide +kernel
theorem dX9_fault_23 : decode cX9_fault 23 = .ok (.iconst (-1), 1) := by decide +kernel
theorem dX9_fault_24 : decode cX9_fault 24 = .ok (.ireturn, 1) := by decide +kernel
theorem dX9_refuses_0 : decode cX9_refuses 0 = .ok (.aload_n 0, 1) := by decide +kernel
theorem dX9_refuses_1 : decode cX9_refuses 1 = .ok (.getfield 156, 3) := by decide +kernel
theorem dX9_refuses_4 : decode cX9_refuses 4 = .ok (.iload_n 1, 1) := by decide +kernel
theorem dX9_refuses_5 : decode cX9_refuses 5 = .ok (.dup2, 1) := by decide +kernel
theorem dX9_refuses_6 : decode cX9_refuses 6 = .ok (.iaload, 1) := by decide +kernel
theorem dX9_refuses_7 : decode cX9_refuses 7 = .ok (.iconst 1, 1) := by decide +kernel
theorem dX9_refuses_8 : decode cX9_refuses 8 = .ok (.iadd, 1) := by decide +kernel
theorem dX9_refuses_9 : decode cX9_refuses 9 = .ok (.iastore, 1) := by decide +kernel
theorem dX9_refuses_10 : decode cX9_refuses 10 = .ok (.iconst (-1), 1) := by decide +kernel
theorem dX9_refuses_11 : decode cX9_refuses 11 = .ok (.ireturn, 1) := by decide +kernel
theorem dX9_status_0 : decode cX9_status 0 = .ok (.iload_n 1, 1) := by decide +kernel
theorem dX9_status_1 : decode cX9_status 1 = .ok (.iconst 0, 1) := by decide +kernel
theorem dX9_status_2 : decode cX9_status 2 = .ok (.iconst 5, 1) := by decide +kernel
theorem dX9_status_3 : decode cX9_status 3 = .ok (.invokestatic 314, 3) := by decide +kernel
theorem dX9_status_6 : decode cX9_status 6 = .ok (.ifCond .eq 12, 3) := by decide +kernel
theorem dX9_status_9 : decode cX9_status 9 = .ok (.aload_n 0, 1) := by decide +kernel
theorem dX9_status_10 : decode cX9_status 10 = .ok (.getfield 156, 3) := by decide +kernel
theorem dX9_status_13 : decode cX9_status 13 = .ok (.iload_n 1, 1) := by decide +kernel
theorem dX9_status_14 : decode cX9_status 14 = .ok (.iaload, 1) := by decide +kernel
theorem dX9_status_15 : decode cX9_status 15 = .ok (.goto 4, 3) := by decide +kernel
theorem dX9_status_18 : decode cX9_status 18 = .ok (.iconst (-1), 1) := by decide +kernel
theorem dX9_status_19 : decode cX9_status 19 = .ok (.ireturn, 1) := by decide +kernel
theorem dX9_isPerson_0 : decode cX9_isPerson 0 = .ok (.iload_n 1, 1) := by decide +kernel
theorem dX9_isPerson_1 : decode cX9_isPerson 1 = .ok (.ifCond .lt 20, 3) := by decide +kernel
theorem dX9_isPerson_4 : decode cX9_isPerson 4 = .ok (.iload_n 1, 1) := by decide +kernel
theorem dX9_isPerson_5 : decode cX9_isPerson 5 = .ok (.aload_n 0, 1) := by decide +kernel
theorem dX9_isPerson_6 : decode cX9_isPerson 6 = .ok (.getfield 54, 3) := by decide +kernel
theorem dX9_isPerson_9 : decode cX9_isPerson 9 = .ok (.aload_n 0, 1) := by decide +kernel
theorem dX9_isPerson_10 : decode cX9_isPerson 10 = .ok (.getfield 51, 3) := by decide +kernel
theorem dX9_isPerson_13 : decode cX9_isPerson 13 = .ok (.iaload, 1) := by decide +kernel
theorem dX9_isPerson_14 : decode cX9_isPerson 14 = .ok (.if_icmp .ge 7, 3) := by decide +kernel
theorem dX9_isPerson_17 : decode cX9_isPerson 17 = .ok (.iconst 1, 1) := by decide +kernel
theorem dX9_isPerson_18 : decode cX9_isPerson 18 = .ok (.goto 4, 3) := by decide +kernel
theorem dX9_isPerson_21 : decode cX9_isPerson 21 = .ok (.iconst 0, 1) := by decide +kernel
theorem dX9_isPerson_22 : decode cX9_isPerson 22 = .ok (.ireturn, 1) := by decide +kernel
theorem dX9_isCoin_0 : decode cX9_isCoin 0 = .ok (.iload_n 1, 1) := by decide +kernel
theorem dX9_isCoin_1 : decode cX9_isCoin 1 = .ok (.ifCond .lt 20, 3) := by decide +kernel
theorem dX9_isCoin_4 : decode cX9_isCoin 4 = .ok (.iload_n 1, 1) := by decide +kernel
theorem dX9_isCoin_5 : decode cX9_isCoin 5 = .ok (.aload_n 0, 1) := by decide +kernel
theorem dX9_isCoin_6 : decode cX9_isCoin 6 = .ok (.getfield 60, 3) := by decide +kernel
theorem dX9_isCoin_9 : decode cX9_isCoin 9 = .ok (.aload_n 0, 1) := by decide +kernel
theorem dX9_isCoin_10 : decode cX9_isCoin 10 = .ok (.getfield 51, 3) := by decide +kernel
theorem dX9_isCoin_13 : decode cX9_isCoin 13 = .ok (.iaload, 1) := by decide +kernel
theorem dX9_isCoin_14 : decode cX9_isCoin 14 = .ok (.if_icmp .ge 7, 3) := by decide +kernel
theorem dX9_isCoin_17 : decode cX9_isCoin 17 = .ok (.iconst 1, 1) := by decide +kernel
theorem dX9_isCoin_18 : decode cX9_isCoin 18 = .ok (.goto 4, 3) := by decide +kernel
theorem dX9_isCoin_21 : decode cX9_isCoin 21 = .ok (.iconst 0, 1) := by decide +kernel
theorem dX9_isCoin_22 : decode cX9_isCoin 22 = .ok (.ireturn, 1) := by decide +kernel
theorem dX9_isWare_0 : decode cX9_isWare 0 = .ok (.iload_n 1, 1) := by decide +kernel
theorem dX9_isWare_1 : decode cX9_isWare 1 = .ok (.ifCond .lt 20, 3) := by decide +kernel
theorem dX9_isWare_4 : decode cX9_isWare 4 = .ok (.iload_n 1, 1) := by decide +kernel
theorem dX9_isWare_5 : decode cX9_isWare 5 = .ok (.aload_n 0, 1) := by decide +kernel
theorem dX9_isWare_6 : decode cX9_isWare 6 = .ok (.getfield 75, 3) := by decide +kernel
theorem dX9_isWare_9 : decode cX9_isWare 9 = .ok (.aload_n 0, 1) := by decide +kernel
theorem dX9_isWare_10 : decode cX9_isWare 10 = .ok (.getfield 51, 3) := by decide +kernel
theorem dX9_isWare_13 : decode cX9_isWare 13 = .ok (.iaload, 1) := by decide +kernel
theorem dX9_isWare_14 : decode cX9_isWare 14 = .ok (.if_icmp .ge 7, 3) := by decide +kernel
theorem dX9_isWare_17 : decode cX9_isWare 17 = .ok (.iconst 1, 1) := by decide +kernel
theorem dX9_isWare_18 : decode cX9_isWare 18 = .ok (.goto 4, 3) := by decide +kernel
theorem dX9_isWare_21 : decode cX9_isWare 21 = .ok (.iconst 0, 1) := by decide +kernel
theorem dX9_isWare_22 : decode cX9_isWare 22 = .ok (.ireturn, 1) := by decide +kernel
theorem dX9_has2_0 : decode cX9_has2 0 = .ok (.iload_n 0, 1) := by decide +kernel
theorem dX9_has2_1 : decode cX9_has2 1 = .ok (.iload_n 1, 1) := by decide +kernel
theorem dX9_has2_2 : decode cX9_has2 2 = .ok (.ishr, 1) := by decide +kernel
theorem dX9_has2_3 : decode cX9_has2 3 = .ok (.iconst 1, 1) := by decide +kernel
theorem dX9_has2_4 : decode cX9_has2 4 = .ok (.iand, 1) := by decide +kernel
theorem dX9_has2_5 : decode cX9_has2 5 = .ok (.iconst 1, 1) := by decide +kernel
theorem dX9_has2_6 : decode cX9_has2 6 = .ok (.if_icmp .ne 7, 3) := by decide +kernel
theorem dX9_has2_9 : decode cX9_has2 9 = .ok (.iconst 1, 1) := by decide +kernel
theorem dX9_has2_10 : decode cX9_has2 10 = .ok (.goto 4, 3) := by decide +kernel
theorem dX9_has2_13 : decode cX9_has2 13 = .ok (.iconst 0, 1) := by decide +kernel
theorem dX9_has2_14 : decode cX9_has2 14 = .ok (.ireturn, 1) := by decide +kernel
theorem dX9_bits_0 : decode cX9_bits 0 = .ok (.iconst 0, 1) := by decide +kernel
theorem dX9_bits_1 : decode cX9_bits 1 = .ok (.istore_n 1, 1) := by decide +kernel
theorem dX9_bits_2 : decode cX9_bits 2 = .ok (.iload_n 0, 1) := by decide +kernel
theorem dX9_bits_3 : decode cX9_bits 3 = .ok (.istore_n 2, 1) := by decide +kernel
theorem dX9_bits_4 : decode cX9_bits 4 = .ok (.iload_n 2, 1) := by decide +kernel
theorem dX9_bits_5 : decode cX9_bits 5 = .ok (.ifCond .eq 15, 3) := by decide +kernel
theorem dX9_bits_8 : decode cX9_bits 8 = .ok (.iinc 1 1, 3) := by decide +kernel
theorem dX9_bits_11 : decode cX9_bits 11 = .ok (.iload_n 2, 1) := by decide +kernel
theorem dX9_bits_12 : decode cX9_bits 12 = .ok (.iload_n 2, 1) := by decide +kernel
theorem dX9_bits_13 : decode cX9_bits 13 = .ok (.iconst 1, 1) := by decide +kernel
theorem dX9_bits_14 : decode cX9_bits 14 = .ok (.isub, 1) := by decide +kernel
theorem dX9_bits_15 : decode cX9_bits 15 = .ok (.iand, 1) := by decide +kernel
theorem dX9_bits_16 : decode cX9_bits 16 = .ok (.istore_n 2, 1) := by decide +kernel
theorem dX9_bits_17 : decode cX9_bits 17 = .ok (.goto (-13), 3) := by decide +kernel
theorem dX9_bits_20 : decode cX9_bits 20 = .ok (.iload_n 1, 1) := by decide +kernel
theorem dX9_bits_21 : decode cX9_bits 21 = .ok (.ireturn, 1) := by decide +kernel
theorem dX9_worthOf_0 : decode cX9_worthOf 0 = .ok (.aload_n 0, 1) := by decide +kernel
theorem dX9_worthOf_1 : decode cX9_worthOf 1 = .ok (.getfield 63, 3) := by decide +kernel
theorem dX9_worthOf_4 : decode cX9_worthOf 4 = .ok (.bipush 12, 2) := by decide +kernel
theorem dX9_worthOf_6 : decode cX9_worthOf 6 = .ok (.aload_n 0, 1) := by decide +kernel
theorem dX9_worthOf_7 : decode cX9_worthOf 7 = .ok (.getfield 51, 3) := by decide +kernel
theorem dX9_worthOf_10 : decode cX9_worthOf 10 = .ok (.imul, 1) := by decide +kernel
theorem dX9_worthOf_11 : decode cX9_worthOf 11 = .ok (.iload_n 1, 1) := by decide +kernel
theorem dX9_worthOf_12 : decode cX9_worthOf 12 = .ok (.iadd, 1) := by decide +kernel
theorem dX9_worthOf_13 : decode cX9_worthOf 13 = .ok (.iaload, 1) := by decide +kernel
theorem dX9_worthOf_14 : decode cX9_worthOf 14 = .ok (.ireturn, 1) := by decide +kernel
theorem dX9_rankOf_0 : decode cX9_rankOf 0 = .ok (.aload_n 0, 1) := by decide +kernel
theorem dX9_rankOf_1 : decode cX9_rankOf 1 = .ok (.getfield 57, 3) := by decide +kernel
theorem dX9_rankOf_4 : decode cX9_rankOf 4 = .ok (.bipush 10, 2) := by decide +kernel
theorem dX9_rankOf_6 : decode cX9_rankOf 6 = .ok (.aload_n 0, 1) := by decide +kernel
theorem dX9_rankOf_7 : decode cX9_rankOf 7 = .ok (.getfield 51, 3) := by decide +kernel
theorem dX9_rankOf_10 : decode cX9_rankOf 10 = .ok (.imul, 1) := by decide +kernel
theorem dX9_rankOf_11 : decode cX9_rankOf 11 = .ok (.iload_n 1, 1) := by decide +kernel
theorem dX9_rankOf_12 : decode cX9_rankOf 12 = .ok (.iadd, 1) := by decide +kernel
theorem dX9_rankOf_13 : decode cX9_rankOf 13 = .ok (.iaload, 1) := by decide +kernel
theorem dX9_rankOf_14 : decode cX9_rankOf 14 = .ok (.ireturn, 1) := by decide +kernel
theorem dX9_copies_0 : decode cX9_copies 0 = .ok (.aload_n 0, 1) := by decide +kernel
theorem dX9_copies_1 : decode cX9_copies 1 = .ok (.getfield 159, 3) := by decide +kernel
theorem dX9_copies_4 : decode cX9_copies 4 = .ok (.iload_n 1, 1) := by decide +kernel
theorem dX9_copies_5 : decode cX9_copies 5 = .ok (.aload_n 0, 1) := by decide +kernel
theorem dX9_copies_6 : decode cX9_copies 6 = .ok (.getfield 159, 3) := by decide +kernel
theorem dX9_copies_9 : decode cX9_copies 9 = .ok (.iload_n 2, 1) := by decide +kernel
theorem dX9_copies_10 : decode cX9_copies 10 = .ok (.iaload, 1) := by decide +kernel
theorem dX9_copies_11 : decode cX9_copies 11 = .ok (.iastore, 1) := by decide +kernel
theorem dX9_copies_12 : decode cX9_copies 12 = .ok (.iconst 0, 1) := by decide +kernel
theorem dX9_copies_13 : decode cX9_copies 13 = .ok (.istore_n 3, 1) := by decide +kernel
theorem dX9_copies_14 : decode cX9_copies 14 = .ok (.iload_n 3, 1) := by decide +kernel
theorem dX9_copies_15 : decode cX9_copies 15 = .ok (.bipush 12, 2) := by decide +kernel
theorem dX9_copies_17 : decode cX9_copies 17 = .ok (.if_icmp .ge 75, 3) := by decide +kernel
theorem dX9_copies_20 : decode cX9_copies 20 = .ok (.aload_n 0, 1) := by decide +kernel
theorem dX9_copies_21 : decode cX9_copies 21 = .ok (.getfield 162, 3) := by decide +kernel
theorem dX9_copies_24 : decode cX9_copies 24 = .ok (.bipush 12, 2) := by decide +kernel
theorem dX9_copies_26 : decode cX9_copies 26 = .ok (.iload_n 1, 1) := by decide +kernel
theorem dX9_copies_27 : decode cX9_copies 27 = .ok (.imul, 1) := by decide +kernel
theorem dX9_copies_28 : decode cX9_copies 28 = .ok (.iload_n 3, 1) := by decide +kernel
theorem dX9_copies_29 : decode cX9_copies 29 = .ok (.iadd, 1) := by decide +kernel
theorem dX9_copies_30 : decode cX9_copies 30 = .ok (.aload_n 0, 1) := by decide +kernel
theorem dX9_copies_31 : decode cX9_copies 31 = .ok (.getfield 162, 3) := by decide +kernel
theorem dX9_copies_34 : decode cX9_copies 34 = .ok (.bipush 12, 2) := by decide +kernel
theorem dX9_copies_36 : decode cX9_copies 36 = .ok (.iload_n 2, 1) := by decide +kernel
theorem dX9_copies_37 : decode cX9_copies 37 = .ok (.imul, 1) := by decide +kernel
theorem dX9_copies_38 : decode cX9_copies 38 = .ok (.iload_n 3, 1) := by decide +kernel
theorem dX9_copies_39 : decode cX9_copies 39 = .ok (.iadd, 1) := by decide +kernel
theorem dX9_copies_40 : decode cX9_copies 40 = .ok (.iaload, 1) := by decide +kernel
theorem dX9_copies_41 : decode cX9_copies 41 = .ok (.iastore, 1) := by decide +kernel
theorem dX9_copies_42 : decode cX9_copies 42 = .ok (.aload_n 0, 1) := by decide +kernel
theorem dX9_copies_43 : decode cX9_copies 43 = .ok (.getfield 165, 3) := by decide +kernel
theorem dX9_copies_46 : decode cX9_copies 46 = .ok (.bipush 12, 2) := by decide +kernel
theorem dX9_copies_48 : decode cX9_copies 48 = .ok (.iload_n 1, 1) := by decide +kernel
theorem dX9_copies_49 : decode cX9_copies 49 = .ok (.imul, 1) := by decide +kernel
theorem dX9_copies_50 : decode cX9_copies 50 = .ok (.iload_n 3, 1) := by decide +kernel
theorem dX9_copies_51 : decode cX9_copies 51 = .ok (.iadd, 1) := by decide +kernel
theorem dX9_copies_52 : decode cX9_copies 52 = .ok (.aload_n 0, 1) := by decide +kernel
theorem dX9_copies_53 : decode cX9_copies 53 = .ok (.getfield 165, 3) := by decide +kernel
theorem dX9_copies_56 : decode cX9_copies 56 = .ok (.bipush 12, 2) := by decide +kernel
theorem dX9_copies_58 : decode cX9_copies 58 = .ok (.iload_n 2, 1) := by decide +kernel
theorem dX9_copies_59 : decode cX9_copies 59 = .ok (.imul, 1) := by decide +kernel
theorem dX9_copies_60 : decode cX9_copies 60 = .ok (.iload_n 3, 1) := by decide +kernel
theorem dX9_copies_61 : decode cX9_copies 61 = .ok (.iadd, 1) := by decide +kernel
theorem dX9_copies_62 : decode cX9_copies 62 = .ok (.iaload, 1) := by decide +kernel
theorem dX9_copies_63 : decode cX9_copies 63 = .ok (.iastore, 1) := by decide +kernel
theorem dX9_copies_64 : decode cX9_copies 64 = .ok (.aload_n 0, 1) := by decide +kernel
theorem dX9_copies_65 : decode cX9_copies 65 = .ok (.getfield 168, 3) := by decide +kernel
theorem dX9_copies_68 : decode cX9_copies 68 = .ok (.bipush 12, 2) := by decide +kernel
theorem dX9_copies_70 : decode cX9_copies 70 = .ok (.iload_n 1, 1) := by decide +kernel
theorem dX9_copies_71 : decode cX9_copies 71 = .ok (.imul, 1) := by decide +kernel
theorem dX9_copies_72 : decode cX9_copies 72 = .ok (.iload_n 3, 1) := by decide +kernel
theorem dX9_copies_73 : decode cX9_copies 73 = .ok (.iadd, 1) := by decide +kernel
theorem dX9_copies_74 : decode cX9_copies 74 = .ok (.aload_n 0, 1) := by decide +kernel
theorem dX9_copies_75 : decode cX9_copies 75 = .ok (.getfield 168, 3) := by decide +kernel
theorem dX9_copies_78 : decode cX9_copies 78 = .ok (.bipush 12, 2) := by decide +kernel
theorem dX9_copies_80 : decode cX9_copies 80 = .ok (.iload_n 2, 1) := by decide +kernel
theorem dX9_copies_81 : decode cX9_copies 81 = .ok (.imul, 1) := by decide +kernel
theorem dX9_copies_82 : decode cX9_copies 82 = .ok (.iload_n 3, 1) := by decide +kernel
theorem dX9_copies_83 : decode cX9_copies 83 = .ok (.iadd, 1) := by decide +kernel
theorem dX9_copies_84 : decode cX9_copies 84 = .ok (.iaload, 1) := by decide +kernel
theorem dX9_copies_85 : decode cX9_copies 85 = .ok (.iastore, 1) := by decide +kernel
theorem dX9_copies_86 : decode cX9_copies 86 = .ok (.iinc 3 1, 3) := by decide +kernel
theorem dX9_copies_89 : decode cX9_copies 89 = .ok (.goto (-75), 3) := by decide +kernel
theorem dX9_copies_92 : decode cX9_copies 92 = .ok (.iconst 0, 1) := by decide +kernel
theorem dX9_copies_93 : decode cX9_copies 93 = .ok (.istore_n 3, 1) := by decide +kernel
theorem dX9_copies_94 : decode cX9_copies 94 = .ok (.iload_n 3, 1) := by decide +kernel
theorem dX9_copies_95 : decode cX9_copies 95 = .ok (.bipush 120, 2) := by decide +kernel
theorem dX9_copies_97 : decode cX9_copies 97 = .ok (.if_icmp .ge 31, 3) := by decide +kernel
theorem dX9_copies_100 : decode cX9_copies 100 = .ok (.aload_n 0, 1) := by decide +kernel
theorem dX9_copies_101 : decode cX9_copies 101 = .ok (.getfield 171, 3) := by decide +kernel
theorem dX9_copies_104 : decode cX9_copies 104 = .ok (.bipush 120, 2) := by decide +kernel
theorem dX9_copies_106 : decode cX9_copies 106 = .ok (.iload_n 1, 1) := by decide +kernel
theorem dX9_copies_107 : decode cX9_copies 107 = .ok (.imul, 1) := by decide +kernel
theorem dX9_copies_108 : decode cX9_copies 108 = .ok (.iload_n 3, 1) := by decide +kernel
theorem dX9_copies_109 : decode cX9_copies 109 = .ok (.iadd, 1) := by decide +kernel
theorem dX9_copies_110 : decode cX9_copies 110 = .ok (.aload_n 0, 1) := by decide +kernel
theorem dX9_copies_111 : decode cX9_copies 111 = .ok (.getfield 171, 3) := by decide +kernel
theorem dX9_copies_114 : decode cX9_copies 114 = .ok (.bipush 120, 2) := by decide +kernel
theorem dX9_copies_116 : decode cX9_copies 116 = .ok (.iload_n 2, 1) := by decide +kernel
theorem dX9_copies_117 : decode cX9_copies 117 = .ok (.imul, 1) := by decide +kernel
theorem dX9_copies_118 : decode cX9_copies 118 = .ok (.iload_n 3, 1) := by decide +kernel
theorem dX9_copies_119 : decode cX9_copies 119 = .ok (.iadd, 1) := by decide +kernel
theorem dX9_copies_120 : decode cX9_copies 120 = .ok (.iaload, 1) := by decide +kernel
theorem dX9_copies_121 : decode cX9_copies 121 = .ok (.iastore, 1) := by decide +kernel
theorem dX9_copies_122 : decode cX9_copies 122 = .ok (.iinc 3 1, 3) := by decide +kernel
theorem dX9_copies_125 : decode cX9_copies 125 = .ok (.goto (-31), 3) := by decide +kernel
theorem dX9_copies_128 : decode cX9_copies 128 = .ok (.return_, 1) := by decide +kernel
theorem dX9_begin_0 : decode cX9_begin 0 = .ok (.aload_n 0, 1) := by decide +kernel
theorem dX9_begin_1 : decode cX9_begin 1 = .ok (.getfield 159, 3) := by decide +kernel
theorem dX9_begin_4 : decode cX9_begin 4 = .ok (.iconst 0, 1) := by decide +kernel
theorem dX9_begin_5 : decode cX9_begin 5 = .ok (.iconst 0, 1) := by decide +kernel
theorem dX9_begin_6 : decode cX9_begin 6 = .ok (.iastore, 1) := by decide +kernel
theorem dX9_begin_7 : decode cX9_begin 7 = .ok (.aload_n 0, 1) := by decide +kernel
theorem dX9_begin_8 : decode cX9_begin 8 = .ok (.iconst 0, 1) := by decide +kernel
theorem dX9_begin_9 : decode cX9_begin 9 = .ok (.putfield 177, 3) := by decide +kernel
theorem dX9_begin_12 : decode cX9_begin 12 = .ok (.aload_n 0, 1) := by decide +kernel
theorem dX9_begin_13 : decode cX9_begin 13 = .ok (.iconst 0, 1) := by decide +kernel
theorem dX9_begin_14 : decode cX9_begin 14 = .ok (.putfield 216, 3) := by decide +kernel
theorem dX9_begin_17 : decode cX9_begin 17 = .ok (.iconst 0, 1) := by decide +kernel
theorem dX9_begin_18 : decode cX9_begin 18 = .ok (.istore_n 1, 1) := by decide +kernel
theorem dX9_begin_19 : decode cX9_begin 19 = .ok (.iload_n 1, 1) := by decide +kernel
theorem dX9_begin_20 : decode cX9_begin 20 = .ok (.bipush 12, 2) := by decide +kernel
theorem dX9_begin_22 : decode cX9_begin 22 = .ok (.if_icmp .ge 69, 3) := by decide +kernel
theorem dX9_begin_25 : decode cX9_begin 25 = .ok (.aload_n 0, 1) := by decide +kernel
theorem dX9_begin_26 : decode cX9_begin 26 = .ok (.getfield 162, 3) := by decide +kernel
theorem dX9_begin_29 : decode cX9_begin 29 = .ok (.iload_n 1, 1) := by decide +kernel
theorem dX9_begin_30 : decode cX9_begin 30 = .ok (.aload_n 0, 1) := by decide +kernel
theorem dX9_begin_31 : decode cX9_begin 31 = .ok (.getfield 66, 3) := by decide +kernel
theorem dX9_begin_34 : decode cX9_begin 34 = .ok (.bipush 12, 2) := by decide +kernel
theorem dX9_begin_36 : decode cX9_begin 36 = .ok (.aload_n 0, 1) := by decide +kernel
theorem dX9_begin_37 : decode cX9_begin 37 = .ok (.getfield 51, 3) := by decide +kernel
theorem dX9_begin_40 : decode cX9_begin 40 = .ok (.imul, 1) := by decide +kernel
theorem dX9_begin_41 : decode cX9_begin 41 = .ok (.iload_n 1, 1) := by decide +kernel
theorem dX9_begin_42 : decode cX9_begin 42 = .ok (.iadd, 1) := by decide +kernel
theorem dX9_begin_43 : decode cX9_begin 43 = .ok (.iaload, 1) := by decide +kernel
theorem dX9_begin_44 : decode cX9_begin 44 = .ok (.iastore, 1) := by decide +kernel
theorem dX9_begin_45 : decode cX9_begin 45 = .ok (.aload_n 0, 1) := by decide +kernel
theorem dX9_begin_46 : decode cX9_begin 46 = .ok (.getfield 165, 3) := by decide +kernel
theorem dX9_begin_49 : decode cX9_begin 49 = .ok (.iload_n 1, 1) := by decide +kernel
theorem dX9_begin_50 : decode cX9_begin 50 = .ok (.aload_n 0, 1) := by decide +kernel
theorem dX9_begin_51 : decode cX9_begin 51 = .ok (.getfield 69, 3) := by decide +kernel
theorem dX9_begin_54 : decode cX9_begin 54 = .ok (.bipush 12, 2) := by decide +kernel
theorem dX9_begin_56 : decode cX9_begin 56 = .ok (.aload_n 0, 1) := by decide +kernel
theorem dX9_begin_57 : decode cX9_begin 57 = .ok (.getfield 51, 3) := by decide +kernel
theorem dX9_begin_60 : decode cX9_begin 60 = .ok (.imul, 1) := by decide +kernel
theorem dX9_begin_61 : decode cX9_begin 61 = .ok (.iload_n 1, 1) := by decide +kernel
theorem dX9_begin_62 : decode cX9_begin 62 = .ok (.iadd, 1) := by decide +kernel
theorem dX9_begin_63 : decode cX9_begin 63 = .ok (.iaload, 1) := by decide +kernel
theorem dX9_begin_64 : decode cX9_begin 64 = .ok (.iastore, 1) := by decide +kernel
theorem dX9_begin_65 : decode cX9_begin 65 = .ok (.aload_n 0, 1) := by decide +kernel
theorem dX9_begin_66 : decode cX9_begin 66 = .ok (.getfield 168, 3) := by decide +kernel
theorem dX9_begin_69 : decode cX9_begin 69 = .ok (.iload_n 1, 1) := by decide +kernel
theorem dX9_begin_70 : decode cX9_begin 70 = .ok (.aload_n 0, 1) := by decide +kernel
theorem dX9_begin_71 : decode cX9_begin 71 = .ok (.getfield 72, 3) := by decide +kernel
theorem dX9_begin_74 : decode cX9_begin 74 = .ok (.bipush 12, 2) := by decide +kernel
theorem dX9_begin_76 : decode cX9_begin 76 = .ok (.aload_n 0, 1) := by decide +kernel
theorem dX9_begin_77 : decode cX9_begin 77 = .ok (.getfield 51, 3) := by decide +kernel
theorem dX9_begin_80 : decode cX9_begin 80 = .ok (.imul, 1) := by decide +kernel
theorem dX9_begin_81 : decode cX9_begin 81 = .ok (.iload_n 1, 1) := by decide +kernel
theorem dX9_begin_82 : decode cX9_begin 82 = .ok (.iadd, 1) := by decide +kernel
theorem dX9_begin_83 : decode cX9_begin 83 = .ok (.iaload, 1) := by decide +kernel
theorem dX9_begin_84 : decode cX9_begin 84 = .ok (.iastore, 1) := by decide +kernel
theorem dX9_begin_85 : decode cX9_begin 85 = .ok (.iinc 1 1, 3) := by decide +kernel
theorem dX9_begin_88 : decode cX9_begin 88 = .ok (.goto (-69), 3) := by decide +kernel
theorem dX9_begin_91 : decode cX9_begin 91 = .ok (.iconst 0, 1) := by decide +kernel
theorem dX9_begin_92 : decode cX9_begin 92 = .ok (.istore_n 1, 1) := by decide +kernel
theorem dX9_begin_93 : decode cX9_begin 93 = .ok (.iload_n 1, 1) := by decide +kernel
theorem dX9_begin_94 : decode cX9_begin 94 = .ok (.bipush 120, 2) := by decide +kernel
theorem dX9_begin_96 : decode cX9_begin 96 = .ok (.if_icmp .ge 16, 3) := by decide +kernel
theorem dX9_begin_99 : decode cX9_begin 99 = .ok (.aload_n 0, 1) := by decide +kernel
theorem dX9_begin_100 : decode cX9_begin 100 = .ok (.getfield 171, 3) := by decide +kernel
theorem dX9_begin_103 : decode cX9_begin 103 = .ok (.iload_n 1, 1) := by decide +kernel
theorem dX9_begin_104 : decode cX9_begin 104 = .ok (.iconst 0, 1) := by decide +kernel
theorem dX9_begin_105 : decode cX9_begin 105 = .ok (.iastore, 1) := by decide +kernel
theorem dX9_begin_106 : decode cX9_begin 106 = .ok (.iinc 1 1, 3) := by decide +kernel
theorem dX9_begin_109 : decode cX9_begin 109 = .ok (.goto (-16), 3) := by decide +kernel
theorem dX9_begin_112 : decode cX9_begin 112 = .ok (.return_, 1) := by decide +kernel
theorem dX9_ring_0 : decode cX9_ring 0 = .ok (.iconst 2, 1) := by decide +kernel
theorem dX9_ring_1 : decode cX9_ring 1 = .ok (.aload_n 0, 1) := by decide +kernel
theorem dX9_ring_2 : decode cX9_ring 2 = .ok (.getfield 174, 3) := by decide +kernel
theorem dX9_ring_5 : decode cX9_ring 5 = .ok (.iload_n 1, 1) := by decide +kernel
theorem dX9_ring_6 : decode cX9_ring 6 = .ok (.iadd, 1) := by decide +kernel
theorem dX9_ring_7 : decode cX9_ring 7 = .ok (.bipush 20, 2) := by decide +kernel
theorem dX9_ring_9 : decode cX9_ring 9 = .ok (.irem, 1) := by decide +kernel
theorem dX9_ring_10 : decode cX9_ring 10 = .ok (.iadd, 1) := by decide +kernel
theorem dX9_ring_11 : decode cX9_ring 11 = .ok (.ireturn, 1) := by decide +kernel
theorem dX9_keeps_0 : decode cX9_keeps 0 = .ok (.aload_n 0, 1) := by decide +kernel
theorem dX9_keeps_1 : decode cX9_keeps 1 = .ok (.getfield 177, 3) := by decide +kernel
theorem dX9_keeps_4 : decode cX9_keeps 4 = .ok (.bipush 20, 2) := by decide +kernel
theorem dX9_keeps_6 : decode cX9_keeps 6 = .ok (.if_icmp .ne 26, 3) := by decide +kernel
theorem dX9_keeps_9 : decode cX9_keeps 9 = .ok (.aload_n 0, 1) := by decide +kernel
theorem dX9_keeps_10 : decode cX9_keeps 10 = .ok (.aload_n 0, 1) := by decide +kernel
theorem dX9_keeps_11 : decode cX9_keeps 11 = .ok (.getfield 174, 3) := by decide +kernel
theorem dX9_keeps_14 : decode cX9_keeps 14 = .ok (.iconst 1, 1) := by decide +kernel
theorem dX9_keeps_15 : decode cX9_keeps 15 = .ok (.iadd, 1) := by decide +kernel
theorem dX9_keeps_16 : decode cX9_keeps 16 = .ok (.bipush 20, 2) := by decide +kernel
theorem dX9_keeps_18 : decode cX9_keeps 18 = .ok (.irem, 1) := by decide +kernel
theorem dX9_keeps_19 : decode cX9_keeps 19 = .ok (.putfield 174, 3) := by decide +kernel
theorem dX9_keeps_22 : decode cX9_keeps 22 = .ok (.aload_n 0, 1) := by decide +kernel
theorem dX9_keeps_23 : decode cX9_keeps 23 = .ok (.dup, 1) := by decide +kernel
theorem dX9_keeps_24 : decode cX9_keeps 24 = .ok (.getfield 177, 3) := by decide +kernel
theorem dX9_keeps_27 : decode cX9_keeps 27 = .ok (.iconst 1, 1) := by decide +kernel
theorem dX9_keeps_28 : decode cX9_keeps 28 = .ok (.isub, 1) := by decide +kernel
theorem dX9_keeps_29 : decode cX9_keeps 29 = .ok (.putfield 177, 3) := by decide +kernel
theorem dX9_keeps_32 : decode cX9_keeps 32 = .ok (.aload_n 0, 1) := by decide +kernel
theorem dX9_keeps_33 : decode cX9_keeps 33 = .ok (.aload_n 0, 1) := by decide +kernel
theorem dX9_keeps_34 : decode cX9_keeps 34 = .ok (.aload_n 0, 1) := by decide +kernel
theorem dX9_keeps_35 : decode cX9_keeps 35 = .ok (.getfield 177, 3) := by decide +kernel
theorem dX9_keeps_38 : decode cX9_keeps 38 = .ok (.invokevirtual 413, 3) := by decide +kernel
theorem dX9_keeps_41 : decode cX9_keeps 41 = .ok (.iconst 0, 1) := by decide +kernel
theorem dX9_keeps_42 : decode cX9_keeps 42 = .ok (.invokevirtual 416, 3) := by decide +kernel
theorem dX9_keeps_45 : decode cX9_keeps 45 = .ok (.aload_n 0, 1) := by decide +kernel
theorem dX9_keeps_46 : decode cX9_keeps 46 = .ok (.dup, 1) := by decide +kernel
theorem dX9_keeps_47 : decode cX9_keeps 47 = .ok (.getfield 177, 3) := by decide +kernel
theorem dX9_keeps_50 : decode cX9_keeps 50 = .ok (.iconst 1, 1) := by decide +kernel
theorem dX9_keeps_51 : decode cX9_keeps 51 = .ok (.iadd, 1) := by decide +kernel
theorem dX9_keeps_52 : decode cX9_keeps 52 = .ok (.putfield 177, 3) := by decide +kernel
theorem dX9_keeps_55 : decode cX9_keeps 55 = .ok (.return_, 1) := by decide +kernel
theorem dX9_undo_0 : decode cX9_undo 0 = .ok (.aload_n 0, 1) := by decide +kernel
theorem dX9_undo_1 : decode cX9_undo 1 = .ok (.getfield 177, 3) := by decide +kernel
theorem dX9_undo_4 : decode cX9_undo 4 = .ok (.ifCond .ne 17, 3) := by decide +kernel
theorem dX9_undo_7 : decode cX9_undo 7 = .ok (.aload_n 0, 1) := by decide +kernel
theorem dX9_undo_8 : decode cX9_undo 8 = .ok (.iconst 4, 1) := by decide +kernel
theorem dX9_undo_9 : decode cX9_undo 9 = .ok (.invokevirtual 228, 3) := by decide +kernel
theorem dX9_undo_12 : decode cX9_undo 12 = .ok (.ifCond .lt 7, 3) := by decide +kernel
theorem dX9_undo_15 : decode cX9_undo 15 = .ok (.iconst 1, 1) := by decide +kernel
theorem dX9_undo_16 : decode cX9_undo 16 = .ok (.goto 4, 3) := by decide +kernel
theorem dX9_undo_19 : decode cX9_undo 19 = .ok (.iconst 0, 1) := by decide +kernel
theorem dX9_undo_20 : decode cX9_undo 20 = .ok (.ireturn, 1) := by decide +kernel
theorem dX9_undo_21 : decode cX9_undo 21 = .ok (.aload_n 0, 1) := by decide +kernel
theorem dX9_undo_22 : decode cX9_undo 22 = .ok (.dup, 1) := by decide +kernel
theorem dX9_undo_23 : decode cX9_undo 23 = .ok (.getfield 177, 3) := by decide +kernel
theorem dX9_undo_26 : decode cX9_undo 26 = .ok (.iconst 1, 1) := by decide +kernel
theorem dX9_undo_27 : decode cX9_undo 27 = .ok (.isub, 1) := by decide +kernel
theorem dX9_undo_28 : decode cX9_undo 28 = .ok (.putfield 177, 3) := by decide +kernel
theorem dX9_undo_31 : decode cX9_undo 31 = .ok (.aload_n 0, 1) := by decide +kernel
theorem dX9_undo_32 : decode cX9_undo 32 = .ok (.iconst 0, 1) := by decide +kernel
theorem dX9_undo_33 : decode cX9_undo 33 = .ok (.aload_n 0, 1) := by decide +kernel
theorem dX9_undo_34 : decode cX9_undo 34 = .ok (.aload_n 0, 1) := by decide +kernel
theorem dX9_undo_35 : decode cX9_undo 35 = .ok (.getfield 177, 3) := by decide +kernel
theorem dX9_undo_38 : decode cX9_undo 38 = .ok (.invokevirtual 413, 3) := by decide +kernel
theorem dX9_undo_41 : decode cX9_undo 41 = .ok (.invokevirtual 416, 3) := by decide +kernel
theorem dX9_undo_44 : decode cX9_undo 44 = .ok (.iconst 1, 1) := by decide +kernel
theorem dX9_undo_45 : decode cX9_undo 45 = .ok (.ireturn, 1) := by decide +kernel
theorem dX9_heldBy_0 : decode cX9_heldBy 0 = .ok (.iconst 0, 1) := by decide +kernel
theorem dX9_heldBy_1 : decode cX9_heldBy 1 = .ok (.istore_n 3, 1) := by decide +kernel
theorem dX9_heldBy_2 : decode cX9_heldBy 2 = .ok (.iconst 0, 1) := by decide +kernel
theorem dX9_heldBy_3 : decode cX9_heldBy 3 = .ok (.istore 4, 2) := by decide +kernel
theorem dX9_heldBy_5 : decode cX9_heldBy 5 = .ok (.iload 4, 2) := by decide +kernel
theorem dX9_heldBy_7 : decode cX9_heldBy 7 = .ok (.aload_n 0, 1) := by decide +kernel
theorem dX9_heldBy_8 : decode cX9_heldBy 8 = .ok (.getfield 60, 3) := by decide +kernel
theorem dX9_heldBy_11 : decode cX9_heldBy 11 = .ok (.aload_n 0, 1) := by decide +kernel
theorem dX9_heldBy_12 : decode cX9_heldBy 12 = .ok (.getfield 51, 3) := by decide +kernel
theorem dX9_heldBy_15 : decode cX9_heldBy 15 = .ok (.iaload, 1) := by decide +kernel
theorem dX9_heldBy_16 : decode cX9_heldBy 16 = .ok (.if_icmp .ge 36, 3) := by decide +kernel
theorem dX9_heldBy_19 : decode cX9_heldBy 19 = .ok (.iload_n 3, 1) := by decide +kernel
theorem dX9_heldBy_20 : decode cX9_heldBy 20 = .ok (.aload_n 0, 1) := by decide +kernel
theorem dX9_heldBy_21 : decode cX9_heldBy 21 = .ok (.getfield 162, 3) := by decide +kernel
theorem dX9_heldBy_24 : decode cX9_heldBy 24 = .ok (.bipush 12, 2) := by decide +kernel
theorem dX9_heldBy_26 : decode cX9_heldBy 26 = .ok (.iload_n 1, 1) := by decide +kernel
theorem dX9_heldBy_27 : decode cX9_heldBy 27 = .ok (.imul, 1) := by decide +kernel
theorem dX9_heldBy_28 : decode cX9_heldBy 28 = .ok (.iload 4, 2) := by decide +kernel
theorem dX9_heldBy_30 : decode cX9_heldBy 30 = .ok (.iadd, 1) := by decide +kernel
theorem dX9_heldBy_31 : decode cX9_heldBy 31 = .ok (.iaload, 1) := by decide +kernel
theorem dX9_heldBy_32 : decode cX9_heldBy 32 = .ok (.iload_n 2, 1) := by decide +kernel
theorem dX9_heldBy_33 : decode cX9_heldBy 33 = .ok (.if_icmp .ne 10, 3) := by decide +kernel
theorem dX9_heldBy_36 : decode cX9_heldBy 36 = .ok (.iconst 1, 1) := by decide +kernel
theorem dX9_heldBy_37 : decode cX9_heldBy 37 = .ok (.iload 4, 2) := by decide +kernel
theorem dX9_heldBy_39 : decode cX9_heldBy 39 = .ok (.ishl, 1) := by decide +kernel
theorem dX9_heldBy_40 : decode cX9_heldBy 40 = .ok (.goto 4, 3) := by decide +kernel
theorem dX9_heldBy_43 : decode cX9_heldBy 43 = .ok (.iconst 0, 1) := by decide +kernel
theorem dX9_heldBy_44 : decode cX9_heldBy 44 = .ok (.ior, 1) := by decide +kernel
theorem dX9_heldBy_45 : decode cX9_heldBy 45 = .ok (.istore_n 3, 1) := by decide +kernel
theorem dX9_heldBy_46 : decode cX9_heldBy 46 = .ok (.iinc 4 1, 3) := by decide +kernel
theorem dX9_heldBy_49 : decode cX9_heldBy 49 = .ok (.goto (-44), 3) := by decide +kernel
theorem dX9_heldBy_52 : decode cX9_heldBy 52 = .ok (.iload_n 3, 1) := by decide +kernel
theorem dX9_heldBy_53 : decode cX9_heldBy 53 = .ok (.ireturn, 1) := by decide +kernel
theorem dX9_knowing_0 : decode cX9_knowing 0 = .ok (.iconst 0, 1) := by decide +kernel
theorem dX9_knowing_1 : decode cX9_knowing 1 = .ok (.istore_n 3, 1) := by decide +kernel
theorem dX9_knowing_2 : decode cX9_knowing 2 = .ok (.iconst 0, 1) := by decide +kernel
theorem dX9_knowing_3 : decode cX9_knowing 3 = .ok (.istore 4, 2) := by decide +kernel
theorem dX9_knowing_5 : decode cX9_knowing 5 = .ok (.iload 4, 2) := by decide +kernel
theorem dX9_knowing_7 : decode cX9_knowing 7 = .ok (.aload_n 0, 1) := by decide +kernel
theorem dX9_knowing_8 : decode cX9_knowing 8 = .ok (.getfield 60, 3) := by decide +kernel
theorem dX9_knowing_11 : decode cX9_knowing 11 = .ok (.aload_n 0, 1) := by decide +kernel
theorem dX9_knowing_12 : decode cX9_knowing 12 = .ok (.getfield 51, 3) := by decide +kernel
theorem dX9_knowing_15 : decode cX9_knowing 15 = .ok (.iaload, 1) := by decide +kernel
theorem dX9_knowing_16 : decode cX9_knowing 16 = .ok (.if_icmp .ge 39, 3) := by decide +kernel
theorem dX9_knowing_19 : decode cX9_knowing 19 = .ok (.iload_n 3, 1) := by decide +kernel
theorem dX9_knowing_20 : decode cX9_knowing 20 = .ok (.aload_n 0, 1) := by decide +kernel
theorem dX9_knowing_21 : decode cX9_knowing 21 = .ok (.getfield 165, 3) := by decide +kernel
theorem dX9_knowing_24 : decode cX9_knowing 24 = .ok (.bipush 12, 2) := by decide +kernel
theorem dX9_knowing_26 : decode cX9_knowing 26 = .ok (.iload_n 1, 1) := by decide +kernel
theorem dX9_knowing_27 : decode cX9_knowing 27 = .ok (.imul, 1) := by decide +kernel
theorem dX9_knowing_28 : decode cX9_knowing 28 = .ok (.iload 4, 2) := by decide +kernel
theorem dX9_knowing_30 : decode cX9_knowing 30 = .ok (.iadd, 1) := by decide +kernel
theorem dX9_knowing_31 : decode cX9_knowing 31 = .ok (.iaload, 1) := by decide +kernel
theorem dX9_knowing_32 : decode cX9_knowing 32 = .ok (.iload_n 2, 1) := by decide +kernel
theorem dX9_knowing_33 : decode cX9_knowing 33 = .ok (.invokestatic 373, 3) := by decide +kernel
theorem dX9_knowing_36 : decode cX9_knowing 36 = .ok (.ifCond .eq 10, 3) := by decide +kernel
theorem dX9_knowing_39 : decode cX9_knowing 39 = .ok (.iconst 1, 1) := by decide +kernel
theorem dX9_knowing_40 : decode cX9_knowing 40 = .ok (.iload 4, 2) := by decide +kernel
theorem dX9_knowing_42 : decode cX9_knowing 42 = .ok (.ishl, 1) := by decide +kernel
theorem dX9_knowing_43 : decode cX9_knowing 43 = .ok (.goto 4, 3) := by decide +kernel
theorem dX9_knowing_46 : decode cX9_knowing 46 = .ok (.iconst 0, 1) := by decide +kernel
theorem dX9_knowing_47 : decode cX9_knowing 47 = .ok (.ior, 1) := by decide +kernel
theorem dX9_knowing_48 : decode cX9_knowing 48 = .ok (.istore_n 3, 1) := by decide +kernel
theorem dX9_knowing_49 : decode cX9_knowing 49 = .ok (.iinc 4 1, 3) := by decide +kernel
theorem dX9_knowing_52 : decode cX9_knowing 52 = .ok (.goto (-47), 3) := by decide +kernel
theorem dX9_knowing_55 : decode cX9_knowing 55 = .ok (.iload_n 3, 1) := by decide +kernel
theorem dX9_knowing_56 : decode cX9_knowing 56 = .ok (.ireturn, 1) := by decide +kernel
theorem dX9_worthAll_0 : decode cX9_worthAll 0 = .ok (.iconst 0, 1) := by decide +kernel
theorem dX9_worthAll_1 : decode cX9_worthAll 1 = .ok (.istore_n 2, 1) := by decide +kernel
theorem dX9_worthAll_2 : decode cX9_worthAll 2 = .ok (.iconst 0, 1) := by decide +kernel
theorem dX9_worthAll_3 : decode cX9_worthAll 3 = .ok (.istore_n 3, 1) := by decide +kernel
theorem dX9_worthAll_4 : decode cX9_worthAll 4 = .ok (.iload_n 3, 1) := by decide +kernel
theorem dX9_worthAll_5 : decode cX9_worthAll 5 = .ok (.aload_n 0, 1) := by decide +kernel
theorem dX9_worthAll_6 : decode cX9_worthAll 6 = .ok (.getfield 60, 3) := by decide +kernel
theorem dX9_worthAll_9 : decode cX9_worthAll 9 = .ok (.aload_n 0, 1) := by decide +kernel
theorem dX9_worthAll_10 : decode cX9_worthAll 10 = .ok (.getfield 51, 3) := by decide +kernel
theorem dX9_worthAll_13 : decode cX9_worthAll 13 = .ok (.iaload, 1) := by decide +kernel
theorem dX9_worthAll_14 : decode cX9_worthAll 14 = .ok (.if_icmp .ge 29, 3) := by decide +kernel
theorem dX9_worthAll_17 : decode cX9_worthAll 17 = .ok (.iload_n 2, 1) := by decide +kernel
theorem dX9_worthAll_18 : decode cX9_worthAll 18 = .ok (.iload_n 1, 1) := by decide +kernel
theorem dX9_worthAll_19 : decode cX9_worthAll 19 = .ok (.iload_n 3, 1) := by decide +kernel
theorem dX9_worthAll_20 : decode cX9_worthAll 20 = .ok (.invokestatic 373, 3) := by decide +kernel
theorem dX9_worthAll_23 : decode cX9_worthAll 23 = .ok (.ifCond .eq 11, 3) := by decide +kernel
theorem dX9_worthAll_26 : decode cX9_worthAll 26 = .ok (.aload_n 0, 1) := by decide +kernel
theorem dX9_worthAll_27 : decode cX9_worthAll 27 = .ok (.iload_n 3, 1) := by decide +kernel
theorem dX9_worthAll_28 : decode cX9_worthAll 28 = .ok (.invokevirtual 419, 3) := by decide +kernel
theorem dX9_worthAll_31 : decode cX9_worthAll 31 = .ok (.goto 4, 3) := by decide +kernel
theorem dX9_worthAll_34 : decode cX9_worthAll 34 = .ok (.iconst 0, 1) := by decide +kernel
theorem dX9_worthAll_35 : decode cX9_worthAll 35 = .ok (.iadd, 1) := by decide +kernel
theorem dX9_worthAll_36 : decode cX9_worthAll 36 = .ok (.istore_n 2, 1) := by decide +kernel
theorem dX9_worthAll_37 : decode cX9_worthAll 37 = .ok (.iinc 3 1, 3) := by decide +kernel
theorem dX9_worthAll_40 : decode cX9_worthAll 40 = .ok (.goto (-36), 3) := by decide +kernel
theorem dX9_worthAll_43 : decode cX9_worthAll 43 = .ok (.iload_n 2, 1) := by decide +kernel
theorem dX9_worthAll_44 : decode cX9_worthAll 44 = .ok (.ireturn, 1) := by decide +kernel
theorem dX9_part_0 : decode cX9_part 0 = .ok (.iload_n 1, 1) := by decide +kernel
theorem dX9_part_1 : decode cX9_part 1 = .ok (.tableswitch 82 0 6 #[43, 46, 52, 58, 64, 70, 76], 43) := by decide +kernel
theorem dX9_part_44 : decode cX9_part 44 = .ok (.iload_n 2, 1) := by decide +kernel
theorem dX9_part_45 : decode cX9_part 45 = .ok (.i2l, 1) := by decide +kernel
theorem dX9_part_46 : decode cX9_part 46 = .ok (.lreturn, 1) := by decide +kernel
theorem dX9_part_47 : decode cX9_part 47 = .ok (.aload_n 0, 1) := by decide +kernel
theorem dX9_part_48 : decode cX9_part 48 = .ok (.getfield 186, 3) := by decide +kernel
theorem dX9_part_51 : decode cX9_part 51 = .ok (.i2l, 1) := by decide +kernel
theorem dX9_part_52 : decode cX9_part 52 = .ok (.lreturn, 1) := by decide +kernel
theorem dX9_part_53 : decode cX9_part 53 = .ok (.aload_n 0, 1) := by decide +kernel
theorem dX9_part_54 : decode cX9_part 54 = .ok (.getfield 189, 3) := by decide +kernel
theorem dX9_part_57 : decode cX9_part 57 = .ok (.i2l, 1) := by decide +kernel
theorem dX9_part_58 : decode cX9_part 58 = .ok (.lreturn, 1) := by decide +kernel
theorem dX9_part_59 : decode cX9_part 59 = .ok (.aload_n 0, 1) := by decide +kernel
theorem dX9_part_60 : decode cX9_part 60 = .ok (.getfield 192, 3) := by decide +kernel
theorem dX9_part_63 : decode cX9_part 63 = .ok (.i2l, 1) := by decide +kernel
theorem dX9_part_64 : decode cX9_part 64 = .ok (.lreturn, 1) := by decide +kernel
theorem dX9_part_65 : decode cX9_part 65 = .ok (.aload_n 0, 1) := by decide +kernel
theorem dX9_part_66 : decode cX9_part 66 = .ok (.getfield 195, 3) := by decide +kernel
theorem dX9_part_69 : decode cX9_part 69 = .ok (.i2l, 1) := by decide +kernel
theorem dX9_part_70 : decode cX9_part 70 = .ok (.lreturn, 1) := by decide +kernel
theorem dX9_part_71 : decode cX9_part 71 = .ok (.aload_n 0, 1) := by decide +kernel
theorem dX9_part_72 : decode cX9_part 72 = .ok (.getfield 198, 3) := by decide +kernel
theorem dX9_part_75 : decode cX9_part 75 = .ok (.i2l, 1) := by decide +kernel
theorem dX9_part_76 : decode cX9_part 76 = .ok (.lreturn, 1) := by decide +kernel
theorem dX9_part_77 : decode cX9_part 77 = .ok (.aload_n 0, 1) := by decide +kernel
theorem dX9_part_78 : decode cX9_part 78 = .ok (.getfield 201, 3) := by decide +kernel
theorem dX9_part_81 : decode cX9_part 81 = .ok (.i2l, 1) := by decide +kernel
theorem dX9_part_82 : decode cX9_part 82 = .ok (.lreturn, 1) := by decide +kernel
theorem dX9_part_83 : decode cX9_part 83 = .ok (.lconst 1, 1) := by decide +kernel
theorem dX9_part_84 : decode cX9_part 84 = .ok (.lreturn, 1) := by decide +kernel
theorem dX9_held_0 : decode cX9_held 0 = .ok (.lload_n 0, 1) := by decide +kernel
theorem dX9_held_1 : decode cX9_held 1 = .ok (.ldc2_w 422, 3) := by decide +kernel
theorem dX9_held_4 : decode cX9_held 4 = .ok (.lcmp, 1) := by decide +kernel
theorem dX9_held_5 : decode cX9_held 5 = .ok (.ifCond .le 9, 3) := by decide +kernel
theorem dX9_held_8 : decode cX9_held 8 = .ok (.ldc2_w 422, 3) := by decide +kernel
theorem dX9_held_11 : decode cX9_held 11 = .ok (.goto 18, 3) := by decide +kernel
theorem dX9_held_14 : decode cX9_held 14 = .ok (.lload_n 0, 1) := by decide +kernel
theorem dX9_held_15 : decode cX9_held 15 = .ok (.ldc2_w 424, 3) := by decide +kernel
theorem dX9_held_18 : decode cX9_held 18 = .ok (.lcmp, 1) := by decide +kernel
theorem dX9_held_19 : decode cX9_held 19 = .ok (.ifCond .ge 9, 3) := by decide +kernel
theorem dX9_held_22 : decode cX9_held 22 = .ok (.ldc2_w 424, 3) := by decide +kernel
theorem dX9_held_25 : decode cX9_held 25 = .ok (.goto 4, 3) := by decide +kernel
theorem dX9_held_28 : decode cX9_held 28 = .ok (.lload_n 0, 1) := by decide +kernel
theorem dX9_held_29 : decode cX9_held 29 = .ok (.lreturn, 1) := by decide +kernel
theorem dX9_floor_0 : decode cX9_floor 0 = .ok (.lload_n 2, 1) := by decide +kernel
theorem dX9_floor_1 : decode cX9_floor 1 = .ok (.lconst 0, 1) := by decide +kernel
theorem dX9_floor_2 : decode cX9_floor 2 = .ok (.lcmp, 1) := by decide +kernel
theorem dX9_floor_3 : decode cX9_floor 3 = .ok (.ifCond .ne 5, 3) := by decide +kernel
theorem dX9_floor_6 : decode cX9_floor 6 = .ok (.lconst 0, 1) := by decide +kernel
theorem dX9_floor_7 : decode cX9_floor 7 = .ok (.lreturn, 1) := by decide +kernel
theorem dX9_floor_8 : decode cX9_floor 8 = .ok (.lload_n 0, 1) := by decide +kernel
theorem dX9_floor_9 : decode cX9_floor 9 = .ok (.lload_n 2, 1) := by decide +kernel
theorem dX9_floor_10 : decode cX9_floor 10 = .ok (.ldiv, 1) := by decide +kernel
theorem dX9_floor_11 : decode cX9_floor 11 = .ok (.lstore 4, 2) := by decide +kernel
theorem dX9_floor_13 : decode cX9_floor 13 = .ok (.lload_n 0, 1) := by decide +kernel
theorem dX9_floor_14 : decode cX9_floor 14 = .ok (.lload_n 2, 1) := by decide +kernel
theorem dX9_floor_15 : decode cX9_floor 15 = .ok (.lrem, 1) := by decide +kernel
theorem dX9_floor_16 : decode cX9_floor 16 = .ok (.lconst 0, 1) := by decide +kernel
theorem dX9_floor_17 : decode cX9_floor 17 = .ok (.lcmp, 1) := by decide +kernel
theorem dX9_floor_18 : decode cX9_floor 18 = .ok (.ifCond .eq 35, 3) := by decide +kernel
theorem dX9_floor_21 : decode cX9_floor 21 = .ok (.lload_n 0, 1) := by decide +kernel
theorem dX9_floor_22 : decode cX9_floor 22 = .ok (.lconst 0, 1) := by decide +kernel
theorem dX9_floor_23 : decode cX9_floor 23 = .ok (.lcmp, 1) := by decide +kernel
theorem dX9_floor_24 : decode cX9_floor 24 = .ok (.ifCond .ge 7, 3) := by decide +kernel
theorem dX9_floor_27 : decode cX9_floor 27 = .ok (.iconst 1, 1) := by decide +kernel
theorem dX9_floor_28 : decode cX9_floor 28 = .ok (.goto 4, 3) := by decide +kernel
theorem dX9_floor_31 : decode cX9_floor 31 = .ok (.iconst 0, 1) := by decide +kernel
theorem dX9_floor_32 : decode cX9_floor 32 = .ok (.lload_n 2, 1) := by decide +kernel
theorem dX9_floor_33 : decode cX9_floor 33 = .ok (.lconst 0, 1) := by decide +kernel
theorem dX9_floor_34 : decode cX9_floor 34 = .ok (.lcmp, 1) := by decide +kernel
theorem dX9_floor_35 : decode cX9_floor 35 = .ok (.ifCond .ge 7, 3) := by decide +kernel
theorem dX9_floor_38 : decode cX9_floor 38 = .ok (.iconst 1, 1) := by decide +kernel
theorem dX9_floor_39 : decode cX9_floor 39 = .ok (.goto 4, 3) := by decide +kernel
theorem dX9_floor_42 : decode cX9_floor 42 = .ok (.iconst 0, 1) := by decide +kernel
theorem dX9_floor_43 : decode cX9_floor 43 = .ok (.if_icmp .eq 10, 3) := by decide +kernel
theorem dX9_floor_46 : decode cX9_floor 46 = .ok (.lload 4, 2) := by decide +kernel
theorem dX9_floor_48 : decode cX9_floor 48 = .ok (.lconst 1, 1) := by decide +kernel
theorem dX9_floor_49 : decode cX9_floor 49 = .ok (.lsub, 1) := by decide +kernel
theorem dX9_floor_50 : decode cX9_floor 50 = .ok (.goto 5, 3) := by decide +kernel
theorem dX9_floor_53 : decode cX9_floor 53 = .ok (.lload 4, 2) := by decide +kernel
theorem dX9_floor_55 : decode cX9_floor 55 = .ok (.lreturn, 1) := by decide +kernel
theorem dX9_two_0 : decode cX9_two 0 = .ok (.iload_n 0, 1) := by decide +kernel
theorem dX9_two_1 : decode cX9_two 1 = .ok (.tableswitch 176 10 20 #[59, 66, 73, 80, 89, 112, 124, 136, 148, 160, 172], 59) := by decide +kernel
theorem dX9_two_60 : decode cX9_two 60 = .ok (.lload_n 1, 1) := by decide +kernel
theorem dX9_two_61 : decode cX9_two 61 = .ok (.lload_n 3, 1) := by decide +kernel
theorem dX9_two_62 : decode cX9_two 62 = .ok (.ladd, 1) := by decide +kernel
theorem dX9_two_63 : decode cX9_two 63 = .ok (.invokestatic 426, 3) := by decide +kernel
theorem dX9_two_66 : decode cX9_two 66 = .ok (.lreturn, 1) := by decide +kernel
theorem dX9_two_67 : decode cX9_two 67 = .ok (.lload_n 1, 1) := by decide +kernel
theorem dX9_two_68 : decode cX9_two 68 = .ok (.lload_n 3, 1) := by decide +kernel
theorem dX9_two_69 : decode cX9_two 69 = .ok (.lsub, 1) := by decide +kernel
theorem dX9_two_70 : decode cX9_two 70 = .ok (.invokestatic 426, 3) := by decide +kernel
theorem dX9_two_73 : decode cX9_two 73 = .ok (.lreturn, 1) := by decide +kernel
theorem dX9_two_74 : decode cX9_two 74 = .ok (.lload_n 1, 1) := by decide +kernel
theorem dX9_two_75 : decode cX9_two 75 = .ok (.lload_n 3, 1) := by decide +kernel
theorem dX9_two_76 : decode cX9_two 76 = .ok (.lmul, 1) := by decide +kernel
theorem dX9_two_77 : decode cX9_two 77 = .ok (.invokestatic 426, 3) := by decide +kernel
theorem dX9_two_80 : decode cX9_two 80 = .ok (.lreturn, 1) := by decide +kernel
theorem dX9_two_81 : decode cX9_two 81 = .ok (.lload_n 1, 1) := by decide +kernel
theorem dX9_two_82 : decode cX9_two 82 = .ok (.lload_n 3, 1) := by decide +kernel
theorem dX9_two_83 : decode cX9_two 83 = .ok (.invokestatic 430, 3) := by decide +kernel
theorem dX9_two_86 : decode cX9_two 86 = .ok (.invokestatic 426, 3) := by decide +kernel
theorem dX9_two_89 : decode cX9_two 89 = .ok (.lreturn, 1) := by decide +kernel
theorem dX9_two_90 : decode cX9_two 90 = .ok (.lload_n 3, 1) := by decide +kernel
theorem dX9_two_91 : decode cX9_two 91 = .ok (.lconst 0, 1) := by decide +kernel
theorem dX9_two_92 : decode cX9_two 92 = .ok (.lcmp, 1) := by decide +kernel
theorem dX9_two_93 : decode cX9_two 93 = .ok (.ifCond .ne 7, 3) := by decide +kernel
theorem dX9_two_96 : decode cX9_two 96 = .ok (.lconst 0, 1) := by decide +kernel
theorem dX9_two_97 : decode cX9_two 97 = .ok (.goto 15, 3) := by decide +kernel
theorem dX9_two_100 : decode cX9_two 100 = .ok (.lload_n 1, 1) := by decide +kernel
theorem dX9_two_101 : decode cX9_two 101 = .ok (.lload_n 3, 1) := by decide +kernel
theorem dX9_two_102 : decode cX9_two 102 = .ok (.lload_n 1, 1) := by decide +kernel
theorem dX9_two_103 : decode cX9_two 103 = .ok (.lload_n 3, 1) := by decide +kernel
theorem dX9_two_104 : decode cX9_two 104 = .ok (.invokestatic 430, 3) := by decide +kernel
theorem dX9_two_107 : decode cX9_two 107 = .ok (.lmul, 1) := by decide +kernel
theorem dX9_two_108 : decode cX9_two 108 = .ok (.lsub, 1) := by decide +kernel
theorem dX9_two_109 : decode cX9_two 109 = .ok (.invokestatic 426, 3) := by decide +kernel
theorem dX9_two_112 : decode cX9_two 112 = .ok (.lreturn, 1) := by decide +kernel
theorem dX9_two_113 : decode cX9_two 113 = .ok (.lload_n 1, 1) := by decide +kernel
theorem dX9_two_114 : decode cX9_two 114 = .ok (.lload_n 3, 1) := by decide +kernel
theorem dX9_two_115 : decode cX9_two 115 = .ok (.lcmp, 1) := by decide +kernel
theorem dX9_two_116 : decode cX9_two 116 = .ok (.ifCond .ge 7, 3) := by decide +kernel
theorem dX9_two_119 : decode cX9_two 119 = .ok (.lload_n 1, 1) := by decide +kernel
theorem dX9_two_120 : decode cX9_two 120 = .ok (.goto 4, 3) := by decide +kernel
theorem dX9_two_123 : decode cX9_two 123 = .ok (.lload_n 3, 1) := by decide +kernel
theorem dX9_two_124 : decode cX9_two 124 = .ok (.lreturn, 1) := by decide +kernel
theorem dX9_two_125 : decode cX9_two 125 = .ok (.lload_n 1, 1) := by decide +kernel
theorem dX9_two_126 : decode cX9_two 126 = .ok (.lload_n 3, 1) := by decide +kernel
theorem dX9_two_127 : decode cX9_two 127 = .ok (.lcmp, 1) := by decide +kernel
theorem dX9_two_128 : decode cX9_two 128 = .ok (.ifCond .le 7, 3) := by decide +kernel
theorem dX9_two_131 : decode cX9_two 131 = .ok (.lload_n 1, 1) := by decide +kernel
theorem dX9_two_132 : decode cX9_two 132 = .ok (.goto 4, 3) := by decide +kernel
theorem dX9_two_135 : decode cX9_two 135 = .ok (.lload_n 3, 1) := by decide +kernel
theorem dX9_two_136 : decode cX9_two 136 = .ok (.lreturn, 1) := by decide +kernel
theorem dX9_two_137 : decode cX9_two 137 = .ok (.lload_n 1, 1) := by decide +kernel
theorem dX9_two_138 : decode cX9_two 138 = .ok (.lload_n 3, 1) := by decide +kernel
theorem dX9_two_139 : decode cX9_two 139 = .ok (.lcmp, 1) := by decide +kernel
theorem dX9_two_140 : decode cX9_two 140 = .ok (.ifCond .ge 7, 3) := by decide +kernel
theorem dX9_two_143 : decode cX9_two 143 = .ok (.lconst 1, 1) := by decide +kernel
theorem dX9_two_144 : decode cX9_two 144 = .ok (.goto 4, 3) := by decide +kernel
theorem dX9_two_147 : decode cX9_two 147 = .ok (.lconst 0, 1) := by decide +kernel
theorem dX9_two_148 : decode cX9_two 148 = .ok (.lreturn, 1) := by decide +kernel
theorem dX9_two_149 : decode cX9_two 149 = .ok (.lload_n 1, 1) := by decide +kernel
theorem dX9_two_150 : decode cX9_two 150 = .ok (.lload_n 3, 1) := by decide +kernel
theorem dX9_two_151 : decode cX9_two 151 = .ok (.lcmp, 1) := by decide +kernel
theorem dX9_two_152 : decode cX9_two 152 = .ok (.ifCond .le 7, 3) := by decide +kernel
theorem dX9_two_155 : decode cX9_two 155 = .ok (.lconst 1, 1) := by decide +kernel
theorem dX9_two_156 : decode cX9_two 156 = .ok (.goto 4, 3) := by decide +kernel
theorem dX9_two_159 : decode cX9_two 159 = .ok (.lconst 0, 1) := by decide +kernel
theorem dX9_two_160 : decode cX9_two 160 = .ok (.lreturn, 1) := by decide +kernel
theorem dX9_two_161 : decode cX9_two 161 = .ok (.lload_n 1, 1) := by decide +kernel
theorem dX9_two_162 : decode cX9_two 162 = .ok (.lload_n 3, 1) := by decide +kernel
theorem dX9_two_163 : decode cX9_two 163 = .ok (.lcmp, 1) := by decide +kernel
theorem dX9_two_164 : decode cX9_two 164 = .ok (.ifCond .ne 7, 3) := by decide +kernel
theorem dX9_two_167 : decode cX9_two 167 = .ok (.lconst 1, 1) := by decide +kernel
theorem dX9_two_168 : decode cX9_two 168 = .ok (.goto 4, 3) := by decide +kernel
theorem dX9_two_171 : decode cX9_two 171 = .ok (.lconst 0, 1) := by decide +kernel
theorem dX9_two_172 : decode cX9_two 172 = .ok (.lreturn, 1) := by decide +kernel
theorem dX9_two_173 : decode cX9_two 173 = .ok (.lload_n 1, 1) := by decide +kernel
theorem dX9_two_174 : decode cX9_two 174 = .ok (.lload_n 3, 1) := by decide +kernel
theorem dX9_two_175 : decode cX9_two 175 = .ok (.land, 1) := by decide +kernel
theorem dX9_two_176 : decode cX9_two 176 = .ok (.lreturn, 1) := by decide +kernel
theorem dX9_two_177 : decode cX9_two 177 = .ok (.lload_n 1, 1) := by decide +kernel
theorem dX9_two_178 : decode cX9_two 178 = .ok (.lload_n 3, 1) := by decide +kernel
theorem dX9_two_179 : decode cX9_two 179 = .ok (.lor, 1) := by decide +kernel
theorem dX9_two_180 : decode cX9_two 180 = .ok (.lreturn, 1) := by decide +kernel
theorem dX9_reckons_0 : decode cX9_reckons 0 = .ok (.iconst 0, 1) := by decide +kernel
theorem dX9_reckons_1 : decode cX9_reckons 1 = .ok (.istore_n 3, 1) := by decide +kernel
theorem dX9_reckons_2 : decode cX9_reckons 2 = .ok (.sipush 1600, 3) := by decide +kernel
theorem dX9_reckons_5 : decode cX9_reckons 5 = .ok (.aload_n 0, 1) := by decide +kernel
theorem dX9_reckons_6 : decode cX9_reckons 6 = .ok (.getfield 51, 3) := by decide +kernel
theorem dX9_reckons_9 : decode cX9_reckons 9 = .ok (.imul, 1) := by decide +kernel
theorem dX9_reckons_10 : decode cX9_reckons 10 = .ok (.iload_n 1, 1) := by decide +kernel
theorem dX9_reckons_11 : decode cX9_reckons 11 = .ok (.iadd, 1) := by decide +kernel
theorem dX9_reckons_12 : decode cX9_reckons 12 = .ok (.istore 4, 2) := by decide +kernel
theorem dX9_reckons_14 : decode cX9_reckons 14 = .ok (.iload 4, 2) := by decide +kernel
theorem dX9_reckons_16 : decode cX9_reckons 16 = .ok (.sipush 1600, 3) := by decide +kernel
theorem dX9_reckons_19 : decode cX9_reckons 19 = .ok (.aload_n 0, 1) := by decide +kernel
theorem dX9_reckons_20 : decode cX9_reckons 20 = .ok (.getfield 51, 3) := by decide +kernel
theorem dX9_reckons_23 : decode cX9_reckons 23 = .ok (.imul, 1) := by decide +kernel
theorem dX9_reckons_24 : decode cX9_reckons 24 = .ok (.iload_n 2, 1) := by decide +kernel
theorem dX9_reckons_25 : decode cX9_reckons 25 = .ok (.iadd, 1) := by decide +kernel
theorem dX9_reckons_26 : decode cX9_reckons 26 = .ok (.if_icmp .ge 108, 3) := by decide +kernel
theorem dX9_reckons_29 : decode cX9_reckons 29 = .ok (.aload_n 0, 1) := by decide +kernel
theorem dX9_reckons_30 : decode cX9_reckons 30 = .ok (.getfield 102, 3) := by decide +kernel
theorem dX9_reckons_33 : decode cX9_reckons 33 = .ok (.iload 4, 2) := by decide +kernel
theorem dX9_reckons_35 : decode cX9_reckons 35 = .ok (.iaload, 1) := by decide +kernel
theorem dX9_reckons_36 : decode cX9_reckons 36 = .ok (.istore 5, 2) := by decide +kernel
theorem dX9_reckons_38 : decode cX9_reckons 38 = .ok (.iload 5, 2) := by decide +kernel
theorem dX9_reckons_40 : decode cX9_reckons 40 = .ok (.bipush 9, 2) := by decide +kernel
theorem dX9_reckons_42 : decode cX9_reckons 42 = .ok (.if_icmp .gt 28, 3) := by decide +kernel
theorem dX9_reckons_45 : decode cX9_reckons 45 = .ok (.aload_n 0, 1) := by decide +kernel
theorem dX9_reckons_46 : decode cX9_reckons 46 = .ok (.getfield 183, 3) := by decide +kernel
theorem dX9_reckons_49 : decode cX9_reckons 49 = .ok (.iload_n 3, 1) := by decide +kernel
theorem dX9_reckons_50 : decode cX9_reckons 50 = .ok (.aload_n 0, 1) := by decide +kernel
theorem dX9_reckons_51 : decode cX9_reckons 51 = .ok (.iload 5, 2) := by decide +kernel
theorem dX9_reckons_53 : decode cX9_reckons 53 = .ok (.aload_n 0, 1) := by decide +kernel
theorem dX9_reckons_54 : decode cX9_reckons 54 = .ok (.getfield 105, 3) := by decide +kernel
theorem dX9_reckons_57 : decode cX9_reckons 57 = .ok (.iload 4, 2) := by decide +kernel
theorem dX9_reckons_59 : decode cX9_reckons 59 = .ok (.iaload, 1) := by decide +kernel
theorem dX9_reckons_60 : decode cX9_reckons 60 = .ok (.invokevirtual 434, 3) := by decide +kernel
theorem dX9_reckons_63 : decode cX9_reckons 63 = .ok (.lastore, 1) := by decide +kernel
theorem dX9_reckons_64 : decode cX9_reckons 64 = .ok (.iinc 3 1, 3) := by decide +kernel
theorem dX9_reckons_67 : decode cX9_reckons 67 = .ok (.goto 61, 3) := by decide +kernel
theorem dX9_reckons_70 : decode cX9_reckons 70 = .ok (.iload 5, 2) := by decide +kernel
theorem dX9_reckons_72 : decode cX9_reckons 72 = .ok (.bipush 22, 2) := by decide +kernel
theorem dX9_reckons_74 : decode cX9_reckons 74 = .ok (.if_icmp .ne 24, 3) := by decide +kernel
theorem dX9_reckons_77 : decode cX9_reckons 77 = .ok (.aload_n 0, 1) := by decide +kernel
theorem dX9_reckons_78 : decode cX9_reckons 78 = .ok (.getfield 183, 3) := by decide +kernel
theorem dX9_reckons_81 : decode cX9_reckons 81 = .ok (.iload_n 3, 1) := by decide +kernel
theorem dX9_reckons_82 : decode cX9_reckons 82 = .ok (.iconst 1, 1) := by decide +kernel
theorem dX9_reckons_83 : decode cX9_reckons 83 = .ok (.isub, 1) := by decide +kernel
theorem dX9_reckons_84 : decode cX9_reckons 84 = .ok (.lconst 1, 1) := by decide +kernel
theorem dX9_reckons_85 : decode cX9_reckons 85 = .ok (.aload_n 0, 1) := by decide +kernel
theorem dX9_reckons_86 : decode cX9_reckons 86 = .ok (.getfield 183, 3) := by decide +kernel
theorem dX9_reckons_89 : decode cX9_reckons 89 = .ok (.iload_n 3, 1) := by decide +kernel
theorem dX9_reckons_90 : decode cX9_reckons 90 = .ok (.iconst 1, 1) := by decide +kernel
theorem dX9_reckons_91 : decode cX9_reckons 91 = .ok (.isub, 1) := by decide +kernel
theorem dX9_reckons_92 : decode cX9_reckons 92 = .ok (.laload, 1) := by decide +kernel
theorem dX9_reckons_93 : decode cX9_reckons 93 = .ok (.lsub, 1) := by decide +kernel
theorem dX9_reckons_94 : decode cX9_reckons 94 = .ok (.lastore, 1) := by decide +kernel
theorem dX9_reckons_95 : decode cX9_reckons 95 = .ok (.goto 33, 3) := by decide +kernel
theorem dX9_reckons_98 : decode cX9_reckons 98 = .ok (.iinc 3 (-1), 3) := by decide +kernel
theorem dX9_reckons_101 : decode cX9_reckons 101 = .ok (.aload_n 0, 1) := by decide +kernel
theorem dX9_reckons_102 : decode cX9_reckons 102 = .ok (.getfield 183, 3) := by decide +kernel
theorem dX9_reckons_105 : decode cX9_reckons 105 = .ok (.iload_n 3, 1) := by decide +kernel
theorem dX9_reckons_106 : decode cX9_reckons 106 = .ok (.iconst 1, 1) := by decide +kernel
theorem dX9_reckons_107 : decode cX9_reckons 107 = .ok (.isub, 1) := by decide +kernel
theorem dX9_reckons_108 : decode cX9_reckons 108 = .ok (.iload 5, 2) := by decide +kernel
theorem dX9_reckons_110 : decode cX9_reckons 110 = .ok (.aload_n 0, 1) := by decide +kernel
theorem dX9_reckons_111 : decode cX9_reckons 111 = .ok (.getfield 183, 3) := by decide +kernel
theorem dX9_reckons_114 : decode cX9_reckons 114 = .ok (.iload_n 3, 1) := by decide +kernel
theorem dX9_reckons_115 : decode cX9_reckons 115 = .ok (.iconst 1, 1) := by decide +kernel
theorem dX9_reckons_116 : decode cX9_reckons 116 = .ok (.isub, 1) := by decide +kernel
theorem dX9_reckons_117 : decode cX9_reckons 117 = .ok (.laload, 1) := by decide +kernel
theorem dX9_reckons_118 : decode cX9_reckons 118 = .ok (.aload_n 0, 1) := by decide +kernel
theorem dX9_reckons_119 : decode cX9_reckons 119 = .ok (.getfield 183, 3) := by decide +kernel
theorem dX9_reckons_122 : decode cX9_reckons 122 = .ok (.iload_n 3, 1) := by decide +kernel
theorem dX9_reckons_123 : decode cX9_reckons 123 = .ok (.laload, 1) := by decide +kernel
theorem dX9_reckons_124 : decode cX9_reckons 124 = .ok (.invokestatic 438, 3) := by decide +kernel
theorem dX9_reckons_127 : decode cX9_reckons 127 = .ok (.lastore, 1) := by decide +kernel
theorem dX9_reckons_128 : decode cX9_reckons 128 = .ok (.iinc 4 1, 3) := by decide +kernel
theorem dX9_reckons_131 : decode cX9_reckons 131 = .ok (.goto (-117), 3) := by decide +kernel
theorem dX9_reckons_134 : decode cX9_reckons 134 = .ok (.aload_n 0, 1) := by decide +kernel
theorem dX9_reckons_135 : decode cX9_reckons 135 = .ok (.getfield 183, 3) := by decide +kernel
theorem dX9_reckons_138 : decode cX9_reckons 138 = .ok (.iconst 0, 1) := by decide +kernel
theorem dX9_reckons_139 : decode cX9_reckons 139 = .ok (.laload, 1) := by decide +kernel
theorem dX9_reckons_140 : decode cX9_reckons 140 = .ok (.lreturn, 1) := by decide +kernel
theorem dX9_holdsTest_0 : decode cX9_holdsTest 0 = .ok (.aload_n 0, 1) := by decide +kernel
theorem dX9_holdsTest_1 : decode cX9_holdsTest 1 = .ok (.getfield 90, 3) := by decide +kernel
theorem dX9_holdsTest_4 : decode cX9_holdsTest 4 = .ok (.aload_n 0, 1) := by decide +kernel
theorem dX9_holdsTest_5 : decode cX9_holdsTest 5 = .ok (.getfield 51, 3) := by decide +kernel
theorem dX9_holdsTest_8 : decode cX9_holdsTest 8 = .ok (.iaload, 1) := by decide +kernel
theorem dX9_holdsTest_9 : decode cX9_holdsTest 9 = .ok (.iconst (-1), 1) := by decide +kernel
theorem dX9_holdsTest_10 : decode cX9_holdsTest 10 = .ok (.if_icmp .ne 5, 3) := by decide +kernel
theorem dX9_holdsTest_13 : decode cX9_holdsTest 13 = .ok (.iconst 1, 1) := by decide +kernel
theorem dX9_holdsTest_14 : decode cX9_holdsTest 14 = .ok (.ireturn, 1) := by decide +kernel
theorem dX9_holdsTest_15 : decode cX9_holdsTest 15 = .ok (.aload_n 0, 1) := by decide +kernel
theorem dX9_holdsTest_16 : decode cX9_holdsTest 16 = .ok (.aload_n 0, 1) := by decide +kernel
theorem dX9_holdsTest_17 : decode cX9_holdsTest 17 = .ok (.iload_n 1, 1) := by decide +kernel
theorem dX9_holdsTest_18 : decode cX9_holdsTest 18 = .ok (.invokevirtual 419, 3) := by decide +kernel
theorem dX9_holdsTest_21 : decode cX9_holdsTest 21 = .ok (.putfield 186, 3) := by decide +kernel
theorem dX9_holdsTest_24 : decode cX9_holdsTest 24 = .ok (.aload_n 0, 1) := by decide +kernel
theorem dX9_holdsTest_25 : decode cX9_holdsTest 25 = .ok (.aload_n 0, 1) := by decide +kernel
theorem dX9_holdsTest_26 : decode cX9_holdsTest 26 = .ok (.iload_n 2, 1) := by decide +kernel
theorem dX9_holdsTest_27 : decode cX9_holdsTest 27 = .ok (.invokevirtual 442, 3) := by decide +kernel
theorem dX9_holdsTest_30 : decode cX9_holdsTest 30 = .ok (.putfield 189, 3) := by decide +kernel
theorem dX9_holdsTest_33 : decode cX9_holdsTest 33 = .ok (.aload_n 0, 1) := by decide +kernel
theorem dX9_holdsTest_34 : decode cX9_holdsTest 34 = .ok (.aload_n 0, 1) := by decide +kernel
theorem dX9_holdsTest_35 : decode cX9_holdsTest 35 = .ok (.iload_n 3, 1) := by decide +kernel
theorem dX9_holdsTest_36 : decode cX9_holdsTest 36 = .ok (.invokevirtual 442, 3) := by decide +kernel
theorem dX9_holdsTest_39 : decode cX9_holdsTest 39 = .ok (.putfield 192, 3) := by decide +kernel
theorem dX9_holdsTest_42 : decode cX9_holdsTest 42 = .ok (.aload_n 0, 1) := by decide +kernel
theorem dX9_holdsTest_43 : decode cX9_holdsTest 43 = .ok (.iload 4, 2) := by decide +kernel
theorem dX9_holdsTest_45 : decode cX9_holdsTest 45 = .ok (.putfield 195, 3) := by decide +kernel
theorem dX9_holdsTest_48 : decode cX9_holdsTest 48 = .ok (.aload_n 0, 1) := by decide +kernel
theorem dX9_holdsTest_49 : decode cX9_holdsTest 49 = .ok (.iload 6, 2) := by decide +kernel
theorem dX9_holdsTest_51 : decode cX9_holdsTest 51 = .ok (.putfield 198, 3) := by decide +kernel
theorem dX9_holdsTest_54 : decode cX9_holdsTest 54 = .ok (.aload_n 0, 1) := by decide +kernel
theorem dX9_holdsTest_55 : decode cX9_holdsTest 55 = .ok (.iload 5, 2) := by decide +kernel
theorem dX9_holdsTest_57 : decode cX9_holdsTest 57 = .ok (.putfield 201, 3) := by decide +kernel
theorem dX9_holdsTest_60 : decode cX9_holdsTest 60 = .ok (.aload_n 0, 1) := by decide +kernel
theorem dX9_holdsTest_61 : decode cX9_holdsTest 61 = .ok (.aload_n 0, 1) := by decide +kernel
theorem dX9_holdsTest_62 : decode cX9_holdsTest 62 = .ok (.getfield 90, 3) := by decide +kernel
theorem dX9_holdsTest_65 : decode cX9_holdsTest 65 = .ok (.aload_n 0, 1) := by decide +kernel
theorem dX9_holdsTest_66 : decode cX9_holdsTest 66 = .ok (.getfield 51, 3) := by decide +kernel
theorem dX9_holdsTest_69 : decode cX9_holdsTest 69 = .ok (.iaload, 1) := by decide +kernel
theorem dX9_holdsTest_70 : decode cX9_holdsTest 70 = .ok (.aload_n 0, 1) := by decide +kernel
theorem dX9_holdsTest_71 : decode cX9_holdsTest 71 = .ok (.getfield 93, 3) := by decide +kernel
theorem dX9_holdsTest_74 : decode cX9_holdsTest 74 = .ok (.aload_n 0, 1) := by decide +kernel
theorem dX9_holdsTest_75 : decode cX9_holdsTest 75 = .ok (.getfield 51, 3) := by decide +kernel
theorem dX9_holdsTest_78 : decode cX9_holdsTest 78 = .ok (.iaload, 1) := by decide +kernel
theorem dX9_holdsTest_79 : decode cX9_holdsTest 79 = .ok (.invokevirtual 445, 3) := by decide +kernel
theorem dX9_holdsTest_82 : decode cX9_holdsTest 82 = .ok (.lconst 1, 1) := by decide +kernel
theorem dX9_holdsTest_83 : decode cX9_holdsTest 83 = .ok (.lcmp, 1) := by decide +kernel
theorem dX9_holdsTest_84 : decode cX9_holdsTest 84 = .ok (.ifCond .ne 7, 3) := by decide +kernel
theorem dX9_holdsTest_87 : decode cX9_holdsTest 87 = .ok (.iconst 1, 1) := by decide +kernel
theorem dX9_holdsTest_88 : decode cX9_holdsTest 88 = .ok (.goto 4, 3) := by decide +kernel
theorem dX9_holdsTest_91 : decode cX9_holdsTest 91 = .ok (.iconst 0, 1) := by decide +kernel
theorem dX9_holdsTest_92 : decode cX9_holdsTest 92 = .ok (.ireturn, 1) := by decide +kernel
theorem dX9_wouldKnow_0 : decode cX9_wouldKnow 0 = .ok (.aload_n 0, 1) := by decide +kernel
theorem dX9_wouldKnow_1 : decode cX9_wouldKnow 1 = .ok (.getfield 162, 3) := by decide +kernel
theorem dX9_wouldKnow_4 : decode cX9_wouldKnow 4 = .ok (.bipush 12, 2) := by decide +kernel
theorem dX9_wouldKnow_6 : decode cX9_wouldKnow 6 = .ok (.iload_n 1, 1) := by decide +kernel
theorem dX9_wouldKnow_7 : decode cX9_wouldKnow 7 = .ok (.imul, 1) := by decide +kernel
theorem dX9_wouldKnow_8 : decode cX9_wouldKnow 8 = .ok (.iload_n 2, 1) := by decide +kernel
theorem dX9_wouldKnow_9 : decode cX9_wouldKnow 9 = .ok (.iadd, 1) := by decide +kernel
theorem dX9_wouldKnow_10 : decode cX9_wouldKnow 10 = .ok (.iaload, 1) := by decide +kernel
theorem dX9_wouldKnow_11 : decode cX9_wouldKnow 11 = .ok (.istore 4, 2) := by decide +kernel
theorem dX9_wouldKnow_13 : decode cX9_wouldKnow 13 = .ok (.aload_n 0, 1) := by decide +kernel
theorem dX9_wouldKnow_14 : decode cX9_wouldKnow 14 = .ok (.iload_n 2, 1) := by decide +kernel
theorem dX9_wouldKnow_15 : decode cX9_wouldKnow 15 = .ok (.iload 4, 2) := by decide +kernel
theorem dX9_wouldKnow_17 : decode cX9_wouldKnow 17 = .ok (.iload_n 3, 1) := by decide +kernel
theorem dX9_wouldKnow_18 : decode cX9_wouldKnow 18 = .ok (.aload_n 0, 1) := by decide +kernel
theorem dX9_wouldKnow_19 : decode cX9_wouldKnow 19 = .ok (.getfield 165, 3) := by decide +kernel
theorem dX9_wouldKnow_22 : decode cX9_wouldKnow 22 = .ok (.bipush 12, 2) := by decide +kernel
theorem dX9_wouldKnow_24 : decode cX9_wouldKnow 24 = .ok (.iload_n 1, 1) := by decide +kernel
theorem dX9_wouldKnow_25 : decode cX9_wouldKnow 25 = .ok (.imul, 1) := by decide +kernel
theorem dX9_wouldKnow_26 : decode cX9_wouldKnow 26 = .ok (.iload_n 2, 1) := by decide +kernel
theorem dX9_wouldKnow_27 : decode cX9_wouldKnow 27 = .ok (.iadd, 1) := by decide +kernel
theorem dX9_wouldKnow_28 : decode cX9_wouldKnow 28 = .ok (.iaload, 1) := by decide +kernel
theorem dX9_wouldKnow_29 : decode cX9_wouldKnow 29 = .ok (.invokestatic 448, 3) := by decide +kernel
theorem dX9_wouldKnow_32 : decode cX9_wouldKnow 32 = .ok (.aload_n 0, 1) := by decide +kernel
theorem dX9_wouldKnow_33 : decode cX9_wouldKnow 33 = .ok (.iload_n 1, 1) := by decide +kernel
theorem dX9_wouldKnow_34 : decode cX9_wouldKnow 34 = .ok (.iload 4, 2) := by decide +kernel
theorem dX9_wouldKnow_36 : decode cX9_wouldKnow 36 = .ok (.invokevirtual 451, 3) := by decide +kernel
theorem dX9_wouldKnow_39 : decode cX9_wouldKnow 39 = .ok (.invokestatic 448, 3) := by decide +kernel
theorem dX9_wouldKnow_42 : decode cX9_wouldKnow 42 = .ok (.aload_n 0, 1) := by decide +kernel
theorem dX9_wouldKnow_43 : decode cX9_wouldKnow 43 = .ok (.getfield 159, 3) := by decide +kernel
theorem dX9_wouldKnow_46 : decode cX9_wouldKnow 46 = .ok (.iload_n 1, 1) := by decide +kernel
theorem dX9_wouldKnow_47 : decode cX9_wouldKnow 47 = .ok (.iaload, 1) := by decide +kernel
theorem dX9_wouldKnow_48 : decode cX9_wouldKnow 48 = .ok (.invokevirtual 454, 3) := by decide +kernel
theorem dX9_wouldKnow_51 : decode cX9_wouldKnow 51 = .ok (.ireturn, 1) := by decide +kernel
theorem dX9_canPresent_0 : decode cX9_canPresent 0 = .ok (.aload_n 0, 1) := by decide +kernel
theorem dX9_canPresent_1 : decode cX9_canPresent 1 = .ok (.getfield 165, 3) := by decide +kernel
theorem dX9_canPresent_4 : decode cX9_canPresent 4 = .ok (.bipush 12, 2) := by decide +kernel
theorem dX9_canPresent_6 : decode cX9_canPresent 6 = .ok (.iload_n 1, 1) := by decide +kernel
theorem dX9_canPresent_7 : decode cX9_canPresent 7 = .ok (.imul, 1) := by decide +kernel
theorem dX9_canPresent_8 : decode cX9_canPresent 8 = .ok (.iload_n 2, 1) := by decide +kernel
theorem dX9_canPresent_9 : decode cX9_canPresent 9 = .ok (.iadd, 1) := by decide +kernel
theorem dX9_canPresent_10 : decode cX9_canPresent 10 = .ok (.iaload, 1) := by decide +kernel
theorem dX9_canPresent_11 : decode cX9_canPresent 11 = .ok (.aload_n 0, 1) := by decide +kernel
theorem dX9_canPresent_12 : decode cX9_canPresent 12 = .ok (.getfield 168, 3) := by decide +kernel
theorem dX9_canPresent_15 : decode cX9_canPresent 15 = .ok (.bipush 12, 2) := by decide +kernel
theorem dX9_canPresent_17 : decode cX9_canPresent 17 = .ok (.iload_n 1, 1) := by decide +kernel
theorem dX9_canPresent_18 : decode cX9_canPresent 18 = .ok (.imul, 1) := by decide +kernel
theorem dX9_canPresent_19 : decode cX9_canPresent 19 = .ok (.iload_n 2, 1) := by decide +kernel
theorem dX9_canPresent_20 : decode cX9_canPresent 20 = .ok (.iadd, 1) := by decide +kernel
theorem dX9_canPresent_21 : decode cX9_canPresent 21 = .ok (.iaload, 1) := by decide +kernel
theorem dX9_canPresent_22 : decode cX9_canPresent 22 = .ok (.ior, 1) := by decide +kernel
theorem dX9_canPresent_23 : decode cX9_canPresent 23 = .ok (.iload_n 3, 1) := by decide +kernel
theorem dX9_canPresent_24 : decode cX9_canPresent 24 = .ok (.invokestatic 373, 3) := by decide +kernel
theorem dX9_canPresent_27 : decode cX9_canPresent 27 = .ok (.ifCond .ne 7, 3) := by decide +kernel
theorem dX9_canPresent_30 : decode cX9_canPresent 30 = .ok (.iconst 1, 1) := by decide +kernel
theorem dX9_canPresent_31 : decode cX9_canPresent 31 = .ok (.goto 4, 3) := by decide +kernel
theorem dX9_canPresent_34 : decode cX9_canPresent 34 = .ok (.iconst 0, 1) := by decide +kernel
theorem dX9_canPresent_35 : decode cX9_canPresent 35 = .ok (.ireturn, 1) := by decide +kernel
theorem dX9_priceFor_0 : decode cX9_priceFor 0 = .ok (.aload_n 0, 1) := by decide +kernel
theorem dX9_priceFor_1 : decode cX9_priceFor 1 = .ok (.getfield 78, 3) := by decide +kernel
theorem dX9_priceFor_4 : decode cX9_priceFor 4 = .ok (.bipush 10, 2) := by decide +kernel
theorem dX9_priceFor_6 : decode cX9_priceFor 6 = .ok (.aload_n 0, 1) := by decide +kernel
theorem dX9_priceFor_7 : decode cX9_priceFor 7 = .ok (.getfield 51, 3) := by decide +kernel
theorem dX9_priceFor_10 : decode cX9_priceFor 10 = .ok (.imul, 1) := by decide +kernel
theorem dX9_priceFor_11 : decode cX9_priceFor 11 = .ok (.iload_n 1, 1) := by decide +kernel
theorem dX9_priceFor_12 : decode cX9_priceFor 12 = .ok (.iadd, 1) := by decide +kernel
theorem dX9_priceFor_13 : decode cX9_priceFor 13 = .ok (.iaload, 1) := by decide +kernel
theorem dX9_priceFor_14 : decode cX9_priceFor 14 = .ok (.istore_n 3, 1) := by decide +kernel
theorem dX9_priceFor_15 : decode cX9_priceFor 15 = .ok (.aload_n 0, 1) := by decide +kernel
theorem dX9_priceFor_16 : decode cX9_priceFor 16 = .ok (.getfield 96, 3) := by decide +kernel
theorem dX9_priceFor_19 : decode cX9_priceFor 19 = .ok (.aload_n 0, 1) := by decide +kernel
theorem dX9_priceFor_20 : decode cX9_priceFor 20 = .ok (.getfield 51, 3) := by decide +kernel
theorem dX9_priceFor_23 : decode cX9_priceFor 23 = .ok (.iaload, 1) := by decide +kernel
theorem dX9_priceFor_24 : decode cX9_priceFor 24 = .ok (.iconst (-1), 1) := by decide +kernel
theorem dX9_priceFor_25 : decode cX9_priceFor 25 = .ok (.if_icmp .ne 5, 3) := by decide +kernel
theorem dX9_priceFor_28 : decode cX9_priceFor 28 = .ok (.iload_n 3, 1) := by decide +kernel
theorem dX9_priceFor_29 : decode cX9_priceFor 29 = .ok (.ireturn, 1) := by decide +kernel
theorem dX9_priceFor_30 : decode cX9_priceFor 30 = .ok (.aload_n 0, 1) := by decide +kernel
theorem dX9_priceFor_31 : decode cX9_priceFor 31 = .ok (.getfield 81, 3) := by decide +kernel
theorem dX9_priceFor_34 : decode cX9_priceFor 34 = .ok (.bipush 10, 2) := by decide +kernel
theorem dX9_priceFor_36 : decode cX9_priceFor 36 = .ok (.aload_n 0, 1) := by decide +kernel
theorem dX9_priceFor_37 : decode cX9_priceFor 37 = .ok (.getfield 51, 3) := by decide +kernel
theorem dX9_priceFor_40 : decode cX9_priceFor 40 = .ok (.imul, 1) := by decide +kernel
theorem dX9_priceFor_41 : decode cX9_priceFor 41 = .ok (.iload_n 1, 1) := by decide +kernel
theorem dX9_priceFor_42 : decode cX9_priceFor 42 = .ok (.iadd, 1) := by decide +kernel
theorem dX9_priceFor_43 : decode cX9_priceFor 43 = .ok (.iaload, 1) := by decide +kernel
theorem dX9_priceFor_44 : decode cX9_priceFor 44 = .ok (.istore 4, 2) := by decide +kernel
theorem dX9_priceFor_46 : decode cX9_priceFor 46 = .ok (.aload_n 0, 1) := by decide +kernel
theorem dX9_priceFor_47 : decode cX9_priceFor 47 = .ok (.iload_n 3, 1) := by decide +kernel
theorem dX9_priceFor_48 : decode cX9_priceFor 48 = .ok (.putfield 186, 3) := by decide +kernel
theorem dX9_priceFor_51 : decode cX9_priceFor 51 = .ok (.aload_n 0, 1) := by decide +kernel
theorem dX9_priceFor_52 : decode cX9_priceFor 52 = .ok (.aload_n 0, 1) := by decide +kernel
theorem dX9_priceFor_53 : decode cX9_priceFor 53 = .ok (.iload_n 2, 1) := by decide +kernel
theorem dX9_priceFor_54 : decode cX9_priceFor 54 = .ok (.invokevirtual 442, 3) := by decide +kernel
theorem dX9_priceFor_57 : decode cX9_priceFor 57 = .ok (.putfield 189, 3) := by decide +kernel
theorem dX9_priceFor_60 : decode cX9_priceFor 60 = .ok (.aload_n 0, 1) := by decide +kernel
theorem dX9_priceFor_61 : decode cX9_priceFor 61 = .ok (.aload_n 0, 1) := by decide +kernel
theorem dX9_priceFor_62 : decode cX9_priceFor 62 = .ok (.iload 4, 2) := by decide +kernel
theorem dX9_priceFor_64 : decode cX9_priceFor 64 = .ok (.invokevirtual 442, 3) := by decide +kernel
theorem dX9_priceFor_67 : decode cX9_priceFor 67 = .ok (.putfield 192, 3) := by decide +kernel
theorem dX9_priceFor_70 : decode cX9_priceFor 70 = .ok (.aload_n 0, 1) := by decide +kernel
theorem dX9_priceFor_71 : decode cX9_priceFor 71 = .ok (.aload_n 0, 1) := by decide +kernel
theorem dX9_priceFor_72 : decode cX9_priceFor 72 = .ok (.iconst 0, 1) := by decide +kernel
theorem dX9_priceFor_73 : decode cX9_priceFor 73 = .ok (.iload_n 2, 1) := by decide +kernel
theorem dX9_priceFor_74 : decode cX9_priceFor 74 = .ok (.invokevirtual 451, 3) := by decide +kernel
theorem dX9_priceFor_77 : decode cX9_priceFor 77 = .ok (.aload_n 0, 1) := by decide +kernel
theorem dX9_priceFor_78 : decode cX9_priceFor 78 = .ok (.iconst 0, 1) := by decide +kernel
theorem dX9_priceFor_79 : decode cX9_priceFor 79 = .ok (.iload 4, 2) := by decide +kernel
theorem dX9_priceFor_81 : decode cX9_priceFor 81 = .ok (.invokevirtual 458, 3) := by decide +kernel
theorem dX9_priceFor_84 : decode cX9_priceFor 84 = .ok (.iand, 1) := by decide +kernel
theorem dX9_priceFor_85 : decode cX9_priceFor 85 = .ok (.invokestatic 448, 3) := by decide +kernel
theorem dX9_priceFor_88 : decode cX9_priceFor 88 = .ok (.putfield 195, 3) := by decide +kernel
theorem dX9_priceFor_91 : decode cX9_priceFor 91 = .ok (.aload_n 0, 1) := by decide +kernel
theorem dX9_priceFor_92 : decode cX9_priceFor 92 = .ok (.aload_n 0, 1) := by decide +kernel
theorem dX9_priceFor_93 : decode cX9_priceFor 93 = .ok (.getfield 159, 3) := by decide +kernel
theorem dX9_priceFor_96 : decode cX9_priceFor 96 = .ok (.iconst 0, 1) := by decide +kernel
theorem dX9_priceFor_97 : decode cX9_priceFor 97 = .ok (.iaload, 1) := by decide +kernel
theorem dX9_priceFor_98 : decode cX9_priceFor 98 = .ok (.putfield 198, 3) := by decide +kernel
theorem dX9_priceFor_101 : decode cX9_priceFor 101 = .ok (.aload_n 0, 1) := by decide +kernel
theorem dX9_priceFor_102 : decode cX9_priceFor 102 = .ok (.aload_n 0, 1) := by decide +kernel
theorem dX9_priceFor_103 : decode cX9_priceFor 103 = .ok (.iconst 0, 1) := by decide +kernel
theorem dX9_priceFor_104 : decode cX9_priceFor 104 = .ok (.iload_n 2, 1) := by decide +kernel
theorem dX9_priceFor_105 : decode cX9_priceFor 105 = .ok (.invokevirtual 451, 3) := by decide +kernel
theorem dX9_priceFor_108 : decode cX9_priceFor 108 = .ok (.invokestatic 448, 3) := by decide +kernel
theorem dX9_priceFor_111 : decode cX9_priceFor 111 = .ok (.putfield 201, 3) := by decide +kernel
theorem dX9_priceFor_114 : decode cX9_priceFor 114 = .ok (.aload_n 0, 1) := by decide +kernel
theorem dX9_priceFor_115 : decode cX9_priceFor 115 = .ok (.aload_n 0, 1) := by decide +kernel
theorem dX9_priceFor_116 : decode cX9_priceFor 116 = .ok (.getfield 96, 3) := by decide +kernel
theorem dX9_priceFor_119 : decode cX9_priceFor 119 = .ok (.aload_n 0, 1) := by decide +kernel
theorem dX9_priceFor_120 : decode cX9_priceFor 120 = .ok (.getfield 51, 3) := by decide +kernel
theorem dX9_priceFor_123 : decode cX9_priceFor 123 = .ok (.iaload, 1) := by decide +kernel
theorem dX9_priceFor_124 : decode cX9_priceFor 124 = .ok (.aload_n 0, 1) := by decide +kernel
theorem dX9_priceFor_125 : decode cX9_priceFor 125 = .ok (.getfield 99, 3) := by decide +kernel
theorem dX9_priceFor_128 : decode cX9_priceFor 128 = .ok (.aload_n 0, 1) := by decide +kernel
theorem dX9_priceFor_129 : decode cX9_priceFor 129 = .ok (.getfield 51, 3) := by decide +kernel
theorem dX9_priceFor_132 : decode cX9_priceFor 132 = .ok (.iaload, 1) := by decide +kernel
theorem dX9_priceFor_133 : decode cX9_priceFor 133 = .ok (.invokevirtual 445, 3) := by decide +kernel
theorem dX9_priceFor_136 : decode cX9_priceFor 136 = .ok (.lstore 5, 2) := by decide +kernel
theorem dX9_priceFor_138 : decode cX9_priceFor 138 = .ok (.lload 5, 2) := by decide +kernel
theorem dX9_priceFor_140 : decode cX9_priceFor 140 = .ok (.lconst 0, 1) := by decide +kernel
theorem dX9_priceFor_141 : decode cX9_priceFor 141 = .ok (.lcmp, 1) := by decide +kernel
theorem dX9_priceFor_142 : decode cX9_priceFor 142 = .ok (.ifCond .ge 7, 3) := by decide +kernel
theorem dX9_priceFor_145 : decode cX9_priceFor 145 = .ok (.iconst 0, 1) := by decide +kernel
theorem dX9_priceFor_146 : decode cX9_priceFor 146 = .ok (.goto 21, 3) := by decide +kernel
theorem dX9_priceFor_149 : decode cX9_priceFor 149 = .ok (.lload 5, 2) := by decide +kernel
theorem dX9_priceFor_151 : decode cX9_priceFor 151 = .ok (.ldc2_w 461, 3) := by decide +kernel
theorem dX9_priceFor_154 : decode cX9_priceFor 154 = .ok (.lcmp, 1) := by decide +kernel
theorem dX9_priceFor_155 : decode cX9_priceFor 155 = .ok (.ifCond .le 9, 3) := by decide +kernel
theorem dX9_priceFor_158 : decode cX9_priceFor 158 = .ok (.sipush 999, 3) := by decide +kernel
theorem dX9_priceFor_161 : decode cX9_priceFor 161 = .ok (.goto 6, 3) := by decide +kernel
theorem dX9_priceFor_164 : decode cX9_priceFor 164 = .ok (.lload 5, 2) := by decide +kernel
theorem dX9_priceFor_166 : decode cX9_priceFor 166 = .ok (.l2i, 1) := by decide +kernel
theorem dX9_priceFor_167 : decode cX9_priceFor 167 = .ok (.ireturn, 1) := by decide +kernel
theorem dX9_flowOf_0 : decode cX9_flowOf 0 = .ok (.iconst 0, 1) := by decide +kernel
theorem dX9_flowOf_1 : decode cX9_flowOf 1 = .ok (.istore_n 2, 1) := by decide +kernel
theorem dX9_flowOf_2 : decode cX9_flowOf 2 = .ok (.iconst 0, 1) := by decide +kernel
theorem dX9_flowOf_3 : decode cX9_flowOf 3 = .ok (.istore_n 3, 1) := by decide +kernel
theorem dX9_flowOf_4 : decode cX9_flowOf 4 = .ok (.iload_n 3, 1) := by decide +kernel
theorem dX9_flowOf_5 : decode cX9_flowOf 5 = .ok (.aload_n 0, 1) := by decide +kernel
theorem dX9_flowOf_6 : decode cX9_flowOf 6 = .ok (.getfield 60, 3) := by decide +kernel
theorem dX9_flowOf_9 : decode cX9_flowOf 9 = .ok (.aload_n 0, 1) := by decide +kernel
theorem dX9_flowOf_10 : decode cX9_flowOf 10 = .ok (.getfield 51, 3) := by decide +kernel
theorem dX9_flowOf_13 : decode cX9_flowOf 13 = .ok (.iaload, 1) := by decide +kernel
theorem dX9_flowOf_14 : decode cX9_flowOf 14 = .ok (.if_icmp .ge 34, 3) := by decide +kernel
theorem dX9_flowOf_17 : decode cX9_flowOf 17 = .ok (.iload_n 2, 1) := by decide +kernel
theorem dX9_flowOf_18 : decode cX9_flowOf 18 = .ok (.aload_n 0, 1) := by decide +kernel
theorem dX9_flowOf_19 : decode cX9_flowOf 19 = .ok (.iload_n 3, 1) := by decide +kernel
theorem dX9_flowOf_20 : decode cX9_flowOf 20 = .ok (.invokevirtual 419, 3) := by decide +kernel
theorem dX9_flowOf_23 : decode cX9_flowOf 23 = .ok (.aload_n 0, 1) := by decide +kernel
theorem dX9_flowOf_24 : decode cX9_flowOf 24 = .ok (.getfield 165, 3) := by decide +kernel
theorem dX9_flowOf_27 : decode cX9_flowOf 27 = .ok (.bipush 12, 2) := by decide +kernel
theorem dX9_flowOf_29 : decode cX9_flowOf 29 = .ok (.iload_n 1, 1) := by decide +kernel
theorem dX9_flowOf_30 : decode cX9_flowOf 30 = .ok (.imul, 1) := by decide +kernel
theorem dX9_flowOf_31 : decode cX9_flowOf 31 = .ok (.iload_n 3, 1) := by decide +kernel
theorem dX9_flowOf_32 : decode cX9_flowOf 32 = .ok (.iadd, 1) := by decide +kernel
theorem dX9_flowOf_33 : decode cX9_flowOf 33 = .ok (.iaload, 1) := by decide +kernel
theorem dX9_flowOf_34 : decode cX9_flowOf 34 = .ok (.invokestatic 448, 3) := by decide +kernel
theorem dX9_flowOf_37 : decode cX9_flowOf 37 = .ok (.iconst 1, 1) := by decide +kernel
theorem dX9_flowOf_38 : decode cX9_flowOf 38 = .ok (.isub, 1) := by decide +kernel
theorem dX9_flowOf_39 : decode cX9_flowOf 39 = .ok (.imul, 1) := by decide +kernel
theorem dX9_flowOf_40 : decode cX9_flowOf 40 = .ok (.iadd, 1) := by decide +kernel
theorem dX9_flowOf_41 : decode cX9_flowOf 41 = .ok (.istore_n 2, 1) := by decide +kernel
theorem dX9_flowOf_42 : decode cX9_flowOf 42 = .ok (.iinc 3 1, 3) := by decide +kernel
theorem dX9_flowOf_45 : decode cX9_flowOf 45 = .ok (.goto (-41), 3) := by decide +kernel
theorem dX9_flowOf_48 : decode cX9_flowOf 48 = .ok (.iload_n 2, 1) := by decide +kernel
theorem dX9_flowOf_49 : decode cX9_flowOf 49 = .ok (.ireturn, 1) := by decide +kernel
theorem dX9_isUseless_0 : decode cX9_isUseless 0 = .ok (.aload_n 0, 1) := by decide +kernel
theorem dX9_isUseless_1 : decode cX9_isUseless 1 = .ok (.iload_n 1, 1) := by decide +kernel
theorem dX9_isUseless_2 : decode cX9_isUseless 2 = .ok (.iload_n 2, 1) := by decide +kernel
theorem dX9_isUseless_3 : decode cX9_isUseless 3 = .ok (.invokevirtual 451, 3) := by decide +kernel
theorem dX9_isUseless_6 : decode cX9_isUseless 6 = .ok (.istore_n 3, 1) := by decide +kernel
theorem dX9_isUseless_7 : decode cX9_isUseless 7 = .ok (.iconst 0, 1) := by decide +kernel
theorem dX9_isUseless_8 : decode cX9_isUseless 8 = .ok (.istore 4, 2) := by decide +kernel
theorem dX9_isUseless_10 : decode cX9_isUseless 10 = .ok (.iload 4, 2) := by decide +kernel
theorem dX9_isUseless_12 : decode cX9_isUseless 12 = .ok (.aload_n 0, 1) := by decide +kernel
theorem dX9_isUseless_13 : decode cX9_isUseless 13 = .ok (.getfield 60, 3) := by decide +kernel
theorem dX9_isUseless_16 : decode cX9_isUseless 16 = .ok (.aload_n 0, 1) := by decide +kernel
theorem dX9_isUseless_17 : decode cX9_isUseless 17 = .ok (.getfield 51, 3) := by decide +kernel
theorem dX9_isUseless_20 : decode cX9_isUseless 20 = .ok (.iaload, 1) := by decide +kernel
theorem dX9_isUseless_21 : decode cX9_isUseless 21 = .ok (.if_icmp .ge 39, 3) := by decide +kernel
theorem dX9_isUseless_24 : decode cX9_isUseless 24 = .ok (.iload_n 3, 1) := by decide +kernel
theorem dX9_isUseless_25 : decode cX9_isUseless 25 = .ok (.iload 4, 2) := by decide +kernel
theorem dX9_isUseless_27 : decode cX9_isUseless 27 = .ok (.invokestatic 373, 3) := by decide +kernel
theorem dX9_isUseless_30 : decode cX9_isUseless 30 = .ok (.ifCond .eq 24, 3) := by decide +kernel
theorem dX9_isUseless_33 : decode cX9_isUseless 33 = .ok (.aload_n 0, 1) := by decide +kernel
theorem dX9_isUseless_34 : decode cX9_isUseless 34 = .ok (.getfield 165, 3) := by decide +kernel
theorem dX9_isUseless_37 : decode cX9_isUseless 37 = .ok (.bipush 12, 2) := by decide +kernel
theorem dX9_isUseless_39 : decode cX9_isUseless 39 = .ok (.iload_n 1, 1) := by decide +kernel
theorem dX9_isUseless_40 : decode cX9_isUseless 40 = .ok (.imul, 1) := by decide +kernel
theorem dX9_isUseless_41 : decode cX9_isUseless 41 = .ok (.iload 4, 2) := by decide +kernel
theorem dX9_isUseless_43 : decode cX9_isUseless 43 = .ok (.iadd, 1) := by decide +kernel
theorem dX9_isUseless_44 : decode cX9_isUseless 44 = .ok (.iaload, 1) := by decide +kernel
theorem dX9_isUseless_45 : decode cX9_isUseless 45 = .ok (.invokestatic 448, 3) := by decide +kernel
theorem dX9_isUseless_48 : decode cX9_isUseless 48 = .ok (.iconst 1, 1) := by decide +kernel
theorem dX9_isUseless_49 : decode cX9_isUseless 49 = .ok (.if_icmp .le 5, 3) := by decide +kernel
theorem dX9_isUseless_52 : decode cX9_isUseless 52 = .ok (.iconst 0, 1) := by decide +kernel
theorem dX9_isUseless_53 : decode cX9_isUseless 53 = .ok (.ireturn, 1) := by decide +kernel
theorem dX9_isUseless_54 : decode cX9_isUseless 54 = .ok (.iinc 4 1, 3) := by decide +kernel
theorem dX9_isUseless_57 : decode cX9_isUseless 57 = .ok (.goto (-47), 3) := by decide +kernel
theorem dX9_isUseless_60 : decode cX9_isUseless 60 = .ok (.iload_n 3, 1) := by decide +kernel
theorem dX9_isUseless_61 : decode cX9_isUseless 61 = .ok (.ifCond .eq 7, 3) := by decide +kernel
theorem dX9_isUseless_64 : decode cX9_isUseless 64 = .ok (.iconst 1, 1) := by decide +kernel
theorem dX9_isUseless_65 : decode cX9_isUseless 65 = .ok (.goto 4, 3) := by decide +kernel
theorem dX9_isUseless_68 : decode cX9_isUseless 68 = .ok (.iconst 0, 1) := by decide +kernel
theorem dX9_isUseless_69 : decode cX9_isUseless 69 = .ok (.ireturn, 1) := by decide +kernel
theorem dX9_has_0 : decode cX9_has 0 = .ok (.iconst 0, 1) := by decide +kernel
theorem dX9_has_1 : decode cX9_has 1 = .ok (.istore_n 2, 1) := by decide +kernel
theorem dX9_has_2 : decode cX9_has 2 = .ok (.iload_n 1, 1) := by decide +kernel
theorem dX9_has_3 : decode cX9_has 3 = .ok (.tableswitch 264 0 11 #[61, 71, 81, 91, 101, 111, 118, 124, 159, 211, 253, 258], 61) := by decide +kernel
theorem dX9_has_64 : decode cX9_has 64 = .ok (.aload_n 0, 1) := by decide +kernel
theorem dX9_has_65 : decode cX9_has 65 = .ok (.getfield 54, 3) := by decide +kernel
theorem dX9_has_68 : decode cX9_has 68 = .ok (.aload_n 0, 1) := by decide +kernel
theorem dX9_has_69 : decode cX9_has 69 = .ok (.getfield 51, 3) := by decide +kernel
theorem dX9_has_72 : decode cX9_has 72 = .ok (.iaload, 1) := by decide +kernel
theorem dX9_has_73 : decode cX9_has 73 = .ok (.ireturn, 1) := by decide +kernel
theorem dX9_has_74 : decode cX9_has 74 = .ok (.aload_n 0, 1) := by decide +kernel
theorem dX9_has_75 : decode cX9_has 75 = .ok (.getfield 60, 3) := by decide +kernel
theorem dX9_has_78 : decode cX9_has 78 = .ok (.aload_n 0, 1) := by decide +kernel
theorem dX9_has_79 : decode cX9_has 79 = .ok (.getfield 51, 3) := by decide +kernel
theorem dX9_has_82 : decode cX9_has 82 = .ok (.iaload, 1) := by decide +kernel
theorem dX9_has_83 : decode cX9_has 83 = .ok (.ireturn, 1) := by decide +kernel
theorem dX9_has_84 : decode cX9_has 84 = .ok (.aload_n 0, 1) := by decide +kernel
theorem dX9_has_85 : decode cX9_has 85 = .ok (.getfield 75, 3) := by decide +kernel
theorem dX9_has_88 : decode cX9_has 88 = .ok (.aload_n 0, 1) := by decide +kernel
theorem dX9_has_89 : decode cX9_has 89 = .ok (.getfield 51, 3) := by decide +kernel
theorem dX9_has_92 : decode cX9_has 92 = .ok (.iaload, 1) := by decide +kernel
theorem dX9_has_93 : decode cX9_has 93 = .ok (.ireturn, 1) := by decide +kernel
theorem dX9_has_94 : decode cX9_has 94 = .ok (.aload_n 0, 1) := by decide +kernel
theorem dX9_has_95 : decode cX9_has 95 = .ok (.getfield 84, 3) := by decide +kernel
theorem dX9_has_98 : decode cX9_has 98 = .ok (.aload_n 0, 1) := by decide +kernel
theorem dX9_has_99 : decode cX9_has 99 = .ok (.getfield 51, 3) := by decide +kernel
theorem dX9_has_102 : decode cX9_has 102 = .ok (.iaload, 1) := by decide +kernel
theorem dX9_has_103 : decode cX9_has 103 = .ok (.ireturn, 1) := by decide +kernel
theorem dX9_has_104 : decode cX9_has 104 = .ok (.aload_n 0, 1) := by decide +kernel
theorem dX9_has_105 : decode cX9_has 105 = .ok (.getfield 87, 3) := by decide +kernel
theorem dX9_has_108 : decode cX9_has 108 = .ok (.aload_n 0, 1) := by decide +kernel
theorem dX9_has_109 : decode cX9_has 109 = .ok (.getfield 51, 3) := by decide +kernel
theorem dX9_has_112 : decode cX9_has 112 = .ok (.iaload, 1) := by decide +kernel
theorem dX9_has_113 : decode cX9_has 113 = .ok (.ireturn, 1) := by decide +kernel
theorem dX9_has_114 : decode cX9_has 114 = .ok (.aload_n 0, 1) := by decide +kernel
theorem dX9_has_115 : decode cX9_has 115 = .ok (.getfield 159, 3) := by decide +kernel
theorem dX9_has_118 : decode cX9_has 118 = .ok (.iconst 0, 1) := by decide +kernel
theorem dX9_has_119 : decode cX9_has 119 = .ok (.iaload, 1) := by decide +kernel
theorem dX9_has_120 : decode cX9_has 120 = .ok (.ireturn, 1) := by decide +kernel
theorem dX9_has_121 : decode cX9_has 121 = .ok (.aload_n 0, 1) := by decide +kernel
theorem dX9_has_122 : decode cX9_has 122 = .ok (.iconst 0, 1) := by decide +kernel
theorem dX9_has_123 : decode cX9_has 123 = .ok (.invokevirtual 463, 3) := by decide +kernel
theorem dX9_has_126 : decode cX9_has 126 = .ok (.ireturn, 1) := by decide +kernel
theorem dX9_has_127 : decode cX9_has 127 = .ok (.iconst 0, 1) := by decide +kernel
theorem dX9_has_128 : decode cX9_has 128 = .ok (.istore_n 3, 1) := by decide +kernel
theorem dX9_has_129 : decode cX9_has 129 = .ok (.iload_n 3, 1) := by decide +kernel
theorem dX9_has_130 : decode cX9_has 130 = .ok (.aload_n 0, 1) := by decide +kernel
theorem dX9_has_131 : decode cX9_has 131 = .ok (.getfield 60, 3) := by decide +kernel
theorem dX9_has_134 : decode cX9_has 134 = .ok (.aload_n 0, 1) := by decide +kernel
theorem dX9_has_135 : decode cX9_has 135 = .ok (.getfield 51, 3) := by decide +kernel
theorem dX9_has_138 : decode cX9_has 138 = .ok (.iaload, 1) := by decide +kernel
theorem dX9_has_139 : decode cX9_has 139 = .ok (.if_icmp .ge 21, 3) := by decide +kernel
theorem dX9_has_142 : decode cX9_has 142 = .ok (.iload_n 2, 1) := by decide +kernel
theorem dX9_has_143 : decode cX9_has 143 = .ok (.aload_n 0, 1) := by decide +kernel
theorem dX9_has_144 : decode cX9_has 144 = .ok (.getfield 168, 3) := by decide +kernel
theorem dX9_has_147 : decode cX9_has 147 = .ok (.iload_n 3, 1) := by decide +kernel
theorem dX9_has_148 : decode cX9_has 148 = .ok (.iaload, 1) := by decide +kernel
theorem dX9_has_149 : decode cX9_has 149 = .ok (.invokestatic 448, 3) := by decide +kernel
theorem dX9_has_152 : decode cX9_has 152 = .ok (.iadd, 1) := by decide +kernel
theorem dX9_has_153 : decode cX9_has 153 = .ok (.istore_n 2, 1) := by decide +kernel
theorem dX9_has_154 : decode cX9_has 154 = .ok (.iinc 3 1, 3) := by decide +kernel
theorem dX9_has_157 : decode cX9_has 157 = .ok (.goto (-28), 3) := by decide +kernel
theorem dX9_has_160 : decode cX9_has 160 = .ok (.iload_n 2, 1) := by decide +kernel
theorem dX9_has_161 : decode cX9_has 161 = .ok (.ireturn, 1) := by decide +kernel
theorem dX9_has_162 : decode cX9_has 162 = .ok (.iconst 0, 1) := by decide +kernel
theorem dX9_has_163 : decode cX9_has 163 = .ok (.istore_n 3, 1) := by decide +kernel
theorem dX9_has_164 : decode cX9_has 164 = .ok (.iload_n 3, 1) := by decide +kernel
theorem dX9_has_165 : decode cX9_has 165 = .ok (.aload_n 0, 1) := by decide +kernel
theorem dX9_has_166 : decode cX9_has 166 = .ok (.getfield 60, 3) := by decide +kernel
theorem dX9_has_169 : decode cX9_has 169 = .ok (.aload_n 0, 1) := by decide +kernel
theorem dX9_has_170 : decode cX9_has 170 = .ok (.getfield 51, 3) := by decide +kernel
theorem dX9_has_173 : decode cX9_has 173 = .ok (.iaload, 1) := by decide +kernel
theorem dX9_has_174 : decode cX9_has 174 = .ok (.if_icmp .ge 38, 3) := by decide +kernel
theorem dX9_has_177 : decode cX9_has 177 = .ok (.iload_n 2, 1) := by decide +kernel
theorem dX9_has_178 : decode cX9_has 178 = .ok (.aload_n 0, 1) := by decide +kernel
theorem dX9_has_179 : decode cX9_has 179 = .ok (.getfield 165, 3) := by decide +kernel
theorem dX9_has_182 : decode cX9_has 182 = .ok (.iload_n 3, 1) := by decide +kernel
theorem dX9_has_183 : decode cX9_has 183 = .ok (.iaload, 1) := by decide +kernel
theorem dX9_has_184 : decode cX9_has 184 = .ok (.invokestatic 448, 3) := by decide +kernel
theorem dX9_has_187 : decode cX9_has 187 = .ok (.aload_n 0, 1) := by decide +kernel
theorem dX9_has_188 : decode cX9_has 188 = .ok (.getfield 54, 3) := by decide +kernel
theorem dX9_has_191 : decode cX9_has 191 = .ok (.aload_n 0, 1) := by decide +kernel
theorem dX9_has_192 : decode cX9_has 192 = .ok (.getfield 51, 3) := by decide +kernel
theorem dX9_has_195 : decode cX9_has 195 = .ok (.iaload, 1) := by decide +kernel
theorem dX9_has_196 : decode cX9_has 196 = .ok (.if_icmp .ne 7, 3) := by decide +kernel
theorem dX9_has_199 : decode cX9_has 199 = .ok (.iconst 1, 1) := by decide +kernel
theorem dX9_has_200 : decode cX9_has 200 = .ok (.goto 4, 3) := by decide +kernel
theorem dX9_has_203 : decode cX9_has 203 = .ok (.iconst 0, 1) := by decide +kernel
theorem dX9_has_204 : decode cX9_has 204 = .ok (.iadd, 1) := by decide +kernel
theorem dX9_has_205 : decode cX9_has 205 = .ok (.istore_n 2, 1) := by decide +kernel
theorem dX9_has_206 : decode cX9_has 206 = .ok (.iinc 3 1, 3) := by decide +kernel
theorem dX9_has_209 : decode cX9_has 209 = .ok (.goto (-45), 3) := by decide +kernel
theorem dX9_has_212 : decode cX9_has 212 = .ok (.iload_n 2, 1) := by decide +kernel
theorem dX9_has_213 : decode cX9_has 213 = .ok (.ireturn, 1) := by decide +kernel
theorem dX9_has_214 : decode cX9_has 214 = .ok (.iconst 0, 1) := by decide +kernel
theorem dX9_has_215 : decode cX9_has 215 = .ok (.istore_n 3, 1) := by decide +kernel
theorem dX9_has_216 : decode cX9_has 216 = .ok (.iload_n 3, 1) := by decide +kernel
theorem dX9_has_217 : decode cX9_has 217 = .ok (.aload_n 0, 1) := by decide +kernel
theorem dX9_has_218 : decode cX9_has 218 = .ok (.getfield 54, 3) := by decide +kernel
theorem dX9_has_221 : decode cX9_has 221 = .ok (.aload_n 0, 1) := by decide +kernel
theorem dX9_has_222 : decode cX9_has 222 = .ok (.getfield 51, 3) := by decide +kernel
theorem dX9_has_225 : decode cX9_has 225 = .ok (.iaload, 1) := by decide +kernel
theorem dX9_has_226 : decode cX9_has 226 = .ok (.if_icmp .ge 28, 3) := by decide +kernel
theorem dX9_has_229 : decode cX9_has 229 = .ok (.iload_n 2, 1) := by decide +kernel
theorem dX9_has_230 : decode cX9_has 230 = .ok (.aload_n 0, 1) := by decide +kernel
theorem dX9_has_231 : decode cX9_has 231 = .ok (.iconst 0, 1) := by decide +kernel
theorem dX9_has_232 : decode cX9_has 232 = .ok (.iload_n 3, 1) := by decide +kernel
theorem dX9_has_233 : decode cX9_has 233 = .ok (.invokevirtual 466, 3) := by decide +kernel
theorem dX9_has_236 : decode cX9_has 236 = .ok (.ifCond .eq 9, 3) := by decide +kernel
theorem dX9_has_239 : decode cX9_has 239 = .ok (.iconst 1, 1) := by decide +kernel
theorem dX9_has_240 : decode cX9_has 240 = .ok (.iload_n 3, 1) := by decide +kernel
theorem dX9_has_241 : decode cX9_has 241 = .ok (.ishl, 1) := by decide +kernel
theorem dX9_has_242 : decode cX9_has 242 = .ok (.goto 4, 3) := by decide +kernel
theorem dX9_has_245 : decode cX9_has 245 = .ok (.iconst 0, 1) := by decide +kernel
theorem dX9_has_246 : decode cX9_has 246 = .ok (.ior, 1) := by decide +kernel
theorem dX9_has_247 : decode cX9_has 247 = .ok (.istore_n 2, 1) := by decide +kernel
theorem dX9_has_248 : decode cX9_has 248 = .ok (.iinc 3 1, 3) := by decide +kernel
theorem dX9_has_251 : decode cX9_has 251 = .ok (.goto (-35), 3) := by decide +kernel
theorem dX9_has_254 : decode cX9_has 254 = .ok (.iload_n 2, 1) := by decide +kernel
theorem dX9_has_255 : decode cX9_has 255 = .ok (.ireturn, 1) := by decide +kernel
theorem dX9_has_256 : decode cX9_has 256 = .ok (.aload_n 0, 1) := by decide +kernel
theorem dX9_has_257 : decode cX9_has 257 = .ok (.getfield 177, 3) := by decide +kernel
theorem dX9_has_260 : decode cX9_has 260 = .ok (.ireturn, 1) := by decide +kernel
theorem dX9_has_261 : decode cX9_has 261 = .ok (.aload_n 0, 1) := by decide +kernel
theorem dX9_has_262 : decode cX9_has 262 = .ok (.getfield 180, 3) := by decide +kernel
theorem dX9_has_265 : decode cX9_has 265 = .ok (.l2i, 1) := by decide +kernel
theorem dX9_has_266 : decode cX9_has 266 = .ok (.ireturn, 1) := by decide +kernel
theorem dX9_has_267 : decode cX9_has 267 = .ok (.iconst (-1), 1) := by decide +kernel
theorem dX9_has_268 : decode cX9_has 268 = .ok (.ireturn, 1) := by decide +kernel
theorem dX9_letter_0 : decode cX9_letter 0 = .ok (.iload_n 1, 1) := by decide +kernel
theorem dX9_letter_1 : decode cX9_letter 1 = .ok (.iconst 0, 1) := by decide +kernel
theorem dX9_letter_2 : decode cX9_letter 2 = .ok (.iconst 2, 1) := by decide +kernel
theorem dX9_letter_3 : decode cX9_letter 3 = .ok (.invokestatic 314, 3) := by decide +kernel
theorem dX9_letter_6 : decode cX9_letter 6 = .ok (.ifCond .eq 31, 3) := by decide +kernel
theorem dX9_letter_9 : decode cX9_letter 9 = .ok (.iload_n 2, 1) := by decide +kernel
theorem dX9_letter_10 : decode cX9_letter 10 = .ok (.iconst 0, 1) := by decide +kernel
theorem dX9_letter_11 : decode cX9_letter 11 = .ok (.aload_n 0, 1) := by decide +kernel
theorem dX9_letter_12 : decode cX9_letter 12 = .ok (.aload_n 0, 1) := by decide +kernel
theorem dX9_letter_13 : decode cX9_letter 13 = .ok (.getfield 51, 3) := by decide +kernel
theorem dX9_letter_16 : decode cX9_letter 16 = .ok (.iload_n 1, 1) := by decide +kernel
theorem dX9_letter_17 : decode cX9_letter 17 = .ok (.invokevirtual 306, 3) := by decide +kernel
theorem dX9_letter_20 : decode cX9_letter 20 = .ok (.iconst 1, 1) := by decide +kernel
theorem dX9_letter_21 : decode cX9_letter 21 = .ok (.isub, 1) := by decide +kernel
theorem dX9_letter_22 : decode cX9_letter 22 = .ok (.invokestatic 314, 3) := by decide +kernel
theorem dX9_letter_25 : decode cX9_letter 25 = .ok (.ifCond .eq 12, 3) := by decide +kernel
theorem dX9_letter_28 : decode cX9_letter 28 = .ok (.iload_n 3, 1) := by decide +kernel
theorem dX9_letter_29 : decode cX9_letter 29 = .ok (.iconst 0, 1) := by decide +kernel
theorem dX9_letter_30 : decode cX9_letter 30 = .ok (.iconst 5, 1) := by decide +kernel
theorem dX9_letter_31 : decode cX9_letter 31 = .ok (.invokestatic 314, 3) := by decide +kernel
theorem dX9_letter_34 : decode cX9_letter 34 = .ok (.ifCond .ne 5, 3) := by decide +kernel
theorem dX9_letter_37 : decode cX9_letter 37 = .ok (.iconst (-1), 1) := by decide +kernel
theorem dX9_letter_38 : decode cX9_letter 38 = .ok (.ireturn, 1) := by decide +kernel
theorem dX9_letter_39 : decode cX9_letter 39 = .ok (.aload_n 0, 1) := by decide +kernel
theorem dX9_letter_40 : decode cX9_letter 40 = .ok (.aload_n 0, 1) := by decide +kernel
theorem dX9_letter_41 : decode cX9_letter 41 = .ok (.getfield 51, 3) := by decide +kernel
theorem dX9_letter_44 : decode cX9_letter 44 = .ok (.iload_n 1, 1) := by decide +kernel
theorem dX9_letter_45 : decode cX9_letter 45 = .ok (.iload_n 2, 1) := by decide +kernel
theorem dX9_letter_46 : decode cX9_letter 46 = .ok (.invokevirtual 310, 3) := by decide +kernel
theorem dX9_letter_49 : decode cX9_letter 49 = .ok (.lstore 4, 2) := by decide +kernel
theorem dX9_letter_51 : decode cX9_letter 51 = .ok (.iconst 0, 1) := by decide +kernel
theorem dX9_letter_52 : decode cX9_letter 52 = .ok (.istore 6, 2) := by decide +kernel
theorem dX9_letter_54 : decode cX9_letter 54 = .ok (.lload 4, 2) := by decide +kernel
theorem dX9_letter_56 : decode cX9_letter 56 = .ok (.lstore 7, 2) := by decide +kernel
theorem dX9_letter_58 : decode cX9_letter 58 = .ok (.lload 7, 2) := by decide +kernel
theorem dX9_letter_60 : decode cX9_letter 60 = .ok (.lconst 0, 1) := by decide +kernel
theorem dX9_letter_61 : decode cX9_letter 61 = .ok (.lcmp, 1) := by decide +kernel
theorem dX9_letter_62 : decode cX9_letter 62 = .ok (.ifCond .le 16, 3) := by decide +kernel
theorem dX9_letter_65 : decode cX9_letter 65 = .ok (.iinc 6 1, 3) := by decide +kernel
theorem dX9_letter_68 : decode cX9_letter 68 = .ok (.lload 7, 2) := by decide +kernel
theorem dX9_letter_70 : decode cX9_letter 70 = .ok (.bipush 8, 2) := by decide +kernel
theorem dX9_letter_72 : decode cX9_letter 72 = .ok (.lshr, 1) := by decide +kernel
theorem dX9_letter_73 : decode cX9_letter 73 = .ok (.lstore 7, 2) := by decide +kernel
theorem dX9_letter_75 : decode cX9_letter 75 = .ok (.goto (-17), 3) := by decide +kernel
theorem dX9_letter_78 : decode cX9_letter 78 = .ok (.iload_n 3, 1) := by decide +kernel
theorem dX9_letter_79 : decode cX9_letter 79 = .ok (.iload 6, 2) := by decide +kernel
theorem dX9_letter_81 : decode cX9_letter 81 = .ok (.if_icmp .lt 7, 3) := by decide +kernel
theorem dX9_letter_84 : decode cX9_letter 84 = .ok (.iconst 0, 1) := by decide +kernel
theorem dX9_letter_85 : decode cX9_letter 85 = .ok (.goto 25, 3) := by decide +kernel
theorem dX9_letter_88 : decode cX9_letter 88 = .ok (.lload 4, 2) := by decide +kernel
theorem dX9_letter_90 : decode cX9_letter 90 = .ok (.bipush 8, 2) := by decide +kernel
theorem dX9_letter_92 : decode cX9_letter 92 = .ok (.iload 6, 2) := by decide +kernel
theorem dX9_letter_94 : decode cX9_letter 94 = .ok (.iconst 1, 1) := by decide +kernel
theorem dX9_letter_95 : decode cX9_letter 95 = .ok (.isub, 1) := by decide +kernel
theorem dX9_letter_96 : decode cX9_letter 96 = .ok (.iload_n 3, 1) := by decide +kernel
theorem dX9_letter_97 : decode cX9_letter 97 = .ok (.isub, 1) := by decide +kernel
theorem dX9_letter_98 : decode cX9_letter 98 = .ok (.imul, 1) := by decide +kernel
theorem dX9_letter_99 : decode cX9_letter 99 = .ok (.lshr, 1) := by decide +kernel
theorem dX9_letter_100 : decode cX9_letter 100 = .ok (.ldc2_w 469, 3) := by decide +kernel
theorem dX9_letter_103 : decode cX9_letter 103 = .ok (.land, 1) := by decide +kernel
theorem dX9_letter_104 : decode cX9_letter 104 = .ok (.l2i, 1) := by decide +kernel
theorem dX9_letter_105 : decode cX9_letter 105 = .ok (.bipush 97, 2) := by decide +kernel
theorem dX9_letter_107 : decode cX9_letter 107 = .ok (.isub, 1) := by decide +kernel
theorem dX9_letter_108 : decode cX9_letter 108 = .ok (.iconst 1, 1) := by decide +kernel
theorem dX9_letter_109 : decode cX9_letter 109 = .ok (.iadd, 1) := by decide +kernel
theorem dX9_letter_110 : decode cX9_letter 110 = .ok (.ireturn, 1) := by decide +kernel
theorem dX9_person_0 : decode cX9_person 0 = .ok (.aload_n 0, 1) := by decide +kernel
theorem dX9_person_1 : decode cX9_person 1 = .ok (.iload_n 1, 1) := by decide +kernel
theorem dX9_person_2 : decode cX9_person 2 = .ok (.invokevirtual 471, 3) := by decide +kernel
theorem dX9_person_5 : decode cX9_person 5 = .ok (.ifCond .ne 5, 3) := by decide +kernel
theorem dX9_person_8 : decode cX9_person 8 = .ok (.iconst (-1), 1) := by decide +kernel
theorem dX9_person_9 : decode cX9_person 9 = .ok (.ireturn, 1) := by decide +kernel
theorem dX9_person_10 : decode cX9_person 10 = .ok (.iconst 0, 1) := by decide +kernel
theorem dX9_person_11 : decode cX9_person 11 = .ok (.istore_n 3, 1) := by decide +kernel
theorem dX9_person_12 : decode cX9_person 12 = .ok (.iload_n 2, 1) := by decide +kernel
theorem dX9_person_13 : decode cX9_person 13 = .ok (.tableswitch 135 0 5 #[39, 45, 52, 63, 70, 120], 39) := by decide +kernel
theorem dX9_person_52 : decode cX9_person 52 = .ok (.aload_n 0, 1) := by decide +kernel
theorem dX9_person_53 : decode cX9_person 53 = .ok (.iload_n 1, 1) := by decide +kernel
theorem dX9_person_54 : decode cX9_person 54 = .ok (.invokevirtual 442, 3) := by decide +kernel
theorem dX9_person_57 : decode cX9_person 57 = .ok (.ireturn, 1) := by decide +kernel
theorem dX9_person_58 : decode cX9_person 58 = .ok (.aload_n 0, 1) := by decide +kernel
theorem dX9_person_59 : decode cX9_person 59 = .ok (.iconst 0, 1) := by decide +kernel
theorem dX9_person_60 : decode cX9_person 60 = .ok (.iload_n 1, 1) := by decide +kernel
theorem dX9_person_61 : decode cX9_person 61 = .ok (.invokevirtual 451, 3) := by decide +kernel
theorem dX9_person_64 : decode cX9_person 64 = .ok (.ireturn, 1) := by decide +kernel
theorem dX9_person_65 : decode cX9_person 65 = .ok (.aload_n 0, 1) := by decide +kernel
theorem dX9_person_66 : decode cX9_person 66 = .ok (.aload_n 0, 1) := by decide +kernel
theorem dX9_person_67 : decode cX9_person 67 = .ok (.iconst 0, 1) := by decide +kernel
theorem dX9_person_68 : decode cX9_person 68 = .ok (.iload_n 1, 1) := by decide +kernel
theorem dX9_person_69 : decode cX9_person 69 = .ok (.invokevirtual 451, 3) := by decide +kernel
theorem dX9_person_72 : decode cX9_person 72 = .ok (.invokevirtual 474, 3) := by decide +kernel
theorem dX9_person_75 : decode cX9_person 75 = .ok (.ireturn, 1) := by decide +kernel
theorem dX9_person_76 : decode cX9_person 76 = .ok (.aload_n 0, 1) := by decide +kernel
theorem dX9_person_77 : decode cX9_person 77 = .ok (.iconst 0, 1) := by decide +kernel
theorem dX9_person_78 : decode cX9_person 78 = .ok (.iload_n 1, 1) := by decide +kernel
theorem dX9_person_79 : decode cX9_person 79 = .ok (.invokevirtual 458, 3) := by decide +kernel
theorem dX9_person_82 : decode cX9_person 82 = .ok (.ireturn, 1) := by decide +kernel
theorem dX9_person_83 : decode cX9_person 83 = .ok (.iconst 0, 1) := by decide +kernel
theorem dX9_person_84 : decode cX9_person 84 = .ok (.istore 4, 2) := by decide +kernel
theorem dX9_person_86 : decode cX9_person 86 = .ok (.iload 4, 2) := by decide +kernel
theorem dX9_person_88 : decode cX9_person 88 = .ok (.aload_n 0, 1) := by decide +kernel
theorem dX9_person_89 : decode cX9_person 89 = .ok (.getfield 60, 3) := by decide +kernel
theorem dX9_person_92 : decode cX9_person 92 = .ok (.aload_n 0, 1) := by decide +kernel
theorem dX9_person_93 : decode cX9_person 93 = .ok (.getfield 51, 3) := by decide +kernel
theorem dX9_person_96 : decode cX9_person 96 = .ok (.iaload, 1) := by decide +kernel
theorem dX9_person_97 : decode cX9_person 97 = .ok (.if_icmp .ge 34, 3) := by decide +kernel
theorem dX9_person_100 : decode cX9_person 100 = .ok (.iload_n 3, 1) := by decide +kernel
theorem dX9_person_101 : decode cX9_person 101 = .ok (.aload_n 0, 1) := by decide +kernel
theorem dX9_person_102 : decode cX9_person 102 = .ok (.getfield 168, 3) := by decide +kernel
theorem dX9_person_105 : decode cX9_person 105 = .ok (.iload 4, 2) := by decide +kernel
theorem dX9_person_107 : decode cX9_person 107 = .ok (.iaload, 1) := by decide +kernel
theorem dX9_person_108 : decode cX9_person 108 = .ok (.iload_n 1, 1) := by decide +kernel
theorem dX9_person_109 : decode cX9_person 109 = .ok (.invokestatic 373, 3) := by decide +kernel
theorem dX9_person_112 : decode cX9_person 112 = .ok (.ifCond .eq 10, 3) := by decide +kernel
theorem dX9_person_115 : decode cX9_person 115 = .ok (.iconst 1, 1) := by decide +kernel
theorem dX9_person_116 : decode cX9_person 116 = .ok (.iload 4, 2) := by decide +kernel
theorem dX9_person_118 : decode cX9_person 118 = .ok (.ishl, 1) := by decide +kernel
theorem dX9_person_119 : decode cX9_person 119 = .ok (.goto 4, 3) := by decide +kernel
theorem dX9_person_122 : decode cX9_person 122 = .ok (.iconst 0, 1) := by decide +kernel
theorem dX9_person_123 : decode cX9_person 123 = .ok (.ior, 1) := by decide +kernel
theorem dX9_person_124 : decode cX9_person 124 = .ok (.istore_n 3, 1) := by decide +kernel
theorem dX9_person_125 : decode cX9_person 125 = .ok (.iinc 4 1, 3) := by decide +kernel
theorem dX9_person_128 : decode cX9_person 128 = .ok (.goto (-42), 3) := by decide +kernel
theorem dX9_person_131 : decode cX9_person 131 = .ok (.iload_n 3, 1) := by decide +kernel
theorem dX9_person_132 : decode cX9_person 132 = .ok (.ireturn, 1) := by decide +kernel
theorem dX9_person_133 : decode cX9_person 133 = .ok (.aload_n 0, 1) := by decide +kernel
theorem dX9_person_134 : decode cX9_person 134 = .ok (.iconst 0, 1) := by decide +kernel
theorem dX9_person_135 : decode cX9_person 135 = .ok (.iload_n 1, 1) := by decide +kernel
theorem dX9_person_136 : decode cX9_person 136 = .ok (.invokevirtual 466, 3) := by decide +kernel
theorem dX9_person_139 : decode cX9_person 139 = .ok (.ifCond .eq 7, 3) := by decide +kernel
theorem dX9_person_142 : decode cX9_person 142 = .ok (.iconst 1, 1) := by decide +kernel
theorem dX9_person_143 : decode cX9_person 143 = .ok (.goto 4, 3) := by decide +kernel
theorem dX9_person_146 : decode cX9_person 146 = .ok (.iconst 0, 1) := by decide +kernel
theorem dX9_person_147 : decode cX9_person 147 = .ok (.ireturn, 1) := by decide +kernel
theorem dX9_person_148 : decode cX9_person 148 = .ok (.iconst (-1), 1) := by decide +kernel
theorem dX9_person_149 : decode cX9_person 149 = .ok (.ireturn, 1) := by decide +kernel
theorem dX9_coin_0 : decode cX9_coin 0 = .ok (.aload_n 0, 1) := by decide +kernel
theorem dX9_coin_1 : decode cX9_coin 1 = .ok (.iload_n 1, 1) := by decide +kernel
theorem dX9_coin_2 : decode cX9_coin 2 = .ok (.invokevirtual 477, 3) := by decide +kernel
theorem dX9_coin_5 : decode cX9_coin 5 = .ok (.ifCond .ne 5, 3) := by decide +kernel
theorem dX9_coin_8 : decode cX9_coin 8 = .ok (.iconst (-1), 1) := by decide +kernel
theorem dX9_coin_9 : decode cX9_coin 9 = .ok (.ireturn, 1) := by decide +kernel
theorem dX9_coin_10 : decode cX9_coin 10 = .ok (.iload_n 2, 1) := by decide +kernel
theorem dX9_coin_11 : decode cX9_coin 11 = .ok (.tableswitch 70 0 4 #[33, 39, 46, 53, 60], 33) := by decide +kernel
theorem dX9_coin_44 : decode cX9_coin 44 = .ok (.aload_n 0, 1) := by decide +kernel
theorem dX9_coin_45 : decode cX9_coin 45 = .ok (.iload_n 1, 1) := by decide +kernel
theorem dX9_coin_46 : decode cX9_coin 46 = .ok (.invokevirtual 419, 3) := by decide +kernel
theorem dX9_coin_49 : decode cX9_coin 49 = .ok (.ireturn, 1) := by decide +kernel
theorem dX9_coin_50 : decode cX9_coin 50 = .ok (.aload_n 0, 1) := by decide +kernel
theorem dX9_coin_51 : decode cX9_coin 51 = .ok (.getfield 162, 3) := by decide +kernel
theorem dX9_coin_54 : decode cX9_coin 54 = .ok (.iload_n 1, 1) := by decide +kernel
theorem dX9_coin_55 : decode cX9_coin 55 = .ok (.iaload, 1) := by decide +kernel
theorem dX9_coin_56 : decode cX9_coin 56 = .ok (.ireturn, 1) := by decide +kernel
theorem dX9_coin_57 : decode cX9_coin 57 = .ok (.aload_n 0, 1) := by decide +kernel
theorem dX9_coin_58 : decode cX9_coin 58 = .ok (.getfield 165, 3) := by decide +kernel
theorem dX9_coin_61 : decode cX9_coin 61 = .ok (.iload_n 1, 1) := by decide +kernel
theorem dX9_coin_62 : decode cX9_coin 62 = .ok (.iaload, 1) := by decide +kernel
theorem dX9_coin_63 : decode cX9_coin 63 = .ok (.ireturn, 1) := by decide +kernel
theorem dX9_coin_64 : decode cX9_coin 64 = .ok (.aload_n 0, 1) := by decide +kernel
theorem dX9_coin_65 : decode cX9_coin 65 = .ok (.getfield 168, 3) := by decide +kernel
theorem dX9_coin_68 : decode cX9_coin 68 = .ok (.iload_n 1, 1) := by decide +kernel
theorem dX9_coin_69 : decode cX9_coin 69 = .ok (.iaload, 1) := by decide +kernel
theorem dX9_coin_70 : decode cX9_coin 70 = .ok (.ireturn, 1) := by decide +kernel
theorem dX9_coin_71 : decode cX9_coin 71 = .ok (.aload_n 0, 1) := by decide +kernel
theorem dX9_coin_72 : decode cX9_coin 72 = .ok (.getfield 165, 3) := by decide +kernel
theorem dX9_coin_75 : decode cX9_coin 75 = .ok (.iload_n 1, 1) := by decide +kernel
theorem dX9_coin_76 : decode cX9_coin 76 = .ok (.iaload, 1) := by decide +kernel
theorem dX9_coin_77 : decode cX9_coin 77 = .ok (.invokestatic 448, 3) := by decide +kernel
theorem dX9_coin_80 : decode cX9_coin 80 = .ok (.ireturn, 1) := by decide +kernel
theorem dX9_coin_81 : decode cX9_coin 81 = .ok (.iconst (-1), 1) := by decide +kernel
theorem dX9_coin_82 : decode cX9_coin 82 = .ok (.ireturn, 1) := by decide +kernel
theorem dX9_met_0 : decode cX9_met 0 = .ok (.aload_n 0, 1) := by decide +kernel
theorem dX9_met_1 : decode cX9_met 1 = .ok (.iload_n 1, 1) := by decide +kernel
theorem dX9_met_2 : decode cX9_met 2 = .ok (.invokevirtual 477, 3) := by decide +kernel
theorem dX9_met_5 : decode cX9_met 5 = .ok (.ifCond .eq 38, 3) := by decide +kernel
theorem dX9_met_8 : decode cX9_met 8 = .ok (.aload_n 0, 1) := by decide +kernel
theorem dX9_met_9 : decode cX9_met 9 = .ok (.iload_n 2, 1) := by decide +kernel
theorem dX9_met_10 : decode cX9_met 10 = .ok (.invokevirtual 471, 3) := by decide +kernel
theorem dX9_met_13 : decode cX9_met 13 = .ok (.ifCond .eq 30, 3) := by decide +kernel
theorem dX9_met_16 : decode cX9_met 16 = .ok (.aload_n 0, 1) := by decide +kernel
theorem dX9_met_17 : decode cX9_met 17 = .ok (.getfield 165, 3) := by decide +kernel
theorem dX9_met_20 : decode cX9_met 20 = .ok (.iload_n 1, 1) := by decide +kernel
theorem dX9_met_21 : decode cX9_met 21 = .ok (.iaload, 1) := by decide +kernel
theorem dX9_met_22 : decode cX9_met 22 = .ok (.iload_n 2, 1) := by decide +kernel
theorem dX9_met_23 : decode cX9_met 23 = .ok (.invokestatic 373, 3) := by decide +kernel
theorem dX9_met_26 : decode cX9_met 26 = .ok (.ifCond .eq 17, 3) := by decide +kernel
theorem dX9_met_29 : decode cX9_met 29 = .ok (.aload_n 0, 1) := by decide +kernel
theorem dX9_met_30 : decode cX9_met 30 = .ok (.getfield 171, 3) := by decide +kernel
theorem dX9_met_33 : decode cX9_met 33 = .ok (.bipush 10, 2) := by decide +kernel
theorem dX9_met_35 : decode cX9_met 35 = .ok (.iload_n 1, 1) := by decide +kernel
theorem dX9_met_36 : decode cX9_met 36 = .ok (.imul, 1) := by decide +kernel
theorem dX9_met_37 : decode cX9_met 37 = .ok (.iload_n 2, 1) := by decide +kernel
theorem dX9_met_38 : decode cX9_met 38 = .ok (.iadd, 1) := by decide +kernel
theorem dX9_met_39 : decode cX9_met 39 = .ok (.iaload, 1) := by decide +kernel
theorem dX9_met_40 : decode cX9_met 40 = .ok (.goto 4, 3) := by decide +kernel
theorem dX9_met_43 : decode cX9_met 43 = .ok (.iconst (-1), 1) := by decide +kernel
theorem dX9_met_44 : decode cX9_met 44 = .ok (.ireturn, 1) := by decide +kernel
theorem dX9_may_0 : decode cX9_may 0 = .ok (.aload_n 0, 1) := by decide +kernel
theorem dX9_may_1 : decode cX9_may 1 = .ok (.iload_n 1, 1) := by decide +kernel
theorem dX9_may_2 : decode cX9_may 2 = .ok (.invokevirtual 477, 3) := by decide +kernel
theorem dX9_may_5 : decode cX9_may 5 = .ok (.ifCond .eq 21, 3) := by decide +kernel
theorem dX9_may_8 : decode cX9_may 8 = .ok (.aload_n 0, 1) := by decide +kernel
theorem dX9_may_9 : decode cX9_may 9 = .ok (.iload_n 2, 1) := by decide +kernel
theorem dX9_may_10 : decode cX9_may 10 = .ok (.invokevirtual 471, 3) := by decide +kernel
theorem dX9_may_13 : decode cX9_may 13 = .ok (.ifCond .eq 13, 3) := by decide +kernel
theorem dX9_may_16 : decode cX9_may 16 = .ok (.aload_n 0, 1) := by decide +kernel
theorem dX9_may_17 : decode cX9_may 17 = .ok (.iconst 0, 1) := by decide +kernel
theorem dX9_may_18 : decode cX9_may 18 = .ok (.iload_n 1, 1) := by decide +kernel
theorem dX9_may_19 : decode cX9_may 19 = .ok (.iload_n 2, 1) := by decide +kernel
theorem dX9_may_20 : decode cX9_may 20 = .ok (.invokevirtual 480, 3) := by decide +kernel
theorem dX9_may_23 : decode cX9_may 23 = .ok (.ifCond .ne 7, 3) := by decide +kernel
theorem dX9_may_26 : decode cX9_may 26 = .ok (.iconst (-1), 1) := by decide +kernel
theorem dX9_may_27 : decode cX9_may 27 = .ok (.goto 18, 3) := by decide +kernel
theorem dX9_may_30 : decode cX9_may 30 = .ok (.aload_n 0, 1) := by decide +kernel
theorem dX9_may_31 : decode cX9_may 31 = .ok (.iconst 0, 1) := by decide +kernel
theorem dX9_may_32 : decode cX9_may 32 = .ok (.iload_n 1, 1) := by decide +kernel
theorem dX9_may_33 : decode cX9_may 33 = .ok (.iload_n 2, 1) := by decide +kernel
theorem dX9_may_34 : decode cX9_may 34 = .ok (.invokevirtual 483, 3) := by decide +kernel
theorem dX9_may_37 : decode cX9_may 37 = .ok (.ifCond .eq 7, 3) := by decide +kernel
theorem dX9_may_40 : decode cX9_may 40 = .ok (.iconst 1, 1) := by decide +kernel
theorem dX9_may_41 : decode cX9_may 41 = .ok (.goto 4, 3) := by decide +kernel
theorem dX9_may_44 : decode cX9_may 44 = .ok (.iconst 0, 1) := by decide +kernel
theorem dX9_may_45 : decode cX9_may 45 = .ok (.ireturn, 1) := by decide +kernel
theorem dX9_goods_0 : decode cX9_goods 0 = .ok (.aload_n 0, 1) := by decide +kernel
theorem dX9_goods_1 : decode cX9_goods 1 = .ok (.iload_n 1, 1) := by decide +kernel
theorem dX9_goods_2 : decode cX9_goods 2 = .ok (.invokevirtual 486, 3) := by decide +kernel
theorem dX9_goods_5 : decode cX9_goods 5 = .ok (.ifCond .eq 11, 3) := by decide +kernel
theorem dX9_goods_8 : decode cX9_goods 8 = .ok (.aload_n 0, 1) := by decide +kernel
theorem dX9_goods_9 : decode cX9_goods 9 = .ok (.iload_n 2, 1) := by decide +kernel
theorem dX9_goods_10 : decode cX9_goods 10 = .ok (.invokevirtual 471, 3) := by decide +kernel
theorem dX9_goods_13 : decode cX9_goods 13 = .ok (.ifCond .ne 5, 3) := by decide +kernel
theorem dX9_goods_16 : decode cX9_goods 16 = .ok (.iconst (-1), 1) := by decide +kernel
theorem dX9_goods_17 : decode cX9_goods 17 = .ok (.ireturn, 1) := by decide +kernel
theorem dX9_goods_18 : decode cX9_goods 18 = .ok (.iload_n 3, 1) := by decide +kernel
theorem dX9_goods_19 : decode cX9_goods 19 = .ok (.ifCond .ne 20, 3) := by decide +kernel
theorem dX9_goods_22 : decode cX9_goods 22 = .ok (.aload_n 0, 1) := by decide +kernel
theorem dX9_goods_23 : decode cX9_goods 23 = .ok (.getfield 78, 3) := by decide +kernel
theorem dX9_goods_26 : decode cX9_goods 26 = .ok (.bipush 10, 2) := by decide +kernel
theorem dX9_goods_28 : decode cX9_goods 28 = .ok (.aload_n 0, 1) := by decide +kernel
theorem dX9_goods_29 : decode cX9_goods 29 = .ok (.getfield 51, 3) := by decide +kernel
theorem dX9_goods_32 : decode cX9_goods 32 = .ok (.imul, 1) := by decide +kernel
theorem dX9_goods_33 : decode cX9_goods 33 = .ok (.iload_n 1, 1) := by decide +kernel
theorem dX9_goods_34 : decode cX9_goods 34 = .ok (.iadd, 1) := by decide +kernel
theorem dX9_goods_35 : decode cX9_goods 35 = .ok (.iaload, 1) := by decide +kernel
theorem dX9_goods_36 : decode cX9_goods 36 = .ok (.goto 40, 3) := by decide +kernel
theorem dX9_goods_39 : decode cX9_goods 39 = .ok (.iload_n 3, 1) := by decide +kernel
theorem dX9_goods_40 : decode cX9_goods 40 = .ok (.iconst 1, 1) := by decide +kernel
theorem dX9_goods_41 : decode cX9_goods 41 = .ok (.if_icmp .ne 20, 3) := by decide +kernel
theorem dX9_goods_44 : decode cX9_goods 44 = .ok (.aload_n 0, 1) := by decide +kernel
theorem dX9_goods_45 : decode cX9_goods 45 = .ok (.getfield 81, 3) := by decide +kernel
theorem dX9_goods_48 : decode cX9_goods 48 = .ok (.bipush 10, 2) := by decide +kernel
theorem dX9_goods_50 : decode cX9_goods 50 = .ok (.aload_n 0, 1) := by decide +kernel
theorem dX9_goods_51 : decode cX9_goods 51 = .ok (.getfield 51, 3) := by decide +kernel
theorem dX9_goods_54 : decode cX9_goods 54 = .ok (.imul, 1) := by decide +kernel
theorem dX9_goods_55 : decode cX9_goods 55 = .ok (.iload_n 1, 1) := by decide +kernel
theorem dX9_goods_56 : decode cX9_goods 56 = .ok (.iadd, 1) := by decide +kernel
theorem dX9_goods_57 : decode cX9_goods 57 = .ok (.iaload, 1) := by decide +kernel
theorem dX9_goods_58 : decode cX9_goods 58 = .ok (.goto 18, 3) := by decide +kernel
theorem dX9_goods_61 : decode cX9_goods 61 = .ok (.iload_n 3, 1) := by decide +kernel
theorem dX9_goods_62 : decode cX9_goods 62 = .ok (.iconst 2, 1) := by decide +kernel
theorem dX9_goods_63 : decode cX9_goods 63 = .ok (.if_icmp .ne 12, 3) := by decide +kernel
theorem dX9_goods_66 : decode cX9_goods 66 = .ok (.aload_n 0, 1) := by decide +kernel
theorem dX9_goods_67 : decode cX9_goods 67 = .ok (.iload_n 1, 1) := by decide +kernel
theorem dX9_goods_68 : decode cX9_goods 68 = .ok (.iload_n 2, 1) := by decide +kernel
theorem dX9_goods_69 : decode cX9_goods 69 = .ok (.invokevirtual 489, 3) := by decide +kernel
theorem dX9_goods_72 : decode cX9_goods 72 = .ok (.goto 4, 3) := by decide +kernel
theorem dX9_goods_75 : decode cX9_goods 75 = .ok (.iconst (-1), 1) := by decide +kernel
theorem dX9_goods_76 : decode cX9_goods 76 = .ok (.ireturn, 1) := by decide +kernel
theorem dX9_spends_0 : decode cX9_spends 0 = .ok (.aload_n 0, 1) := by decide +kernel
theorem dX9_spends_1 : decode cX9_spends 1 = .ok (.aload_n 0, 1) := by decide +kernel
theorem dX9_spends_2 : decode cX9_spends 2 = .ok (.iconst 0, 1) := by decide +kernel
theorem dX9_spends_3 : decode cX9_spends 3 = .ok (.iload_n 1, 1) := by decide +kernel
theorem dX9_spends_4 : decode cX9_spends 4 = .ok (.invokevirtual 451, 3) := by decide +kernel
theorem dX9_spends_7 : decode cX9_spends 7 = .ok (.aload_n 0, 1) := by decide +kernel
theorem dX9_spends_8 : decode cX9_spends 8 = .ok (.iconst 0, 1) := by decide +kernel
theorem dX9_spends_9 : decode cX9_spends 9 = .ok (.iload_n 2, 1) := by decide +kernel
theorem dX9_spends_10 : decode cX9_spends 10 = .ok (.invokevirtual 458, 3) := by decide +kernel
theorem dX9_spends_13 : decode cX9_spends 13 = .ok (.iand, 1) := by decide +kernel
theorem dX9_spends_14 : decode cX9_spends 14 = .ok (.invokevirtual 474, 3) := by decide +kernel
theorem dX9_spends_17 : decode cX9_spends 17 = .ok (.ireturn, 1) := by decide +kernel
theorem dX9_spend_0 : decode cX9_spend 0 = .ok (.aload_n 0, 1) := by decide +kernel
theorem dX9_spend_1 : decode cX9_spend 1 = .ok (.iload_n 1, 1) := by decide +kernel
theorem dX9_spend_2 : decode cX9_spend 2 = .ok (.invokevirtual 471, 3) := by decide +kernel
theorem dX9_spend_5 : decode cX9_spend 5 = .ok (.ifCond .eq 25, 3) := by decide +kernel
theorem dX9_spend_8 : decode cX9_spend 8 = .ok (.aload_n 0, 1) := by decide +kernel
theorem dX9_spend_9 : decode cX9_spend 9 = .ok (.iload_n 2, 1) := by decide +kernel
theorem dX9_spend_10 : decode cX9_spend 10 = .ok (.invokevirtual 471, 3) := by decide +kernel
theorem dX9_spend_13 : decode cX9_spend 13 = .ok (.ifCond .eq 17, 3) := by decide +kernel
theorem dX9_spend_16 : decode cX9_spend 16 = .ok (.iload_n 1, 1) := by decide +kernel
theorem dX9_spend_17 : decode cX9_spend 17 = .ok (.iload_n 2, 1) := by decide +kernel
theorem dX9_spend_18 : decode cX9_spend 18 = .ok (.if_icmp .eq 12, 3) := by decide +kernel
theorem dX9_spend_21 : decode cX9_spend 21 = .ok (.aload_n 0, 1) := by decide +kernel
theorem dX9_spend_22 : decode cX9_spend 22 = .ok (.iload_n 1, 1) := by decide +kernel
theorem dX9_spend_23 : decode cX9_spend 23 = .ok (.iload_n 2, 1) := by decide +kernel
theorem dX9_spend_24 : decode cX9_spend 24 = .ok (.invokevirtual 492, 3) := by decide +kernel
theorem dX9_spend_27 : decode cX9_spend 27 = .ok (.goto 4, 3) := by decide +kernel
theorem dX9_spend_30 : decode cX9_spend 30 = .ok (.iconst (-1), 1) := by decide +kernel
theorem dX9_spend_31 : decode cX9_spend 31 = .ok (.ireturn, 1) := by decide +kernel
theorem dX9_meets_0 : decode cX9_meets 0 = .ok (.aload_n 0, 1) := by decide +kernel
theorem dX9_meets_1 : decode cX9_meets 1 = .ok (.getfield 171, 3) := by decide +kernel
theorem dX9_meets_4 : decode cX9_meets 4 = .ok (.bipush 120, 2) := by decide +kernel
theorem dX9_meets_6 : decode cX9_meets 6 = .ok (.iload_n 1, 1) := by decide +kernel
theorem dX9_meets_7 : decode cX9_meets 7 = .ok (.imul, 1) := by decide +kernel
theorem dX9_meets_8 : decode cX9_meets 8 = .ok (.bipush 10, 2) := by decide +kernel
theorem dX9_meets_10 : decode cX9_meets 10 = .ok (.iload_n 2, 1) := by decide +kernel
theorem dX9_meets_11 : decode cX9_meets 11 = .ok (.imul, 1) := by decide +kernel
theorem dX9_meets_12 : decode cX9_meets 12 = .ok (.iadd, 1) := by decide +kernel
theorem dX9_meets_13 : decode cX9_meets 13 = .ok (.iload_n 3, 1) := by decide +kernel
theorem dX9_meets_14 : decode cX9_meets 14 = .ok (.iadd, 1) := by decide +kernel
theorem dX9_meets_15 : decode cX9_meets 15 = .ok (.aload_n 0, 1) := by decide +kernel
theorem dX9_meets_16 : decode cX9_meets 16 = .ok (.getfield 159, 3) := by decide +kernel
theorem dX9_meets_19 : decode cX9_meets 19 = .ok (.iload_n 1, 1) := by decide +kernel
theorem dX9_meets_20 : decode cX9_meets 20 = .ok (.iaload, 1) := by decide +kernel
theorem dX9_meets_21 : decode cX9_meets 21 = .ok (.iastore, 1) := by decide +kernel
theorem dX9_meets_22 : decode cX9_meets 22 = .ok (.return_, 1) := by decide +kernel
theorem dX9_learns_0 : decode cX9_learns 0 = .ok (.aload_n 0, 1) := by decide +kernel
theorem dX9_learns_1 : decode cX9_learns 1 = .ok (.getfield 165, 3) := by decide +kernel
theorem dX9_learns_4 : decode cX9_learns 4 = .ok (.bipush 12, 2) := by decide +kernel
theorem dX9_learns_6 : decode cX9_learns 6 = .ok (.iload_n 1, 1) := by decide +kernel
theorem dX9_learns_7 : decode cX9_learns 7 = .ok (.imul, 1) := by decide +kernel
theorem dX9_learns_8 : decode cX9_learns 8 = .ok (.iload_n 2, 1) := by decide +kernel
theorem dX9_learns_9 : decode cX9_learns 9 = .ok (.iadd, 1) := by decide +kernel
theorem dX9_learns_10 : decode cX9_learns 10 = .ok (.dup2, 1) := by decide +kernel
theorem dX9_learns_11 : decode cX9_learns 11 = .ok (.iaload, 1) := by decide +kernel
theorem dX9_learns_12 : decode cX9_learns 12 = .ok (.iconst 1, 1) := by decide +kernel
theorem dX9_learns_13 : decode cX9_learns 13 = .ok (.iload_n 3, 1) := by decide +kernel
theorem dX9_learns_14 : decode cX9_learns 14 = .ok (.ishl, 1) := by decide +kernel
theorem dX9_learns_15 : decode cX9_learns 15 = .ok (.ior, 1) := by decide +kernel
theorem dX9_learns_16 : decode cX9_learns 16 = .ok (.iastore, 1) := by decide +kernel
theorem dX9_learns_17 : decode cX9_learns 17 = .ok (.aload_n 0, 1) := by decide +kernel
theorem dX9_learns_18 : decode cX9_learns 18 = .ok (.iload_n 1, 1) := by decide +kernel
theorem dX9_learns_19 : decode cX9_learns 19 = .ok (.iload_n 2, 1) := by decide +kernel
theorem dX9_learns_20 : decode cX9_learns 20 = .ok (.iload_n 3, 1) := by decide +kernel
theorem dX9_learns_21 : decode cX9_learns 21 = .ok (.invokevirtual 495, 3) := by decide +kernel
theorem dX9_learns_24 : decode cX9_learns 24 = .ok (.return_, 1) := by decide +kernel
theorem dX9_presents_0 : decode cX9_presents 0 = .ok (.aload_n 0, 1) := by decide +kernel
theorem dX9_presents_1 : decode cX9_presents 1 = .ok (.iload_n 1, 1) := by decide +kernel
theorem dX9_presents_2 : decode cX9_presents 2 = .ok (.iload_n 2, 1) := by decide +kernel
theorem dX9_presents_3 : decode cX9_presents 3 = .ok (.iload_n 3, 1) := by decide +kernel
theorem dX9_presents_4 : decode cX9_presents 4 = .ok (.invokevirtual 483, 3) := by decide +kernel
theorem dX9_presents_7 : decode cX9_presents 7 = .ok (.istore 4, 2) := by decide +kernel
theorem dX9_presents_9 : decode cX9_presents 9 = .ok (.iload 4, 2) := by decide +kernel
theorem dX9_presents_11 : decode cX9_presents 11 = .ok (.ifCond .eq 13, 3) := by decide +kernel
theorem dX9_presents_14 : decode cX9_presents 14 = .ok (.aload_n 0, 1) := by decide +kernel
theorem dX9_presents_15 : decode cX9_presents 15 = .ok (.iload_n 1, 1) := by decide +kernel
theorem dX9_presents_16 : decode cX9_presents 16 = .ok (.iload_n 2, 1) := by decide +kernel
theorem dX9_presents_17 : decode cX9_presents 17 = .ok (.iload_n 3, 1) := by decide +kernel
theorem dX9_presents_18 : decode cX9_presents 18 = .ok (.invokevirtual 499, 3) := by decide +kernel
theorem dX9_presents_21 : decode cX9_presents 21 = .ok (.goto 20, 3) := by decide +kernel
theorem dX9_presents_24 : decode cX9_presents 24 = .ok (.aload_n 0, 1) := by decide +kernel
theorem dX9_presents_25 : decode cX9_presents 25 = .ok (.getfield 168, 3) := by decide +kernel
theorem dX9_presents_28 : decode cX9_presents 28 = .ok (.bipush 12, 2) := by decide +kernel
theorem dX9_presents_30 : decode cX9_presents 30 = .ok (.iload_n 1, 1) := by decide +kernel
theorem dX9_presents_31 : decode cX9_presents 31 = .ok (.imul, 1) := by decide +kernel
theorem dX9_presents_32 : decode cX9_presents 32 = .ok (.iload_n 2, 1) := by decide +kernel
theorem dX9_presents_33 : decode cX9_presents 33 = .ok (.iadd, 1) := by decide +kernel
theorem dX9_presents_34 : decode cX9_presents 34 = .ok (.dup2, 1) := by decide +kernel
theorem dX9_presents_35 : decode cX9_presents 35 = .ok (.iaload, 1) := by decide +kernel
theorem dX9_presents_36 : decode cX9_presents 36 = .ok (.iconst 1, 1) := by decide +kernel
theorem dX9_presents_37 : decode cX9_presents 37 = .ok (.iload_n 3, 1) := by decide +kernel
theorem dX9_presents_38 : decode cX9_presents 38 = .ok (.ishl, 1) := by decide +kernel
theorem dX9_presents_39 : decode cX9_presents 39 = .ok (.ior, 1) := by decide +kernel
theorem dX9_presents_40 : decode cX9_presents 40 = .ok (.iastore, 1) := by decide +kernel
theorem dX9_presents_41 : decode cX9_presents 41 = .ok (.iload 4, 2) := by decide +kernel
theorem dX9_presents_43 : decode cX9_presents 43 = .ok (.ireturn, 1) := by decide +kernel
theorem dX9_present_0 : decode cX9_present 0 = .ok (.aload_n 0, 1) := by decide +kernel
theorem dX9_present_1 : decode cX9_present 1 = .ok (.iload_n 1, 1) := by decide +kernel
theorem dX9_present_2 : decode cX9_present 2 = .ok (.invokevirtual 477, 3) := by decide +kernel
theorem dX9_present_5 : decode cX9_present 5 = .ok (.ifCond .eq 21, 3) := by decide +kernel
theorem dX9_present_8 : decode cX9_present 8 = .ok (.aload_n 0, 1) := by decide +kernel
theorem dX9_present_9 : decode cX9_present 9 = .ok (.iload_n 2, 1) := by decide +kernel
theorem dX9_present_10 : decode cX9_present 10 = .ok (.invokevirtual 471, 3) := by decide +kernel
theorem dX9_present_13 : decode cX9_present 13 = .ok (.ifCond .eq 13, 3) := by decide +kernel
theorem dX9_present_16 : decode cX9_present 16 = .ok (.aload_n 0, 1) := by decide +kernel
theorem dX9_present_17 : decode cX9_present 17 = .ok (.iconst 0, 1) := by decide +kernel
theorem dX9_present_18 : decode cX9_present 18 = .ok (.iload_n 1, 1) := by decide +kernel
theorem dX9_present_19 : decode cX9_present 19 = .ok (.iload_n 2, 1) := by decide +kernel
theorem dX9_present_20 : decode cX9_present 20 = .ok (.invokevirtual 480, 3) := by decide +kernel
theorem dX9_present_23 : decode cX9_present 23 = .ok (.ifCond .ne 9, 3) := by decide +kernel
theorem dX9_present_26 : decode cX9_present 26 = .ok (.aload_n 0, 1) := by decide +kernel
theorem dX9_present_27 : decode cX9_present 27 = .ok (.iconst 2, 1) := by decide +kernel
theorem dX9_present_28 : decode cX9_present 28 = .ok (.invokevirtual 228, 3) := by decide +kernel
theorem dX9_present_31 : decode cX9_present 31 = .ok (.ireturn, 1) := by decide +kernel
theorem dX9_present_32 : decode cX9_present 32 = .ok (.aload_n 0, 1) := by decide +kernel
theorem dX9_present_33 : decode cX9_present 33 = .ok (.invokevirtual 502, 3) := by decide +kernel
theorem dX9_present_36 : decode cX9_present 36 = .ok (.aload_n 0, 1) := by decide +kernel
theorem dX9_present_37 : decode cX9_present 37 = .ok (.iconst 0, 1) := by decide +kernel
theorem dX9_present_38 : decode cX9_present 38 = .ok (.iload_n 1, 1) := by decide +kernel
theorem dX9_present_39 : decode cX9_present 39 = .ok (.iload_n 2, 1) := by decide +kernel
theorem dX9_present_40 : decode cX9_present 40 = .ok (.invokevirtual 505, 3) := by decide +kernel
theorem dX9_present_43 : decode cX9_present 43 = .ok (.ifCond .eq 7, 3) := by decide +kernel
theorem dX9_present_46 : decode cX9_present 46 = .ok (.iconst 1, 1) := by decide +kernel
theorem dX9_present_47 : decode cX9_present 47 = .ok (.goto 4, 3) := by decide +kernel
theorem dX9_present_50 : decode cX9_present 50 = .ok (.iconst 0, 1) := by decide +kernel
theorem dX9_present_51 : decode cX9_present 51 = .ok (.ireturn, 1) := by decide +kernel
theorem dX9_pays_0 : decode cX9_pays 0 = .ok (.aload_n 0, 1) := by decide +kernel
theorem dX9_pays_1 : decode cX9_pays 1 = .ok (.iconst 0, 1) := by decide +kernel
theorem dX9_pays_2 : decode cX9_pays 2 = .ok (.iload_n 1, 1) := by decide +kernel
theorem dX9_pays_3 : decode cX9_pays 3 = .ok (.aload_n 0, 1) := by decide +kernel
theorem dX9_pays_4 : decode cX9_pays 4 = .ok (.getfield 162, 3) := by decide +kernel
theorem dX9_pays_7 : decode cX9_pays 7 = .ok (.iload_n 1, 1) := by decide +kernel
theorem dX9_pays_8 : decode cX9_pays 8 = .ok (.iaload, 1) := by decide +kernel
theorem dX9_pays_9 : decode cX9_pays 9 = .ok (.invokevirtual 495, 3) := by decide +kernel
theorem dX9_pays_12 : decode cX9_pays 12 = .ok (.aload_n 0, 1) := by decide +kernel
theorem dX9_pays_13 : decode cX9_pays 13 = .ok (.getfield 162, 3) := by decide +kernel
theorem dX9_pays_16 : decode cX9_pays 16 = .ok (.iload_n 1, 1) := by decide +kernel
theorem dX9_pays_17 : decode cX9_pays 17 = .ok (.iload_n 2, 1) := by decide +kernel
theorem dX9_pays_18 : decode cX9_pays 18 = .ok (.iastore, 1) := by decide +kernel
theorem dX9_pays_19 : decode cX9_pays 19 = .ok (.aload_n 0, 1) := by decide +kernel
theorem dX9_pays_20 : decode cX9_pays 20 = .ok (.iconst 0, 1) := by decide +kernel
theorem dX9_pays_21 : decode cX9_pays 21 = .ok (.iload_n 1, 1) := by decide +kernel
theorem dX9_pays_22 : decode cX9_pays 22 = .ok (.iload_n 2, 1) := by decide +kernel
theorem dX9_pays_23 : decode cX9_pays 23 = .ok (.invokevirtual 495, 3) := by decide +kernel
theorem dX9_pays_26 : decode cX9_pays 26 = .ok (.return_, 1) := by decide +kernel
theorem dX9_pay_0 : decode cX9_pay 0 = .ok (.aload_n 0, 1) := by decide +kernel
theorem dX9_pay_1 : decode cX9_pay 1 = .ok (.iload_n 1, 1) := by decide +kernel
theorem dX9_pay_2 : decode cX9_pay 2 = .ok (.invokevirtual 477, 3) := by decide +kernel
theorem dX9_pay_5 : decode cX9_pay 5 = .ok (.ifCond .eq 34, 3) := by decide +kernel
theorem dX9_pay_8 : decode cX9_pay 8 = .ok (.aload_n 0, 1) := by decide +kernel
theorem dX9_pay_9 : decode cX9_pay 9 = .ok (.iload_n 2, 1) := by decide +kernel
theorem dX9_pay_10 : decode cX9_pay 10 = .ok (.invokevirtual 471, 3) := by decide +kernel
theorem dX9_pay_13 : decode cX9_pay 13 = .ok (.ifCond .eq 26, 3) := by decide +kernel
theorem dX9_pay_16 : decode cX9_pay 16 = .ok (.aload_n 0, 1) := by decide +kernel
theorem dX9_pay_17 : decode cX9_pay 17 = .ok (.getfield 162, 3) := by decide +kernel
theorem dX9_pay_20 : decode cX9_pay 20 = .ok (.iload_n 1, 1) := by decide +kernel
theorem dX9_pay_21 : decode cX9_pay 21 = .ok (.iaload, 1) := by decide +kernel
theorem dX9_pay_22 : decode cX9_pay 22 = .ok (.iload_n 2, 1) := by decide +kernel
theorem dX9_pay_23 : decode cX9_pay 23 = .ok (.if_icmp .eq 16, 3) := by decide +kernel
theorem dX9_pay_26 : decode cX9_pay 26 = .ok (.aload_n 0, 1) := by decide +kernel
theorem dX9_pay_27 : decode cX9_pay 27 = .ok (.getfield 165, 3) := by decide +kernel
theorem dX9_pay_30 : decode cX9_pay 30 = .ok (.iload_n 1, 1) := by decide +kernel
theorem dX9_pay_31 : decode cX9_pay 31 = .ok (.iaload, 1) := by decide +kernel
theorem dX9_pay_32 : decode cX9_pay 32 = .ok (.iload_n 2, 1) := by decide +kernel
theorem dX9_pay_33 : decode cX9_pay 33 = .ok (.invokestatic 373, 3) := by decide +kernel
theorem dX9_pay_36 : decode cX9_pay 36 = .ok (.ifCond .ne 17, 3) := by decide +kernel
theorem dX9_pay_39 : decode cX9_pay 39 = .ok (.aload_n 0, 1) := by decide +kernel
theorem dX9_pay_40 : decode cX9_pay 40 = .ok (.iconst 2, 1) := by decide +kernel
theorem dX9_pay_41 : decode cX9_pay 41 = .ok (.invokevirtual 228, 3) := by decide +kernel
theorem dX9_pay_44 : decode cX9_pay 44 = .ok (.ifCond .lt 7, 3) := by decide +kernel
theorem dX9_pay_47 : decode cX9_pay 47 = .ok (.iconst 1, 1) := by decide +kernel
theorem dX9_pay_48 : decode cX9_pay 48 = .ok (.goto 4, 3) := by decide +kernel
theorem dX9_pay_51 : decode cX9_pay 51 = .ok (.iconst 0, 1) := by decide +kernel
theorem dX9_pay_52 : decode cX9_pay 52 = .ok (.ireturn, 1) := by decide +kernel
theorem dX9_pay_53 : decode cX9_pay 53 = .ok (.aload_n 0, 1) := by decide +kernel
theorem dX9_pay_54 : decode cX9_pay 54 = .ok (.invokevirtual 502, 3) := by decide +kernel
theorem dX9_pay_57 : decode cX9_pay 57 = .ok (.aload_n 0, 1) := by decide +kernel
theorem dX9_pay_58 : decode cX9_pay 58 = .ok (.iload_n 1, 1) := by decide +kernel
theorem dX9_pay_59 : decode cX9_pay 59 = .ok (.iload_n 2, 1) := by decide +kernel
theorem dX9_pay_60 : decode cX9_pay 60 = .ok (.invokevirtual 508, 3) := by decide +kernel
theorem dX9_pay_63 : decode cX9_pay 63 = .ok (.iconst 1, 1) := by decide +kernel
theorem dX9_pay_64 : decode cX9_pay 64 = .ok (.ireturn, 1) := by decide +kernel
theorem dX9_changeOf_0 : decode cX9_changeOf 0 = .ok (.iconst (-1), 1) := by decide +kernel
theorem dX9_changeOf_1 : decode cX9_changeOf 1 = .ok (.istore_n 3, 1) := by decide +kernel
theorem dX9_changeOf_2 : decode cX9_changeOf 2 = .ok (.iconst 0, 1) := by decide +kernel
theorem dX9_changeOf_3 : decode cX9_changeOf 3 = .ok (.istore 4, 2) := by decide +kernel
theorem dX9_changeOf_5 : decode cX9_changeOf 5 = .ok (.iload 4, 2) := by decide +kernel
theorem dX9_changeOf_7 : decode cX9_changeOf 7 = .ok (.iconst 1, 1) := by decide +kernel
theorem dX9_changeOf_8 : decode cX9_changeOf 8 = .ok (.aload_n 0, 1) := by decide +kernel
theorem dX9_changeOf_9 : decode cX9_changeOf 9 = .ok (.getfield 60, 3) := by decide +kernel
theorem dX9_changeOf_12 : decode cX9_changeOf 12 = .ok (.aload_n 0, 1) := by decide +kernel
theorem dX9_changeOf_13 : decode cX9_changeOf 13 = .ok (.getfield 51, 3) := by decide +kernel
theorem dX9_changeOf_16 : decode cX9_changeOf 16 = .ok (.iaload, 1) := by decide +kernel
theorem dX9_changeOf_17 : decode cX9_changeOf 17 = .ok (.ishl, 1) := by decide +kernel
theorem dX9_changeOf_18 : decode cX9_changeOf 18 = .ok (.if_icmp .ge 51, 3) := by decide +kernel
theorem dX9_changeOf_21 : decode cX9_changeOf 21 = .ok (.iload 4, 2) := by decide +kernel
theorem dX9_changeOf_23 : decode cX9_changeOf 23 = .ok (.iload_n 1, 1) := by decide +kernel
theorem dX9_changeOf_24 : decode cX9_changeOf 24 = .ok (.iconst (-1), 1) := by decide +kernel
theorem dX9_changeOf_25 : decode cX9_changeOf 25 = .ok (.ixor, 1) := by decide +kernel
theorem dX9_changeOf_26 : decode cX9_changeOf 26 = .ok (.iand, 1) := by decide +kernel
theorem dX9_changeOf_27 : decode cX9_changeOf 27 = .ok (.ifCond .ne 36, 3) := by decide +kernel
theorem dX9_changeOf_30 : decode cX9_changeOf 30 = .ok (.aload_n 0, 1) := by decide +kernel
theorem dX9_changeOf_31 : decode cX9_changeOf 31 = .ok (.iload 4, 2) := by decide +kernel
theorem dX9_changeOf_33 : decode cX9_changeOf 33 = .ok (.invokevirtual 474, 3) := by decide +kernel
theorem dX9_changeOf_36 : decode cX9_changeOf 36 = .ok (.iload_n 2, 1) := by decide +kernel
theorem dX9_changeOf_37 : decode cX9_changeOf 37 = .ok (.if_icmp .ne 26, 3) := by decide +kernel
theorem dX9_changeOf_40 : decode cX9_changeOf 40 = .ok (.iload_n 3, 1) := by decide +kernel
theorem dX9_changeOf_41 : decode cX9_changeOf 41 = .ok (.iconst (-1), 1) := by decide +kernel
theorem dX9_changeOf_42 : decode cX9_changeOf 42 = .ok (.if_icmp .eq 18, 3) := by decide +kernel
theorem dX9_changeOf_45 : decode cX9_changeOf 45 = .ok (.iload 4, 2) := by decide +kernel
theorem dX9_changeOf_47 : decode cX9_changeOf 47 = .ok (.invokestatic 448, 3) := by decide +kernel
theorem dX9_changeOf_50 : decode cX9_changeOf 50 = .ok (.iload_n 3, 1) := by decide +kernel
theorem dX9_changeOf_51 : decode cX9_changeOf 51 = .ok (.invokestatic 448, 3) := by decide +kernel
theorem dX9_changeOf_54 : decode cX9_changeOf 54 = .ok (.if_icmp .lt 6, 3) := by decide +kernel
theorem dX9_changeOf_57 : decode cX9_changeOf 57 = .ok (.goto 6, 3) := by decide +kernel
theorem dX9_changeOf_60 : decode cX9_changeOf 60 = .ok (.iload 4, 2) := by decide +kernel
theorem dX9_changeOf_62 : decode cX9_changeOf 62 = .ok (.istore_n 3, 1) := by decide +kernel
theorem dX9_changeOf_63 : decode cX9_changeOf 63 = .ok (.iinc 4 1, 3) := by decide +kernel
theorem dX9_changeOf_66 : decode cX9_changeOf 66 = .ok (.goto (-61), 3) := by decide +kernel
theorem dX9_changeOf_69 : decode cX9_changeOf 69 = .ok (.iload_n 3, 1) := by decide +kernel
theorem dX9_changeOf_70 : decode cX9_changeOf 70 = .ok (.ireturn, 1) := by decide +kernel
theorem dX9_buy_0 : decode cX9_buy 0 = .ok (.aload_n 0, 1) := by decide +kernel
theorem dX9_buy_1 : decode cX9_buy 1 = .ok (.iload_n 1, 1) := by decide +kernel
theorem dX9_buy_2 : decode cX9_buy 2 = .ok (.invokevirtual 471, 3) := by decide +kernel
theorem dX9_buy_5 : decode cX9_buy 5 = .ok (.ifCond .eq 30, 3) := by decide +kernel
theorem dX9_buy_8 : decode cX9_buy 8 = .ok (.aload_n 0, 1) := by decide +kernel
theorem dX9_buy_9 : decode cX9_buy 9 = .ok (.iload_n 2, 1) := by decide +kernel
theorem dX9_buy_10 : decode cX9_buy 10 = .ok (.invokevirtual 486, 3) := by decide +kernel
theorem dX9_buy_13 : decode cX9_buy 13 = .ok (.ifCond .eq 22, 3) := by decide +kernel
theorem dX9_buy_16 : decode cX9_buy 16 = .ok (.iload_n 3, 1) := by decide +kernel
theorem dX9_buy_17 : decode cX9_buy 17 = .ok (.ifCond .lt 18, 3) := by decide +kernel
theorem dX9_buy_20 : decode cX9_buy 20 = .ok (.iload_n 3, 1) := by decide +kernel
theorem dX9_buy_21 : decode cX9_buy 21 = .ok (.iconst 1, 1) := by decide +kernel
theorem dX9_buy_22 : decode cX9_buy 22 = .ok (.aload_n 0, 1) := by decide +kernel
theorem dX9_buy_23 : decode cX9_buy 23 = .ok (.getfield 60, 3) := by decide +kernel
theorem dX9_buy_26 : decode cX9_buy 26 = .ok (.aload_n 0, 1) := by decide +kernel
theorem dX9_buy_27 : decode cX9_buy 27 = .ok (.getfield 51, 3) := by decide +kernel
theorem dX9_buy_30 : decode cX9_buy 30 = .ok (.iaload, 1) := by decide +kernel
theorem dX9_buy_31 : decode cX9_buy 31 = .ok (.ishl, 1) := by decide +kernel
theorem dX9_buy_32 : decode cX9_buy 32 = .ok (.if_icmp .lt 9, 3) := by decide +kernel
theorem dX9_buy_35 : decode cX9_buy 35 = .ok (.aload_n 0, 1) := by decide +kernel
theorem dX9_buy_36 : decode cX9_buy 36 = .ok (.iconst 3, 1) := by decide +kernel
theorem dX9_buy_37 : decode cX9_buy 37 = .ok (.invokevirtual 228, 3) := by decide +kernel
theorem dX9_buy_40 : decode cX9_buy 40 = .ok (.ireturn, 1) := by decide +kernel
theorem dX9_buy_41 : decode cX9_buy 41 = .ok (.aload_n 0, 1) := by decide +kernel
theorem dX9_buy_42 : decode cX9_buy 42 = .ok (.getfield 81, 3) := by decide +kernel
theorem dX9_buy_45 : decode cX9_buy 45 = .ok (.bipush 10, 2) := by decide +kernel
theorem dX9_buy_47 : decode cX9_buy 47 = .ok (.aload_n 0, 1) := by decide +kernel
theorem dX9_buy_48 : decode cX9_buy 48 = .ok (.getfield 51, 3) := by decide +kernel
theorem dX9_buy_51 : decode cX9_buy 51 = .ok (.imul, 1) := by decide +kernel
theorem dX9_buy_52 : decode cX9_buy 52 = .ok (.iload_n 2, 1) := by decide +kernel
theorem dX9_buy_53 : decode cX9_buy 53 = .ok (.iadd, 1) := by decide +kernel
theorem dX9_buy_54 : decode cX9_buy 54 = .ok (.iaload, 1) := by decide +kernel
theorem dX9_buy_55 : decode cX9_buy 55 = .ok (.istore 4, 2) := by decide +kernel
theorem dX9_buy_57 : decode cX9_buy 57 = .ok (.iload 4, 2) := by decide +kernel
theorem dX9_buy_59 : decode cX9_buy 59 = .ok (.iload_n 1, 1) := by decide +kernel
theorem dX9_buy_60 : decode cX9_buy 60 = .ok (.if_icmp .eq 42, 3) := by decide +kernel
theorem dX9_buy_63 : decode cX9_buy 63 = .ok (.iload_n 3, 1) := by decide +kernel
theorem dX9_buy_64 : decode cX9_buy 64 = .ok (.aload_n 0, 1) := by decide +kernel
theorem dX9_buy_65 : decode cX9_buy 65 = .ok (.iconst 0, 1) := by decide +kernel
theorem dX9_buy_66 : decode cX9_buy 66 = .ok (.iload_n 1, 1) := by decide +kernel
theorem dX9_buy_67 : decode cX9_buy 67 = .ok (.invokevirtual 451, 3) := by decide +kernel
theorem dX9_buy_70 : decode cX9_buy 70 = .ok (.aload_n 0, 1) := by decide +kernel
theorem dX9_buy_71 : decode cX9_buy 71 = .ok (.iconst 0, 1) := by decide +kernel
theorem dX9_buy_72 : decode cX9_buy 72 = .ok (.iload 4, 2) := by decide +kernel
theorem dX9_buy_74 : decode cX9_buy 74 = .ok (.invokevirtual 458, 3) := by decide +kernel
theorem dX9_buy_77 : decode cX9_buy 77 = .ok (.iand, 1) := by decide +kernel
theorem dX9_buy_78 : decode cX9_buy 78 = .ok (.iconst (-1), 1) := by decide +kernel
theorem dX9_buy_79 : decode cX9_buy 79 = .ok (.ixor, 1) := by decide +kernel
theorem dX9_buy_80 : decode cX9_buy 80 = .ok (.iand, 1) := by decide +kernel
theorem dX9_buy_81 : decode cX9_buy 81 = .ok (.ifCond .ne 21, 3) := by decide +kernel
theorem dX9_buy_84 : decode cX9_buy 84 = .ok (.aload_n 0, 1) := by decide +kernel
theorem dX9_buy_85 : decode cX9_buy 85 = .ok (.iload_n 3, 1) := by decide +kernel
theorem dX9_buy_86 : decode cX9_buy 86 = .ok (.invokevirtual 474, 3) := by decide +kernel
theorem dX9_buy_89 : decode cX9_buy 89 = .ok (.aload_n 0, 1) := by decide +kernel
theorem dX9_buy_90 : decode cX9_buy 90 = .ok (.iload_n 2, 1) := by decide +kernel
theorem dX9_buy_91 : decode cX9_buy 91 = .ok (.iload_n 1, 1) := by decide +kernel
theorem dX9_buy_92 : decode cX9_buy 92 = .ok (.invokevirtual 489, 3) := by decide +kernel
theorem dX9_buy_95 : decode cX9_buy 95 = .ok (.if_icmp .lt 7, 3) := by decide +kernel
theorem dX9_buy_98 : decode cX9_buy 98 = .ok (.iconst 1, 1) := by decide +kernel
theorem dX9_buy_99 : decode cX9_buy 99 = .ok (.goto 4, 3) := by decide +kernel
theorem dX9_buy_102 : decode cX9_buy 102 = .ok (.iconst 0, 1) := by decide +kernel
theorem dX9_buy_103 : decode cX9_buy 103 = .ok (.istore 5, 2) := by decide +kernel
theorem dX9_buy_105 : decode cX9_buy 105 = .ok (.iload 5, 2) := by decide +kernel
theorem dX9_buy_107 : decode cX9_buy 107 = .ok (.ifCond .eq 36, 3) := by decide +kernel
theorem dX9_buy_110 : decode cX9_buy 110 = .ok (.aload_n 0, 1) := by decide +kernel
theorem dX9_buy_111 : decode cX9_buy 111 = .ok (.aload_n 0, 1) := by decide +kernel
theorem dX9_buy_112 : decode cX9_buy 112 = .ok (.iconst 0, 1) := by decide +kernel
theorem dX9_buy_113 : decode cX9_buy 113 = .ok (.iload 4, 2) := by decide +kernel
theorem dX9_buy_115 : decode cX9_buy 115 = .ok (.invokevirtual 451, 3) := by decide +kernel
theorem dX9_buy_118 : decode cX9_buy 118 = .ok (.aload_n 0, 1) := by decide +kernel
theorem dX9_buy_119 : decode cX9_buy 119 = .ok (.iconst 0, 1) := by decide +kernel
theorem dX9_buy_120 : decode cX9_buy 120 = .ok (.iload_n 1, 1) := by decide +kernel
theorem dX9_buy_121 : decode cX9_buy 121 = .ok (.invokevirtual 458, 3) := by decide +kernel
theorem dX9_buy_124 : decode cX9_buy 124 = .ok (.iand, 1) := by decide +kernel
theorem dX9_buy_125 : decode cX9_buy 125 = .ok (.aload_n 0, 1) := by decide +kernel
theorem dX9_buy_126 : decode cX9_buy 126 = .ok (.iload_n 3, 1) := by decide +kernel
theorem dX9_buy_127 : decode cX9_buy 127 = .ok (.invokevirtual 474, 3) := by decide +kernel
theorem dX9_buy_130 : decode cX9_buy 130 = .ok (.aload_n 0, 1) := by decide +kernel
theorem dX9_buy_131 : decode cX9_buy 131 = .ok (.iload_n 2, 1) := by decide +kernel
theorem dX9_buy_132 : decode cX9_buy 132 = .ok (.iload_n 1, 1) := by decide +kernel
theorem dX9_buy_133 : decode cX9_buy 133 = .ok (.invokevirtual 489, 3) := by decide +kernel
theorem dX9_buy_136 : decode cX9_buy 136 = .ok (.isub, 1) := by decide +kernel
theorem dX9_buy_137 : decode cX9_buy 137 = .ok (.invokevirtual 511, 3) := by decide +kernel
theorem dX9_buy_140 : decode cX9_buy 140 = .ok (.goto 4, 3) := by decide +kernel
theorem dX9_buy_143 : decode cX9_buy 143 = .ok (.iconst (-1), 1) := by decide +kernel
theorem dX9_buy_144 : decode cX9_buy 144 = .ok (.istore 6, 2) := by decide +kernel
theorem dX9_buy_146 : decode cX9_buy 146 = .ok (.iload 6, 2) := by decide +kernel
theorem dX9_buy_148 : decode cX9_buy 148 = .ok (.iconst (-1), 1) := by decide +kernel
theorem dX9_buy_149 : decode cX9_buy 149 = .ok (.if_icmp .ne 9, 3) := by decide +kernel
theorem dX9_buy_152 : decode cX9_buy 152 = .ok (.aload_n 0, 1) := by decide +kernel
theorem dX9_buy_153 : decode cX9_buy 153 = .ok (.iconst 3, 1) := by decide +kernel
theorem dX9_buy_154 : decode cX9_buy 154 = .ok (.invokevirtual 228, 3) := by decide +kernel
theorem dX9_buy_157 : decode cX9_buy 157 = .ok (.ireturn, 1) := by decide +kernel
theorem dX9_buy_158 : decode cX9_buy 158 = .ok (.aload_n 0, 1) := by decide +kernel
theorem dX9_buy_159 : decode cX9_buy 159 = .ok (.invokevirtual 502, 3) := by decide +kernel
theorem dX9_buy_162 : decode cX9_buy 162 = .ok (.iconst 0, 1) := by decide +kernel
theorem dX9_buy_163 : decode cX9_buy 163 = .ok (.istore 7, 2) := by decide +kernel
theorem dX9_buy_165 : decode cX9_buy 165 = .ok (.iload 7, 2) := by decide +kernel
theorem dX9_buy_167 : decode cX9_buy 167 = .ok (.aload_n 0, 1) := by decide +kernel
theorem dX9_buy_168 : decode cX9_buy 168 = .ok (.getfield 60, 3) := by decide +kernel
theorem dX9_buy_171 : decode cX9_buy 171 = .ok (.aload_n 0, 1) := by decide +kernel
theorem dX9_buy_172 : decode cX9_buy 172 = .ok (.getfield 51, 3) := by decide +kernel
theorem dX9_buy_175 : decode cX9_buy 175 = .ok (.iaload, 1) := by decide +kernel
theorem dX9_buy_176 : decode cX9_buy 176 = .ok (.if_icmp .ge 43, 3) := by decide +kernel
theorem dX9_buy_179 : decode cX9_buy 179 = .ok (.iload_n 3, 1) := by decide +kernel
theorem dX9_buy_180 : decode cX9_buy 180 = .ok (.iload 7, 2) := by decide +kernel
theorem dX9_buy_182 : decode cX9_buy 182 = .ok (.invokestatic 373, 3) := by decide +kernel
theorem dX9_buy_185 : decode cX9_buy 185 = .ok (.ifCond .eq 11, 3) := by decide +kernel
theorem dX9_buy_188 : decode cX9_buy 188 = .ok (.aload_n 0, 1) := by decide +kernel
theorem dX9_buy_189 : decode cX9_buy 189 = .ok (.iload 7, 2) := by decide +kernel
theorem dX9_buy_191 : decode cX9_buy 191 = .ok (.iload 4, 2) := by decide +kernel
theorem dX9_buy_193 : decode cX9_buy 193 = .ok (.invokevirtual 508, 3) := by decide +kernel
theorem dX9_buy_196 : decode cX9_buy 196 = .ok (.iload 6, 2) := by decide +kernel
theorem dX9_buy_198 : decode cX9_buy 198 = .ok (.iload 7, 2) := by decide +kernel
theorem dX9_buy_200 : decode cX9_buy 200 = .ok (.invokestatic 373, 3) := by decide +kernel
theorem dX9_buy_203 : decode cX9_buy 203 = .ok (.ifCond .eq 10, 3) := by decide +kernel
theorem dX9_buy_206 : decode cX9_buy 206 = .ok (.aload_n 0, 1) := by decide +kernel
theorem dX9_buy_207 : decode cX9_buy 207 = .ok (.iload 7, 2) := by decide +kernel
theorem dX9_buy_209 : decode cX9_buy 209 = .ok (.iload_n 1, 1) := by decide +kernel
theorem dX9_buy_210 : decode cX9_buy 210 = .ok (.invokevirtual 508, 3) := by decide +kernel
theorem dX9_buy_213 : decode cX9_buy 213 = .ok (.iinc 7 1, 3) := by decide +kernel
theorem dX9_buy_216 : decode cX9_buy 216 = .ok (.goto (-51), 3) := by decide +kernel
theorem dX9_buy_219 : decode cX9_buy 219 = .ok (.iload 6, 2) := by decide +kernel
theorem dX9_buy_221 : decode cX9_buy 221 = .ok (.ireturn, 1) := by decide +kernel
theorem dX9_teaOf_0 : decode cX9_teaOf 0 = .ok (.iconst 0, 1) := by decide +kernel
theorem dX9_teaOf_1 : decode cX9_teaOf 1 = .ok (.istore_n 3, 1) := by decide +kernel
theorem dX9_teaOf_2 : decode cX9_teaOf 2 = .ok (.iconst 0, 1) := by decide +kernel
theorem dX9_teaOf_3 : decode cX9_teaOf 3 = .ok (.istore 4, 2) := by decide +kernel
theorem dX9_teaOf_5 : decode cX9_teaOf 5 = .ok (.iload 4, 2) := by decide +kernel
theorem dX9_teaOf_7 : decode cX9_teaOf 7 = .ok (.aload_n 0, 1) := by decide +kernel
theorem dX9_teaOf_8 : decode cX9_teaOf 8 = .ok (.getfield 60, 3) := by decide +kernel
theorem dX9_teaOf_11 : decode cX9_teaOf 11 = .ok (.aload_n 0, 1) := by decide +kernel
