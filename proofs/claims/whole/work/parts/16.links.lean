set_option maxRecDepth 100000 in
theorem fl_X8_34 : FL_ RX8 34 8 8 := ⟨_, rfl, by decide, gw_at 490 (by decide +kernel) (by decide +kernel)⟩
set_option maxRecDepth 100000 in
theorem fl_X8_67 : FL_ RX8 67 8 1 := ⟨_, rfl, by decide, gw_at 483 (by decide +kernel) (by decide +kernel)⟩
set_option maxRecDepth 100000 in
theorem fp_X8_67 : FP_ RX8 67 8 1 := ⟨_, rfl, by decide, gw_at 483 (by decide +kernel) (by decide +kernel), rfl⟩
set_option maxRecDepth 100000 in
theorem lb_X8_refuse : LB_ yX8_refuse cX8_refuse 2 (some .int) 1 := ⟨gw_at 532 (by decide +kernel) (by decide +kernel), gw_at 132 (by decide +kernel) (by decide +kernel), ⟨by decide +kernel, by decide +kernel, by decide +kernel⟩, by decide⟩
set_option maxRecDepth 100000 in
theorem lk_X8_70 : LV_ RX8 70 yX8_refuse cX8_refuse 2 (some .int) 1 8 := ⟨lb_X8_refuse, gw_at 529 (by decide +kernel) (by decide +kernel), gw_at 531 (by decide +kernel) (by decide +kernel), gw_at 0 (by decide +kernel) (by decide +kernel), _, rfl, rfl⟩
set_option maxRecDepth 100000 in
theorem fl_X5_9 : FL_ RX5 9 5 0 := ⟨_, rfl, by decide, gw_at 286 (by decide +kernel) (by decide +kernel)⟩
set_option maxRecDepth 100000 in
theorem lb_X8_isIn : LB_ yX8_isIn cX8_isIn 2 (some .boolean) 2 := ⟨gw_at 717 (by decide +kernel) (by decide +kernel), gw_at 132 (by decide +kernel) (by decide +kernel), ⟨by decide +kernel, by decide +kernel, by decide +kernel⟩, by decide⟩
set_option maxRecDepth 100000 in
theorem fl_X0_12 : FL_ RX0 12 0 0 := ⟨_, rfl, by decide, gw_at 469 (by decide +kernel) (by decide +kernel)⟩
set_option maxRecDepth 100000 in
theorem fl_X0_30 : FL_ RX0 30 3 1 := ⟨_, rfl, by decide, gw_at 395 (by decide +kernel) (by decide +kernel)⟩
set_option maxRecDepth 100000 in
theorem fl_X0_36 : FL_ RX0 36 3 2 := ⟨_, rfl, by decide, gw_at 399 (by decide +kernel) (by decide +kernel)⟩
set_option maxRecDepth 100000 in
theorem fl_X0_40 : FL_ RX0 40 3 3 := ⟨_, rfl, by decide, gw_at 402 (by decide +kernel) (by decide +kernel)⟩
set_option maxRecDepth 100000 in
theorem fl_X8_16 : FL_ RX8 16 8 2 := ⟨_, rfl, by decide, gw_at 484 (by decide +kernel) (by decide +kernel)⟩
set_option maxRecDepth 100000 in
theorem fl_X8_95 : FL_ RX8 95 6 4 := ⟨_, rfl, by decide, gw_at 361 (by decide +kernel) (by decide +kernel)⟩
set_option maxRecDepth 100000 in
theorem fl_X8_98 : FL_ RX8 98 6 5 := ⟨_, rfl, by decide, gw_at 363 (by decide +kernel) (by decide +kernel)⟩
set_option maxRecDepth 100000 in
theorem fl_X0_22 : FL_ RX0 22 0 1 := ⟨_, rfl, by decide, gw_at 472 (by decide +kernel) (by decide +kernel)⟩
set_option maxRecDepth 100000 in
theorem fl_X0_48 : FL_ RX0 48 5 0 := ⟨_, rfl, by decide, gw_at 287 (by decide +kernel) (by decide +kernel)⟩
set_option maxRecDepth 100000 in
theorem ck_J6_265 : Cond.constant RJ6 265 (i32 1431655765) ∈ gw_tbl := gw_at 853 (by decide +kernel) (by decide +kernel)
set_option maxRecDepth 100000 in
theorem ck_J6_266 : Cond.constant RJ6 266 (i32 858993459) ∈ gw_tbl := gw_at 854 (by decide +kernel) (by decide +kernel)
set_option maxRecDepth 100000 in
theorem ck_J6_267 : Cond.constant RJ6 267 (i32 252645135) ∈ gw_tbl := gw_at 855 (by decide +kernel) (by decide +kernel)
set_option maxRecDepth 100000 in
theorem lb_X0_coins : LB_ yX0_coins cX0_coins 1 (some .int) 0 := ⟨gw_at 849 (by decide +kernel) (by decide +kernel), gw_at 144 (by decide +kernel) (by decide +kernel), ⟨by decide +kernel, by decide +kernel, by decide +kernel⟩, by decide⟩
set_option maxRecDepth 100000 in
theorem lk_X0_55 : LV_ RX0 55 yX0_coins cX0_coins 1 (some .int) 0 0 := ⟨lb_X0_coins, gw_at 846 (by decide +kernel) (by decide +kernel), gw_at 847 (by decide +kernel) (by decide +kernel), gw_at 848 (by decide +kernel) (by decide +kernel), _, rfl, rfl⟩
set_option maxRecDepth 100000 in
theorem fl_X0_62 : FL_ RX0 62 5 3 := ⟨_, rfl, by decide, gw_at 297 (by decide +kernel) (by decide +kernel)⟩
set_option maxRecDepth 100000 in
theorem lb_J6_bitCount_0f7a4 : LB_ yJ6_bitCount_0f7a4 cJ6_bitCount_0f7a4 1 (some .int) 1 := ⟨gw_at 852 (by decide +kernel) (by decide +kernel), gw_at 148 (by decide +kernel) (by decide +kernel), ⟨by decide +kernel, by decide +kernel, by decide +kernel⟩, by decide⟩
set_option maxRecDepth 100000 in
theorem lk_X0_65 : LS_ RX0 65 yJ6_bitCount_0f7a4 cJ6_bitCount_0f7a4 1 (some .int) 1 := ⟨lb_J6_bitCount_0f7a4, gw_at 850 (by decide +kernel) (by decide +kernel), gw_at 851 (by decide +kernel) (by decide +kernel)⟩
set_option maxRecDepth 100000 in
theorem lb_X5_allPeople : LB_ yX5_allPeople cX5_allPeople 1 (some .int) 0 := ⟨gw_at 867 (by decide +kernel) (by decide +kernel), gw_at 139 (by decide +kernel) (by decide +kernel), ⟨by decide +kernel, by decide +kernel, by decide +kernel⟩, by decide⟩
set_option maxRecDepth 100000 in
theorem lk_X0_71 : LV_ RX0 71 yX5_allPeople cX5_allPeople 1 (some .int) 0 5 := ⟨lb_X5_allPeople, gw_at 864 (by decide +kernel) (by decide +kernel), gw_at 865 (by decide +kernel) (by decide +kernel), gw_at 866 (by decide +kernel) (by decide +kernel), _, rfl, rfl⟩
set_option maxRecDepth 100000 in
theorem lb_X0_heldBy : LB_ yX0_heldBy cX0_heldBy 4 (some .int) 1 := ⟨gw_at 879 (by decide +kernel) (by decide +kernel), gw_at 144 (by decide +kernel) (by decide +kernel), ⟨by decide +kernel, by decide +kernel, by decide +kernel⟩, by decide⟩
set_option maxRecDepth 100000 in
theorem lk_X0_74 : LV_ RX0 74 yX0_heldBy cX0_heldBy 4 (some .int) 1 0 := ⟨lb_X0_heldBy, gw_at 876 (by decide +kernel) (by decide +kernel), gw_at 877 (by decide +kernel) (by decide +kernel), gw_at 878 (by decide +kernel) (by decide +kernel), _, rfl, rfl⟩
set_option maxRecDepth 100000 in
theorem lk_X0_51 : LSN_ RX0 51 "CoinCircle" yX8_isIn cX8_isIn 2 (some .boolean) 2 := ⟨lb_X8_isIn, nw_at 880 (by decide +kernel) (by decide +kernel), gw_at 716 (by decide +kernel) (by decide +kernel)⟩
set_option maxRecDepth 100000 in
theorem lb_X0_isUseless : LB_ yX0_isUseless cX0_isUseless 4 (some .boolean) 1 := ⟨gw_at 875 (by decide +kernel) (by decide +kernel), gw_at 144 (by decide +kernel) (by decide +kernel), ⟨by decide +kernel, by decide +kernel, by decide +kernel⟩, by decide⟩
set_option maxRecDepth 100000 in
theorem lk_X0_77 : LV_ RX0 77 yX0_isUseless cX0_isUseless 4 (some .boolean) 1 0 := ⟨lb_X0_isUseless, gw_at 872 (by decide +kernel) (by decide +kernel), gw_at 873 (by decide +kernel) (by decide +kernel), gw_at 874 (by decide +kernel) (by decide +kernel), _, rfl, rfl⟩
set_option maxRecDepth 100000 in
theorem fl_X8_51 : FL_ RX8 51 8 3 := ⟨_, rfl, by decide, gw_at 485 (by decide +kernel) (by decide +kernel)⟩
set_option maxRecDepth 100000 in
theorem fl_X8_101 : FL_ RX8 101 5 0 := ⟨_, rfl, by decide, gw_at 289 (by decide +kernel) (by decide +kernel)⟩
set_option maxRecDepth 100000 in
theorem fl_X8_104 : FL_ RX8 104 5 11 := ⟨_, rfl, by decide, gw_at 323 (by decide +kernel) (by decide +kernel)⟩
set_option maxRecDepth 100000 in
theorem fl_X8_107 : FL_ RX8 107 5 12 := ⟨_, rfl, by decide, gw_at 327 (by decide +kernel) (by decide +kernel)⟩
set_option maxRecDepth 100000 in
theorem fl_X8_60 : FL_ RX8 60 8 4 := ⟨_, rfl, by decide, gw_at 486 (by decide +kernel) (by decide +kernel)⟩
set_option maxRecDepth 100000 in
theorem fl_X8_110 : FL_ RX8 110 0 0 := ⟨_, rfl, by decide, gw_at 471 (by decide +kernel) (by decide +kernel)⟩
set_option maxRecDepth 100000 in
theorem fl_X8_114 : FL_ RX8 114 3 0 := ⟨_, rfl, by decide, gw_at 392 (by decide +kernel) (by decide +kernel)⟩
set_option maxRecDepth 100000 in
theorem lb_X0_flow : LB_ yX0_flow cX0_flow 3 (some .int) 0 := ⟨gw_at 845 (by decide +kernel) (by decide +kernel), gw_at 144 (by decide +kernel) (by decide +kernel), ⟨by decide +kernel, by decide +kernel, by decide +kernel⟩, by decide⟩
set_option maxRecDepth 100000 in
theorem lk_X8_119 : LV_ RX8 119 yX0_flow cX0_flow 3 (some .int) 0 0 := ⟨lb_X0_flow, gw_at 842 (by decide +kernel) (by decide +kernel), gw_at 843 (by decide +kernel) (by decide +kernel), gw_at 844 (by decide +kernel) (by decide +kernel), _, rfl, rfl⟩
set_option maxRecDepth 100000 in
theorem lb_X0_snubCount : LB_ yX0_snubCount cX0_snubCount 3 (some .int) 0 := ⟨gw_at 859 (by decide +kernel) (by decide +kernel), gw_at 144 (by decide +kernel) (by decide +kernel), ⟨by decide +kernel, by decide +kernel, by decide +kernel⟩, by decide⟩
set_option maxRecDepth 100000 in
theorem lk_X8_123 : LV_ RX8 123 yX0_snubCount cX0_snubCount 3 (some .int) 0 0 := ⟨lb_X0_snubCount, gw_at 856 (by decide +kernel) (by decide +kernel), gw_at 857 (by decide +kernel) (by decide +kernel), gw_at 858 (by decide +kernel) (by decide +kernel), _, rfl, rfl⟩
set_option maxRecDepth 100000 in
theorem lb_X0_knowingAllCount : LB_ yX0_knowingAllCount cX0_knowingAllCount 3 (some .int) 0 := ⟨gw_at 863 (by decide +kernel) (by decide +kernel), gw_at 144 (by decide +kernel) (by decide +kernel), ⟨by decide +kernel, by decide +kernel, by decide +kernel⟩, by decide⟩
set_option maxRecDepth 100000 in
theorem lk_X8_126 : LV_ RX8 126 yX0_knowingAllCount cX0_knowingAllCount 3 (some .int) 0 0 := ⟨lb_X0_knowingAllCount, gw_at 860 (by decide +kernel) (by decide +kernel), gw_at 861 (by decide +kernel) (by decide +kernel), gw_at 862 (by decide +kernel) (by decide +kernel), _, rfl, rfl⟩
set_option maxRecDepth 100000 in
theorem lb_X0_uselessPurses : LB_ yX0_uselessPurses cX0_uselessPurses 3 (some .int) 0 := ⟨gw_at 871 (by decide +kernel) (by decide +kernel), gw_at 144 (by decide +kernel) (by decide +kernel), ⟨by decide +kernel, by decide +kernel, by decide +kernel⟩, by decide⟩
set_option maxRecDepth 100000 in
theorem lk_X8_129 : LV_ RX8 129 yX0_uselessPurses cX0_uselessPurses 3 (some .int) 0 0 := ⟨lb_X0_uselessPurses, gw_at 868 (by decide +kernel) (by decide +kernel), gw_at 869 (by decide +kernel) (by decide +kernel), gw_at 870 (by decide +kernel) (by decide +kernel), _, rfl, rfl⟩
set_option maxRecDepth 100000 in
theorem fl_X8_23 : FL_ RX8 23 8 6 := ⟨_, rfl, by decide, gw_at 488 (by decide +kernel) (by decide +kernel)⟩
set_option maxRecDepth 100000 in
theorem fl_X8_132 : FL_ RX8 132 2 2 := ⟨_, rfl, by decide, gw_at 420 (by decide +kernel) (by decide +kernel)⟩
set_option maxRecDepth 100000 in
theorem fl_X8_44 : FL_ RX8 44 8 13 := ⟨_, rfl, by decide, gw_at 495 (by decide +kernel) (by decide +kernel)⟩
set_option maxRecDepth 100000 in
theorem fp_X9_13 : FP_ RX9 13 9 1 := ⟨_, rfl, by decide, gw_at 1274 (by decide +kernel) (by decide +kernel), rfl⟩
set_option maxRecDepth 100000 in
theorem fl_X9_7 : FL_ RX9 7 9 0 := ⟨_, rfl, by decide, gw_at 1273 (by decide +kernel) (by decide +kernel)⟩
set_option maxRecDepth 100000 in
theorem fl_X9_13 : FL_ RX9 13 9 1 := ⟨_, rfl, by decide, gw_at 1274 (by decide +kernel) (by decide +kernel)⟩
set_option maxRecDepth 100000 in
theorem fl_X9_60 : FL_ RX9 60 9 16 := ⟨_, rfl, by decide, gw_at 1289 (by decide +kernel) (by decide +kernel)⟩
set_option maxRecDepth 100000 in
theorem fl_X9_162 : FL_ RX9 162 9 49 := ⟨_, rfl, by decide, gw_at 1322 (by decide +kernel) (by decide +kernel)⟩
set_option maxRecDepth 100000 in
theorem fl_X9_51 : FL_ RX9 51 9 13 := ⟨_, rfl, by decide, gw_at 1286 (by decide +kernel) (by decide +kernel)⟩
