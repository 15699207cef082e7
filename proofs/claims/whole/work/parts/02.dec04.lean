theorem dX8_coin_59 : decode cX8_coin 59 = .ok (.getfield 60, 3) := by decide +kernel
theorem dX8_coin_62 : decode cX8_coin 62 = .ok (.getfield 110, 3) := by decide +kernel
theorem dX8_coin_65 : decode cX8_coin 65 = .ok (.getfield 169, 3) := by decide +kernel
theorem dX8_coin_68 : decode cX8_coin 68 = .ok (.iload_n 1, 1) := by decide +kernel
theorem dX8_coin_69 : decode cX8_coin 69 = .ok (.iaload, 1) := by decide +kernel
theorem dX8_coin_70 : decode cX8_coin 70 = .ok (.ireturn, 1) := by decide +kernel
theorem dX8_coin_71 : decode cX8_coin 71 = .ok (.aload_n 0, 1) := by decide +kernel
theorem dX8_coin_72 : decode cX8_coin 72 = .ok (.getfield 60, 3) := by decide +kernel
theorem dX8_coin_75 : decode cX8_coin 75 = .ok (.getfield 110, 3) := by decide +kernel
theorem dX8_coin_78 : decode cX8_coin 78 = .ok (.getfield 172, 3) := by decide +kernel
theorem dX8_coin_81 : decode cX8_coin 81 = .ok (.iload_n 1, 1) := by decide +kernel
theorem dX8_coin_82 : decode cX8_coin 82 = .ok (.iaload, 1) := by decide +kernel
theorem dX8_coin_83 : decode cX8_coin 83 = .ok (.ireturn, 1) := by decide +kernel
theorem dX8_coin_84 : decode cX8_coin 84 = .ok (.aload_n 0, 1) := by decide +kernel
theorem dX8_coin_85 : decode cX8_coin 85 = .ok (.getfield 60, 3) := by decide +kernel
theorem dX8_coin_88 : decode cX8_coin 88 = .ok (.getfield 110, 3) := by decide +kernel
theorem dX8_coin_91 : decode cX8_coin 91 = .ok (.getfield 175, 3) := by decide +kernel
theorem dX8_coin_94 : decode cX8_coin 94 = .ok (.iload_n 1, 1) := by decide +kernel
theorem dX8_coin_95 : decode cX8_coin 95 = .ok (.iaload, 1) := by decide +kernel
theorem dX8_coin_96 : decode cX8_coin 96 = .ok (.ireturn, 1) := by decide +kernel
theorem dX8_coin_97 : decode cX8_coin 97 = .ok (.aload_n 0, 1) := by decide +kernel
theorem dX8_coin_98 : decode cX8_coin 98 = .ok (.getfield 60, 3) := by decide +kernel
theorem dX8_coin_101 : decode cX8_coin 101 = .ok (.getfield 110, 3) := by decide +kernel
theorem dX8_coin_104 : decode cX8_coin 104 = .ok (.getfield 172, 3) := by decide +kernel
theorem dX8_coin_107 : decode cX8_coin 107 = .ok (.iload_n 1, 1) := by decide +kernel
theorem dX8_coin_108 : decode cX8_coin 108 = .ok (.iaload, 1) := by decide +kernel
theorem dX8_coin_109 : decode cX8_coin 109 = .ok (.invokestatic 178, 3) := by decide +kernel
theorem dX8_coin_112 : decode cX8_coin 112 = .ok (.ireturn, 1) := by decide +kernel
theorem dX8_coin_113 : decode cX8_coin 113 = .ok (.iconst (-1), 1) := by decide +kernel
theorem dX8_coin_114 : decode cX8_coin 114 = .ok (.ireturn, 1) := by decide +kernel
theorem dX8_met_0 : decode cX8_met 0 = .ok (.aload_n 0, 1) := by decide +kernel
theorem dX8_met_1 : decode cX8_met 1 = .ok (.iload_n 1, 1) := by decide +kernel
theorem dX8_met_2 : decode cX8_met 2 = .ok (.iload_n 2, 1) := by decide +kernel
theorem dX8_met_3 : decode cX8_met 3 = .ok (.invokevirtual 183, 3) := by decide +kernel
theorem dX8_met_6 : decode cX8_met 6 = .ok (.ifCond .eq 15, 3) := by decide +kernel
theorem dX8_met_9 : decode cX8_met 9 = .ok (.aload_n 0, 1) := by decide +kernel
theorem dX8_met_10 : decode cX8_met 10 = .ok (.getfield 60, 3) := by decide +kernel
theorem dX8_met_13 : decode cX8_met 13 = .ok (.iload_n 1, 1) := by decide +kernel
theorem dX8_met_14 : decode cX8_met 14 = .ok (.iload_n 2, 1) := by decide +kernel
theorem dX8_met_15 : decode cX8_met 15 = .ok (.invokevirtual 186, 3) := by decide +kernel
theorem dX8_met_18 : decode cX8_met 18 = .ok (.ifCond .ne 5, 3) := by decide +kernel
theorem dX8_met_21 : decode cX8_met 21 = .ok (.iconst (-1), 1) := by decide +kernel
theorem dX8_met_22 : decode cX8_met 22 = .ok (.ireturn, 1) := by decide +kernel
theorem dX8_met_23 : decode cX8_met 23 = .ok (.aload_n 0, 1) := by decide +kernel
theorem dX8_met_24 : decode cX8_met 24 = .ok (.getfield 60, 3) := by decide +kernel
theorem dX8_met_27 : decode cX8_met 27 = .ok (.getfield 110, 3) := by decide +kernel
theorem dX8_met_30 : decode cX8_met 30 = .ok (.iload_n 1, 1) := by decide +kernel
theorem dX8_met_31 : decode cX8_met 31 = .ok (.iload_n 2, 1) := by decide +kernel
theorem dX8_met_32 : decode cX8_met 32 = .ok (.invokevirtual 189, 3) := by decide +kernel
theorem dX8_met_35 : decode cX8_met 35 = .ok (.ireturn, 1) := by decide +kernel
theorem dX8_may_0 : decode cX8_may 0 = .ok (.aload_n 0, 1) := by decide +kernel
theorem dX8_may_1 : decode cX8_may 1 = .ok (.iload_n 1, 1) := by decide +kernel
theorem dX8_may_2 : decode cX8_may 2 = .ok (.iload_n 2, 1) := by decide +kernel
theorem dX8_may_3 : decode cX8_may 3 = .ok (.invokevirtual 183, 3) := by decide +kernel
theorem dX8_may_6 : decode cX8_may 6 = .ok (.ifCond .eq 15, 3) := by decide +kernel
theorem dX8_may_9 : decode cX8_may 9 = .ok (.aload_n 0, 1) := by decide +kernel
theorem dX8_may_10 : decode cX8_may 10 = .ok (.getfield 60, 3) := by decide +kernel
theorem dX8_may_13 : decode cX8_may 13 = .ok (.iload_n 1, 1) := by decide +kernel
theorem dX8_may_14 : decode cX8_may 14 = .ok (.iload_n 2, 1) := by decide +kernel
theorem dX8_may_15 : decode cX8_may 15 = .ok (.invokevirtual 192, 3) := by decide +kernel
theorem dX8_may_18 : decode cX8_may 18 = .ok (.ifCond .ne 5, 3) := by decide +kernel
theorem dX8_may_21 : decode cX8_may 21 = .ok (.iconst (-1), 1) := by decide +kernel
theorem dX8_may_22 : decode cX8_may 22 = .ok (.ireturn, 1) := by decide +kernel
theorem dX8_may_23 : decode cX8_may 23 = .ok (.aload_n 0, 1) := by decide +kernel
theorem dX8_may_24 : decode cX8_may 24 = .ok (.getfield 60, 3) := by decide +kernel
theorem dX8_may_27 : decode cX8_may 27 = .ok (.iload_n 1, 1) := by decide +kernel
theorem dX8_may_28 : decode cX8_may 28 = .ok (.iload_n 2, 1) := by decide +kernel
theorem dX8_may_29 : decode cX8_may 29 = .ok (.invokevirtual 195, 3) := by decide +kernel
theorem dX8_may_32 : decode cX8_may 32 = .ok (.ifCond .eq 7, 3) := by decide +kernel
theorem dX8_may_35 : decode cX8_may 35 = .ok (.iconst 1, 1) := by decide +kernel
theorem dX8_may_36 : decode cX8_may 36 = .ok (.goto 4, 3) := by decide +kernel
theorem dX8_may_39 : decode cX8_may 39 = .ok (.iconst 0, 1) := by decide +kernel
theorem dX8_may_40 : decode cX8_may 40 = .ok (.ireturn, 1) := by decide +kernel
theorem dX8_goods_0 : decode cX8_goods 0 = .ok (.aload_n 0, 1) := by decide +kernel
theorem dX8_goods_1 : decode cX8_goods 1 = .ok (.getfield 51, 3) := by decide +kernel
theorem dX8_goods_4 : decode cX8_goods 4 = .ok (.iconst 2, 1) := by decide +kernel
theorem dX8_goods_5 : decode cX8_goods 5 = .ok (.iload_n 1, 1) := by decide +kernel
theorem dX8_goods_6 : decode cX8_goods 6 = .ok (.invokevirtual 135, 3) := by decide +kernel
theorem dX8_goods_9 : decode cX8_goods 9 = .ok (.ifCond .eq 15, 3) := by decide +kernel
theorem dX8_goods_12 : decode cX8_goods 12 = .ok (.aload_n 0, 1) := by decide +kernel
theorem dX8_goods_13 : decode cX8_goods 13 = .ok (.getfield 51, 3) := by decide +kernel
theorem dX8_goods_16 : decode cX8_goods 16 = .ok (.iconst 0, 1) := by decide +kernel
theorem dX8_goods_17 : decode cX8_goods 17 = .ok (.iload_n 2, 1) := by decide +kernel
theorem dX8_goods_18 : decode cX8_goods 18 = .ok (.invokevirtual 135, 3) := by decide +kernel
theorem dX8_goods_21 : decode cX8_goods 21 = .ok (.ifCond .ne 5, 3) := by decide +kernel
theorem dX8_goods_24 : decode cX8_goods 24 = .ok (.iconst (-1), 1) := by decide +kernel
theorem dX8_goods_25 : decode cX8_goods 25 = .ok (.ireturn, 1) := by decide +kernel
theorem dX8_goods_26 : decode cX8_goods 26 = .ok (.iload_n 3, 1) := by decide +kernel
theorem dX8_goods_27 : decode cX8_goods 27 = .ok (.tableswitch 55 0 2 #[25, 35, 45], 25) := by decide +kernel
theorem dX8_goods_52 : decode cX8_goods 52 = .ok (.aload_n 0, 1) := by decide +kernel
theorem dX8_goods_53 : decode cX8_goods 53 = .ok (.getfield 51, 3) := by decide +kernel
theorem dX8_goods_56 : decode cX8_goods 56 = .ok (.getfield 198, 3) := by decide +kernel
theorem dX8_goods_59 : decode cX8_goods 59 = .ok (.iload_n 1, 1) := by decide +kernel
theorem dX8_goods_60 : decode cX8_goods 60 = .ok (.iaload, 1) := by decide +kernel
theorem dX8_goods_61 : decode cX8_goods 61 = .ok (.ireturn, 1) := by decide +kernel
theorem dX8_goods_62 : decode cX8_goods 62 = .ok (.aload_n 0, 1) := by decide +kernel
theorem dX8_goods_63 : decode cX8_goods 63 = .ok (.getfield 51, 3) := by decide +kernel
theorem dX8_goods_66 : decode cX8_goods 66 = .ok (.getfield 201, 3) := by decide +kernel
theorem dX8_goods_69 : decode cX8_goods 69 = .ok (.iload_n 1, 1) := by decide +kernel
theorem dX8_goods_70 : decode cX8_goods 70 = .ok (.iaload, 1) := by decide +kernel
theorem dX8_goods_71 : decode cX8_goods 71 = .ok (.ireturn, 1) := by decide +kernel
theorem dX8_goods_72 : decode cX8_goods 72 = .ok (.aload_n 0, 1) := by decide +kernel
theorem dX8_goods_73 : decode cX8_goods 73 = .ok (.getfield 60, 3) := by decide +kernel
theorem dX8_goods_76 : decode cX8_goods 76 = .ok (.iload_n 1, 1) := by decide +kernel
theorem dX8_goods_77 : decode cX8_goods 77 = .ok (.iload_n 2, 1) := by decide +kernel
theorem dX8_goods_78 : decode cX8_goods 78 = .ok (.invokevirtual 204, 3) := by decide +kernel
theorem dX8_goods_81 : decode cX8_goods 81 = .ok (.ireturn, 1) := by decide +kernel
theorem dX8_goods_82 : decode cX8_goods 82 = .ok (.iconst (-1), 1) := by decide +kernel
theorem dX8_goods_83 : decode cX8_goods 83 = .ok (.ireturn, 1) := by decide +kernel
theorem dX8_spend_0 : decode cX8_spend 0 = .ok (.aload_n 0, 1) := by decide +kernel
theorem dX8_spend_1 : decode cX8_spend 1 = .ok (.iload_n 1, 1) := by decide +kernel
theorem dX8_spend_2 : decode cX8_spend 2 = .ok (.iload_n 2, 1) := by decide +kernel
theorem dX8_spend_3 : decode cX8_spend 3 = .ok (.invokevirtual 207, 3) := by decide +kernel
theorem dX8_spend_6 : decode cX8_spend 6 = .ok (.ifCond .eq 15, 3) := by decide +kernel
theorem dX8_spend_9 : decode cX8_spend 9 = .ok (.aload_n 0, 1) := by decide +kernel
theorem dX8_spend_10 : decode cX8_spend 10 = .ok (.getfield 60, 3) := by decide +kernel
theorem dX8_spend_13 : decode cX8_spend 13 = .ok (.iload_n 1, 1) := by decide +kernel
theorem dX8_spend_14 : decode cX8_spend 14 = .ok (.iload_n 2, 1) := by decide +kernel
theorem dX8_spend_15 : decode cX8_spend 15 = .ok (.invokevirtual 210, 3) := by decide +kernel
theorem dX8_spend_18 : decode cX8_spend 18 = .ok (.goto 4, 3) := by decide +kernel
theorem dX8_spend_21 : decode cX8_spend 21 = .ok (.iconst (-1), 1) := by decide +kernel
theorem dX8_spend_22 : decode cX8_spend 22 = .ok (.ireturn, 1) := by decide +kernel
theorem dX8_present_0 : decode cX8_present 0 = .ok (.aload_n 0, 1) := by decide +kernel
theorem dX8_present_1 : decode cX8_present 1 = .ok (.iload_n 1, 1) := by decide +kernel
theorem dX8_present_2 : decode cX8_present 2 = .ok (.iload_n 2, 1) := by decide +kernel
theorem dX8_present_3 : decode cX8_present 3 = .ok (.invokevirtual 183, 3) := by decide +kernel
theorem dX8_present_6 : decode cX8_present 6 = .ok (.ifCond .eq 15, 3) := by decide +kernel
theorem dX8_present_9 : decode cX8_present 9 = .ok (.aload_n 0, 1) := by decide +kernel
theorem dX8_present_10 : decode cX8_present 10 = .ok (.getfield 60, 3) := by decide +kernel
theorem dX8_present_13 : decode cX8_present 13 = .ok (.iload_n 1, 1) := by decide +kernel
theorem dX8_present_14 : decode cX8_present 14 = .ok (.iload_n 2, 1) := by decide +kernel
theorem dX8_present_15 : decode cX8_present 15 = .ok (.invokevirtual 192, 3) := by decide +kernel
theorem dX8_present_18 : decode cX8_present 18 = .ok (.ifCond .ne 9, 3) := by decide +kernel
theorem dX8_present_21 : decode cX8_present 21 = .ok (.aload_n 0, 1) := by decide +kernel
theorem dX8_present_22 : decode cX8_present 22 = .ok (.iconst 2, 1) := by decide +kernel
theorem dX8_present_23 : decode cX8_present 23 = .ok (.invokevirtual 70, 3) := by decide +kernel
theorem dX8_present_26 : decode cX8_present 26 = .ok (.ireturn, 1) := by decide +kernel
theorem dX8_present_27 : decode cX8_present 27 = .ok (.aload_n 0, 1) := by decide +kernel
theorem dX8_present_28 : decode cX8_present 28 = .ok (.getfield 23, 3) := by decide +kernel
theorem dX8_present_31 : decode cX8_present 31 = .ok (.aload_n 0, 1) := by decide +kernel
theorem dX8_present_32 : decode cX8_present 32 = .ok (.getfield 60, 3) := by decide +kernel
theorem dX8_present_35 : decode cX8_present 35 = .ok (.getfield 110, 3) := by decide +kernel
theorem dX8_present_38 : decode cX8_present 38 = .ok (.invokevirtual 213, 3) := by decide +kernel
theorem dX8_present_41 : decode cX8_present 41 = .ok (.aload_n 0, 1) := by decide +kernel
theorem dX8_present_42 : decode cX8_present 42 = .ok (.getfield 60, 3) := by decide +kernel
theorem dX8_present_45 : decode cX8_present 45 = .ok (.iload_n 1, 1) := by decide +kernel
theorem dX8_present_46 : decode cX8_present 46 = .ok (.iload_n 2, 1) := by decide +kernel
theorem dX8_present_47 : decode cX8_present 47 = .ok (.invokevirtual 217, 3) := by decide +kernel
theorem dX8_present_50 : decode cX8_present 50 = .ok (.ifCond .eq 7, 3) := by decide +kernel
theorem dX8_present_53 : decode cX8_present 53 = .ok (.iconst 1, 1) := by decide +kernel
theorem dX8_present_54 : decode cX8_present 54 = .ok (.goto 4, 3) := by decide +kernel
theorem dX8_present_57 : decode cX8_present 57 = .ok (.iconst 0, 1) := by decide +kernel
theorem dX8_present_58 : decode cX8_present 58 = .ok (.ireturn, 1) := by decide +kernel
theorem dX8_pay_0 : decode cX8_pay 0 = .ok (.aload_n 0, 1) := by decide +kernel
theorem dX8_pay_1 : decode cX8_pay 1 = .ok (.iload_n 1, 1) := by decide +kernel
theorem dX8_pay_2 : decode cX8_pay 2 = .ok (.iload_n 2, 1) := by decide +kernel
theorem dX8_pay_3 : decode cX8_pay 3 = .ok (.invokevirtual 183, 3) := by decide +kernel
theorem dX8_pay_6 : decode cX8_pay 6 = .ok (.ifCond .eq 31, 3) := by decide +kernel
theorem dX8_pay_9 : decode cX8_pay 9 = .ok (.aload_n 0, 1) := by decide +kernel
theorem dX8_pay_10 : decode cX8_pay 10 = .ok (.getfield 60, 3) := by decide +kernel
theorem dX8_pay_13 : decode cX8_pay 13 = .ok (.getfield 110, 3) := by decide +kernel
theorem dX8_pay_16 : decode cX8_pay 16 = .ok (.getfield 169, 3) := by decide +kernel
theorem dX8_pay_19 : decode cX8_pay 19 = .ok (.iload_n 1, 1) := by decide +kernel
theorem dX8_pay_20 : decode cX8_pay 20 = .ok (.iaload, 1) := by decide +kernel
theorem dX8_pay_21 : decode cX8_pay 21 = .ok (.iload_n 2, 1) := by decide +kernel
theorem dX8_pay_22 : decode cX8_pay 22 = .ok (.if_icmp .eq 15, 3) := by decide +kernel
theorem dX8_pay_25 : decode cX8_pay 25 = .ok (.aload_n 0, 1) := by decide +kernel
theorem dX8_pay_26 : decode cX8_pay 26 = .ok (.getfield 60, 3) := by decide +kernel
theorem dX8_pay_29 : decode cX8_pay 29 = .ok (.iload_n 1, 1) := by decide +kernel
theorem dX8_pay_30 : decode cX8_pay 30 = .ok (.iload_n 2, 1) := by decide +kernel
theorem dX8_pay_31 : decode cX8_pay 31 = .ok (.invokevirtual 186, 3) := by decide +kernel
theorem dX8_pay_34 : decode cX8_pay 34 = .ok (.ifCond .ne 11, 3) := by decide +kernel
theorem dX8_pay_37 : decode cX8_pay 37 = .ok (.aload_n 0, 1) := by decide +kernel
theorem dX8_pay_38 : decode cX8_pay 38 = .ok (.iconst 2, 1) := by decide +kernel
theorem dX8_pay_39 : decode cX8_pay 39 = .ok (.invokevirtual 70, 3) := by decide +kernel
theorem dX8_pay_42 : decode cX8_pay 42 = .ok (.pop, 1) := by decide +kernel
theorem dX8_pay_43 : decode cX8_pay 43 = .ok (.iconst 0, 1) := by decide +kernel
theorem dX8_pay_44 : decode cX8_pay 44 = .ok (.ireturn, 1) := by decide +kernel
theorem dX8_pay_45 : decode cX8_pay 45 = .ok (.aload_n 0, 1) := by decide +kernel
theorem dX8_pay_46 : decode cX8_pay 46 = .ok (.getfield 23, 3) := by decide +kernel
theorem dX8_pay_49 : decode cX8_pay 49 = .ok (.aload_n 0, 1) := by decide +kernel
theorem dX8_pay_50 : decode cX8_pay 50 = .ok (.getfield 60, 3) := by decide +kernel
theorem dX8_pay_53 : decode cX8_pay 53 = .ok (.getfield 110, 3) := by decide +kernel
theorem dX8_pay_56 : decode cX8_pay 56 = .ok (.invokevirtual 213, 3) := by decide +kernel
theorem dX8_pay_59 : decode cX8_pay 59 = .ok (.aload_n 0, 1) := by decide +kernel
theorem dX8_pay_60 : decode cX8_pay 60 = .ok (.getfield 60, 3) := by decide +kernel
theorem dX8_pay_63 : decode cX8_pay 63 = .ok (.iload_n 1, 1) := by decide +kernel
theorem dX8_pay_64 : decode cX8_pay 64 = .ok (.iload_n 2, 1) := by decide +kernel
theorem dX8_pay_65 : decode cX8_pay 65 = .ok (.invokevirtual 220, 3) := by decide +kernel
theorem dX8_pay_68 : decode cX8_pay 68 = .ok (.iconst 1, 1) := by decide +kernel
theorem dX8_pay_69 : decode cX8_pay 69 = .ok (.ireturn, 1) := by decide +kernel
theorem dX8_buy_0 : decode cX8_buy 0 = .ok (.aload_n 0, 1) := by decide +kernel
theorem dX8_buy_1 : decode cX8_buy 1 = .ok (.getfield 51, 3) := by decide +kernel
theorem dX8_buy_4 : decode cX8_buy 4 = .ok (.iconst 0, 1) := by decide +kernel
theorem dX8_buy_5 : decode cX8_buy 5 = .ok (.iload_n 1, 1) := by decide +kernel
theorem dX8_buy_6 : decode cX8_buy 6 = .ok (.invokevirtual 135, 3) := by decide +kernel
theorem dX8_buy_9 : decode cX8_buy 9 = .ok (.ifCond .eq 15, 3) := by decide +kernel
theorem dX8_buy_12 : decode cX8_buy 12 = .ok (.aload_n 0, 1) := by decide +kernel
theorem dX8_buy_13 : decode cX8_buy 13 = .ok (.getfield 51, 3) := by decide +kernel
theorem dX8_buy_16 : decode cX8_buy 16 = .ok (.iconst 2, 1) := by decide +kernel
theorem dX8_buy_17 : decode cX8_buy 17 = .ok (.iload_n 2, 1) := by decide +kernel
theorem dX8_buy_18 : decode cX8_buy 18 = .ok (.invokevirtual 135, 3) := by decide +kernel
theorem dX8_buy_21 : decode cX8_buy 21 = .ok (.ifCond .ne 9, 3) := by decide +kernel
theorem dX8_buy_24 : decode cX8_buy 24 = .ok (.aload_n 0, 1) := by decide +kernel
theorem dX8_buy_25 : decode cX8_buy 25 = .ok (.iconst 3, 1) := by decide +kernel
theorem dX8_buy_26 : decode cX8_buy 26 = .ok (.invokevirtual 70, 3) := by decide +kernel
theorem dX8_buy_29 : decode cX8_buy 29 = .ok (.ireturn, 1) := by decide +kernel
theorem dX8_buy_30 : decode cX8_buy 30 = .ok (.aload_n 0, 1) := by decide +kernel
theorem dX8_buy_31 : decode cX8_buy 31 = .ok (.getfield 60, 3) := by decide +kernel
theorem dX8_buy_34 : decode cX8_buy 34 = .ok (.iload_n 1, 1) := by decide +kernel
theorem dX8_buy_35 : decode cX8_buy 35 = .ok (.iload_n 2, 1) := by decide +kernel
theorem dX8_buy_36 : decode cX8_buy 36 = .ok (.iload_n 3, 1) := by decide +kernel
theorem dX8_buy_37 : decode cX8_buy 37 = .ok (.invokevirtual 223, 3) := by decide +kernel
theorem dX8_buy_40 : decode cX8_buy 40 = .ok (.istore 4, 2) := by decide +kernel
theorem dX8_buy_42 : decode cX8_buy 42 = .ok (.iload 4, 2) := by decide +kernel
theorem dX8_buy_44 : decode cX8_buy 44 = .ok (.iconst (-1), 1) := by decide +kernel
theorem dX8_buy_45 : decode cX8_buy 45 = .ok (.if_icmp .ne 9, 3) := by decide +kernel
theorem dX8_buy_48 : decode cX8_buy 48 = .ok (.aload_n 0, 1) := by decide +kernel
theorem dX8_buy_49 : decode cX8_buy 49 = .ok (.iconst 3, 1) := by decide +kernel
theorem dX8_buy_50 : decode cX8_buy 50 = .ok (.invokevirtual 70, 3) := by decide +kernel
theorem dX8_buy_53 : decode cX8_buy 53 = .ok (.ireturn, 1) := by decide +kernel
theorem dX8_buy_54 : decode cX8_buy 54 = .ok (.aload_n 0, 1) := by decide +kernel
theorem dX8_buy_55 : decode cX8_buy 55 = .ok (.getfield 23, 3) := by decide +kernel
theorem dX8_buy_58 : decode cX8_buy 58 = .ok (.aload_n 0, 1) := by decide +kernel
theorem dX8_buy_59 : decode cX8_buy 59 = .ok (.getfield 60, 3) := by decide +kernel
theorem dX8_buy_62 : decode cX8_buy 62 = .ok (.getfield 110, 3) := by decide +kernel
theorem dX8_buy_65 : decode cX8_buy 65 = .ok (.invokevirtual 213, 3) := by decide +kernel
theorem dX8_buy_68 : decode cX8_buy 68 = .ok (.aload_n 0, 1) := by decide +kernel
theorem dX8_buy_69 : decode cX8_buy 69 = .ok (.getfield 60, 3) := by decide +kernel
theorem dX8_buy_72 : decode cX8_buy 72 = .ok (.iload_n 3, 1) := by decide +kernel
theorem dX8_buy_73 : decode cX8_buy 73 = .ok (.aload_n 0, 1) := by decide +kernel
theorem dX8_buy_74 : decode cX8_buy 74 = .ok (.getfield 51, 3) := by decide +kernel
theorem dX8_buy_77 : decode cX8_buy 77 = .ok (.getfield 201, 3) := by decide +kernel
theorem dX8_buy_80 : decode cX8_buy 80 = .ok (.iload_n 2, 1) := by decide +kernel
theorem dX8_buy_81 : decode cX8_buy 81 = .ok (.iaload, 1) := by decide +kernel
theorem dX8_buy_82 : decode cX8_buy 82 = .ok (.invokevirtual 227, 3) := by decide +kernel
theorem dX8_buy_85 : decode cX8_buy 85 = .ok (.aload_n 0, 1) := by decide +kernel
theorem dX8_buy_86 : decode cX8_buy 86 = .ok (.getfield 60, 3) := by decide +kernel
theorem dX8_buy_89 : decode cX8_buy 89 = .ok (.iload 4, 2) := by decide +kernel
theorem dX8_buy_91 : decode cX8_buy 91 = .ok (.iload_n 1, 1) := by decide +kernel
theorem dX8_buy_92 : decode cX8_buy 92 = .ok (.invokevirtual 227, 3) := by decide +kernel
theorem dX8_buy_95 : decode cX8_buy 95 = .ok (.iload 4, 2) := by decide +kernel
theorem dX8_buy_97 : decode cX8_buy 97 = .ok (.ireturn, 1) := by decide +kernel
theorem dX8_tea_0 : decode cX8_tea 0 = .ok (.iload_n 1, 1) := by decide +kernel
theorem dX8_tea_1 : decode cX8_tea 1 = .ok (.invokestatic 178, 3) := by decide +kernel
theorem dX8_tea_4 : decode cX8_tea 4 = .ok (.istore_n 2, 1) := by decide +kernel
theorem dX8_tea_5 : decode cX8_tea 5 = .ok (.iload_n 1, 1) := by decide +kernel
theorem dX8_tea_6 : decode cX8_tea 6 = .ok (.aload_n 0, 1) := by decide +kernel
theorem dX8_tea_7 : decode cX8_tea 7 = .ok (.getfield 51, 3) := by decide +kernel
theorem dX8_tea_10 : decode cX8_tea 10 = .ok (.invokevirtual 230, 3) := by decide +kernel
theorem dX8_tea_13 : decode cX8_tea 13 = .ok (.iconst (-1), 1) := by decide +kernel
theorem dX8_tea_14 : decode cX8_tea 14 = .ok (.ixor, 1) := by decide +kernel
theorem dX8_tea_15 : decode cX8_tea 15 = .ok (.iand, 1) := by decide +kernel
theorem dX8_tea_16 : decode cX8_tea 16 = .ok (.ifCond .ne 13, 3) := by decide +kernel
theorem dX8_tea_19 : decode cX8_tea 19 = .ok (.iload_n 2, 1) := by decide +kernel
theorem dX8_tea_20 : decode cX8_tea 20 = .ok (.iconst 2, 1) := by decide +kernel
theorem dX8_tea_21 : decode cX8_tea 21 = .ok (.if_icmp .lt 8, 3) := by decide +kernel
theorem dX8_tea_24 : decode cX8_tea 24 = .ok (.iload_n 2, 1) := by decide +kernel
theorem dX8_tea_25 : decode cX8_tea 25 = .ok (.iconst 4, 1) := by decide +kernel
theorem dX8_tea_26 : decode cX8_tea 26 = .ok (.if_icmp .le 9, 3) := by decide +kernel
theorem dX8_tea_29 : decode cX8_tea 29 = .ok (.aload_n 0, 1) := by decide +kernel
theorem dX8_tea_30 : decode cX8_tea 30 = .ok (.iconst 3, 1) := by decide +kernel
theorem dX8_tea_31 : decode cX8_tea 31 = .ok (.invokevirtual 70, 3) := by decide +kernel
theorem dX8_tea_34 : decode cX8_tea 34 = .ok (.ireturn, 1) := by decide +kernel
theorem dX8_tea_35 : decode cX8_tea 35 = .ok (.aload_n 0, 1) := by decide +kernel
theorem dX8_tea_36 : decode cX8_tea 36 = .ok (.getfield 23, 3) := by decide +kernel
theorem dX8_tea_39 : decode cX8_tea 39 = .ok (.aload_n 0, 1) := by decide +kernel
theorem dX8_tea_40 : decode cX8_tea 40 = .ok (.getfield 60, 3) := by decide +kernel
theorem dX8_tea_43 : decode cX8_tea 43 = .ok (.getfield 110, 3) := by decide +kernel
theorem dX8_tea_46 : decode cX8_tea 46 = .ok (.invokevirtual 213, 3) := by decide +kernel
theorem dX8_tea_49 : decode cX8_tea 49 = .ok (.aload_n 0, 1) := by decide +kernel
theorem dX8_tea_50 : decode cX8_tea 50 = .ok (.getfield 60, 3) := by decide +kernel
theorem dX8_tea_53 : decode cX8_tea 53 = .ok (.iload_n 1, 1) := by decide +kernel
theorem dX8_tea_54 : decode cX8_tea 54 = .ok (.invokevirtual 233, 3) := by decide +kernel
theorem dX8_tea_57 : decode cX8_tea 57 = .ok (.ireturn, 1) := by decide +kernel
theorem dX8_days_0 : decode cX8_days 0 = .ok (.iload_n 1, 1) := by decide +kernel
theorem dX8_days_1 : decode cX8_days 1 = .ok (.iconst 1, 1) := by decide +kernel
theorem dX8_days_2 : decode cX8_days 2 = .ok (.if_icmp .lt 27, 3) := by decide +kernel
theorem dX8_days_5 : decode cX8_days 5 = .ok (.iload_n 1, 1) := by decide +kernel
theorem dX8_days_6 : decode cX8_days 6 = .ok (.bipush 100, 2) := by decide +kernel
theorem dX8_days_8 : decode cX8_days 8 = .ok (.if_icmp .gt 21, 3) := by decide +kernel
theorem dX8_days_11 : decode cX8_days 11 = .ok (.aload_n 0, 1) := by decide +kernel
theorem dX8_days_12 : decode cX8_days 12 = .ok (.getfield 60, 3) := by decide +kernel
theorem dX8_days_15 : decode cX8_days 15 = .ok (.getfield 110, 3) := by decide +kernel
theorem dX8_days_18 : decode cX8_days 18 = .ok (.getfield 114, 3) := by decide +kernel
theorem dX8_days_21 : decode cX8_days 21 = .ok (.iload_n 1, 1) := by decide +kernel
theorem dX8_days_22 : decode cX8_days 22 = .ok (.iadd, 1) := by decide +kernel
theorem dX8_days_23 : decode cX8_days 23 = .ok (.sipush 999, 3) := by decide +kernel
theorem dX8_days_26 : decode cX8_days 26 = .ok (.if_icmp .le 9, 3) := by decide +kernel
theorem dX8_days_29 : decode cX8_days 29 = .ok (.aload_n 0, 1) := by decide +kernel
theorem dX8_days_30 : decode cX8_days 30 = .ok (.iconst 4, 1) := by decide +kernel
theorem dX8_days_31 : decode cX8_days 31 = .ok (.invokevirtual 70, 3) := by decide +kernel
theorem dX8_days_34 : decode cX8_days 34 = .ok (.ireturn, 1) := by decide +kernel
theorem dX8_days_35 : decode cX8_days 35 = .ok (.aload_n 0, 1) := by decide +kernel
theorem dX8_days_36 : decode cX8_days 36 = .ok (.getfield 23, 3) := by decide +kernel
theorem dX8_days_39 : decode cX8_days 39 = .ok (.aload_n 0, 1) := by decide +kernel
theorem dX8_days_40 : decode cX8_days 40 = .ok (.getfield 60, 3) := by decide +kernel
theorem dX8_days_43 : decode cX8_days 43 = .ok (.getfield 110, 3) := by decide +kernel
theorem dX8_days_46 : decode cX8_days 46 = .ok (.invokevirtual 213, 3) := by decide +kernel
theorem dX8_days_49 : decode cX8_days 49 = .ok (.aload_n 0, 1) := by decide +kernel
theorem dX8_days_50 : decode cX8_days 50 = .ok (.getfield 60, 3) := by decide +kernel
theorem dX8_days_53 : decode cX8_days 53 = .ok (.iload_n 1, 1) := by decide +kernel
theorem dX8_days_54 : decode cX8_days 54 = .ok (.invokevirtual 236, 3) := by decide +kernel
theorem dX8_days_57 : decode cX8_days 57 = .ok (.ireturn, 1) := by decide +kernel
theorem dX8_calls_0 : decode cX8_calls 0 = .ok (.iload_n 1, 1) := by decide +kernel
theorem dX8_calls_1 : decode cX8_calls 1 = .ok (.iconst 1, 1) := by decide +kernel
theorem dX8_calls_2 : decode cX8_calls 2 = .ok (.if_icmp .lt 27, 3) := by decide +kernel
theorem dX8_calls_5 : decode cX8_calls 5 = .ok (.iload_n 1, 1) := by decide +kernel
theorem dX8_calls_6 : decode cX8_calls 6 = .ok (.bipush 50, 2) := by decide +kernel
theorem dX8_calls_8 : decode cX8_calls 8 = .ok (.if_icmp .gt 21, 3) := by decide +kernel
theorem dX8_calls_11 : decode cX8_calls 11 = .ok (.aload_n 0, 1) := by decide +kernel
theorem dX8_calls_12 : decode cX8_calls 12 = .ok (.getfield 60, 3) := by decide +kernel
theorem dX8_calls_15 : decode cX8_calls 15 = .ok (.getfield 110, 3) := by decide +kernel
theorem dX8_calls_18 : decode cX8_calls 18 = .ok (.getfield 114, 3) := by decide +kernel
theorem dX8_calls_21 : decode cX8_calls 21 = .ok (.iload_n 1, 1) := by decide +kernel
theorem dX8_calls_22 : decode cX8_calls 22 = .ok (.iadd, 1) := by decide +kernel
theorem dX8_calls_23 : decode cX8_calls 23 = .ok (.sipush 999, 3) := by decide +kernel
theorem dX8_calls_26 : decode cX8_calls 26 = .ok (.if_icmp .le 9, 3) := by decide +kernel
theorem dX8_calls_29 : decode cX8_calls 29 = .ok (.aload_n 0, 1) := by decide +kernel
theorem dX8_calls_30 : decode cX8_calls 30 = .ok (.iconst 4, 1) := by decide +kernel
theorem dX8_calls_31 : decode cX8_calls 31 = .ok (.invokevirtual 70, 3) := by decide +kernel
theorem dX8_calls_34 : decode cX8_calls 34 = .ok (.ireturn, 1) := by decide +kernel
theorem dX8_calls_35 : decode cX8_calls 35 = .ok (.aload_n 0, 1) := by decide +kernel
theorem dX8_calls_36 : decode cX8_calls 36 = .ok (.getfield 23, 3) := by decide +kernel
theorem dX8_calls_39 : decode cX8_calls 39 = .ok (.aload_n 0, 1) := by decide +kernel
theorem dX8_calls_40 : decode cX8_calls 40 = .ok (.getfield 60, 3) := by decide +kernel
theorem dX8_calls_43 : decode cX8_calls 43 = .ok (.getfield 110, 3) := by decide +kernel
theorem dX8_calls_46 : decode cX8_calls 46 = .ok (.invokevirtual 213, 3) := by decide +kernel
theorem dX8_calls_49 : decode cX8_calls 49 = .ok (.iconst 0, 1) := by decide +kernel
theorem dX8_calls_50 : decode cX8_calls 50 = .ok (.istore_n 2, 1) := by decide +kernel
theorem dX8_calls_51 : decode cX8_calls 51 = .ok (.iconst 0, 1) := by decide +kernel
theorem dX8_calls_52 : decode cX8_calls 52 = .ok (.istore_n 3, 1) := by decide +kernel
theorem dX8_calls_53 : decode cX8_calls 53 = .ok (.iload_n 3, 1) := by decide +kernel
theorem dX8_calls_54 : decode cX8_calls 54 = .ok (.iload_n 1, 1) := by decide +kernel
theorem dX8_calls_55 : decode cX8_calls 55 = .ok (.if_icmp .ge 28, 3) := by decide +kernel
theorem dX8_calls_58 : decode cX8_calls 58 = .ok (.aload_n 0, 1) := by decide +kernel
theorem dX8_calls_59 : decode cX8_calls 59 = .ok (.getfield 60, 3) := by decide +kernel
theorem dX8_calls_62 : decode cX8_calls 62 = .ok (.iconst 1, 1) := by decide +kernel
theorem dX8_calls_63 : decode cX8_calls 63 = .ok (.invokevirtual 236, 3) := by decide +kernel
theorem dX8_calls_66 : decode cX8_calls 66 = .ok (.pop, 1) := by decide +kernel
theorem dX8_calls_67 : decode cX8_calls 67 = .ok (.aload_n 0, 1) := by decide +kernel
theorem dX8_calls_68 : decode cX8_calls 68 = .ok (.invokevirtual 239, 3) := by decide +kernel
theorem dX8_calls_71 : decode cX8_calls 71 = .ok (.ifCond .eq 6, 3) := by decide +kernel
theorem dX8_calls_74 : decode cX8_calls 74 = .ok (.iinc 2 1, 3) := by decide +kernel
theorem dX8_calls_77 : decode cX8_calls 77 = .ok (.iinc 3 1, 3) := by decide +kernel
theorem dX8_calls_80 : decode cX8_calls 80 = .ok (.goto (-27), 3) := by decide +kernel
theorem dX8_calls_83 : decode cX8_calls 83 = .ok (.iload_n 2, 1) := by decide +kernel
theorem dX8_calls_84 : decode cX8_calls 84 = .ok (.ireturn, 1) := by decide +kernel
theorem dX8_callIsPaid_0 : decode cX8_callIsPaid 0 = .ok (.aload_n 0, 1) := by decide +kernel
theorem dX8_callIsPaid_1 : decode cX8_callIsPaid 1 = .ok (.bipush 100, 2) := by decide +kernel
theorem dX8_callIsPaid_3 : decode cX8_callIsPaid 3 = .ok (.invokevirtual 243, 3) := by decide +kernel
theorem dX8_callIsPaid_6 : decode cX8_callIsPaid 6 = .ok (.aload_n 0, 1) := by decide +kernel
theorem dX8_callIsPaid_7 : decode cX8_callIsPaid 7 = .ok (.getfield 51, 3) := by decide +kernel
theorem dX8_callIsPaid_10 : decode cX8_callIsPaid 10 = .ok (.getfield 107, 3) := by decide +kernel
theorem dX8_callIsPaid_13 : decode cX8_callIsPaid 13 = .ok (.if_icmp .ge 15, 3) := by decide +kernel
theorem dX8_callIsPaid_16 : decode cX8_callIsPaid 16 = .ok (.aload_n 0, 1) := by decide +kernel
theorem dX8_callIsPaid_17 : decode cX8_callIsPaid 17 = .ok (.getfield 51, 3) := by decide +kernel
theorem dX8_callIsPaid_20 : decode cX8_callIsPaid 20 = .ok (.getfield 101, 3) := by decide +kernel
theorem dX8_callIsPaid_23 : decode cX8_callIsPaid 23 = .ok (.iconst 1, 1) := by decide +kernel
theorem dX8_callIsPaid_24 : decode cX8_callIsPaid 24 = .ok (.iaload, 1) := by decide +kernel
theorem dX8_callIsPaid_25 : decode cX8_callIsPaid 25 = .ok (.ifCond .ne 5, 3) := by decide +kernel
theorem dX8_callIsPaid_28 : decode cX8_callIsPaid 28 = .ok (.iconst 0, 1) := by decide +kernel
theorem dX8_callIsPaid_29 : decode cX8_callIsPaid 29 = .ok (.ireturn, 1) := by decide +kernel
theorem dX8_callIsPaid_30 : decode cX8_callIsPaid 30 = .ok (.aload_n 0, 1) := by decide +kernel
theorem dX8_callIsPaid_31 : decode cX8_callIsPaid 31 = .ok (.aload_n 0, 1) := by decide +kernel
theorem dX8_callIsPaid_32 : decode cX8_callIsPaid 32 = .ok (.getfield 51, 3) := by decide +kernel
theorem dX8_callIsPaid_35 : decode cX8_callIsPaid 35 = .ok (.getfield 101, 3) := by decide +kernel
theorem dX8_callIsPaid_38 : decode cX8_callIsPaid 38 = .ok (.iconst 1, 1) := by decide +kernel
theorem dX8_callIsPaid_39 : decode cX8_callIsPaid 39 = .ok (.iaload, 1) := by decide +kernel
theorem dX8_callIsPaid_40 : decode cX8_callIsPaid 40 = .ok (.invokevirtual 243, 3) := by decide +kernel
theorem dX8_callIsPaid_43 : decode cX8_callIsPaid 43 = .ok (.istore_n 1, 1) := by decide +kernel
theorem dX8_callIsPaid_44 : decode cX8_callIsPaid 44 = .ok (.aload_n 0, 1) := by decide +kernel
theorem dX8_callIsPaid_45 : decode cX8_callIsPaid 45 = .ok (.aload_n 0, 1) := by decide +kernel
theorem dX8_callIsPaid_46 : decode cX8_callIsPaid 46 = .ok (.getfield 51, 3) := by decide +kernel
theorem dX8_callIsPaid_49 : decode cX8_callIsPaid 49 = .ok (.getfield 101, 3) := by decide +kernel
theorem dX8_callIsPaid_52 : decode cX8_callIsPaid 52 = .ok (.iconst 0, 1) := by decide +kernel
theorem dX8_callIsPaid_53 : decode cX8_callIsPaid 53 = .ok (.iaload, 1) := by decide +kernel
theorem dX8_callIsPaid_54 : decode cX8_callIsPaid 54 = .ok (.invokevirtual 243, 3) := by decide +kernel
theorem dX8_callIsPaid_57 : decode cX8_callIsPaid 57 = .ok (.istore_n 2, 1) := by decide +kernel
theorem dX8_callIsPaid_58 : decode cX8_callIsPaid 58 = .ok (.aload_n 0, 1) := by decide +kernel
theorem dX8_callIsPaid_59 : decode cX8_callIsPaid 59 = .ok (.iload_n 1, 1) := by decide +kernel
theorem dX8_callIsPaid_60 : decode cX8_callIsPaid 60 = .ok (.iload_n 2, 1) := by decide +kernel
theorem dX8_callIsPaid_61 : decode cX8_callIsPaid 61 = .ok (.invokevirtual 183, 3) := by decide +kernel
theorem dX8_callIsPaid_64 : decode cX8_callIsPaid 64 = .ok (.ifCond .eq 15, 3) := by decide +kernel
theorem dX8_callIsPaid_67 : decode cX8_callIsPaid 67 = .ok (.aload_n 0, 1) := by decide +kernel
theorem dX8_callIsPaid_68 : decode cX8_callIsPaid 68 = .ok (.getfield 60, 3) := by decide +kernel
theorem dX8_callIsPaid_71 : decode cX8_callIsPaid 71 = .ok (.iload_n 1, 1) := by decide +kernel
theorem dX8_callIsPaid_72 : decode cX8_callIsPaid 72 = .ok (.iload_n 2, 1) := by decide +kernel
theorem dX8_callIsPaid_73 : decode cX8_callIsPaid 73 = .ok (.invokevirtual 192, 3) := by decide +kernel
theorem dX8_callIsPaid_76 : decode cX8_callIsPaid 76 = .ok (.ifCond .ne 5, 3) := by decide +kernel
theorem dX8_callIsPaid_79 : decode cX8_callIsPaid 79 = .ok (.iconst 0, 1) := by decide +kernel
theorem dX8_callIsPaid_80 : decode cX8_callIsPaid 80 = .ok (.ireturn, 1) := by decide +kernel
theorem dX8_callIsPaid_81 : decode cX8_callIsPaid 81 = .ok (.aload_n 0, 1) := by decide +kernel
theorem dX8_callIsPaid_82 : decode cX8_callIsPaid 82 = .ok (.getfield 60, 3) := by decide +kernel
theorem dX8_callIsPaid_85 : decode cX8_callIsPaid 85 = .ok (.iload_n 1, 1) := by decide +kernel
theorem dX8_callIsPaid_86 : decode cX8_callIsPaid 86 = .ok (.iload_n 2, 1) := by decide +kernel
theorem dX8_callIsPaid_87 : decode cX8_callIsPaid 87 = .ok (.invokevirtual 217, 3) := by decide +kernel
theorem dX8_callIsPaid_90 : decode cX8_callIsPaid 90 = .ok (.pop, 1) := by decide +kernel
theorem dX8_callIsPaid_91 : decode cX8_callIsPaid 91 = .ok (.iconst 1, 1) := by decide +kernel
theorem dX8_callIsPaid_92 : decode cX8_callIsPaid 92 = .ok (.ireturn, 1) := by decide +kernel
theorem dX8_draw_0 : decode cX8_draw 0 = .ok (.aload_n 0, 1) := by decide +kernel
theorem dX8_draw_1 : decode cX8_draw 1 = .ok (.ldc2_w 246, 3) := by decide +kernel
theorem dX8_draw_4 : decode cX8_draw 4 = .ok (.aload_n 0, 1) := by decide +kernel
theorem dX8_draw_5 : decode cX8_draw 5 = .ok (.getfield 44, 3) := by decide +kernel
theorem dX8_draw_8 : decode cX8_draw 8 = .ok (.i2l, 1) := by decide +kernel
theorem dX8_draw_9 : decode cX8_draw 9 = .ok (.lmul, 1) := by decide +kernel
theorem dX8_draw_10 : decode cX8_draw 10 = .ok (.ldc2_w 248, 3) := by decide +kernel
theorem dX8_draw_13 : decode cX8_draw 13 = .ok (.ladd, 1) := by decide +kernel
theorem dX8_draw_14 : decode cX8_draw 14 = .ok (.ldc2_w 250, 3) := by decide +kernel
theorem dX8_draw_17 : decode cX8_draw 17 = .ok (.land, 1) := by decide +kernel
theorem dX8_draw_18 : decode cX8_draw 18 = .ok (.l2i, 1) := by decide +kernel
theorem dX8_draw_19 : decode cX8_draw 19 = .ok (.putfield 44, 3) := by decide +kernel
theorem dX8_draw_22 : decode cX8_draw 22 = .ok (.iload_n 1, 1) := by decide +kernel
theorem dX8_draw_23 : decode cX8_draw 23 = .ok (.ifCond .le 15, 3) := by decide +kernel
theorem dX8_draw_26 : decode cX8_draw 26 = .ok (.aload_n 0, 1) := by decide +kernel
theorem dX8_draw_27 : decode cX8_draw 27 = .ok (.getfield 44, 3) := by decide +kernel
theorem dX8_draw_30 : decode cX8_draw 30 = .ok (.bipush 64, 2) := by decide +kernel
theorem dX8_draw_32 : decode cX8_draw 32 = .ok (.idiv, 1) := by decide +kernel
theorem dX8_draw_33 : decode cX8_draw 33 = .ok (.iload_n 1, 1) := by decide +kernel
theorem dX8_draw_34 : decode cX8_draw 34 = .ok (.irem, 1) := by decide +kernel
theorem dX8_draw_35 : decode cX8_draw 35 = .ok (.goto 4, 3) := by decide +kernel
theorem dX8_draw_38 : decode cX8_draw 38 = .ok (.iconst 0, 1) := by decide +kernel
theorem dX8_draw_39 : decode cX8_draw 39 = .ok (.ireturn, 1) := by decide +kernel
theorem dX8_undo_0 : decode cX8_undo 0 = .ok (.aload_n 0, 1) := by decide +kernel
theorem dX8_undo_1 : decode cX8_undo 1 = .ok (.getfield 23, 3) := by decide +kernel
theorem dX8_undo_4 : decode cX8_undo 4 = .ok (.getfield 132, 3) := by decide +kernel
theorem dX8_undo_7 : decode cX8_undo 7 = .ok (.ifCond .ne 11, 3) := by decide +kernel
theorem dX8_undo_10 : decode cX8_undo 10 = .ok (.aload_n 0, 1) := by decide +kernel
theorem dX8_undo_11 : decode cX8_undo 11 = .ok (.iconst 4, 1) := by decide +kernel
theorem dX8_undo_12 : decode cX8_undo 12 = .ok (.invokevirtual 70, 3) := by decide +kernel
theorem dX8_undo_15 : decode cX8_undo 15 = .ok (.pop, 1) := by decide +kernel
theorem dX8_undo_16 : decode cX8_undo 16 = .ok (.iconst 0, 1) := by decide +kernel
theorem dX8_undo_17 : decode cX8_undo 17 = .ok (.ireturn, 1) := by decide +kernel
theorem dX8_undo_18 : decode cX8_undo 18 = .ok (.aload_n 0, 1) := by decide +kernel
theorem dX8_undo_19 : decode cX8_undo 19 = .ok (.getfield 23, 3) := by decide +kernel
theorem dX8_undo_22 : decode cX8_undo 22 = .ok (.aload_n 0, 1) := by decide +kernel
theorem dX8_undo_23 : decode cX8_undo 23 = .ok (.getfield 60, 3) := by decide +kernel
theorem dX8_undo_26 : decode cX8_undo 26 = .ok (.getfield 110, 3) := by decide +kernel
theorem dX8_undo_29 : decode cX8_undo 29 = .ok (.invokevirtual 252, 3) := by decide +kernel
theorem dX8_undo_32 : decode cX8_undo 32 = .ok (.iconst 1, 1) := by decide +kernel
theorem dX8_undo_33 : decode cX8_undo 33 = .ok (.ireturn, 1) := by decide +kernel
theorem dX8_seed_0 : decode cX8_seed 0 = .ok (.iload_n 1, 1) := by decide +kernel
theorem dX8_seed_1 : decode cX8_seed 1 = .ok (.ifCond .ge 11, 3) := by decide +kernel
theorem dX8_seed_4 : decode cX8_seed 4 = .ok (.aload_n 0, 1) := by decide +kernel
theorem dX8_seed_5 : decode cX8_seed 5 = .ok (.iconst 5, 1) := by decide +kernel
theorem dX8_seed_6 : decode cX8_seed 6 = .ok (.invokevirtual 70, 3) := by decide +kernel
theorem dX8_seed_9 : decode cX8_seed 9 = .ok (.pop, 1) := by decide +kernel
theorem dX8_seed_10 : decode cX8_seed 10 = .ok (.iconst 0, 1) := by decide +kernel
theorem dX8_seed_11 : decode cX8_seed 11 = .ok (.ireturn, 1) := by decide +kernel
theorem dX8_seed_12 : decode cX8_seed 12 = .ok (.aload_n 0, 1) := by decide +kernel
theorem dX8_seed_13 : decode cX8_seed 13 = .ok (.iload_n 1, 1) := by decide +kernel
theorem dX8_seed_14 : decode cX8_seed 14 = .ok (.putfield 44, 3) := by decide +kernel
theorem dX8_seed_17 : decode cX8_seed 17 = .ok (.iconst 1, 1) := by decide +kernel
theorem dX8_seed_18 : decode cX8_seed 18 = .ok (.ireturn, 1) := by decide +kernel
theorem dX8_introduce_0 : decode cX8_introduce 0 = .ok (.aload_n 0, 1) := by decide +kernel
theorem dX8_introduce_1 : decode cX8_introduce 1 = .ok (.iload_n 1, 1) := by decide +kernel
theorem dX8_introduce_2 : decode cX8_introduce 2 = .ok (.iload_n 2, 1) := by decide +kernel
theorem dX8_introduce_3 : decode cX8_introduce 3 = .ok (.invokevirtual 207, 3) := by decide +kernel
theorem dX8_introduce_6 : decode cX8_introduce 6 = .ok (.ifCond .eq 7, 3) := by decide +kernel
theorem dX8_introduce_9 : decode cX8_introduce 9 = .ok (.iload_n 3, 1) := by decide +kernel
theorem dX8_introduce_10 : decode cX8_introduce 10 = .ok (.ifCond .ge 5, 3) := by decide +kernel
theorem dX8_introduce_13 : decode cX8_introduce 13 = .ok (.iconst (-1), 1) := by decide +kernel
theorem dX8_introduce_14 : decode cX8_introduce 14 = .ok (.ireturn, 1) := by decide +kernel
theorem dX8_introduce_15 : decode cX8_introduce 15 = .ok (.aload_n 0, 1) := by decide +kernel
theorem dX8_introduce_16 : decode cX8_introduce 16 = .ok (.getfield 60, 3) := by decide +kernel
theorem dX8_introduce_19 : decode cX8_introduce 19 = .ok (.iload_n 1, 1) := by decide +kernel
theorem dX8_introduce_20 : decode cX8_introduce 20 = .ok (.iload_n 2, 1) := by decide +kernel
theorem dX8_introduce_21 : decode cX8_introduce 21 = .ok (.iload_n 3, 1) := by decide +kernel
theorem dX8_introduce_22 : decode cX8_introduce 22 = .ok (.invokevirtual 255, 3) := by decide +kernel
theorem dX8_introduce_25 : decode cX8_introduce 25 = .ok (.istore 5, 2) := by decide +kernel
theorem dX8_introduce_27 : decode cX8_introduce 27 = .ok (.iload 5, 2) := by decide +kernel
theorem dX8_introduce_29 : decode cX8_introduce 29 = .ok (.iconst (-1), 1) := by decide +kernel
theorem dX8_introduce_30 : decode cX8_introduce 30 = .ok (.if_icmp .ne 5, 3) := by decide +kernel
theorem dX8_introduce_33 : decode cX8_introduce 33 = .ok (.iconst (-1), 1) := by decide +kernel
theorem dX8_introduce_34 : decode cX8_introduce 34 = .ok (.ireturn, 1) := by decide +kernel
theorem dX8_introduce_35 : decode cX8_introduce 35 = .ok (.iload 4, 2) := by decide +kernel
theorem dX8_introduce_37 : decode cX8_introduce 37 = .ok (.tableswitch 56 0 2 #[27, 33, 36], 27) := by decide +kernel
theorem dX8_introduce_64 : decode cX8_introduce 64 = .ok (.iload 5, 2) := by decide +kernel
theorem dX8_introduce_66 : decode cX8_introduce 66 = .ok (.invokestatic 178, 3) := by decide +kernel
theorem dX8_introduce_69 : decode cX8_introduce 69 = .ok (.ireturn, 1) := by decide +kernel
theorem dX8_introduce_70 : decode cX8_introduce 70 = .ok (.iload 5, 2) := by decide +kernel
theorem dX8_introduce_72 : decode cX8_introduce 72 = .ok (.ireturn, 1) := by decide +kernel
theorem dX8_introduce_73 : decode cX8_introduce 73 = .ok (.aload_n 0, 1) := by decide +kernel
theorem dX8_introduce_74 : decode cX8_introduce 74 = .ok (.getfield 60, 3) := by decide +kernel
theorem dX8_introduce_77 : decode cX8_introduce 77 = .ok (.iload_n 1, 1) := by decide +kernel
theorem dX8_introduce_78 : decode cX8_introduce 78 = .ok (.iload_n 2, 1) := by decide +kernel
theorem dX8_introduce_79 : decode cX8_introduce 79 = .ok (.invokevirtual 210, 3) := by decide +kernel
theorem dX8_introduce_82 : decode cX8_introduce 82 = .ok (.aload_n 0, 1) := by decide +kernel
theorem dX8_introduce_83 : decode cX8_introduce 83 = .ok (.getfield 51, 3) := by decide +kernel
theorem dX8_introduce_86 : decode cX8_introduce 86 = .ok (.iload 5, 2) := by decide +kernel
theorem dX8_introduce_88 : decode cX8_introduce 88 = .ok (.invokevirtual 153, 3) := by decide +kernel
theorem dX8_introduce_91 : decode cX8_introduce 91 = .ok (.iadd, 1) := by decide +kernel
theorem dX8_introduce_92 : decode cX8_introduce 92 = .ok (.ireturn, 1) := by decide +kernel
theorem dX8_introduce_93 : decode cX8_introduce 93 = .ok (.iconst (-1), 1) := by decide +kernel
theorem dX8_introduce_94 : decode cX8_introduce 94 = .ok (.ireturn, 1) := by decide +kernel
theorem dX8_comes_0 : decode cX8_comes 0 = .ok (.aload_n 0, 1) := by decide +kernel
theorem dX8_comes_1 : decode cX8_comes 1 = .ok (.iload_n 1, 1) := by decide +kernel
theorem dX8_comes_2 : decode cX8_comes 2 = .ok (.iload_n 2, 1) := by decide +kernel
theorem dX8_comes_3 : decode cX8_comes 3 = .ok (.invokevirtual 183, 3) := by decide +kernel
theorem dX8_comes_6 : decode cX8_comes 6 = .ok (.ifCond .eq 8, 3) := by decide +kernel
theorem dX8_comes_9 : decode cX8_comes 9 = .ok (.iload_n 3, 1) := by decide +kernel
theorem dX8_comes_10 : decode cX8_comes 10 = .ok (.iconst (-1), 1) := by decide +kernel
theorem dX8_comes_11 : decode cX8_comes 11 = .ok (.if_icmp .ge 5, 3) := by decide +kernel
theorem dX8_comes_14 : decode cX8_comes 14 = .ok (.iconst (-1), 1) := by decide +kernel
theorem dX8_comes_15 : decode cX8_comes 15 = .ok (.ireturn, 1) := by decide +kernel
theorem dX8_comes_16 : decode cX8_comes 16 = .ok (.aload_n 0, 1) := by decide +kernel
theorem dX8_comes_17 : decode cX8_comes 17 = .ok (.getfield 30, 3) := by decide +kernel
theorem dX8_comes_20 : decode cX8_comes 20 = .ok (.aload_n 0, 1) := by decide +kernel
theorem dX8_comes_21 : decode cX8_comes 21 = .ok (.getfield 60, 3) := by decide +kernel
theorem dX8_comes_24 : decode cX8_comes 24 = .ok (.iload_n 1, 1) := by decide +kernel
theorem dX8_comes_25 : decode cX8_comes 25 = .ok (.iload_n 2, 1) := by decide +kernel
theorem dX8_comes_26 : decode cX8_comes 26 = .ok (.invokevirtual 258, 3) := by decide +kernel
theorem dX8_comes_29 : decode cX8_comes 29 = .ok (.istore 4, 2) := by decide +kernel
theorem dX8_comes_31 : decode cX8_comes 31 = .ok (.iload_n 3, 1) := by decide +kernel
theorem dX8_comes_32 : decode cX8_comes 32 = .ok (.iconst (-1), 1) := by decide +kernel
theorem dX8_comes_33 : decode cX8_comes 33 = .ok (.if_icmp .ne 8, 3) := by decide +kernel
theorem dX8_comes_36 : decode cX8_comes 36 = .ok (.iload 4, 2) := by decide +kernel
theorem dX8_comes_38 : decode cX8_comes 38 = .ok (.goto 11, 3) := by decide +kernel
theorem dX8_comes_41 : decode cX8_comes 41 = .ok (.aload_n 0, 1) := by decide +kernel
theorem dX8_comes_42 : decode cX8_comes 42 = .ok (.getfield 30, 3) := by decide +kernel
theorem dX8_comes_45 : decode cX8_comes 45 = .ok (.iload_n 3, 1) := by decide +kernel
theorem dX8_comes_46 : decode cX8_comes 46 = .ok (.invokevirtual 262, 3) := by decide +kernel
theorem dX8_comes_49 : decode cX8_comes 49 = .ok (.ireturn, 1) := by decide +kernel
theorem dX8_best_0 : decode cX8_best 0 = .ok (.iload_n 1, 1) := by decide +kernel
theorem dX8_best_1 : decode cX8_best 1 = .ok (.iconst 2, 1) := by decide +kernel
theorem dX8_best_2 : decode cX8_best 2 = .ok (.if_icmp .lt 21, 3) := by decide +kernel
theorem dX8_best_5 : decode cX8_best 5 = .ok (.iload_n 1, 1) := by decide +kernel
theorem dX8_best_6 : decode cX8_best 6 = .ok (.iconst 4, 1) := by decide +kernel
theorem dX8_best_7 : decode cX8_best 7 = .ok (.if_icmp .gt 16, 3) := by decide +kernel
theorem dX8_best_10 : decode cX8_best 10 = .ok (.iload_n 1, 1) := by decide +kernel
theorem dX8_best_11 : decode cX8_best 11 = .ok (.aload_n 0, 1) := by decide +kernel
theorem dX8_best_12 : decode cX8_best 12 = .ok (.getfield 51, 3) := by decide +kernel
theorem dX8_best_15 : decode cX8_best 15 = .ok (.getfield 101, 3) := by decide +kernel
theorem dX8_best_18 : decode cX8_best 18 = .ok (.iconst 0, 1) := by decide +kernel
theorem dX8_best_19 : decode cX8_best 19 = .ok (.iaload, 1) := by decide +kernel
theorem dX8_best_20 : decode cX8_best 20 = .ok (.if_icmp .le 5, 3) := by decide +kernel
theorem dX8_best_23 : decode cX8_best 23 = .ok (.iconst (-1), 1) := by decide +kernel
theorem dX8_best_24 : decode cX8_best 24 = .ok (.ireturn, 1) := by decide +kernel
theorem dX8_best_25 : decode cX8_best 25 = .ok (.iconst (-1), 1) := by decide +kernel
theorem dX8_best_26 : decode cX8_best 26 = .ok (.istore_n 3, 1) := by decide +kernel
theorem dX8_best_27 : decode cX8_best 27 = .ok (.iconst (-1), 1) := by decide +kernel
theorem dX8_best_28 : decode cX8_best 28 = .ok (.istore 4, 2) := by decide +kernel
theorem dX8_best_30 : decode cX8_best 30 = .ok (.aload_n 0, 1) := by decide +kernel
theorem dX8_best_31 : decode cX8_best 31 = .ok (.getfield 51, 3) := by decide +kernel
theorem dX8_best_34 : decode cX8_best 34 = .ok (.invokevirtual 230, 3) := by decide +kernel
theorem dX8_best_37 : decode cX8_best 37 = .ok (.istore 5, 2) := by decide +kernel
theorem dX8_best_39 : decode cX8_best 39 = .ok (.iconst 0, 1) := by decide +kernel
theorem dX8_best_40 : decode cX8_best 40 = .ok (.istore 6, 2) := by decide +kernel
theorem dX8_best_42 : decode cX8_best 42 = .ok (.iload 6, 2) := by decide +kernel
theorem dX8_best_44 : decode cX8_best 44 = .ok (.iload 5, 2) := by decide +kernel
theorem dX8_best_46 : decode cX8_best 46 = .ok (.if_icmp .gt 68, 3) := by decide +kernel
theorem dX8_best_49 : decode cX8_best 49 = .ok (.iload 6, 2) := by decide +kernel
theorem dX8_best_51 : decode cX8_best 51 = .ok (.invokestatic 178, 3) := by decide +kernel
theorem dX8_best_54 : decode cX8_best 54 = .ok (.iload_n 1, 1) := by decide +kernel
theorem dX8_best_55 : decode cX8_best 55 = .ok (.if_icmp .ne 53, 3) := by decide +kernel
theorem dX8_best_58 : decode cX8_best 58 = .ok (.aload_n 0, 1) := by decide +kernel
theorem dX8_best_59 : decode cX8_best 59 = .ok (.getfield 64, 3) := by decide +kernel
theorem dX8_best_62 : decode cX8_best 62 = .ok (.getfield 110, 3) := by decide +kernel
theorem dX8_best_65 : decode cX8_best 65 = .ok (.aload_n 0, 1) := by decide +kernel
theorem dX8_best_66 : decode cX8_best 66 = .ok (.getfield 60, 3) := by decide +kernel
theorem dX8_best_69 : decode cX8_best 69 = .ok (.getfield 110, 3) := by decide +kernel
theorem dX8_best_72 : decode cX8_best 72 = .ok (.invokevirtual 265, 3) := by decide +kernel
theorem dX8_best_75 : decode cX8_best 75 = .ok (.aload_n 0, 1) := by decide +kernel
theorem dX8_best_76 : decode cX8_best 76 = .ok (.getfield 64, 3) := by decide +kernel
theorem dX8_best_79 : decode cX8_best 79 = .ok (.iload 6, 2) := by decide +kernel
theorem dX8_best_81 : decode cX8_best 81 = .ok (.invokevirtual 233, 3) := by decide +kernel
theorem dX8_best_84 : decode cX8_best 84 = .ok (.pop, 1) := by decide +kernel
theorem dX8_best_85 : decode cX8_best 85 = .ok (.aload_n 0, 1) := by decide +kernel
theorem dX8_best_86 : decode cX8_best 86 = .ok (.getfield 64, 3) := by decide +kernel
theorem dX8_best_89 : decode cX8_best 89 = .ok (.invokevirtual 119, 3) := by decide +kernel
theorem dX8_best_92 : decode cX8_best 92 = .ok (.istore 7, 2) := by decide +kernel
theorem dX8_best_94 : decode cX8_best 94 = .ok (.iload 7, 2) := by decide +kernel
theorem dX8_best_96 : decode cX8_best 96 = .ok (.iload 4, 2) := by decide +kernel
theorem dX8_best_98 : decode cX8_best 98 = .ok (.if_icmp .le 10, 3) := by decide +kernel
theorem dX8_best_101 : decode cX8_best 101 = .ok (.iload 7, 2) := by decide +kernel
theorem dX8_best_103 : decode cX8_best 103 = .ok (.istore 4, 2) := by decide +kernel
theorem dX8_best_105 : decode cX8_best 105 = .ok (.iload 6, 2) := by decide +kernel
theorem dX8_best_107 : decode cX8_best 107 = .ok (.istore_n 3, 1) := by decide +kernel
theorem dX8_best_108 : decode cX8_best 108 = .ok (.iinc 6 1, 3) := by decide +kernel
theorem dX8_best_111 : decode cX8_best 111 = .ok (.goto (-69), 3) := by decide +kernel
theorem dX8_best_114 : decode cX8_best 114 = .ok (.iload_n 2, 1) := by decide +kernel
theorem dX8_best_115 : decode cX8_best 115 = .ok (.lookupswitch 30 #[(0, 25), (1, 27)], 25) := by decide +kernel
theorem dX8_best_140 : decode cX8_best 140 = .ok (.iload_n 3, 1) := by decide +kernel
theorem dX8_best_141 : decode cX8_best 141 = .ok (.ireturn, 1) := by decide +kernel
theorem dX8_best_142 : decode cX8_best 142 = .ok (.iload 4, 2) := by decide +kernel
theorem dX8_best_144 : decode cX8_best 144 = .ok (.ireturn, 1) := by decide +kernel
theorem dX8_best_145 : decode cX8_best 145 = .ok (.iconst (-1), 1) := by decide +kernel
theorem dX8_best_146 : decode cX8_best 146 = .ok (.ireturn, 1) := by decide +kernel
theorem dX8_letters_0 : decode cX8_letters 0 = .ok (.aload_n 0, 1) := by decide +kernel
theorem dX8_letters_1 : decode cX8_letters 1 = .ok (.getfield 67, 3) := by decide +kernel
theorem dX8_letters_4 : decode cX8_letters 4 = .ok (.istore_n 1, 1) := by decide +kernel
theorem dX8_letters_5 : decode cX8_letters 5 = .ok (.aload_n 0, 1) := by decide +kernel
theorem dX8_letters_6 : decode cX8_letters 6 = .ok (.iconst 0, 1) := by decide +kernel
theorem dX8_letters_7 : decode cX8_letters 7 = .ok (.putfield 67, 3) := by decide +kernel
theorem dX8_letters_10 : decode cX8_letters 10 = .ok (.aload_n 0, 1) := by decide +kernel
theorem dX8_letters_11 : decode cX8_letters 11 = .ok (.iload_n 1, 1) := by decide +kernel
theorem dX8_letters_12 : decode cX8_letters 12 = .ok (.invokevirtual 268, 3) := by decide +kernel
theorem dX8_letters_15 : decode cX8_letters 15 = .ok (.ifCond .ne 9, 3) := by decide +kernel
theorem dX8_letters_18 : decode cX8_letters 18 = .ok (.aload_n 0, 1) := by decide +kernel
theorem dX8_letters_19 : decode cX8_letters 19 = .ok (.iconst 5, 1) := by decide +kernel
theorem dX8_letters_20 : decode cX8_letters 20 = .ok (.invokevirtual 70, 3) := by decide +kernel
theorem dX8_letters_23 : decode cX8_letters 23 = .ok (.ireturn, 1) := by decide +kernel
theorem dX8_letters_24 : decode cX8_letters 24 = .ok (.aload_n 0, 1) := by decide +kernel
theorem dX8_letters_25 : decode cX8_letters 25 = .ok (.iload_n 1, 1) := by decide +kernel
theorem dX8_letters_26 : decode cX8_letters 26 = .ok (.iconst 2, 1) := by decide +kernel
theorem dX8_letters_27 : decode cX8_letters 27 = .ok (.idiv, 1) := by decide +kernel
theorem dX8_letters_28 : decode cX8_letters 28 = .ok (.putfield 92, 3) := by decide +kernel
theorem dX8_letters_31 : decode cX8_letters 31 = .ok (.iconst 0, 1) := by decide +kernel
theorem dX8_letters_32 : decode cX8_letters 32 = .ok (.istore_n 2, 1) := by decide +kernel
theorem dX8_letters_33 : decode cX8_letters 33 = .ok (.iconst 0, 1) := by decide +kernel
theorem dX8_letters_34 : decode cX8_letters 34 = .ok (.istore_n 3, 1) := by decide +kernel
theorem dX8_letters_35 : decode cX8_letters 35 = .ok (.iload_n 3, 1) := by decide +kernel
theorem dX8_letters_36 : decode cX8_letters 36 = .ok (.aload_n 0, 1) := by decide +kernel
theorem dX8_letters_37 : decode cX8_letters 37 = .ok (.getfield 92, 3) := by decide +kernel
theorem dX8_letters_40 : decode cX8_letters 40 = .ok (.if_icmp .ge 56, 3) := by decide +kernel
theorem dX8_letters_43 : decode cX8_letters 43 = .ok (.iload_n 3, 1) := by decide +kernel
theorem dX8_letters_44 : decode cX8_letters 44 = .ok (.bipush 20, 2) := by decide +kernel
theorem dX8_letters_46 : decode cX8_letters 46 = .ok (.if_icmp .ge 50, 3) := by decide +kernel
theorem dX8_letters_49 : decode cX8_letters 49 = .ok (.aload_n 0, 1) := by decide +kernel
theorem dX8_letters_50 : decode cX8_letters 50 = .ok (.getfield 38, 3) := by decide +kernel
theorem dX8_letters_53 : decode cX8_letters 53 = .ok (.iload_n 3, 1) := by decide +kernel
theorem dX8_letters_54 : decode cX8_letters 54 = .ok (.aload_n 0, 1) := by decide +kernel
theorem dX8_letters_55 : decode cX8_letters 55 = .ok (.getfield 60, 3) := by decide +kernel
theorem dX8_letters_58 : decode cX8_letters 58 = .ok (.aload_n 0, 1) := by decide +kernel
theorem dX8_letters_59 : decode cX8_letters 59 = .ok (.iconst 2, 1) := by decide +kernel
theorem dX8_letters_60 : decode cX8_letters 60 = .ok (.iload_n 3, 1) := by decide +kernel
theorem dX8_letters_61 : decode cX8_letters 61 = .ok (.imul, 1) := by decide +kernel
theorem dX8_letters_62 : decode cX8_letters 62 = .ok (.invokevirtual 271, 3) := by decide +kernel
theorem dX8_letters_65 : decode cX8_letters 65 = .ok (.aload_n 0, 1) := by decide +kernel
theorem dX8_letters_66 : decode cX8_letters 66 = .ok (.iconst 2, 1) := by decide +kernel
theorem dX8_letters_67 : decode cX8_letters 67 = .ok (.iload_n 3, 1) := by decide +kernel
theorem dX8_letters_68 : decode cX8_letters 68 = .ok (.imul, 1) := by decide +kernel
theorem dX8_letters_69 : decode cX8_letters 69 = .ok (.iconst 1, 1) := by decide +kernel
theorem dX8_letters_70 : decode cX8_letters 70 = .ok (.iadd, 1) := by decide +kernel
theorem dX8_letters_71 : decode cX8_letters 71 = .ok (.invokevirtual 271, 3) := by decide +kernel
theorem dX8_letters_74 : decode cX8_letters 74 = .ok (.invokevirtual 274, 3) := by decide +kernel
theorem dX8_letters_77 : decode cX8_letters 77 = .ok (.iastore, 1) := by decide +kernel
theorem dX8_letters_78 : decode cX8_letters 78 = .ok (.aload_n 0, 1) := by decide +kernel
theorem dX8_letters_79 : decode cX8_letters 79 = .ok (.getfield 38, 3) := by decide +kernel
theorem dX8_letters_82 : decode cX8_letters 82 = .ok (.iload_n 3, 1) := by decide +kernel
theorem dX8_letters_83 : decode cX8_letters 83 = .ok (.iaload, 1) := by decide +kernel
theorem dX8_letters_84 : decode cX8_letters 84 = .ok (.ifCond .eq 6, 3) := by decide +kernel
theorem dX8_letters_87 : decode cX8_letters 87 = .ok (.iinc 2 1, 3) := by decide +kernel
theorem dX8_letters_90 : decode cX8_letters 90 = .ok (.iinc 3 1, 3) := by decide +kernel
theorem dX8_letters_93 : decode cX8_letters 93 = .ok (.goto (-58), 3) := by decide +kernel
theorem dX8_letters_96 : decode cX8_letters 96 = .ok (.iload_n 2, 1) := by decide +kernel
theorem dX8_letters_97 : decode cX8_letters 97 = .ok (.ireturn, 1) := by decide +kernel
theorem dX8_tellsLetters_0 : decode cX8_tellsLetters 0 = .ok (.iload_n 1, 1) := by decide +kernel
theorem dX8_tellsLetters_1 : decode cX8_tellsLetters 1 = .ok (.iconst 2, 1) := by decide +kernel
theorem dX8_tellsLetters_2 : decode cX8_tellsLetters 2 = .ok (.if_icmp .lt 15, 3) := by decide +kernel
theorem dX8_tellsLetters_5 : decode cX8_tellsLetters 5 = .ok (.iload_n 1, 1) := by decide +kernel
theorem dX8_tellsLetters_6 : decode cX8_tellsLetters 6 = .ok (.bipush 40, 2) := by decide +kernel
theorem dX8_tellsLetters_8 : decode cX8_tellsLetters 8 = .ok (.if_icmp .gt 9, 3) := by decide +kernel
theorem dX8_tellsLetters_11 : decode cX8_tellsLetters 11 = .ok (.iload_n 1, 1) := by decide +kernel
theorem dX8_tellsLetters_12 : decode cX8_tellsLetters 12 = .ok (.iconst 2, 1) := by decide +kernel
theorem dX8_tellsLetters_13 : decode cX8_tellsLetters 13 = .ok (.irem, 1) := by decide +kernel
theorem dX8_tellsLetters_14 : decode cX8_tellsLetters 14 = .ok (.ifCond .eq 5, 3) := by decide +kernel
theorem dX8_tellsLetters_17 : decode cX8_tellsLetters 17 = .ok (.iconst 0, 1) := by decide +kernel
theorem dX8_tellsLetters_18 : decode cX8_tellsLetters 18 = .ok (.ireturn, 1) := by decide +kernel
theorem dX8_tellsLetters_19 : decode cX8_tellsLetters 19 = .ok (.iconst 0, 1) := by decide +kernel
theorem dX8_tellsLetters_20 : decode cX8_tellsLetters 20 = .ok (.istore_n 2, 1) := by decide +kernel
theorem dX8_tellsLetters_21 : decode cX8_tellsLetters 21 = .ok (.iload_n 2, 1) := by decide +kernel
theorem dX8_tellsLetters_22 : decode cX8_tellsLetters 22 = .ok (.iload_n 1, 1) := by decide +kernel
theorem dX8_tellsLetters_23 : decode cX8_tellsLetters 23 = .ok (.if_icmp .ge 30, 3) := by decide +kernel
theorem dX8_tellsLetters_26 : decode cX8_tellsLetters 26 = .ok (.aload_n 0, 1) := by decide +kernel
theorem dX8_tellsLetters_27 : decode cX8_tellsLetters 27 = .ok (.aload_n 0, 1) := by decide +kernel
theorem dX8_tellsLetters_28 : decode cX8_tellsLetters 28 = .ok (.iload_n 2, 1) := by decide +kernel
theorem dX8_tellsLetters_29 : decode cX8_tellsLetters 29 = .ok (.invokevirtual 271, 3) := by decide +kernel
theorem dX8_tellsLetters_32 : decode cX8_tellsLetters 32 = .ok (.aload_n 0, 1) := by decide +kernel
theorem dX8_tellsLetters_33 : decode cX8_tellsLetters 33 = .ok (.iload_n 2, 1) := by decide +kernel
theorem dX8_tellsLetters_34 : decode cX8_tellsLetters 34 = .ok (.iconst 1, 1) := by decide +kernel
theorem dX8_tellsLetters_35 : decode cX8_tellsLetters 35 = .ok (.iadd, 1) := by decide +kernel
theorem dX8_tellsLetters_36 : decode cX8_tellsLetters 36 = .ok (.invokevirtual 271, 3) := by decide +kernel
theorem dX8_tellsLetters_39 : decode cX8_tellsLetters 39 = .ok (.invokevirtual 183, 3) := by decide +kernel
theorem dX8_tellsLetters_42 : decode cX8_tellsLetters 42 = .ok (.ifCond .ne 5, 3) := by decide +kernel
theorem dX8_tellsLetters_45 : decode cX8_tellsLetters 45 = .ok (.iconst 0, 1) := by decide +kernel
theorem dX8_tellsLetters_46 : decode cX8_tellsLetters 46 = .ok (.ireturn, 1) := by decide +kernel
theorem dX8_tellsLetters_47 : decode cX8_tellsLetters 47 = .ok (.iinc 2 2, 3) := by decide +kernel
theorem dX8_tellsLetters_50 : decode cX8_tellsLetters 50 = .ok (.goto (-29), 3) := by decide +kernel
theorem dX8_tellsLetters_53 : decode cX8_tellsLetters 53 = .ok (.iconst 1, 1) := by decide +kernel
theorem dX8_tellsLetters_54 : decode cX8_tellsLetters 54 = .ok (.ireturn, 1) := by decide +kernel
theorem dX8_letterIs_0 : decode cX8_letterIs 0 = .ok (.iload_n 1, 1) := by decide +kernel
theorem dX8_letterIs_1 : decode cX8_letterIs 1 = .ok (.ifCond .lt 26, 3) := by decide +kernel
theorem dX8_letterIs_4 : decode cX8_letterIs 4 = .ok (.iload_n 1, 1) := by decide +kernel
theorem dX8_letterIs_5 : decode cX8_letterIs 5 = .ok (.aload_n 0, 1) := by decide +kernel
theorem dX8_letterIs_6 : decode cX8_letterIs 6 = .ok (.getfield 92, 3) := by decide +kernel
theorem dX8_letterIs_9 : decode cX8_letterIs 9 = .ok (.if_icmp .ge 18, 3) := by decide +kernel
theorem dX8_letterIs_12 : decode cX8_letterIs 12 = .ok (.iload_n 1, 1) := by decide +kernel
theorem dX8_letterIs_13 : decode cX8_letterIs 13 = .ok (.bipush 20, 2) := by decide +kernel
theorem dX8_letterIs_15 : decode cX8_letterIs 15 = .ok (.if_icmp .ge 12, 3) := by decide +kernel
theorem dX8_letterIs_18 : decode cX8_letterIs 18 = .ok (.aload_n 0, 1) := by decide +kernel
theorem dX8_letterIs_19 : decode cX8_letterIs 19 = .ok (.getfield 38, 3) := by decide +kernel
theorem dX8_letterIs_22 : decode cX8_letterIs 22 = .ok (.iload_n 1, 1) := by decide +kernel
theorem dX8_letterIs_23 : decode cX8_letterIs 23 = .ok (.iaload, 1) := by decide +kernel
theorem dX8_letterIs_24 : decode cX8_letterIs 24 = .ok (.goto 4, 3) := by decide +kernel
theorem dX8_letterIs_27 : decode cX8_letterIs 27 = .ok (.iconst (-1), 1) := by decide +kernel
theorem dX8_letterIs_28 : decode cX8_letterIs 28 = .ok (.ireturn, 1) := by decide +kernel
theorem dX8_fair_0 : decode cX8_fair 0 = .ok (.aload_n 0, 1) := by decide +kernel
theorem dX8_fair_1 : decode cX8_fair 1 = .ok (.getfield 51, 3) := by decide +kernel
theorem dX8_fair_4 : decode cX8_fair 4 = .ok (.iconst 0, 1) := by decide +kernel
theorem dX8_fair_5 : decode cX8_fair 5 = .ok (.iload_n 1, 1) := by decide +kernel
theorem dX8_fair_6 : decode cX8_fair 6 = .ok (.invokevirtual 135, 3) := by decide +kernel
theorem dX8_fair_9 : decode cX8_fair 9 = .ok (.ifCond .ne 5, 3) := by decide +kernel
theorem dX8_fair_12 : decode cX8_fair 12 = .ok (.iconst (-1), 1) := by decide +kernel
theorem dX8_fair_13 : decode cX8_fair 13 = .ok (.ireturn, 1) := by decide +kernel
theorem dX8_fair_14 : decode cX8_fair 14 = .ok (.aload_n 0, 1) := by decide +kernel
theorem dX8_fair_15 : decode cX8_fair 15 = .ok (.getfield 60, 3) := by decide +kernel
theorem dX8_fair_18 : decode cX8_fair 18 = .ok (.iload_n 1, 1) := by decide +kernel
theorem dX8_fair_19 : decode cX8_fair 19 = .ok (.invokevirtual 150, 3) := by decide +kernel
theorem dX8_fair_22 : decode cX8_fair 22 = .ok (.istore_n 3, 1) := by decide +kernel
theorem dX8_fair_23 : decode cX8_fair 23 = .ok (.aload_n 0, 1) := by decide +kernel
theorem dX8_fair_24 : decode cX8_fair 24 = .ok (.getfield 51, 3) := by decide +kernel
theorem dX8_fair_27 : decode cX8_fair 27 = .ok (.iload_n 3, 1) := by decide +kernel
theorem dX8_fair_28 : decode cX8_fair 28 = .ok (.invokevirtual 277, 3) := by decide +kernel
theorem dX8_fair_31 : decode cX8_fair 31 = .ok (.istore 4, 2) := by decide +kernel
theorem dX8_fair_33 : decode cX8_fair 33 = .ok (.iload_n 2, 1) := by decide +kernel
theorem dX8_fair_34 : decode cX8_fair 34 = .ok (.lookupswitch 40 #[(0, 26), (1, 29)], 26) := by decide +kernel
theorem dX8_fair_60 : decode cX8_fair 60 = .ok (.iload 4, 2) := by decide +kernel
theorem dX8_fair_62 : decode cX8_fair 62 = .ok (.ireturn, 1) := by decide +kernel
theorem dX8_fair_63 : decode cX8_fair 63 = .ok (.aload_n 0, 1) := by decide +kernel
theorem dX8_fair_64 : decode cX8_fair 64 = .ok (.getfield 51, 3) := by decide +kernel
theorem dX8_fair_67 : decode cX8_fair 67 = .ok (.iload 4, 2) := by decide +kernel
theorem dX8_fair_69 : decode cX8_fair 69 = .ok (.iload_n 3, 1) := by decide +kernel
theorem dX8_fair_70 : decode cX8_fair 70 = .ok (.invokevirtual 280, 3) := by decide +kernel
theorem dX8_fair_73 : decode cX8_fair 73 = .ok (.ireturn, 1) := by decide +kernel
theorem dX8_fair_74 : decode cX8_fair 74 = .ok (.iconst (-1), 1) := by decide +kernel
theorem dX8_fair_75 : decode cX8_fair 75 = .ok (.ireturn, 1) := by decide +kernel
theorem dX8_later_0 : decode cX8_later 0 = .ok (.aload_n 0, 1) := by decide +kernel
theorem dX8_later_1 : decode cX8_later 1 = .ok (.getfield 51, 3) := by decide +kernel
theorem dX8_later_4 : decode cX8_later 4 = .ok (.iconst 1, 1) := by decide +kernel
theorem dX8_later_5 : decode cX8_later 5 = .ok (.iload_n 1, 1) := by decide +kernel
theorem dX8_later_6 : decode cX8_later 6 = .ok (.invokevirtual 135, 3) := by decide +kernel
theorem dX8_later_9 : decode cX8_later 9 = .ok (.ifCond .eq 31, 3) := by decide +kernel
theorem dX8_later_12 : decode cX8_later 12 = .ok (.iload_n 2, 1) := by decide +kernel
theorem dX8_later_13 : decode cX8_later 13 = .ok (.ifCond .lt 27, 3) := by decide +kernel
theorem dX8_later_16 : decode cX8_later 16 = .ok (.iload_n 2, 1) := by decide +kernel
theorem dX8_later_17 : decode cX8_later 17 = .ok (.bipush 60, 2) := by decide +kernel
theorem dX8_later_19 : decode cX8_later 19 = .ok (.if_icmp .gt 21, 3) := by decide +kernel
theorem dX8_later_22 : decode cX8_later 22 = .ok (.aload_n 0, 1) := by decide +kernel
theorem dX8_later_23 : decode cX8_later 23 = .ok (.getfield 60, 3) := by decide +kernel
theorem dX8_later_26 : decode cX8_later 26 = .ok (.getfield 110, 3) := by decide +kernel
theorem dX8_later_29 : decode cX8_later 29 = .ok (.getfield 114, 3) := by decide +kernel
theorem dX8_later_32 : decode cX8_later 32 = .ok (.iload_n 2, 1) := by decide +kernel
theorem dX8_later_33 : decode cX8_later 33 = .ok (.iadd, 1) := by decide +kernel
theorem dX8_later_34 : decode cX8_later 34 = .ok (.sipush 999, 3) := by decide +kernel
theorem dX8_later_37 : decode cX8_later 37 = .ok (.if_icmp .le 5, 3) := by decide +kernel
theorem dX8_later_40 : decode cX8_later 40 = .ok (.iconst (-1), 1) := by decide +kernel
theorem dX8_later_41 : decode cX8_later 41 = .ok (.ireturn, 1) := by decide +kernel
theorem dX8_later_42 : decode cX8_later 42 = .ok (.aload_n 0, 1) := by decide +kernel
theorem dX8_later_43 : decode cX8_later 43 = .ok (.getfield 64, 3) := by decide +kernel
theorem dX8_later_46 : decode cX8_later 46 = .ok (.getfield 110, 3) := by decide +kernel
theorem dX8_later_49 : decode cX8_later 49 = .ok (.aload_n 0, 1) := by decide +kernel
theorem dX8_later_50 : decode cX8_later 50 = .ok (.getfield 60, 3) := by decide +kernel
theorem dX8_later_53 : decode cX8_later 53 = .ok (.getfield 110, 3) := by decide +kernel
theorem dX8_later_56 : decode cX8_later 56 = .ok (.invokevirtual 265, 3) := by decide +kernel
theorem dX8_later_59 : decode cX8_later 59 = .ok (.aload_n 0, 1) := by decide +kernel
theorem dX8_later_60 : decode cX8_later 60 = .ok (.getfield 64, 3) := by decide +kernel
theorem dX8_later_63 : decode cX8_later 63 = .ok (.iload_n 2, 1) := by decide +kernel
theorem dX8_later_64 : decode cX8_later 64 = .ok (.invokevirtual 236, 3) := by decide +kernel
theorem dX8_later_67 : decode cX8_later 67 = .ok (.pop, 1) := by decide +kernel
theorem dX8_later_68 : decode cX8_later 68 = .ok (.aload_n 0, 1) := by decide +kernel
theorem dX8_later_69 : decode cX8_later 69 = .ok (.getfield 64, 3) := by decide +kernel
theorem dX8_later_72 : decode cX8_later 72 = .ok (.getfield 110, 3) := by decide +kernel
theorem dX8_later_75 : decode cX8_later 75 = .ok (.getfield 172, 3) := by decide +kernel
theorem dX8_later_78 : decode cX8_later 78 = .ok (.iload_n 1, 1) := by decide +kernel
theorem dX8_later_79 : decode cX8_later 79 = .ok (.iaload, 1) := by decide +kernel
theorem dX8_later_80 : decode cX8_later 80 = .ok (.ireturn, 1) := by decide +kernel
theorem dX8_useless_0 : decode cX8_useless 0 = .ok (.aload_n 0, 1) := by decide +kernel
theorem dX8_useless_1 : decode cX8_useless 1 = .ok (.getfield 64, 3) := by decide +kernel
theorem dX8_useless_4 : decode cX8_useless 4 = .ok (.getfield 110, 3) := by decide +kernel
theorem dX8_useless_7 : decode cX8_useless 7 = .ok (.aload_n 0, 1) := by decide +kernel
theorem dX8_useless_8 : decode cX8_useless 8 = .ok (.getfield 60, 3) := by decide +kernel
theorem dX8_useless_11 : decode cX8_useless 11 = .ok (.getfield 110, 3) := by decide +kernel
theorem dX8_useless_14 : decode cX8_useless 14 = .ok (.invokevirtual 265, 3) := by decide +kernel
theorem dX8_useless_17 : decode cX8_useless 17 = .ok (.iconst 0, 1) := by decide +kernel
theorem dX8_useless_18 : decode cX8_useless 18 = .ok (.istore_n 2, 1) := by decide +kernel
theorem dX8_useless_19 : decode cX8_useless 19 = .ok (.iload_n 2, 1) := by decide +kernel
theorem dX8_useless_20 : decode cX8_useless 20 = .ok (.bipush 60, 2) := by decide +kernel
theorem dX8_useless_22 : decode cX8_useless 22 = .ok (.if_icmp .gt 98, 3) := by decide +kernel
theorem dX8_useless_25 : decode cX8_useless 25 = .ok (.aload_n 0, 1) := by decide +kernel
theorem dX8_useless_26 : decode cX8_useless 26 = .ok (.getfield 60, 3) := by decide +kernel
theorem dX8_useless_29 : decode cX8_useless 29 = .ok (.getfield 110, 3) := by decide +kernel
theorem dX8_useless_32 : decode cX8_useless 32 = .ok (.getfield 114, 3) := by decide +kernel
theorem dX8_useless_35 : decode cX8_useless 35 = .ok (.iload_n 2, 1) := by decide +kernel
theorem dX8_useless_36 : decode cX8_useless 36 = .ok (.iadd, 1) := by decide +kernel
theorem dX8_useless_37 : decode cX8_useless 37 = .ok (.sipush 999, 3) := by decide +kernel
theorem dX8_useless_40 : decode cX8_useless 40 = .ok (.if_icmp .gt 80, 3) := by decide +kernel
theorem dX8_useless_43 : decode cX8_useless 43 = .ok (.iload_n 2, 1) := by decide +kernel
theorem dX8_useless_44 : decode cX8_useless 44 = .ok (.ifCond .le 12, 3) := by decide +kernel
theorem dX8_useless_47 : decode cX8_useless 47 = .ok (.aload_n 0, 1) := by decide +kernel
theorem dX8_useless_48 : decode cX8_useless 48 = .ok (.getfield 64, 3) := by decide +kernel
theorem dX8_useless_51 : decode cX8_useless 51 = .ok (.iconst 1, 1) := by decide +kernel
theorem dX8_useless_52 : decode cX8_useless 52 = .ok (.invokevirtual 236, 3) := by decide +kernel
theorem dX8_useless_55 : decode cX8_useless 55 = .ok (.pop, 1) := by decide +kernel
theorem dX8_useless_56 : decode cX8_useless 56 = .ok (.aload_n 0, 1) := by decide +kernel
theorem dX8_useless_57 : decode cX8_useless 57 = .ok (.getfield 64, 3) := by decide +kernel
theorem dX8_useless_60 : decode cX8_useless 60 = .ok (.invokevirtual 129, 3) := by decide +kernel
theorem dX8_useless_63 : decode cX8_useless 63 = .ok (.istore_n 3, 1) := by decide +kernel
theorem dX8_useless_64 : decode cX8_useless 64 = .ok (.iload_n 3, 1) := by decide +kernel
theorem dX8_useless_65 : decode cX8_useless 65 = .ok (.ifCond .eq 49, 3) := by decide +kernel
theorem dX8_useless_68 : decode cX8_useless 68 = .ok (.iload_n 1, 1) := by decide +kernel
theorem dX8_useless_69 : decode cX8_useless 69 = .ok (.lookupswitch 43 #[(0, 27), (1, 38)], 27) := by decide +kernel
theorem dX8_useless_96 : decode cX8_useless 96 = .ok (.aload_n 0, 1) := by decide +kernel
theorem dX8_useless_97 : decode cX8_useless 97 = .ok (.getfield 64, 3) := by decide +kernel
theorem dX8_useless_100 : decode cX8_useless 100 = .ok (.getfield 110, 3) := by decide +kernel
theorem dX8_useless_103 : decode cX8_useless 103 = .ok (.getfield 114, 3) := by decide +kernel
theorem dX8_useless_106 : decode cX8_useless 106 = .ok (.ireturn, 1) := by decide +kernel
theorem dX8_useless_107 : decode cX8_useless 107 = .ok (.iload_n 3, 1) := by decide +kernel
theorem dX8_useless_108 : decode cX8_useless 108 = .ok (.invokestatic 283, 3) := by decide +kernel
theorem dX8_useless_111 : decode cX8_useless 111 = .ok (.ireturn, 1) := by decide +kernel
theorem dX8_useless_112 : decode cX8_useless 112 = .ok (.iconst (-1), 1) := by decide +kernel
theorem dX8_useless_113 : decode cX8_useless 113 = .ok (.ireturn, 1) := by decide +kernel
theorem dX8_useless_114 : decode cX8_useless 114 = .ok (.iinc 2 1, 3) := by decide +kernel
theorem dX8_useless_117 : decode cX8_useless 117 = .ok (.goto (-98), 3) := by decide +kernel
theorem dX8_useless_120 : decode cX8_useless 120 = .ok (.iconst (-1), 1) := by decide +kernel
theorem dX8_useless_121 : decode cX8_useless 121 = .ok (.ireturn, 1) := by decide +kernel
theorem dX8_image_0 : decode cX8_image 0 = .ok (.aload_n 0, 1) := by decide +kernel
theorem dX8_image_1 : decode cX8_image 1 = .ok (.getfield 60, 3) := by decide +kernel
theorem dX8_image_4 : decode cX8_image 4 = .ok (.getfield 110, 3) := by decide +kernel
theorem dX8_image_7 : decode cX8_image 7 = .ok (.astore_n 1, 1) := by decide +kernel
theorem dX8_image_8 : decode cX8_image 8 = .ok (.aload_n 0, 1) := by decide +kernel
theorem dX8_image_9 : decode cX8_image 9 = .ok (.iconst 0, 1) := by decide +kernel
theorem dX8_image_10 : decode cX8_image 10 = .ok (.putfield 286, 3) := by decide +kernel
theorem dX8_image_13 : decode cX8_image 13 = .ok (.aload_n 0, 1) := by decide +kernel
theorem dX8_image_14 : decode cX8_image 14 = .ok (.aload_n 1, 1) := by decide +kernel
theorem dX8_image_15 : decode cX8_image 15 = .ok (.getfield 114, 3) := by decide +kernel
theorem dX8_image_18 : decode cX8_image 18 = .ok (.bipush 8, 2) := by decide +kernel
theorem dX8_image_20 : decode cX8_image 20 = .ok (.ishr, 1) := by decide +kernel
theorem dX8_image_21 : decode cX8_image 21 = .ok (.invokevirtual 289, 3) := by decide +kernel
theorem dX8_image_24 : decode cX8_image 24 = .ok (.aload_n 0, 1) := by decide +kernel
theorem dX8_image_25 : decode cX8_image 25 = .ok (.aload_n 1, 1) := by decide +kernel
theorem dX8_image_26 : decode cX8_image 26 = .ok (.getfield 114, 3) := by decide +kernel
theorem dX8_image_29 : decode cX8_image 29 = .ok (.sipush 255, 3) := by decide +kernel
theorem dX8_image_32 : decode cX8_image 32 = .ok (.iand, 1) := by decide +kernel
theorem dX8_image_33 : decode cX8_image 33 = .ok (.invokevirtual 289, 3) := by decide +kernel
theorem dX8_image_36 : decode cX8_image 36 = .ok (.iconst 0, 1) := by decide +kernel
theorem dX8_image_37 : decode cX8_image 37 = .ok (.istore_n 2, 1) := by decide +kernel
theorem dX8_image_38 : decode cX8_image 38 = .ok (.iload_n 2, 1) := by decide +kernel
theorem dX8_image_39 : decode cX8_image 39 = .ok (.aload_n 0, 1) := by decide +kernel
theorem dX8_image_40 : decode cX8_image 40 = .ok (.getfield 51, 3) := by decide +kernel
theorem dX8_image_43 : decode cX8_image 43 = .ok (.getfield 101, 3) := by decide +kernel
theorem dX8_image_46 : decode cX8_image 46 = .ok (.iconst 1, 1) := by decide +kernel
theorem dX8_image_47 : decode cX8_image 47 = .ok (.iaload, 1) := by decide +kernel
theorem dX8_image_48 : decode cX8_image 48 = .ok (.if_icmp .ge 53, 3) := by decide +kernel
theorem dX8_image_51 : decode cX8_image 51 = .ok (.aload_n 0, 1) := by decide +kernel
theorem dX8_image_52 : decode cX8_image 52 = .ok (.aload_n 1, 1) := by decide +kernel
theorem dX8_image_53 : decode cX8_image 53 = .ok (.getfield 169, 3) := by decide +kernel
theorem dX8_image_56 : decode cX8_image 56 = .ok (.iload_n 2, 1) := by decide +kernel
theorem dX8_image_57 : decode cX8_image 57 = .ok (.iaload, 1) := by decide +kernel
theorem dX8_image_58 : decode cX8_image 58 = .ok (.invokevirtual 289, 3) := by decide +kernel
theorem dX8_image_61 : decode cX8_image 61 = .ok (.iconst 0, 1) := by decide +kernel
theorem dX8_image_62 : decode cX8_image 62 = .ok (.istore_n 3, 1) := by decide +kernel
theorem dX8_image_63 : decode cX8_image 63 = .ok (.iload_n 3, 1) := by decide +kernel
theorem dX8_image_64 : decode cX8_image 64 = .ok (.aload_n 0, 1) := by decide +kernel
theorem dX8_image_65 : decode cX8_image 65 = .ok (.getfield 51, 3) := by decide +kernel
theorem dX8_image_68 : decode cX8_image 68 = .ok (.getfield 101, 3) := by decide +kernel
theorem dX8_image_71 : decode cX8_image 71 = .ok (.iconst 0, 1) := by decide +kernel
theorem dX8_image_72 : decode cX8_image 72 = .ok (.iaload, 1) := by decide +kernel
theorem dX8_image_73 : decode cX8_image 73 = .ok (.if_icmp .ge 22, 3) := by decide +kernel
theorem dX8_image_76 : decode cX8_image 76 = .ok (.aload_n 0, 1) := by decide +kernel
theorem dX8_image_77 : decode cX8_image 77 = .ok (.aload_n 0, 1) := by decide +kernel
theorem dX8_image_78 : decode cX8_image 78 = .ok (.getfield 60, 3) := by decide +kernel
theorem dX8_image_81 : decode cX8_image 81 = .ok (.iload_n 2, 1) := by decide +kernel
theorem dX8_image_82 : decode cX8_image 82 = .ok (.iload_n 3, 1) := by decide +kernel
theorem dX8_image_83 : decode cX8_image 83 = .ok (.invokevirtual 293, 3) := by decide +kernel
theorem dX8_image_86 : decode cX8_image 86 = .ok (.invokevirtual 289, 3) := by decide +kernel
theorem dX8_image_89 : decode cX8_image 89 = .ok (.iinc 3 1, 3) := by decide +kernel
theorem dX8_image_92 : decode cX8_image 92 = .ok (.goto (-29), 3) := by decide +kernel
theorem dX8_image_95 : decode cX8_image 95 = .ok (.iinc 2 1, 3) := by decide +kernel
theorem dX8_image_98 : decode cX8_image 98 = .ok (.goto (-60), 3) := by decide +kernel
theorem dX8_image_101 : decode cX8_image 101 = .ok (.bipush 103, 2) := by decide +kernel
theorem dX8_image_103 : decode cX8_image 103 = .ok (.istore_n 2, 1) := by decide +kernel
theorem dX8_image_104 : decode cX8_image 104 = .ok (.iconst 0, 1) := by decide +kernel
theorem dX8_image_105 : decode cX8_image 105 = .ok (.istore_n 3, 1) := by decide +kernel
theorem dX8_image_106 : decode cX8_image 106 = .ok (.iload_n 3, 1) := by decide +kernel
theorem dX8_image_107 : decode cX8_image 107 = .ok (.aload_n 0, 1) := by decide +kernel
theorem dX8_image_108 : decode cX8_image 108 = .ok (.getfield 286, 3) := by decide +kernel
theorem dX8_image_111 : decode cX8_image 111 = .ok (.if_icmp .ge 28, 3) := by decide +kernel
theorem dX8_image_114 : decode cX8_image 114 = .ok (.iconst 5, 1) := by decide +kernel
theorem dX8_image_115 : decode cX8_image 115 = .ok (.iload_n 2, 1) := by decide +kernel
theorem dX8_image_116 : decode cX8_image 116 = .ok (.imul, 1) := by decide +kernel
theorem dX8_image_117 : decode cX8_image 117 = .ok (.aload_n 0, 1) := by decide +kernel
theorem dX8_image_118 : decode cX8_image 118 = .ok (.getfield 41, 3) := by decide +kernel
theorem dX8_image_121 : decode cX8_image 121 = .ok (.iload_n 3, 1) := by decide +kernel
theorem dX8_image_122 : decode cX8_image 122 = .ok (.baload, 1) := by decide +kernel
theorem dX8_image_123 : decode cX8_image 123 = .ok (.sipush 255, 3) := by decide +kernel
theorem dX8_image_126 : decode cX8_image 126 = .ok (.iand, 1) := by decide +kernel
theorem dX8_image_127 : decode cX8_image 127 = .ok (.iadd, 1) := by decide +kernel
theorem dX8_image_128 : decode cX8_image 128 = .ok (.sipush 251, 3) := by decide +kernel
theorem dX8_image_131 : decode cX8_image 131 = .ok (.irem, 1) := by decide +kernel
theorem dX8_image_132 : decode cX8_image 132 = .ok (.istore_n 2, 1) := by decide +kernel
theorem dX8_image_133 : decode cX8_image 133 = .ok (.iinc 3 1, 3) := by decide +kernel
theorem dX8_image_136 : decode cX8_image 136 = .ok (.goto (-30), 3) := by decide +kernel
theorem dX8_image_139 : decode cX8_image 139 = .ok (.aload_n 0, 1) := by decide +kernel
theorem dX8_image_140 : decode cX8_image 140 = .ok (.iload_n 2, 1) := by decide +kernel
theorem dX8_image_141 : decode cX8_image 141 = .ok (.invokevirtual 289, 3) := by decide +kernel
theorem dX8_image_144 : decode cX8_image 144 = .ok (.aload_n 0, 1) := by decide +kernel
theorem dX8_image_145 : decode cX8_image 145 = .ok (.getfield 286, 3) := by decide +kernel
theorem dX8_image_148 : decode cX8_image 148 = .ok (.ireturn, 1) := by decide +kernel
theorem dX8_putImageByte_0 : decode cX8_putImageByte 0 = .ok (.aload_n 0, 1) := by decide +kernel
theorem dX8_putImageByte_1 : decode cX8_putImageByte 1 = .ok (.getfield 286, 3) := by decide +kernel
theorem dX8_putImageByte_4 : decode cX8_putImageByte 4 = .ok (.sipush 135, 3) := by decide +kernel
theorem dX8_putImageByte_7 : decode cX8_putImageByte 7 = .ok (.if_icmp .ge 24, 3) := by decide +kernel
theorem dX8_putImageByte_10 : decode cX8_putImageByte 10 = .ok (.aload_n 0, 1) := by decide +kernel
theorem dX8_putImageByte_11 : decode cX8_putImageByte 11 = .ok (.getfield 41, 3) := by decide +kernel
theorem dX8_putImageByte_14 : decode cX8_putImageByte 14 = .ok (.aload_n 0, 1) := by decide +kernel
theorem dX8_putImageByte_15 : decode cX8_putImageByte 15 = .ok (.getfield 286, 3) := by decide +kernel
theorem dX8_putImageByte_18 : decode cX8_putImageByte 18 = .ok (.iload_n 1, 1) := by decide +kernel
theorem dX8_putImageByte_19 : decode cX8_putImageByte 19 = .ok (.i2b, 1) := by decide +kernel
theorem dX8_putImageByte_20 : decode cX8_putImageByte 20 = .ok (.bastore, 1) := by decide +kernel
theorem dX8_putImageByte_21 : decode cX8_putImageByte 21 = .ok (.aload_n 0, 1) := by decide +kernel
theorem dX8_putImageByte_22 : decode cX8_putImageByte 22 = .ok (.dup, 1) := by decide +kernel
theorem dX8_putImageByte_23 : decode cX8_putImageByte 23 = .ok (.getfield 286, 3) := by decide +kernel
theorem dX8_putImageByte_26 : decode cX8_putImageByte 26 = .ok (.iconst 1, 1) := by decide +kernel
theorem dX8_putImageByte_27 : decode cX8_putImageByte 27 = .ok (.iadd, 1) := by decide +kernel
theorem dX8_putImageByte_28 : decode cX8_putImageByte 28 = .ok (.putfield 286, 3) := by decide +kernel
theorem dX8_putImageByte_31 : decode cX8_putImageByte 31 = .ok (.return_, 1) := by decide +kernel
theorem dX8_octet_0 : decode cX8_octet 0 = .ok (.iload_n 1, 1) := by decide +kernel
theorem dX8_octet_1 : decode cX8_octet 1 = .ok (.ifCond .lt 31, 3) := by decide +kernel
theorem dX8_octet_4 : decode cX8_octet 4 = .ok (.iload_n 1, 1) := by decide +kernel
theorem dX8_octet_5 : decode cX8_octet 5 = .ok (.aload_n 0, 1) := by decide +kernel
theorem dX8_octet_6 : decode cX8_octet 6 = .ok (.getfield 286, 3) := by decide +kernel
theorem dX8_octet_9 : decode cX8_octet 9 = .ok (.if_icmp .ge 23, 3) := by decide +kernel
theorem dX8_octet_12 : decode cX8_octet 12 = .ok (.iload_n 1, 1) := by decide +kernel
theorem dX8_octet_13 : decode cX8_octet 13 = .ok (.sipush 135, 3) := by decide +kernel
theorem dX8_octet_16 : decode cX8_octet 16 = .ok (.if_icmp .ge 16, 3) := by decide +kernel
theorem dX8_octet_19 : decode cX8_octet 19 = .ok (.aload_n 0, 1) := by decide +kernel
theorem dX8_octet_20 : decode cX8_octet 20 = .ok (.getfield 41, 3) := by decide +kernel
theorem dX8_octet_23 : decode cX8_octet 23 = .ok (.iload_n 1, 1) := by decide +kernel
theorem dX8_octet_24 : decode cX8_octet 24 = .ok (.baload, 1) := by decide +kernel
theorem dX8_octet_25 : decode cX8_octet 25 = .ok (.sipush 255, 3) := by decide +kernel
theorem dX8_octet_28 : decode cX8_octet 28 = .ok (.iand, 1) := by decide +kernel
theorem dX8_octet_29 : decode cX8_octet 29 = .ok (.goto 4, 3) := by decide +kernel
theorem dX8_octet_32 : decode cX8_octet 32 = .ok (.iconst (-1), 1) := by decide +kernel
theorem dX8_octet_33 : decode cX8_octet 33 = .ok (.ireturn, 1) := by decide +kernel
theorem dX8_on_0 : decode cX8_on 0 = .ok (.aload_n 0, 1) := by decide +kernel
theorem dX8_on_1 : decode cX8_on 1 = .ok (.getfield 67, 3) := by decide +kernel
theorem dX8_on_4 : decode cX8_on 4 = .ok (.istore_n 1, 1) := by decide +kernel
theorem dX8_on_5 : decode cX8_on 5 = .ok (.aload_n 0, 1) := by decide +kernel
theorem dX8_on_6 : decode cX8_on 6 = .ok (.iconst 0, 1) := by decide +kernel
theorem dX8_on_7 : decode cX8_on 7 = .ok (.putfield 67, 3) := by decide +kernel
theorem dX8_on_10 : decode cX8_on 10 = .ok (.aload_n 0, 1) := by decide +kernel
theorem dX8_on_11 : decode cX8_on 11 = .ok (.iload_n 1, 1) := by decide +kernel
theorem dX8_on_12 : decode cX8_on 12 = .ok (.invokevirtual 296, 3) := by decide +kernel
theorem dX8_on_15 : decode cX8_on 15 = .ok (.ifCond .ne 11, 3) := by decide +kernel
theorem dX8_on_18 : decode cX8_on 18 = .ok (.aload_n 0, 1) := by decide +kernel
theorem dX8_on_19 : decode cX8_on 19 = .ok (.iconst 5, 1) := by decide +kernel
theorem dX8_on_20 : decode cX8_on 20 = .ok (.invokevirtual 70, 3) := by decide +kernel
theorem dX8_on_23 : decode cX8_on 23 = .ok (.pop, 1) := by decide +kernel
theorem dX8_on_24 : decode cX8_on 24 = .ok (.iconst 0, 1) := by decide +kernel
theorem dX8_on_25 : decode cX8_on 25 = .ok (.ireturn, 1) := by decide +kernel
theorem dX8_on_26 : decode cX8_on 26 = .ok (.aload_n 0, 1) := by decide +kernel
theorem dX8_on_27 : decode cX8_on 27 = .ok (.getfield 60, 3) := by decide +kernel
theorem dX8_on_30 : decode cX8_on 30 = .ok (.getfield 110, 3) := by decide +kernel
theorem dX8_on_33 : decode cX8_on 33 = .ok (.astore_n 2, 1) := by decide +kernel
theorem dX8_on_34 : decode cX8_on 34 = .ok (.aload_n 2, 1) := by decide +kernel
theorem dX8_on_35 : decode cX8_on 35 = .ok (.aload_n 0, 1) := by decide +kernel
theorem dX8_on_36 : decode cX8_on 36 = .ok (.invokevirtual 299, 3) := by decide +kernel
theorem dX8_on_39 : decode cX8_on 39 = .ok (.putfield 114, 3) := by decide +kernel
theorem dX8_on_42 : decode cX8_on 42 = .ok (.iconst 0, 1) := by decide +kernel
theorem dX8_on_43 : decode cX8_on 43 = .ok (.istore_n 3, 1) := by decide +kernel
theorem dX8_on_44 : decode cX8_on 44 = .ok (.iload_n 3, 1) := by decide +kernel
theorem dX8_on_45 : decode cX8_on 45 = .ok (.aload_n 0, 1) := by decide +kernel
theorem dX8_on_46 : decode cX8_on 46 = .ok (.getfield 51, 3) := by decide +kernel
theorem dX8_on_49 : decode cX8_on 49 = .ok (.getfield 101, 3) := by decide +kernel
theorem dX8_on_52 : decode cX8_on 52 = .ok (.iconst 1, 1) := by decide +kernel
theorem dX8_on_53 : decode cX8_on 53 = .ok (.iaload, 1) := by decide +kernel
theorem dX8_on_54 : decode cX8_on 54 = .ok (.if_icmp .ge 86, 3) := by decide +kernel
theorem dX8_on_57 : decode cX8_on 57 = .ok (.aload_n 0, 1) := by decide +kernel
theorem dX8_on_58 : decode cX8_on 58 = .ok (.iload_n 3, 1) := by decide +kernel
theorem dX8_on_59 : decode cX8_on 59 = .ok (.invokevirtual 302, 3) := by decide +kernel
theorem dX8_on_62 : decode cX8_on 62 = .ok (.istore 4, 2) := by decide +kernel
theorem dX8_on_64 : decode cX8_on 64 = .ok (.aload_n 2, 1) := by decide +kernel
theorem dX8_on_65 : decode cX8_on 65 = .ok (.getfield 169, 3) := by decide +kernel
theorem dX8_on_68 : decode cX8_on 68 = .ok (.iload_n 3, 1) := by decide +kernel
theorem dX8_on_69 : decode cX8_on 69 = .ok (.aload_n 0, 1) := by decide +kernel
theorem dX8_on_70 : decode cX8_on 70 = .ok (.iload 4, 2) := by decide +kernel
theorem dX8_on_72 : decode cX8_on 72 = .ok (.invokevirtual 271, 3) := by decide +kernel
theorem dX8_on_75 : decode cX8_on 75 = .ok (.iastore, 1) := by decide +kernel
theorem dX8_on_76 : decode cX8_on 76 = .ok (.aload_n 2, 1) := by decide +kernel
theorem dX8_on_77 : decode cX8_on 77 = .ok (.getfield 172, 3) := by decide +kernel
theorem dX8_on_80 : decode cX8_on 80 = .ok (.iload_n 3, 1) := by decide +kernel
theorem dX8_on_81 : decode cX8_on 81 = .ok (.iconst 0, 1) := by decide +kernel
theorem dX8_on_82 : decode cX8_on 82 = .ok (.iastore, 1) := by decide +kernel
theorem dX8_on_83 : decode cX8_on 83 = .ok (.aload_n 2, 1) := by decide +kernel
theorem dX8_on_84 : decode cX8_on 84 = .ok (.getfield 175, 3) := by decide +kernel
theorem dX8_on_87 : decode cX8_on 87 = .ok (.iload_n 3, 1) := by decide +kernel
theorem dX8_on_88 : decode cX8_on 88 = .ok (.iconst 0, 1) := by decide +kernel
theorem dX8_on_89 : decode cX8_on 89 = .ok (.iastore, 1) := by decide +kernel
theorem dX8_on_90 : decode cX8_on 90 = .ok (.iconst 0, 1) := by decide +kernel
theorem dX8_on_91 : decode cX8_on 91 = .ok (.istore 5, 2) := by decide +kernel
theorem dX8_on_93 : decode cX8_on 93 = .ok (.iload 5, 2) := by decide +kernel
theorem dX8_on_95 : decode cX8_on 95 = .ok (.aload_n 0, 1) := by decide +kernel
theorem dX8_on_96 : decode cX8_on 96 = .ok (.getfield 51, 3) := by decide +kernel
theorem dX8_on_99 : decode cX8_on 99 = .ok (.getfield 101, 3) := by decide +kernel
theorem dX8_on_102 : decode cX8_on 102 = .ok (.iconst 0, 1) := by decide +kernel
theorem dX8_on_103 : decode cX8_on 103 = .ok (.iaload, 1) := by decide +kernel
theorem dX8_on_104 : decode cX8_on 104 = .ok (.if_icmp .ge 30, 3) := by decide +kernel
theorem dX8_on_107 : decode cX8_on 107 = .ok (.aload_n 0, 1) := by decide +kernel
theorem dX8_on_108 : decode cX8_on 108 = .ok (.getfield 60, 3) := by decide +kernel
theorem dX8_on_111 : decode cX8_on 111 = .ok (.iload_n 3, 1) := by decide +kernel
theorem dX8_on_112 : decode cX8_on 112 = .ok (.iload 5, 2) := by decide +kernel
theorem dX8_on_114 : decode cX8_on 114 = .ok (.aload_n 0, 1) := by decide +kernel
theorem dX8_on_115 : decode cX8_on 115 = .ok (.iload 4, 2) := by decide +kernel
theorem dX8_on_117 : decode cX8_on 117 = .ok (.iconst 1, 1) := by decide +kernel
theorem dX8_on_118 : decode cX8_on 118 = .ok (.iadd, 1) := by decide +kernel
theorem dX8_on_119 : decode cX8_on 119 = .ok (.iload 5, 2) := by decide +kernel
theorem dX8_on_121 : decode cX8_on 121 = .ok (.iadd, 1) := by decide +kernel
theorem dX8_on_122 : decode cX8_on 122 = .ok (.invokevirtual 271, 3) := by decide +kernel
theorem dX8_on_125 : decode cX8_on 125 = .ok (.invokevirtual 305, 3) := by decide +kernel
theorem dX8_on_128 : decode cX8_on 128 = .ok (.iinc 5 1, 3) := by decide +kernel
theorem dX8_on_131 : decode cX8_on 131 = .ok (.goto (-38), 3) := by decide +kernel
theorem dX8_on_134 : decode cX8_on 134 = .ok (.iinc 3 1, 3) := by decide +kernel
theorem dX8_on_137 : decode cX8_on 137 = .ok (.goto (-93), 3) := by decide +kernel
theorem dX8_on_140 : decode cX8_on 140 = .ok (.aload_n 0, 1) := by decide +kernel
theorem dX8_on_141 : decode cX8_on 141 = .ok (.getfield 23, 3) := by decide +kernel
theorem dX8_on_144 : decode cX8_on 144 = .ok (.invokevirtual 89, 3) := by decide +kernel
theorem dX8_on_147 : decode cX8_on 147 = .ok (.iconst 1, 1) := by decide +kernel
theorem dX8_on_148 : decode cX8_on 148 = .ok (.ireturn, 1) := by decide +kernel
theorem dX8_tapeDay_0 : decode cX8_tapeDay 0 = .ok (.aload_n 0, 1) := by decide +kernel
theorem dX8_tapeDay_1 : decode cX8_tapeDay 1 = .ok (.iconst 0, 1) := by decide +kernel
theorem dX8_tapeDay_2 : decode cX8_tapeDay 2 = .ok (.invokevirtual 271, 3) := by decide +kernel
theorem dX8_tapeDay_5 : decode cX8_tapeDay 5 = .ok (.bipush 8, 2) := by decide +kernel
theorem dX8_tapeDay_7 : decode cX8_tapeDay 7 = .ok (.ishl, 1) := by decide +kernel
theorem dX8_tapeDay_8 : decode cX8_tapeDay 8 = .ok (.aload_n 0, 1) := by decide +kernel
theorem dX8_tapeDay_9 : decode cX8_tapeDay 9 = .ok (.iconst 1, 1) := by decide +kernel
theorem dX8_tapeDay_10 : decode cX8_tapeDay 10 = .ok (.invokevirtual 271, 3) := by decide +kernel
theorem dX8_tapeDay_13 : decode cX8_tapeDay 13 = .ok (.ior, 1) := by decide +kernel
theorem dX8_tapeDay_14 : decode cX8_tapeDay 14 = .ok (.ireturn, 1) := by decide +kernel
theorem dX8_imageRow_0 : decode cX8_imageRow 0 = .ok (.iconst 2, 1) := by decide +kernel
theorem dX8_imageRow_1 : decode cX8_imageRow 1 = .ok (.iload_n 1, 1) := by decide +kernel
theorem dX8_imageRow_2 : decode cX8_imageRow 2 = .ok (.iconst 1, 1) := by decide +kernel
theorem dX8_imageRow_3 : decode cX8_imageRow 3 = .ok (.aload_n 0, 1) := by decide +kernel
theorem dX8_imageRow_4 : decode cX8_imageRow 4 = .ok (.getfield 51, 3) := by decide +kernel
theorem dX8_imageRow_7 : decode cX8_imageRow 7 = .ok (.getfield 101, 3) := by decide +kernel
theorem dX8_imageRow_10 : decode cX8_imageRow 10 = .ok (.iconst 0, 1) := by decide +kernel
theorem dX8_imageRow_11 : decode cX8_imageRow 11 = .ok (.iaload, 1) := by decide +kernel
theorem dX8_imageRow_12 : decode cX8_imageRow 12 = .ok (.iadd, 1) := by decide +kernel
theorem dX8_imageRow_13 : decode cX8_imageRow 13 = .ok (.imul, 1) := by decide +kernel
theorem dX8_imageRow_14 : decode cX8_imageRow 14 = .ok (.iadd, 1) := by decide +kernel
theorem dX8_imageRow_15 : decode cX8_imageRow 15 = .ok (.ireturn, 1) := by decide +kernel
theorem dX8_tellsImage_0 : decode cX8_tellsImage 0 = .ok (.iload_n 1, 1) := by decide +kernel
theorem dX8_tellsImage_1 : decode cX8_tellsImage 1 = .ok (.aload_n 0, 1) := by decide +kernel
theorem dX8_tellsImage_2 : decode cX8_tellsImage 2 = .ok (.aload_n 0, 1) := by decide +kernel
theorem dX8_tellsImage_3 : decode cX8_tellsImage 3 = .ok (.getfield 51, 3) := by decide +kernel
theorem dX8_tellsImage_6 : decode cX8_tellsImage 6 = .ok (.getfield 101, 3) := by decide +kernel
theorem dX8_tellsImage_9 : decode cX8_tellsImage 9 = .ok (.iconst 1, 1) := by decide +kernel
theorem dX8_tellsImage_10 : decode cX8_tellsImage 10 = .ok (.iaload, 1) := by decide +kernel
theorem dX8_tellsImage_11 : decode cX8_tellsImage 11 = .ok (.invokevirtual 302, 3) := by decide +kernel
theorem dX8_tellsImage_14 : decode cX8_tellsImage 14 = .ok (.iconst 1, 1) := by decide +kernel
theorem dX8_tellsImage_15 : decode cX8_tellsImage 15 = .ok (.iadd, 1) := by decide +kernel
theorem dX8_tellsImage_16 : decode cX8_tellsImage 16 = .ok (.if_icmp .ne 13, 3) := by decide +kernel
theorem dX8_tellsImage_19 : decode cX8_tellsImage 19 = .ok (.aload_n 0, 1) := by decide +kernel
theorem dX8_tellsImage_20 : decode cX8_tellsImage 20 = .ok (.invokevirtual 299, 3) := by decide +kernel
theorem dX8_tellsImage_23 : decode cX8_tellsImage 23 = .ok (.sipush 999, 3) := by decide +kernel
theorem dX8_tellsImage_26 : decode cX8_tellsImage 26 = .ok (.if_icmp .le 5, 3) := by decide +kernel
theorem dX8_tellsImage_29 : decode cX8_tellsImage 29 = .ok (.iconst 0, 1) := by decide +kernel
theorem dX8_tellsImage_30 : decode cX8_tellsImage 30 = .ok (.ireturn, 1) := by decide +kernel
theorem dX8_tellsImage_31 : decode cX8_tellsImage 31 = .ok (.iconst 0, 1) := by decide +kernel
theorem dX8_tellsImage_32 : decode cX8_tellsImage 32 = .ok (.istore_n 2, 1) := by decide +kernel
theorem dX8_tellsImage_33 : decode cX8_tellsImage 33 = .ok (.iload_n 2, 1) := by decide +kernel
theorem dX8_tellsImage_34 : decode cX8_tellsImage 34 = .ok (.aload_n 0, 1) := by decide +kernel
theorem dX8_tellsImage_35 : decode cX8_tellsImage 35 = .ok (.getfield 51, 3) := by decide +kernel
theorem dX8_tellsImage_38 : decode cX8_tellsImage 38 = .ok (.getfield 101, 3) := by decide +kernel
theorem dX8_tellsImage_41 : decode cX8_tellsImage 41 = .ok (.iconst 1, 1) := by decide +kernel
theorem dX8_tellsImage_42 : decode cX8_tellsImage 42 = .ok (.iaload, 1) := by decide +kernel
theorem dX8_tellsImage_43 : decode cX8_tellsImage 43 = .ok (.if_icmp .ge 23, 3) := by decide +kernel
theorem dX8_tellsImage_46 : decode cX8_tellsImage 46 = .ok (.aload_n 0, 1) := by decide +kernel
theorem dX8_tellsImage_47 : decode cX8_tellsImage 47 = .ok (.aload_n 0, 1) := by decide +kernel
theorem dX8_tellsImage_48 : decode cX8_tellsImage 48 = .ok (.iload_n 2, 1) := by decide +kernel
theorem dX8_tellsImage_49 : decode cX8_tellsImage 49 = .ok (.invokevirtual 302, 3) := by decide +kernel
theorem dX8_tellsImage_52 : decode cX8_tellsImage 52 = .ok (.invokevirtual 309, 3) := by decide +kernel
theorem dX8_tellsImage_55 : decode cX8_tellsImage 55 = .ok (.ifCond .ne 5, 3) := by decide +kernel
theorem dX8_tellsImage_58 : decode cX8_tellsImage 58 = .ok (.iconst 0, 1) := by decide +kernel
theorem dX8_tellsImage_59 : decode cX8_tellsImage 59 = .ok (.ireturn, 1) := by decide +kernel
theorem dX8_tellsImage_60 : decode cX8_tellsImage 60 = .ok (.iinc 2 1, 3) := by decide +kernel
theorem dX8_tellsImage_63 : decode cX8_tellsImage 63 = .ok (.goto (-30), 3) := by decide +kernel
theorem dX8_tellsImage_66 : decode cX8_tellsImage 66 = .ok (.bipush 103, 2) := by decide +kernel
theorem dX8_tellsImage_68 : decode cX8_tellsImage 68 = .ok (.istore_n 2, 1) := by decide +kernel
theorem dX8_tellsImage_69 : decode cX8_tellsImage 69 = .ok (.iconst 0, 1) := by decide +kernel
theorem dX8_tellsImage_70 : decode cX8_tellsImage 70 = .ok (.istore_n 3, 1) := by decide +kernel
theorem dX8_tellsImage_71 : decode cX8_tellsImage 71 = .ok (.iload_n 3, 1) := by decide +kernel
theorem dX8_tellsImage_72 : decode cX8_tellsImage 72 = .ok (.iload_n 1, 1) := by decide +kernel
theorem dX8_tellsImage_73 : decode cX8_tellsImage 73 = .ok (.iconst 1, 1) := by decide +kernel
theorem dX8_tellsImage_74 : decode cX8_tellsImage 74 = .ok (.isub, 1) := by decide +kernel
theorem dX8_tellsImage_75 : decode cX8_tellsImage 75 = .ok (.if_icmp .ge 23, 3) := by decide +kernel
theorem dX8_tellsImage_78 : decode cX8_tellsImage 78 = .ok (.iconst 5, 1) := by decide +kernel
theorem dX8_tellsImage_79 : decode cX8_tellsImage 79 = .ok (.iload_n 2, 1) := by decide +kernel
theorem dX8_tellsImage_80 : decode cX8_tellsImage 80 = .ok (.imul, 1) := by decide +kernel
theorem dX8_tellsImage_81 : decode cX8_tellsImage 81 = .ok (.aload_n 0, 1) := by decide +kernel
theorem dX8_tellsImage_82 : decode cX8_tellsImage 82 = .ok (.iload_n 3, 1) := by decide +kernel
theorem dX8_tellsImage_83 : decode cX8_tellsImage 83 = .ok (.invokevirtual 271, 3) := by decide +kernel
theorem dX8_tellsImage_86 : decode cX8_tellsImage 86 = .ok (.iadd, 1) := by decide +kernel
theorem dX8_tellsImage_87 : decode cX8_tellsImage 87 = .ok (.sipush 251, 3) := by decide +kernel
theorem dX8_tellsImage_90 : decode cX8_tellsImage 90 = .ok (.irem, 1) := by decide +kernel
theorem dX8_tellsImage_91 : decode cX8_tellsImage 91 = .ok (.istore_n 2, 1) := by decide +kernel
theorem dX8_tellsImage_92 : decode cX8_tellsImage 92 = .ok (.iinc 3 1, 3) := by decide +kernel
theorem dX8_tellsImage_95 : decode cX8_tellsImage 95 = .ok (.goto (-24), 3) := by decide +kernel
theorem dX8_tellsImage_98 : decode cX8_tellsImage 98 = .ok (.aload_n 0, 1) := by decide +kernel
theorem dX8_tellsImage_99 : decode cX8_tellsImage 99 = .ok (.iload_n 1, 1) := by decide +kernel
theorem dX8_tellsImage_100 : decode cX8_tellsImage 100 = .ok (.iconst 1, 1) := by decide +kernel
theorem dX8_tellsImage_101 : decode cX8_tellsImage 101 = .ok (.isub, 1) := by decide +kernel
theorem dX8_tellsImage_102 : decode cX8_tellsImage 102 = .ok (.invokevirtual 271, 3) := by decide +kernel
theorem dX8_tellsImage_105 : decode cX8_tellsImage 105 = .ok (.iload_n 2, 1) := by decide +kernel
theorem dX8_tellsImage_106 : decode cX8_tellsImage 106 = .ok (.if_icmp .ne 7, 3) := by decide +kernel
theorem dX8_tellsImage_109 : decode cX8_tellsImage 109 = .ok (.iconst 1, 1) := by decide +kernel
theorem dX8_tellsImage_110 : decode cX8_tellsImage 110 = .ok (.goto 4, 3) := by decide +kernel
theorem dX8_tellsImage_113 : decode cX8_tellsImage 113 = .ok (.iconst 0, 1) := by decide +kernel
theorem dX8_tellsImage_114 : decode cX8_tellsImage 114 = .ok (.ireturn, 1) := by decide +kernel
theorem dX8_tellsCoin_0 : decode cX8_tellsCoin 0 = .ok (.aload_n 0, 1) := by decide +kernel
theorem dX8_tellsCoin_1 : decode cX8_tellsCoin 1 = .ok (.iload_n 1, 1) := by decide +kernel
theorem dX8_tellsCoin_2 : decode cX8_tellsCoin 2 = .ok (.invokevirtual 271, 3) := by decide +kernel
theorem dX8_tellsCoin_5 : decode cX8_tellsCoin 5 = .ok (.istore_n 2, 1) := by decide +kernel
theorem dX8_tellsCoin_6 : decode cX8_tellsCoin 6 = .ok (.aload_n 0, 1) := by decide +kernel
theorem dX8_tellsCoin_7 : decode cX8_tellsCoin 7 = .ok (.getfield 51, 3) := by decide +kernel
theorem dX8_tellsCoin_10 : decode cX8_tellsCoin 10 = .ok (.iconst 0, 1) := by decide +kernel
theorem dX8_tellsCoin_11 : decode cX8_tellsCoin 11 = .ok (.iload_n 2, 1) := by decide +kernel
theorem dX8_tellsCoin_12 : decode cX8_tellsCoin 12 = .ok (.invokevirtual 135, 3) := by decide +kernel
theorem dX8_tellsCoin_15 : decode cX8_tellsCoin 15 = .ok (.ifCond .eq 16, 3) := by decide +kernel
theorem dX8_tellsCoin_18 : decode cX8_tellsCoin 18 = .ok (.aload_n 0, 1) := by decide +kernel
theorem dX8_tellsCoin_19 : decode cX8_tellsCoin 19 = .ok (.iload_n 1, 1) := by decide +kernel
theorem dX8_tellsCoin_20 : decode cX8_tellsCoin 20 = .ok (.iconst 1, 1) := by decide +kernel
theorem dX8_tellsCoin_21 : decode cX8_tellsCoin 21 = .ok (.iadd, 1) := by decide +kernel
theorem dX8_tellsCoin_22 : decode cX8_tellsCoin 22 = .ok (.iload_n 2, 1) := by decide +kernel
theorem dX8_tellsCoin_23 : decode cX8_tellsCoin 23 = .ok (.iadd, 1) := by decide +kernel
theorem dX8_tellsCoin_24 : decode cX8_tellsCoin 24 = .ok (.invokevirtual 271, 3) := by decide +kernel
theorem dX8_tellsCoin_27 : decode cX8_tellsCoin 27 = .ok (.iconst 2, 1) := by decide +kernel
theorem dX8_tellsCoin_28 : decode cX8_tellsCoin 28 = .ok (.if_icmp .ge 5, 3) := by decide +kernel
theorem dX8_tellsCoin_31 : decode cX8_tellsCoin 31 = .ok (.iconst 0, 1) := by decide +kernel
theorem dX8_tellsCoin_32 : decode cX8_tellsCoin 32 = .ok (.ireturn, 1) := by decide +kernel
theorem dX8_tellsCoin_33 : decode cX8_tellsCoin 33 = .ok (.iconst 2, 1) := by decide +kernel
theorem dX8_tellsCoin_34 : decode cX8_tellsCoin 34 = .ok (.sipush 200, 3) := by decide +kernel
theorem dX8_tellsCoin_37 : decode cX8_tellsCoin 37 = .ok (.aload_n 0, 1) := by decide +kernel
theorem dX8_tellsCoin_38 : decode cX8_tellsCoin 38 = .ok (.invokevirtual 299, 3) := by decide +kernel
theorem dX8_tellsCoin_41 : decode cX8_tellsCoin 41 = .ok (.invokestatic 312, 3) := by decide +kernel
theorem dX8_tellsCoin_44 : decode cX8_tellsCoin 44 = .ok (.iadd, 1) := by decide +kernel
theorem dX8_tellsCoin_45 : decode cX8_tellsCoin 45 = .ok (.istore_n 3, 1) := by decide +kernel
theorem dX8_tellsCoin_46 : decode cX8_tellsCoin 46 = .ok (.iconst 0, 1) := by decide +kernel
theorem dX8_tellsCoin_47 : decode cX8_tellsCoin 47 = .ok (.istore 4, 2) := by decide +kernel
theorem dX8_tellsCoin_49 : decode cX8_tellsCoin 49 = .ok (.iload 4, 2) := by decide +kernel
theorem dX8_tellsCoin_51 : decode cX8_tellsCoin 51 = .ok (.aload_n 0, 1) := by decide +kernel
theorem dX8_tellsCoin_52 : decode cX8_tellsCoin 52 = .ok (.getfield 51, 3) := by decide +kernel
theorem dX8_tellsCoin_55 : decode cX8_tellsCoin 55 = .ok (.getfield 101, 3) := by decide +kernel
theorem dX8_tellsCoin_58 : decode cX8_tellsCoin 58 = .ok (.iconst 0, 1) := by decide +kernel
theorem dX8_tellsCoin_59 : decode cX8_tellsCoin 59 = .ok (.iaload, 1) := by decide +kernel
theorem dX8_tellsCoin_60 : decode cX8_tellsCoin 60 = .ok (.if_icmp .ge 29, 3) := by decide +kernel
theorem dX8_tellsCoin_63 : decode cX8_tellsCoin 63 = .ok (.aload_n 0, 1) := by decide +kernel
theorem dX8_tellsCoin_64 : decode cX8_tellsCoin 64 = .ok (.iload_n 1, 1) := by decide +kernel
theorem dX8_tellsCoin_65 : decode cX8_tellsCoin 65 = .ok (.iconst 1, 1) := by decide +kernel
theorem dX8_tellsCoin_66 : decode cX8_tellsCoin 66 = .ok (.iadd, 1) := by decide +kernel
theorem dX8_tellsCoin_67 : decode cX8_tellsCoin 67 = .ok (.iload 4, 2) := by decide +kernel
theorem dX8_tellsCoin_69 : decode cX8_tellsCoin 69 = .ok (.iadd, 1) := by decide +kernel
theorem dX8_tellsCoin_70 : decode cX8_tellsCoin 70 = .ok (.invokevirtual 271, 3) := by decide +kernel
theorem dX8_tellsCoin_73 : decode cX8_tellsCoin 73 = .ok (.istore 5, 2) := by decide +kernel
theorem dX8_tellsCoin_75 : decode cX8_tellsCoin 75 = .ok (.iload 5, 2) := by decide +kernel
theorem dX8_tellsCoin_77 : decode cX8_tellsCoin 77 = .ok (.iload_n 3, 1) := by decide +kernel
theorem dX8_tellsCoin_78 : decode cX8_tellsCoin 78 = .ok (.if_icmp .le 5, 3) := by decide +kernel
theorem dX8_tellsCoin_81 : decode cX8_tellsCoin 81 = .ok (.iconst 0, 1) := by decide +kernel
theorem dX8_tellsCoin_82 : decode cX8_tellsCoin 82 = .ok (.ireturn, 1) := by decide +kernel
theorem dX8_tellsCoin_83 : decode cX8_tellsCoin 83 = .ok (.iinc 4 1, 3) := by decide +kernel
theorem dX8_tellsCoin_86 : decode cX8_tellsCoin 86 = .ok (.goto (-37), 3) := by decide +kernel
theorem dX8_tellsCoin_89 : decode cX8_tellsCoin 89 = .ok (.iconst 1, 1) := by decide +kernel
theorem dX8_tellsCoin_90 : decode cX8_tellsCoin 90 = .ok (.ireturn, 1) := by decide +kernel
theorem dX8_status_0 : decode cX8_status 0 = .ok (.iload_n 1, 1) := by decide +kernel
theorem dX8_status_1 : decode cX8_status 1 = .ok (.ifCond .lt 18, 3) := by decide +kernel
theorem dX8_status_4 : decode cX8_status 4 = .ok (.iload_n 1, 1) := by decide +kernel
theorem dX8_status_5 : decode cX8_status 5 = .ok (.bipush 6, 2) := by decide +kernel
theorem dX8_status_7 : decode cX8_status 7 = .ok (.if_icmp .ge 12, 3) := by decide +kernel
theorem dX8_status_10 : decode cX8_status 10 = .ok (.aload_n 0, 1) := by decide +kernel
theorem dX8_status_11 : decode cX8_status 11 = .ok (.getfield 34, 3) := by decide +kernel
theorem dX8_status_14 : decode cX8_status 14 = .ok (.iload_n 1, 1) := by decide +kernel
theorem dX8_status_15 : decode cX8_status 15 = .ok (.iaload, 1) := by decide +kernel
theorem dX8_status_16 : decode cX8_status 16 = .ok (.goto 4, 3) := by decide +kernel
theorem dX8_status_19 : decode cX8_status 19 = .ok (.iconst (-1), 1) := by decide +kernel
theorem dX8_status_20 : decode cX8_status 20 = .ok (.ireturn, 1) := by decide +kernel
theorem dX8_refuse_0 : decode cX8_refuse 0 = .ok (.iload_n 1, 1) := by decide +kernel
theorem dX8_refuse_1 : decode cX8_refuse 1 = .ok (.ifCond .lt 19, 3) := by decide +kernel
theorem dX8_refuse_4 : decode cX8_refuse 4 = .ok (.iload_n 1, 1) := by decide +kernel
theorem dX8_refuse_5 : decode cX8_refuse 5 = .ok (.bipush 6, 2) := by decide +kernel
theorem dX8_refuse_7 : decode cX8_refuse 7 = .ok (.if_icmp .ge 13, 3) := by decide +kernel
theorem dX8_refuse_10 : decode cX8_refuse 10 = .ok (.aload_n 0, 1) := by decide +kernel
theorem dX8_refuse_11 : decode cX8_refuse 11 = .ok (.getfield 34, 3) := by decide +kernel
theorem dX8_refuse_14 : decode cX8_refuse 14 = .ok (.iload_n 1, 1) := by decide +kernel
theorem dX8_refuse_15 : decode cX8_refuse 15 = .ok (.dup2, 1) := by decide +kernel
theorem dX8_refuse_16 : decode cX8_refuse 16 = .ok (.iaload, 1) := by decide +kernel
theorem dX8_refuse_17 : decode cX8_refuse 17 = .ok (.iconst 1, 1) := by decide +kernel
theorem dX8_refuse_18 : decode cX8_refuse 18 = .ok (.iadd, 1) := by decide +kernel
theorem dX8_refuse_19 : decode cX8_refuse 19 = .ok (.iastore, 1) := by decide +kernel
theorem dX8_refuse_20 : decode cX8_refuse 20 = .ok (.iconst (-1), 1) := by decide +kernel
theorem dX8_refuse_21 : decode cX8_refuse 21 = .ok (.ireturn, 1) := by decide +kernel
theorem dX8_areThere_0 : decode cX8_areThere 0 = .ok (.aload_n 0, 1) := by decide +kernel
theorem dX8_areThere_1 : decode cX8_areThere 1 = .ok (.getfield 51, 3) := by decide +kernel
theorem dX8_areThere_4 : decode cX8_areThere 4 = .ok (.iconst 1, 1) := by decide +kernel
theorem dX8_areThere_5 : decode cX8_areThere 5 = .ok (.iload_n 1, 1) := by decide +kernel
theorem dX8_areThere_6 : decode cX8_areThere 6 = .ok (.invokevirtual 135, 3) := by decide +kernel
theorem dX8_areThere_9 : decode cX8_areThere 9 = .ok (.ifCond .eq 19, 3) := by decide +kernel
theorem dX8_areThere_12 : decode cX8_areThere 12 = .ok (.aload_n 0, 1) := by decide +kernel
theorem dX8_areThere_13 : decode cX8_areThere 13 = .ok (.getfield 51, 3) := by decide +kernel
theorem dX8_areThere_16 : decode cX8_areThere 16 = .ok (.iconst 0, 1) := by decide +kernel
theorem dX8_areThere_17 : decode cX8_areThere 17 = .ok (.iload_n 2, 1) := by decide +kernel
theorem dX8_areThere_18 : decode cX8_areThere 18 = .ok (.invokevirtual 135, 3) := by decide +kernel
theorem dX8_areThere_21 : decode cX8_areThere 21 = .ok (.ifCond .eq 7, 3) := by decide +kernel
theorem dX8_areThere_24 : decode cX8_areThere 24 = .ok (.iconst 1, 1) := by decide +kernel
theorem dX8_areThere_25 : decode cX8_areThere 25 = .ok (.goto 4, 3) := by decide +kernel
theorem dX8_areThere_28 : decode cX8_areThere 28 = .ok (.iconst 0, 1) := by decide +kernel
theorem dX8_areThere_29 : decode cX8_areThere 29 = .ok (.ireturn, 1) := by decide +kernel
theorem dX8_areTwo_0 : decode cX8_areTwo 0 = .ok (.aload_n 0, 1) := by decide +kernel
theorem dX8_areTwo_1 : decode cX8_areTwo 1 = .ok (.getfield 51, 3) := by decide +kernel
theorem dX8_areTwo_4 : decode cX8_areTwo 4 = .ok (.iconst 0, 1) := by decide +kernel
theorem dX8_areTwo_5 : decode cX8_areTwo 5 = .ok (.iload_n 1, 1) := by decide +kernel
theorem dX8_areTwo_6 : decode cX8_areTwo 6 = .ok (.invokevirtual 135, 3) := by decide +kernel
theorem dX8_areTwo_9 : decode cX8_areTwo 9 = .ok (.ifCond .eq 24, 3) := by decide +kernel
theorem dX8_areTwo_12 : decode cX8_areTwo 12 = .ok (.aload_n 0, 1) := by decide +kernel
theorem dX8_areTwo_13 : decode cX8_areTwo 13 = .ok (.getfield 51, 3) := by decide +kernel
theorem dX8_areTwo_16 : decode cX8_areTwo 16 = .ok (.iconst 0, 1) := by decide +kernel
theorem dX8_areTwo_17 : decode cX8_areTwo 17 = .ok (.iload_n 2, 1) := by decide +kernel
theorem dX8_areTwo_18 : decode cX8_areTwo 18 = .ok (.invokevirtual 135, 3) := by decide +kernel
theorem dX8_areTwo_21 : decode cX8_areTwo 21 = .ok (.ifCond .eq 12, 3) := by decide +kernel
theorem dX8_areTwo_24 : decode cX8_areTwo 24 = .ok (.iload_n 1, 1) := by decide +kernel
theorem dX8_areTwo_25 : decode cX8_areTwo 25 = .ok (.iload_n 2, 1) := by decide +kernel
theorem dX8_areTwo_26 : decode cX8_areTwo 26 = .ok (.if_icmp .eq 7, 3) := by decide +kernel
theorem dX8_areTwo_29 : decode cX8_areTwo 29 = .ok (.iconst 1, 1) := by decide +kernel
theorem dX8_areTwo_30 : decode cX8_areTwo 30 = .ok (.goto 4, 3) := by decide +kernel
theorem dX8_areTwo_33 : decode cX8_areTwo 33 = .ok (.iconst 0, 1) := by decide +kernel
theorem dX8_areTwo_34 : decode cX8_areTwo 34 = .ok (.ireturn, 1) := by decide +kernel
theorem dX8_letterOf_0 : decode cX8_letterOf 0 = .ok (.lload_n 0, 1) := by decide +kernel
theorem dX8_letterOf_1 : decode cX8_letterOf 1 = .ok (.iconst 5, 1) := by decide +kernel
theorem dX8_letterOf_2 : decode cX8_letterOf 2 = .ok (.iload_n 2, 1) := by decide +kernel
theorem dX8_letterOf_3 : decode cX8_letterOf 3 = .ok (.imul, 1) := by decide +kernel
theorem dX8_letterOf_4 : decode cX8_letterOf 4 = .ok (.lshr, 1) := by decide +kernel
theorem dX8_letterOf_5 : decode cX8_letterOf 5 = .ok (.l2i, 1) := by decide +kernel
theorem dX8_letterOf_6 : decode cX8_letterOf 6 = .ok (.bipush 31, 2) := by decide +kernel
theorem dX8_letterOf_8 : decode cX8_letterOf 8 = .ok (.iand, 1) := by decide +kernel
theorem dX8_letterOf_9 : decode cX8_letterOf 9 = .ok (.ireturn, 1) := by decide +kernel
theorem dX8_isIn_0 : decode cX8_isIn 0 = .ok (.iload_n 1, 1) := by decide +kernel
theorem dX8_isIn_1 : decode cX8_isIn 1 = .ok (.ifCond .lt 21, 3) := by decide +kernel
theorem dX8_isIn_4 : decode cX8_isIn 4 = .ok (.iload_n 1, 1) := by decide +kernel
theorem dX8_isIn_5 : decode cX8_isIn 5 = .ok (.bipush 31, 2) := by decide +kernel
theorem dX8_isIn_7 : decode cX8_isIn 7 = .ok (.if_icmp .ge 15, 3) := by decide +kernel
theorem dX8_isIn_10 : decode cX8_isIn 10 = .ok (.iload_n 0, 1) := by decide +kernel
theorem dX8_isIn_11 : decode cX8_isIn 11 = .ok (.iload_n 1, 1) := by decide +kernel
theorem dX8_isIn_12 : decode cX8_isIn 12 = .ok (.ishr, 1) := by decide +kernel
theorem dX8_isIn_13 : decode cX8_isIn 13 = .ok (.iconst 1, 1) := by decide +kernel
theorem dX8_isIn_14 : decode cX8_isIn 14 = .ok (.iand, 1) := by decide +kernel
theorem dX8_isIn_15 : decode cX8_isIn 15 = .ok (.ifCond .eq 7, 3) := by decide +kernel
theorem dX8_isIn_18 : decode cX8_isIn 18 = .ok (.iconst 1, 1) := by decide +kernel
theorem dX8_isIn_19 : decode cX8_isIn 19 = .ok (.goto 4, 3) := by decide +kernel
theorem dX8_isIn_22 : decode cX8_isIn 22 = .ok (.iconst 0, 1) := by decide +kernel
theorem dX8_isIn_23 : decode cX8_isIn 23 = .ok (.ireturn, 1) := by decide +kernel
theorem dX9_init_0 : decode cX9_init 0 = .ok (.aload_n 0, 1) := by decide +kernel
theorem dX9_init_1 : decode cX9_init 1 = .ok (.invokespecial 1, 3) := by decide +kernel
theorem dX9_init_4 : decode cX9_init 4 = .ok (.aload_n 0, 1) := by decide +kernel
theorem dX9_init_5 : decode cX9_init 5 = .ok (.sipush 1800, 3) := by decide +kernel
theorem dX9_init_8 : decode cX9_init 8 = .ok (.newarray .int, 2) := by decide +kernel
theorem dX9_init_10 : decode cX9_init 10 = .ok (.putfield 7, 3) := by decide +kernel
theorem dX9_init_13 : decode cX9_init 13 = .ok (.aload_n 0, 1) := by decide +kernel
theorem dX9_init_14 : decode cX9_init 14 = .ok (.iconst 0, 1) := by decide +kernel
theorem dX9_init_15 : decode cX9_init 15 = .ok (.putfield 13, 3) := by decide +kernel
theorem dX9_init_18 : decode cX9_init 18 = .ok (.aload_n 0, 1) := by decide +kernel
theorem dX9_init_19 : decode cX9_init 19 = .ok (.iconst 0, 1) := by decide +kernel
theorem dX9_init_20 : decode cX9_init 20 = .ok (.putfield 17, 3) := by decide +kernel
theorem dX9_init_23 : decode cX9_init 23 = .ok (.aload_n 0, 1) := by decide +kernel
theorem dX9_init_24 : decode cX9_init 24 = .ok (.iconst 0, 1) := by decide +kernel
theorem dX9_init_25 : decode cX9_init 25 = .ok (.putfield 20, 3) := by decide +kernel
theorem dX9_init_28 : decode cX9_init 28 = .ok (.aload_n 0, 1) := by decide +kernel
theorem dX9_init_29 : decode cX9_init 29 = .ok (.iconst 0, 1) := by decide +kernel
theorem dX9_init_30 : decode cX9_init 30 = .ok (.putfield 23, 3) := by decide +kernel
theorem dX9_init_33 : decode cX9_init 33 = .ok (.aload_n 0, 1) := by decide +kernel
theorem dX9_init_34 : decode cX9_init 34 = .ok (.iconst 0, 1) := by decide +kernel
theorem dX9_init_35 : decode cX9_init 35 = .ok (.putfield 26, 3) := by decide +kernel
theorem dX9_init_38 : decode cX9_init 38 = .ok (.aload_n 0, 1) := by decide +kernel
theorem dX9_init_39 : decode cX9_init 39 = .ok (.iconst 0, 1) := by decide +kernel
theorem dX9_init_40 : decode cX9_init 40 = .ok (.putfield 29, 3) := by decide +kernel
theorem dX9_init_43 : decode cX9_init 43 = .ok (.aload_n 0, 1) := by decide +kernel
theorem dX9_init_44 : decode cX9_init 44 = .ok (.lconst 0, 1) := by decide +kernel
theorem dX9_init_45 : decode cX9_init 45 = .ok (.putfield 32, 3) := by decide +kernel
theorem dX9_init_48 : decode cX9_init 48 = .ok (.aload_n 0, 1) := by decide +kernel
theorem dX9_init_49 : decode cX9_init 49 = .ok (.iconst 0, 1) := by decide +kernel
theorem dX9_init_50 : decode cX9_init 50 = .ok (.putfield 36, 3) := by decide +kernel
theorem dX9_init_53 : decode cX9_init 53 = .ok (.aload_n 0, 1) := by decide +kernel
theorem dX9_init_54 : decode cX9_init 54 = .ok (.iconst (-1), 1) := by decide +kernel
theorem dX9_init_55 : decode cX9_init 55 = .ok (.putfield 39, 3) := by decide +kernel
theorem dX9_init_58 : decode cX9_init 58 = .ok (.aload_n 0, 1) := by decide +kernel
theorem dX9_init_59 : decode cX9_init 59 = .ok (.iconst 0, 1) := by decide +kernel
theorem dX9_init_60 : decode cX9_init 60 = .ok (.putfield 42, 3) := by decide +kernel
theorem dX9_init_63 : decode cX9_init 63 = .ok (.aload_n 0, 1) := by decide +kernel
theorem dX9_init_64 : decode cX9_init 64 = .ok (.iconst (-1), 1) := by decide +kernel
theorem dX9_init_65 : decode cX9_init 65 = .ok (.putfield 45, 3) := by decide +kernel
theorem dX9_init_68 : decode cX9_init 68 = .ok (.aload_n 0, 1) := by decide +kernel
theorem dX9_init_69 : decode cX9_init 69 = .ok (.iconst (-1), 1) := by decide +kernel
theorem dX9_init_70 : decode cX9_init 70 = .ok (.putfield 48, 3) := by decide +kernel
theorem dX9_init_73 : decode cX9_init 73 = .ok (.aload_n 0, 1) := by decide +kernel
theorem dX9_init_74 : decode cX9_init 74 = .ok (.iconst 0, 1) := by decide +kernel
theorem dX9_init_75 : decode cX9_init 75 = .ok (.putfield 51, 3) := by decide +kernel
theorem dX9_init_78 : decode cX9_init 78 = .ok (.aload_n 0, 1) := by decide +kernel
theorem dX9_init_79 : decode cX9_init 79 = .ok (.iconst 2, 1) := by decide +kernel
theorem dX9_init_80 : decode cX9_init 80 = .ok (.newarray .int, 2) := by decide +kernel
theorem dX9_init_82 : decode cX9_init 82 = .ok (.putfield 54, 3) := by decide +kernel
theorem dX9_init_85 : decode cX9_init 85 = .ok (.aload_n 0, 1) := by decide +kernel
theorem dX9_init_86 : decode cX9_init 86 = .ok (.bipush 20, 2) := by decide +kernel
theorem dX9_init_88 : decode cX9_init 88 = .ok (.newarray .int, 2) := by decide +kernel
theorem dX9_init_90 : decode cX9_init 90 = .ok (.putfield 57, 3) := by decide +kernel
theorem dX9_init_93 : decode cX9_init 93 = .ok (.aload_n 0, 1) := by decide +kernel
theorem dX9_init_94 : decode cX9_init 94 = .ok (.iconst 2, 1) := by decide +kernel
theorem dX9_init_95 : decode cX9_init 95 = .ok (.newarray .int, 2) := by decide +kernel
theorem dX9_init_97 : decode cX9_init 97 = .ok (.putfield 60, 3) := by decide +kernel
theorem dX9_init_100 : decode cX9_init 100 = .ok (.aload_n 0, 1) := by decide +kernel
theorem dX9_init_101 : decode cX9_init 101 = .ok (.bipush 24, 2) := by decide +kernel
theorem dX9_init_103 : decode cX9_init 103 = .ok (.newarray .int, 2) := by decide +kernel
theorem dX9_init_105 : decode cX9_init 105 = .ok (.putfield 63, 3) := by decide +kernel
theorem dX9_init_108 : decode cX9_init 108 = .ok (.aload_n 0, 1) := by decide +kernel
theorem dX9_init_109 : decode cX9_init 109 = .ok (.bipush 24, 2) := by decide +kernel
theorem dX9_init_111 : decode cX9_init 111 = .ok (.newarray .int, 2) := by decide +kernel
theorem dX9_init_113 : decode cX9_init 113 = .ok (.putfield 66, 3) := by decide +kernel
theorem dX9_init_116 : decode cX9_init 116 = .ok (.aload_n 0, 1) := by decide +kernel
theorem dX9_init_117 : decode cX9_init 117 = .ok (.bipush 24, 2) := by decide +kernel
theorem dX9_init_119 : decode cX9_init 119 = .ok (.newarray .int, 2) := by decide +kernel
theorem dX9_init_121 : decode cX9_init 121 = .ok (.putfield 69, 3) := by decide +kernel
theorem dX9_init_124 : decode cX9_init 124 = .ok (.aload_n 0, 1) := by decide +kernel
theorem dX9_init_125 : decode cX9_init 125 = .ok (.bipush 24, 2) := by decide +kernel
theorem dX9_init_127 : decode cX9_init 127 = .ok (.newarray .int, 2) := by decide +kernel
theorem dX9_init_129 : decode cX9_init 129 = .ok (.putfield 72, 3) := by decide +kernel
theorem dX9_init_132 : decode cX9_init 132 = .ok (.aload_n 0, 1) := by decide +kernel
theorem dX9_init_133 : decode cX9_init 133 = .ok (.iconst 2, 1) := by decide +kernel
theorem dX9_init_134 : decode cX9_init 134 = .ok (.newarray .int, 2) := by decide +kernel
theorem dX9_init_136 : decode cX9_init 136 = .ok (.putfield 75, 3) := by decide +kernel
theorem dX9_init_139 : decode cX9_init 139 = .ok (.aload_n 0, 1) := by decide +kernel
theorem dX9_init_140 : decode cX9_init 140 = .ok (.bipush 20, 2) := by decide +kernel
theorem dX9_init_142 : decode cX9_init 142 = .ok (.newarray .int, 2) := by decide +kernel
theorem dX9_init_144 : decode cX9_init 144 = .ok (.putfield 78, 3) := by decide +kernel
theorem dX9_init_147 : decode cX9_init 147 = .ok (.aload_n 0, 1) := by decide +kernel
theorem dX9_init_148 : decode cX9_init 148 = .ok (.bipush 20, 2) := by decide +kernel
theorem dX9_init_150 : decode cX9_init 150 = .ok (.newarray .int, 2) := by decide +kernel
theorem dX9_init_152 : decode cX9_init 152 = .ok (.putfield 81, 3) := by decide +kernel
theorem dX9_init_155 : decode cX9_init 155 = .ok (.aload_n 0, 1) := by decide +kernel
theorem dX9_init_156 : decode cX9_init 156 = .ok (.iconst 2, 1) := by decide +kernel
theorem dX9_init_157 : decode cX9_init 157 = .ok (.newarray .int, 2) := by decide +kernel
theorem dX9_init_159 : decode cX9_init 159 = .ok (.putfield 84, 3) := by decide +kernel
theorem dX9_init_162 : decode cX9_init 162 = .ok (.aload_n 0, 1) := by decide +kernel
theorem dX9_init_163 : decode cX9_init 163 = .ok (.iconst 2, 1) := by decide +kernel
theorem dX9_init_164 : decode cX9_init 164 = .ok (.newarray .int, 2) := by decide +kernel
theorem dX9_init_166 : decode cX9_init 166 = .ok (.putfield 87, 3) := by decide +kernel
theorem dX9_init_169 : decode cX9_init 169 = .ok (.aload_n 0, 1) := by decide +kernel
theorem dX9_init_170 : decode cX9_init 170 = .ok (.iconst 2, 1) := by decide +kernel
theorem dX9_init_171 : decode cX9_init 171 = .ok (.newarray .int, 2) := by decide +kernel
theorem dX9_init_173 : decode cX9_init 173 = .ok (.putfield 90, 3) := by decide +kernel
theorem dX9_init_176 : decode cX9_init 176 = .ok (.aload_n 0, 1) := by decide +kernel
theorem dX9_init_177 : decode cX9_init 177 = .ok (.iconst 2, 1) := by decide +kernel
theorem dX9_init_178 : decode cX9_init 178 = .ok (.newarray .int, 2) := by decide +kernel
theorem dX9_init_180 : decode cX9_init 180 = .ok (.putfield 93, 3) := by decide +kernel
theorem dX9_init_183 : decode cX9_init 183 = .ok (.aload_n 0, 1) := by decide +kernel
theorem dX9_init_184 : decode cX9_init 184 = .ok (.iconst 2, 1) := by decide +kernel
theorem dX9_init_185 : decode cX9_init 185 = .ok (.newarray .int, 2) := by decide +kernel
theorem dX9_init_187 : decode cX9_init 187 = .ok (.putfield 96, 3) := by decide +kernel
theorem dX9_init_190 : decode cX9_init 190 = .ok (.aload_n 0, 1) := by decide +kernel
theorem dX9_init_191 : decode cX9_init 191 = .ok (.iconst 2, 1) := by decide +kernel
theorem dX9_init_192 : decode cX9_init 192 = .ok (.newarray .int, 2) := by decide +kernel
theorem dX9_init_194 : decode cX9_init 194 = .ok (.putfield 99, 3) := by decide +kernel
theorem dX9_init_197 : decode cX9_init 197 = .ok (.aload_n 0, 1) := by decide +kernel
theorem dX9_init_198 : decode cX9_init 198 = .ok (.sipush 3200, 3) := by decide +kernel
theorem dX9_init_201 : decode cX9_init 201 = .ok (.newarray .int, 2) := by decide +kernel
theorem dX9_init_203 : decode cX9_init 203 = .ok (.putfield 102, 3) := by decide +kernel
theorem dX9_init_206 : decode cX9_init 206 = .ok (.aload_n 0, 1) := by decide +kernel
theorem dX9_init_207 : decode cX9_init 207 = .ok (.sipush 3200, 3) := by decide +kernel
theorem dX9_init_210 : decode cX9_init 210 = .ok (.newarray .int, 2) := by decide +kernel
theorem dX9_init_212 : decode cX9_init 212 = .ok (.putfield 105, 3) := by decide +kernel
theorem dX9_init_215 : decode cX9_init 215 = .ok (.aload_n 0, 1) := by decide +kernel
theorem dX9_init_216 : decode cX9_init 216 = .ok (.bipush 20, 2) := by decide +kernel
theorem dX9_init_218 : decode cX9_init 218 = .ok (.newarray .long, 2) := by decide +kernel
theorem dX9_init_220 : decode cX9_init 220 = .ok (.putfield 108, 3) := by decide +kernel
theorem dX9_init_223 : decode cX9_init 223 = .ok (.aload_n 0, 1) := by decide +kernel
theorem dX9_init_224 : decode cX9_init 224 = .ok (.bipush 24, 2) := by decide +kernel
theorem dX9_init_226 : decode cX9_init 226 = .ok (.newarray .long, 2) := by decide +kernel
theorem dX9_init_228 : decode cX9_init 228 = .ok (.putfield 112, 3) := by decide +kernel
theorem dX9_init_231 : decode cX9_init 231 = .ok (.aload_n 0, 1) := by decide +kernel
theorem dX9_init_232 : decode cX9_init 232 = .ok (.bipush 20, 2) := by decide +kernel
theorem dX9_init_234 : decode cX9_init 234 = .ok (.newarray .long, 2) := by decide +kernel
theorem dX9_init_236 : decode cX9_init 236 = .ok (.putfield 115, 3) := by decide +kernel
theorem dX9_init_239 : decode cX9_init 239 = .ok (.aload_n 0, 1) := by decide +kernel
theorem dX9_init_240 : decode cX9_init 240 = .ok (.iconst 0, 1) := by decide +kernel
theorem dX9_init_241 : decode cX9_init 241 = .ok (.putfield 118, 3) := by decide +kernel
theorem dX9_init_244 : decode cX9_init 244 = .ok (.aload_n 0, 1) := by decide +kernel
theorem dX9_init_245 : decode cX9_init 245 = .ok (.iconst 1, 1) := by decide +kernel
theorem dX9_init_246 : decode cX9_init 246 = .ok (.putfield 121, 3) := by decide +kernel
theorem dX9_init_249 : decode cX9_init 249 = .ok (.aload_n 0, 1) := by decide +kernel
theorem dX9_init_250 : decode cX9_init 250 = .ok (.bipush 20, 2) := by decide +kernel
theorem dX9_init_252 : decode cX9_init 252 = .ok (.newarray .int, 2) := by decide +kernel
theorem dX9_init_254 : decode cX9_init 254 = .ok (.putfield 124, 3) := by decide +kernel
theorem dX9_init_257 : decode cX9_init 257 = .ok (.aload_n 0, 1) := by decide +kernel
theorem dX9_init_258 : decode cX9_init 258 = .ok (.bipush 20, 2) := by decide +kernel
theorem dX9_init_260 : decode cX9_init 260 = .ok (.newarray .int, 2) := by decide +kernel
theorem dX9_init_262 : decode cX9_init 262 = .ok (.putfield 127, 3) := by decide +kernel
theorem dX9_init_265 : decode cX9_init 265 = .ok (.aload_n 0, 1) := by decide +kernel
theorem dX9_init_266 : decode cX9_init 266 = .ok (.bipush 20, 2) := by decide +kernel
theorem dX9_init_268 : decode cX9_init 268 = .ok (.newarray .boolean, 2) := by decide +kernel
theorem dX9_init_270 : decode cX9_init 270 = .ok (.putfield 130, 3) := by decide +kernel
theorem dX9_init_273 : decode cX9_init 273 = .ok (.aload_n 0, 1) := by decide +kernel
theorem dX9_init_274 : decode cX9_init 274 = .ok (.bipush 20, 2) := by decide +kernel
theorem dX9_init_276 : decode cX9_init 276 = .ok (.newarray .int, 2) := by decide +kernel
theorem dX9_init_278 : decode cX9_init 278 = .ok (.putfield 134, 3) := by decide +kernel
theorem dX9_init_281 : decode cX9_init 281 = .ok (.aload_n 0, 1) := by decide +kernel
theorem dX9_init_282 : decode cX9_init 282 = .ok (.bipush 20, 2) := by decide +kernel
theorem dX9_init_284 : decode cX9_init 284 = .ok (.newarray .int, 2) := by decide +kernel
theorem dX9_init_286 : decode cX9_init 286 = .ok (.putfield 137, 3) := by decide +kernel
theorem dX9_init_289 : decode cX9_init 289 = .ok (.aload_n 0, 1) := by decide +kernel
theorem dX9_init_290 : decode cX9_init 290 = .ok (.iconst 0, 1) := by decide +kernel
theorem dX9_init_291 : decode cX9_init 291 = .ok (.putfield 140, 3) := by decide +kernel
theorem dX9_init_294 : decode cX9_init 294 = .ok (.aload_n 0, 1) := by decide +kernel
theorem dX9_init_295 : decode cX9_init 295 = .ok (.iconst 0, 1) := by decide +kernel
theorem dX9_init_296 : decode cX9_init 296 = .ok (.putfield 143, 3) := by decide +kernel
theorem dX9_init_299 : decode cX9_init 299 = .ok (.aload_n 0, 1) := by decide +kernel
theorem dX9_init_300 : decode cX9_init 300 = .ok (.sipush 500, 3) := by decide +kernel
theorem dX9_init_303 : decode cX9_init 303 = .ok (.newarray .int, 2) := by decide +kernel
theorem dX9_init_305 : decode cX9_init 305 = .ok (.putfield 146, 3) := by decide +kernel
theorem dX9_init_308 : decode cX9_init 308 = .ok (.aload_n 0, 1) := by decide +kernel
theorem dX9_init_309 : decode cX9_init 309 = .ok (.iconst 0, 1) := by decide +kernel
theorem dX9_init_310 : decode cX9_init 310 = .ok (.putfield 149, 3) := by decide +kernel
theorem dX9_init_313 : decode cX9_init 313 = .ok (.aload_n 0, 1) := by decide +kernel
theorem dX9_init_314 : decode cX9_init 314 = .ok (.iconst 0, 1) := by decide +kernel
theorem dX9_init_315 : decode cX9_init 315 = .ok (.putfield 152, 3) := by decide +kernel
theorem dX9_init_318 : decode cX9_init 318 = .ok (.aload_n 0, 1) := by decide +kernel
theorem dX9_init_319 : decode cX9_init 319 = .ok (.bipush 6, 2) := by decide +kernel
theorem dX9_init_321 : decode cX9_init 321 = .ok (.newarray .int, 2) := by decide +kernel
theorem dX9_init_323 : decode cX9_init 323 = .ok (.putfield 156, 3) := by decide +kernel
theorem dX9_init_326 : decode cX9_init 326 = .ok (.aload_n 0, 1) := by decide +kernel
theorem dX9_init_327 : decode cX9_init 327 = .ok (.bipush 22, 2) := by decide +kernel
theorem dX9_init_329 : decode cX9_init 329 = .ok (.newarray .int, 2) := by decide +kernel
theorem dX9_init_331 : decode cX9_init 331 = .ok (.putfield 159, 3) := by decide +kernel
theorem dX9_init_334 : decode cX9_init 334 = .ok (.aload_n 0, 1) := by decide +kernel
theorem dX9_init_335 : decode cX9_init 335 = .ok (.sipush 264, 3) := by decide +kernel
theorem dX9_init_338 : decode cX9_init 338 = .ok (.newarray .int, 2) := by decide +kernel
theorem dX9_init_340 : decode cX9_init 340 = .ok (.putfield 162, 3) := by decide +kernel
theorem dX9_init_343 : decode cX9_init 343 = .ok (.aload_n 0, 1) := by decide +kernel
theorem dX9_init_344 : decode cX9_init 344 = .ok (.sipush 264, 3) := by decide +kernel
theorem dX9_init_347 : decode cX9_init 347 = .ok (.newarray .int, 2) := by decide +kernel
theorem dX9_init_349 : decode cX9_init 349 = .ok (.putfield 165, 3) := by decide +kernel
theorem dX9_init_352 : decode cX9_init 352 = .ok (.aload_n 0, 1) := by decide +kernel
theorem dX9_init_353 : decode cX9_init 353 = .ok (.sipush 264, 3) := by decide +kernel
theorem dX9_init_356 : decode cX9_init 356 = .ok (.newarray .int, 2) := by decide +kernel
theorem dX9_init_358 : decode cX9_init 358 = .ok (.putfield 168, 3) := by decide +kernel
theorem dX9_init_361 : decode cX9_init 361 = .ok (.aload_n 0, 1) := by decide +kernel
theorem dX9_init_362 : decode cX9_init 362 = .ok (.sipush 2640, 3) := by decide +kernel
theorem dX9_init_365 : decode cX9_init 365 = .ok (.newarray .int, 2) := by decide +kernel
theorem dX9_init_367 : decode cX9_init 367 = .ok (.putfield 171, 3) := by decide +kernel
theorem dX9_init_370 : decode cX9_init 370 = .ok (.aload_n 0, 1) := by decide +kernel
theorem dX9_init_371 : decode cX9_init 371 = .ok (.iconst 0, 1) := by decide +kernel
theorem dX9_init_372 : decode cX9_init 372 = .ok (.putfield 174, 3) := by decide +kernel
theorem dX9_init_375 : decode cX9_init 375 = .ok (.aload_n 0, 1) := by decide +kernel
theorem dX9_init_376 : decode cX9_init 376 = .ok (.iconst 0, 1) := by decide +kernel
theorem dX9_init_377 : decode cX9_init 377 = .ok (.putfield 177, 3) := by decide +kernel
theorem dX9_init_380 : decode cX9_init 380 = .ok (.aload_n 0, 1) := by decide +kernel
theorem dX9_init_381 : decode cX9_init 381 = .ok (.lconst 1, 1) := by decide +kernel
theorem dX9_init_382 : decode cX9_init 382 = .ok (.putfield 180, 3) := by decide +kernel
theorem dX9_init_385 : decode cX9_init 385 = .ok (.aload_n 0, 1) := by decide +kernel
theorem dX9_init_386 : decode cX9_init 386 = .ok (.sipush 500, 3) := by decide +kernel
theorem dX9_init_389 : decode cX9_init 389 = .ok (.newarray .long, 2) := by decide +kernel
theorem dX9_init_391 : decode cX9_init 391 = .ok (.putfield 183, 3) := by decide +kernel
theorem dX9_init_394 : decode cX9_init 394 = .ok (.aload_n 0, 1) := by decide +kernel
theorem dX9_init_395 : decode cX9_init 395 = .ok (.iconst 0, 1) := by decide +kernel
theorem dX9_init_396 : decode cX9_init 396 = .ok (.putfield 186, 3) := by decide +kernel
theorem dX9_init_399 : decode cX9_init 399 = .ok (.aload_n 0, 1) := by decide +kernel
theorem dX9_init_400 : decode cX9_init 400 = .ok (.iconst 0, 1) := by decide +kernel
theorem dX9_init_401 : decode cX9_init 401 = .ok (.putfield 189, 3) := by decide +kernel
theorem dX9_init_404 : decode cX9_init 404 = .ok (.aload_n 0, 1) := by decide +kernel
theorem dX9_init_405 : decode cX9_init 405 = .ok (.iconst 0, 1) := by decide +kernel
theorem dX9_init_406 : decode cX9_init 406 = .ok (.putfield 192, 3) := by decide +kernel
theorem dX9_init_409 : decode cX9_init 409 = .ok (.aload_n 0, 1) := by decide +kernel
theorem dX9_init_410 : decode cX9_init 410 = .ok (.iconst 0, 1) := by decide +kernel
theorem dX9_init_411 : decode cX9_init 411 = .ok (.putfield 195, 3) := by decide +kernel
theorem dX9_init_414 : decode cX9_init 414 = .ok (.aload_n 0, 1) := by decide +kernel
theorem dX9_init_415 : decode cX9_init 415 = .ok (.iconst 0, 1) := by decide +kernel
theorem dX9_init_416 : decode cX9_init 416 = .ok (.putfield 198, 3) := by decide +kernel
theorem dX9_init_419 : decode cX9_init 419 = .ok (.aload_n 0, 1) := by decide +kernel
theorem dX9_init_420 : decode cX9_init 420 = .ok (.iconst 0, 1) := by decide +kernel
theorem dX9_init_421 : decode cX9_init 421 = .ok (.putfield 201, 3) := by decide +kernel
theorem dX9_init_424 : decode cX9_init 424 = .ok (.aload_n 0, 1) := by decide +kernel
theorem dX9_init_425 : decode cX9_init 425 = .ok (.sipush 10240, 3) := by decide +kernel
theorem dX9_init_428 : decode cX9_init 428 = .ok (.newarray .int, 2) := by decide +kernel
theorem dX9_init_430 : decode cX9_init 430 = .ok (.putfield 204, 3) := by decide +kernel
theorem dX9_init_433 : decode cX9_init 433 = .ok (.aload_n 0, 1) := by decide +kernel
theorem dX9_init_434 : decode cX9_init 434 = .ok (.sipush 10240, 3) := by decide +kernel
theorem dX9_init_437 : decode cX9_init 437 = .ok (.newarray .int, 2) := by decide +kernel
theorem dX9_init_439 : decode cX9_init 439 = .ok (.putfield 207, 3) := by decide +kernel
theorem dX9_init_442 : decode cX9_init 442 = .ok (.aload_n 0, 1) := by decide +kernel
theorem dX9_init_443 : decode cX9_init 443 = .ok (.sipush 10240, 3) := by decide +kernel
theorem dX9_init_446 : decode cX9_init 446 = .ok (.newarray .int, 2) := by decide +kernel
theorem dX9_init_448 : decode cX9_init 448 = .ok (.putfield 210, 3) := by decide +kernel
theorem dX9_init_451 : decode cX9_init 451 = .ok (.aload_n 0, 1) := by decide +kernel
theorem dX9_init_452 : decode cX9_init 452 = .ok (.iconst 0, 1) := by decide +kernel
theorem dX9_init_453 : decode cX9_init 453 = .ok (.putfield 213, 3) := by decide +kernel
theorem dX9_init_456 : decode cX9_init 456 = .ok (.aload_n 0, 1) := by decide +kernel
theorem dX9_init_457 : decode cX9_init 457 = .ok (.iconst 0, 1) := by decide +kernel
theorem dX9_init_458 : decode cX9_init 458 = .ok (.putfield 216, 3) := by decide +kernel
theorem dX9_init_461 : decode cX9_init 461 = .ok (.aload_n 0, 1) := by decide +kernel
theorem dX9_init_462 : decode cX9_init 462 = .ok (.bipush 20, 2) := by decide +kernel
theorem dX9_init_464 : decode cX9_init 464 = .ok (.newarray .int, 2) := by decide +kernel
theorem dX9_init_466 : decode cX9_init 466 = .ok (.putfield 219, 3) := by decide +kernel
theorem dX9_init_469 : decode cX9_init 469 = .ok (.aload_n 0, 1) := by decide +kernel
theorem dX9_init_470 : decode cX9_init 470 = .ok (.sipush 150, 3) := by decide +kernel
theorem dX9_init_473 : decode cX9_init 473 = .ok (.newarray .int, 2) := by decide +kernel
theorem dX9_init_475 : decode cX9_init 475 = .ok (.putfield 222, 3) := by decide +kernel
theorem dX9_init_478 : decode cX9_init 478 = .ok (.aload_n 0, 1) := by decide +kernel
theorem dX9_init_479 : decode cX9_init 479 = .ok (.iconst 0, 1) := by decide +kernel
theorem dX9_init_480 : decode cX9_init 480 = .ok (.putfield 225, 3) := by decide +kernel
theorem dX9_init_483 : decode cX9_init 483 = .ok (.aload_n 0, 1) := by decide +kernel
theorem dX9_init_484 : decode cX9_init 484 = .ok (.getfield 90, 3) := by decide +kernel
theorem dX9_init_487 : decode cX9_init 487 = .ok (.iconst 0, 1) := by decide +kernel
theorem dX9_init_488 : decode cX9_init 488 = .ok (.iconst (-1), 1) := by decide +kernel
theorem dX9_init_489 : decode cX9_init 489 = .ok (.iastore, 1) := by decide +kernel
theorem dX9_init_490 : decode cX9_init 490 = .ok (.aload_n 0, 1) := by decide +kernel
theorem dX9_init_491 : decode cX9_init 491 = .ok (.getfield 96, 3) := by decide +kernel
theorem dX9_init_494 : decode cX9_init 494 = .ok (.iconst 0, 1) := by decide +kernel
theorem dX9_init_495 : decode cX9_init 495 = .ok (.iconst (-1), 1) := by decide +kernel
theorem dX9_init_496 : decode cX9_init 496 = .ok (.iastore, 1) := by decide +kernel
theorem dX9_init_497 : decode cX9_init 497 = .ok (.return_, 1) := by decide +kernel
theorem dX9_is_0 : decode cX9_is 0 = .ok (.iload_n 0, 1) := by decide +kernel
theorem dX9_is_1 : decode cX9_is 1 = .ok (.iload_n 1, 1) := by decide +kernel
theorem dX9_is_2 : decode cX9_is 2 = .ok (.if_icmp .lt 12, 3) := by decide +kernel
theorem dX9_is_5 : decode cX9_is 5 = .ok (.iload_n 0, 1) := by decide +kernel
theorem dX9_is_6 : decode cX9_is 6 = .ok (.iload_n 2, 1) := by decide +kernel
theorem dX9_is_7 : decode cX9_is 7 = .ok (.if_icmp .gt 7, 3) := by decide +kernel
theorem dX9_is_10 : decode cX9_is 10 = .ok (.iconst 1, 1) := by decide +kernel
theorem dX9_is_11 : decode cX9_is 11 = .ok (.goto 4, 3) := by decide +kernel
theorem dX9_is_14 : decode cX9_is 14 = .ok (.iconst 0, 1) := by decide +kernel
theorem dX9_is_15 : decode cX9_is 15 = .ok (.ireturn, 1) := by decide +kernel
theorem dX9_put_0 : decode cX9_put 0 = .ok (.bipush 24, 2) := by decide +kernel
theorem dX9_put_2 : decode cX9_put 2 = .ok (.istore_n 2, 1) := by decide +kernel
theorem dX9_put_3 : decode cX9_put 3 = .ok (.iload_n 2, 1) := by decide +kernel
theorem dX9_put_4 : decode cX9_put 4 = .ok (.ifCond .lt 35, 3) := by decide +kernel
theorem dX9_put_7 : decode cX9_put 7 = .ok (.aload_n 0, 1) := by decide +kernel
theorem dX9_put_8 : decode cX9_put 8 = .ok (.getfield 7, 3) := by decide +kernel
theorem dX9_put_11 : decode cX9_put 11 = .ok (.aload_n 0, 1) := by decide +kernel
theorem dX9_put_12 : decode cX9_put 12 = .ok (.getfield 13, 3) := by decide +kernel
theorem dX9_put_15 : decode cX9_put 15 = .ok (.iload_n 1, 1) := by decide +kernel
theorem dX9_put_16 : decode cX9_put 16 = .ok (.iload_n 2, 1) := by decide +kernel
theorem dX9_put_17 : decode cX9_put 17 = .ok (.ishr, 1) := by decide +kernel
theorem dX9_put_18 : decode cX9_put 18 = .ok (.sipush 255, 3) := by decide +kernel
theorem dX9_put_21 : decode cX9_put 21 = .ok (.iand, 1) := by decide +kernel
theorem dX9_put_22 : decode cX9_put 22 = .ok (.iastore, 1) := by decide +kernel
theorem dX9_put_23 : decode cX9_put 23 = .ok (.aload_n 0, 1) := by decide +kernel
theorem dX9_put_24 : decode cX9_put 24 = .ok (.dup, 1) := by decide +kernel
theorem dX9_put_25 : decode cX9_put 25 = .ok (.getfield 13, 3) := by decide +kernel
theorem dX9_put_28 : decode cX9_put 28 = .ok (.iconst 1, 1) := by decide +kernel
theorem dX9_put_29 : decode cX9_put 29 = .ok (.iadd, 1) := by decide +kernel
theorem dX9_put_30 : decode cX9_put 30 = .ok (.putfield 13, 3) := by decide +kernel
theorem dX9_put_33 : decode cX9_put 33 = .ok (.iinc 2 (-8), 3) := by decide +kernel
theorem dX9_put_36 : decode cX9_put 36 = .ok (.goto (-33), 3) := by decide +kernel
theorem dX9_put_39 : decode cX9_put 39 = .ok (.return_, 1) := by decide +kernel
theorem dX9_feed_0 : decode cX9_feed 0 = .ok (.aload_n 0, 1) := by decide +kernel
theorem dX9_feed_1 : decode cX9_feed 1 = .ok (.getfield 13, 3) := by decide +kernel
theorem dX9_feed_4 : decode cX9_feed 4 = .ok (.bipush 20, 2) := by decide +kernel
theorem dX9_feed_6 : decode cX9_feed 6 = .ok (.iadd, 1) := by decide +kernel
theorem dX9_feed_7 : decode cX9_feed 7 = .ok (.sipush 1600, 3) := by decide +kernel
theorem dX9_feed_10 : decode cX9_feed 10 = .ok (.if_icmp .le 9, 3) := by decide +kernel
theorem dX9_feed_13 : decode cX9_feed 13 = .ok (.aload_n 0, 1) := by decide +kernel
theorem dX9_feed_14 : decode cX9_feed 14 = .ok (.iconst 0, 1) := by decide +kernel
theorem dX9_feed_15 : decode cX9_feed 15 = .ok (.invokevirtual 228, 3) := by decide +kernel
theorem dX9_feed_18 : decode cX9_feed 18 = .ok (.ireturn, 1) := by decide +kernel
theorem dX9_feed_19 : decode cX9_feed 19 = .ok (.aload_n 0, 1) := by decide +kernel
theorem dX9_feed_20 : decode cX9_feed 20 = .ok (.iload_n 1, 1) := by decide +kernel
theorem dX9_feed_21 : decode cX9_feed 21 = .ok (.invokevirtual 232, 3) := by decide +kernel
theorem dX9_feed_24 : decode cX9_feed 24 = .ok (.aload_n 0, 1) := by decide +kernel
theorem dX9_feed_25 : decode cX9_feed 25 = .ok (.iload_n 2, 1) := by decide +kernel
theorem dX9_feed_26 : decode cX9_feed 26 = .ok (.invokevirtual 232, 3) := by decide +kernel
theorem dX9_feed_29 : decode cX9_feed 29 = .ok (.aload_n 0, 1) := by decide +kernel
theorem dX9_feed_30 : decode cX9_feed 30 = .ok (.iload_n 3, 1) := by decide +kernel
theorem dX9_feed_31 : decode cX9_feed 31 = .ok (.invokevirtual 232, 3) := by decide +kernel
theorem dX9_feed_34 : decode cX9_feed 34 = .ok (.aload_n 0, 1) := by decide +kernel
theorem dX9_feed_35 : decode cX9_feed 35 = .ok (.iload 4, 2) := by decide +kernel
theorem dX9_feed_37 : decode cX9_feed 37 = .ok (.invokevirtual 232, 3) := by decide +kernel
theorem dX9_feed_40 : decode cX9_feed 40 = .ok (.aload_n 0, 1) := by decide +kernel
theorem dX9_feed_41 : decode cX9_feed 41 = .ok (.iload 5, 2) := by decide +kernel
theorem dX9_feed_43 : decode cX9_feed 43 = .ok (.invokevirtual 232, 3) := by decide +kernel
theorem dX9_feed_46 : decode cX9_feed 46 = .ok (.aload_n 0, 1) := by decide +kernel
theorem dX9_feed_47 : decode cX9_feed 47 = .ok (.getfield 13, 3) := by decide +kernel
theorem dX9_feed_50 : decode cX9_feed 50 = .ok (.ireturn, 1) := by decide +kernel
theorem dX9_end_0 : decode cX9_end 0 = .ok (.iload_n 1, 1) := by decide +kernel
theorem dX9_end_1 : decode cX9_end 1 = .ok (.ifCond .lt 11, 3) := by decide +kernel
theorem dX9_end_4 : decode cX9_end 4 = .ok (.iload_n 1, 1) := by decide +kernel
theorem dX9_end_5 : decode cX9_end 5 = .ok (.aload_n 0, 1) := by decide +kernel
theorem dX9_end_6 : decode cX9_end 6 = .ok (.getfield 13, 3) := by decide +kernel
theorem dX9_end_9 : decode cX9_end 9 = .ok (.if_icmp .le 17, 3) := by decide +kernel
theorem dX9_end_12 : decode cX9_end 12 = .ok (.aload_n 0, 1) := by decide +kernel
theorem dX9_end_13 : decode cX9_end 13 = .ok (.iconst 0, 1) := by decide +kernel
theorem dX9_end_14 : decode cX9_end 14 = .ok (.invokevirtual 228, 3) := by decide +kernel
theorem dX9_end_17 : decode cX9_end 17 = .ok (.ifCond .lt 7, 3) := by decide +kernel
theorem dX9_end_20 : decode cX9_end 20 = .ok (.iconst 1, 1) := by decide +kernel
theorem dX9_end_21 : decode cX9_end 21 = .ok (.goto 4, 3) := by decide +kernel
theorem dX9_end_24 : decode cX9_end 24 = .ok (.iconst 0, 1) := by decide +kernel
theorem dX9_end_25 : decode cX9_end 25 = .ok (.ireturn, 1) := by decide +kernel
theorem dX9_end_26 : decode cX9_end 26 = .ok (.aload_n 0, 1) := by decide +kernel
theorem dX9_end_27 : decode cX9_end 27 = .ok (.iload_n 1, 1) := by decide +kernel
theorem dX9_end_28 : decode cX9_end 28 = .ok (.putfield 13, 3) := by decide +kernel
theorem dX9_end_31 : decode cX9_end 31 = .ok (.iconst 1, 1) := by decide +kernel
theorem dX9_end_32 : decode cX9_end 32 = .ok (.ireturn, 1) := by decide +kernel
theorem dX9_blame_0 : decode cX9_blame 0 = .ok (.aload_n 0, 1) := by decide +kernel
theorem dX9_blame_1 : decode cX9_blame 1 = .ok (.getfield 36, 3) := by decide +kernel
theorem dX9_blame_4 : decode cX9_blame 4 = .ok (.ifCond .le 4, 3) := by decide +kernel
theorem dX9_blame_7 : decode cX9_blame 7 = .ok (.return_, 1) := by decide +kernel
theorem dX9_blame_8 : decode cX9_blame 8 = .ok (.aload_n 0, 1) := by decide +kernel
theorem dX9_blame_9 : decode cX9_blame 9 = .ok (.iload_n 1, 1) := by decide +kernel
theorem dX9_blame_10 : decode cX9_blame 10 = .ok (.putfield 36, 3) := by decide +kernel
theorem dX9_blame_13 : decode cX9_blame 13 = .ok (.aload_n 0, 1) := by decide +kernel
theorem dX9_blame_14 : decode cX9_blame 14 = .ok (.iload_n 2, 1) := by decide +kernel
theorem dX9_blame_15 : decode cX9_blame 15 = .ok (.putfield 39, 3) := by decide +kernel
theorem dX9_blame_18 : decode cX9_blame 18 = .ok (.return_, 1) := by decide +kernel
theorem dX9_isLetter_0 : decode cX9_isLetter 0 = .ok (.iload_n 0, 1) := by decide +kernel
theorem dX9_isLetter_1 : decode cX9_isLetter 1 = .ok (.bipush 97, 2) := by decide +kernel
theorem dX9_isLetter_3 : decode cX9_isLetter 3 = .ok (.if_icmp .lt 13, 3) := by decide +kernel
theorem dX9_isLetter_6 : decode cX9_isLetter 6 = .ok (.iload_n 0, 1) := by decide +kernel
theorem dX9_isLetter_7 : decode cX9_isLetter 7 = .ok (.bipush 122, 2) := by decide +kernel
theorem dX9_isLetter_9 : decode cX9_isLetter 9 = .ok (.if_icmp .gt 7, 3) := by decide +kernel
theorem dX9_isLetter_12 : decode cX9_isLetter 12 = .ok (.iconst 1, 1) := by decide +kernel
theorem dX9_isLetter_13 : decode cX9_isLetter 13 = .ok (.goto 4, 3) := by decide +kernel
theorem dX9_isLetter_16 : decode cX9_isLetter 16 = .ok (.iconst 0, 1) := by decide +kernel
theorem dX9_isLetter_17 : decode cX9_isLetter 17 = .ok (.ireturn, 1) := by decide +kernel
theorem dX9_isDigit_0 : decode cX9_isDigit 0 = .ok (.iload_n 0, 1) := by decide +kernel
theorem dX9_isDigit_1 : decode cX9_isDigit 1 = .ok (.bipush 48, 2) := by decide +kernel
theorem dX9_isDigit_3 : decode cX9_isDigit 3 = .ok (.if_icmp .lt 13, 3) := by decide +kernel
theorem dX9_isDigit_6 : decode cX9_isDigit 6 = .ok (.iload_n 0, 1) := by decide +kernel
theorem dX9_isDigit_7 : decode cX9_isDigit 7 = .ok (.bipush 57, 2) := by decide +kernel
theorem dX9_isDigit_9 : decode cX9_isDigit 9 = .ok (.if_icmp .gt 7, 3) := by decide +kernel
theorem dX9_isDigit_12 : decode cX9_isDigit 12 = .ok (.iconst 1, 1) := by decide +kernel
theorem dX9_isDigit_13 : decode cX9_isDigit 13 = .ok (.goto 4, 3) := by decide +kernel
theorem dX9_isDigit_16 : decode cX9_isDigit 16 = .ok (.iconst 0, 1) := by decide +kernel
theorem dX9_isDigit_17 : decode cX9_isDigit 17 = .ok (.ireturn, 1) := by decide +kernel
theorem dX9_lex_0 : decode cX9_lex 0 = .ok (.aload_n 0, 1) := by decide +kernel
theorem dX9_lex_1 : decode cX9_lex 1 = .ok (.getfield 48, 3) := by decide +kernel
theorem dX9_lex_4 : decode cX9_lex 4 = .ok (.iconst (-1), 1) := by decide +kernel
theorem dX9_lex_5 : decode cX9_lex 5 = .ok (.if_icmp .eq 12, 3) := by decide +kernel
theorem dX9_lex_8 : decode cX9_lex 8 = .ok (.aload_n 0, 1) := by decide +kernel
theorem dX9_lex_9 : decode cX9_lex 9 = .ok (.iconst 1, 1) := by decide +kernel
theorem dX9_lex_10 : decode cX9_lex 10 = .ok (.aload_n 0, 1) := by decide +kernel
theorem dX9_lex_11 : decode cX9_lex 11 = .ok (.getfield 48, 3) := by decide +kernel
theorem dX9_lex_14 : decode cX9_lex 14 = .ok (.invokevirtual 236, 3) := by decide +kernel
theorem dX9_lex_17 : decode cX9_lex 17 = .ok (.return_, 1) := by decide +kernel
theorem dX9_ahead_0 : decode cX9_ahead 0 = .ok (.aload_n 0, 1) := by decide +kernel
theorem dX9_ahead_1 : decode cX9_ahead 1 = .ok (.getfield 26, 3) := by decide +kernel
theorem dX9_ahead_4 : decode cX9_ahead 4 = .ok (.istore_n 1, 1) := by decide +kernel
theorem dX9_ahead_5 : decode cX9_ahead 5 = .ok (.iload_n 1, 1) := by decide +kernel
theorem dX9_ahead_6 : decode cX9_ahead 6 = .ok (.aload_n 0, 1) := by decide +kernel
theorem dX9_ahead_7 : decode cX9_ahead 7 = .ok (.getfield 17, 3) := by decide +kernel
theorem dX9_ahead_10 : decode cX9_ahead 10 = .ok (.if_icmp .ge 31, 3) := by decide +kernel
theorem dX9_ahead_13 : decode cX9_ahead 13 = .ok (.aload_n 0, 1) := by decide +kernel
theorem dX9_ahead_14 : decode cX9_ahead 14 = .ok (.getfield 7, 3) := by decide +kernel
theorem dX9_ahead_17 : decode cX9_ahead 17 = .ok (.iload_n 1, 1) := by decide +kernel
theorem dX9_ahead_18 : decode cX9_ahead 18 = .ok (.iaload, 1) := by decide +kernel
theorem dX9_ahead_19 : decode cX9_ahead 19 = .ok (.bipush 32, 2) := by decide +kernel
theorem dX9_ahead_21 : decode cX9_ahead 21 = .ok (.if_icmp .eq 14, 3) := by decide +kernel
theorem dX9_ahead_24 : decode cX9_ahead 24 = .ok (.aload_n 0, 1) := by decide +kernel
theorem dX9_ahead_25 : decode cX9_ahead 25 = .ok (.getfield 7, 3) := by decide +kernel
theorem dX9_ahead_28 : decode cX9_ahead 28 = .ok (.iload_n 1, 1) := by decide +kernel
theorem dX9_ahead_29 : decode cX9_ahead 29 = .ok (.iaload, 1) := by decide +kernel
theorem dX9_ahead_30 : decode cX9_ahead 30 = .ok (.bipush 10, 2) := by decide +kernel
theorem dX9_ahead_32 : decode cX9_ahead 32 = .ok (.if_icmp .ne 9, 3) := by decide +kernel
theorem dX9_ahead_35 : decode cX9_ahead 35 = .ok (.iinc 1 1, 3) := by decide +kernel
theorem dX9_ahead_38 : decode cX9_ahead 38 = .ok (.goto (-33), 3) := by decide +kernel
theorem dX9_ahead_41 : decode cX9_ahead 41 = .ok (.aload_n 0, 1) := by decide +kernel
theorem dX9_ahead_42 : decode cX9_ahead 42 = .ok (.iload_n 1, 1) := by decide +kernel
theorem dX9_ahead_43 : decode cX9_ahead 43 = .ok (.putfield 23, 3) := by decide +kernel
theorem dX9_ahead_46 : decode cX9_ahead 46 = .ok (.aload_n 0, 1) := by decide +kernel
theorem dX9_ahead_47 : decode cX9_ahead 47 = .ok (.iload_n 1, 1) := by decide +kernel
theorem dX9_ahead_48 : decode cX9_ahead 48 = .ok (.putfield 26, 3) := by decide +kernel
theorem dX9_ahead_51 : decode cX9_ahead 51 = .ok (.aload_n 0, 1) := by decide +kernel
theorem dX9_ahead_52 : decode cX9_ahead 52 = .ok (.iconst 0, 1) := by decide +kernel
theorem dX9_ahead_53 : decode cX9_ahead 53 = .ok (.putfield 20, 3) := by decide +kernel
theorem dX9_ahead_56 : decode cX9_ahead 56 = .ok (.aload_n 0, 1) := by decide +kernel
theorem dX9_ahead_57 : decode cX9_ahead 57 = .ok (.iconst (-1), 1) := by decide +kernel
theorem dX9_ahead_58 : decode cX9_ahead 58 = .ok (.putfield 48, 3) := by decide +kernel
theorem dX9_ahead_61 : decode cX9_ahead 61 = .ok (.iload_n 1, 1) := by decide +kernel
theorem dX9_ahead_62 : decode cX9_ahead 62 = .ok (.aload_n 0, 1) := by decide +kernel
theorem dX9_ahead_63 : decode cX9_ahead 63 = .ok (.getfield 17, 3) := by decide +kernel
theorem dX9_ahead_66 : decode cX9_ahead 66 = .ok (.if_icmp .lt 4, 3) := by decide +kernel
theorem dX9_ahead_69 : decode cX9_ahead 69 = .ok (.return_, 1) := by decide +kernel
theorem dX9_ahead_70 : decode cX9_ahead 70 = .ok (.aload_n 0, 1) := by decide +kernel
theorem dX9_ahead_71 : decode cX9_ahead 71 = .ok (.getfield 7, 3) := by decide +kernel
theorem dX9_ahead_74 : decode cX9_ahead 74 = .ok (.iload_n 1, 1) := by decide +kernel
theorem dX9_ahead_75 : decode cX9_ahead 75 = .ok (.iaload, 1) := by decide +kernel
theorem dX9_ahead_76 : decode cX9_ahead 76 = .ok (.invokestatic 240, 3) := by decide +kernel
theorem dX9_ahead_79 : decode cX9_ahead 79 = .ok (.istore_n 2, 1) := by decide +kernel
theorem dX9_ahead_80 : decode cX9_ahead 80 = .ok (.aload_n 0, 1) := by decide +kernel
theorem dX9_ahead_81 : decode cX9_ahead 81 = .ok (.getfield 7, 3) := by decide +kernel
theorem dX9_ahead_84 : decode cX9_ahead 84 = .ok (.iload_n 1, 1) := by decide +kernel
theorem dX9_ahead_85 : decode cX9_ahead 85 = .ok (.iaload, 1) := by decide +kernel
theorem dX9_ahead_86 : decode cX9_ahead 86 = .ok (.invokestatic 244, 3) := by decide +kernel
theorem dX9_ahead_89 : decode cX9_ahead 89 = .ok (.istore_n 3, 1) := by decide +kernel
theorem dX9_ahead_90 : decode cX9_ahead 90 = .ok (.iload_n 2, 1) := by decide +kernel
theorem dX9_ahead_91 : decode cX9_ahead 91 = .ok (.ifCond .ne 7, 3) := by decide +kernel
theorem dX9_ahead_94 : decode cX9_ahead 94 = .ok (.iload_n 3, 1) := by decide +kernel
theorem dX9_ahead_95 : decode cX9_ahead 95 = .ok (.ifCond .eq 40, 3) := by decide +kernel
theorem dX9_ahead_98 : decode cX9_ahead 98 = .ok (.iload_n 1, 1) := by decide +kernel
theorem dX9_ahead_99 : decode cX9_ahead 99 = .ok (.ifCond .le 36, 3) := by decide +kernel
theorem dX9_ahead_102 : decode cX9_ahead 102 = .ok (.aload_n 0, 1) := by decide +kernel
theorem dX9_ahead_103 : decode cX9_ahead 103 = .ok (.getfield 7, 3) := by decide +kernel
theorem dX9_ahead_106 : decode cX9_ahead 106 = .ok (.iload_n 1, 1) := by decide +kernel
theorem dX9_ahead_107 : decode cX9_ahead 107 = .ok (.iconst 1, 1) := by decide +kernel
theorem dX9_ahead_108 : decode cX9_ahead 108 = .ok (.isub, 1) := by decide +kernel
theorem dX9_ahead_109 : decode cX9_ahead 109 = .ok (.iaload, 1) := by decide +kernel
theorem dX9_ahead_110 : decode cX9_ahead 110 = .ok (.invokestatic 240, 3) := by decide +kernel
theorem dX9_ahead_113 : decode cX9_ahead 113 = .ok (.ifCond .ne 17, 3) := by decide +kernel
theorem dX9_ahead_116 : decode cX9_ahead 116 = .ok (.aload_n 0, 1) := by decide +kernel
theorem dX9_ahead_117 : decode cX9_ahead 117 = .ok (.getfield 7, 3) := by decide +kernel
theorem dX9_ahead_120 : decode cX9_ahead 120 = .ok (.iload_n 1, 1) := by decide +kernel
theorem dX9_ahead_121 : decode cX9_ahead 121 = .ok (.iconst 1, 1) := by decide +kernel
theorem dX9_ahead_122 : decode cX9_ahead 122 = .ok (.isub, 1) := by decide +kernel
theorem dX9_ahead_123 : decode cX9_ahead 123 = .ok (.iaload, 1) := by decide +kernel
theorem dX9_ahead_124 : decode cX9_ahead 124 = .ok (.invokestatic 244, 3) := by decide +kernel
theorem dX9_ahead_127 : decode cX9_ahead 127 = .ok (.ifCond .eq 8, 3) := by decide +kernel
theorem dX9_ahead_130 : decode cX9_ahead 130 = .ok (.aload_n 0, 1) := by decide +kernel
theorem dX9_ahead_131 : decode cX9_ahead 131 = .ok (.iload_n 1, 1) := by decide +kernel
theorem dX9_ahead_132 : decode cX9_ahead 132 = .ok (.putfield 48, 3) := by decide +kernel
theorem dX9_ahead_135 : decode cX9_ahead 135 = .ok (.aload_n 0, 1) := by decide +kernel
theorem dX9_ahead_136 : decode cX9_ahead 136 = .ok (.iconst 0, 1) := by decide +kernel
theorem dX9_ahead_137 : decode cX9_ahead 137 = .ok (.putfield 29, 3) := by decide +kernel
theorem dX9_ahead_140 : decode cX9_ahead 140 = .ok (.aload_n 0, 1) := by decide +kernel
theorem dX9_ahead_141 : decode cX9_ahead 141 = .ok (.lconst 0, 1) := by decide +kernel
theorem dX9_ahead_142 : decode cX9_ahead 142 = .ok (.putfield 32, 3) := by decide +kernel
theorem dX9_ahead_145 : decode cX9_ahead 145 = .ok (.aload_n 0, 1) := by decide +kernel
theorem dX9_ahead_146 : decode cX9_ahead 146 = .ok (.iconst 3, 1) := by decide +kernel
theorem dX9_ahead_147 : decode cX9_ahead 147 = .ok (.putfield 20, 3) := by decide +kernel
theorem dX9_ahead_150 : decode cX9_ahead 150 = .ok (.aload_n 0, 1) := by decide +kernel
theorem dX9_ahead_151 : decode cX9_ahead 151 = .ok (.iload_n 1, 1) := by decide +kernel
theorem dX9_ahead_152 : decode cX9_ahead 152 = .ok (.iconst 1, 1) := by decide +kernel
theorem dX9_ahead_153 : decode cX9_ahead 153 = .ok (.iadd, 1) := by decide +kernel
theorem dX9_ahead_154 : decode cX9_ahead 154 = .ok (.putfield 26, 3) := by decide +kernel
theorem dX9_ahead_157 : decode cX9_ahead 157 = .ok (.iload_n 2, 1) := by decide +kernel
theorem dX9_ahead_158 : decode cX9_ahead 158 = .ok (.ifCond .ne 18, 3) := by decide +kernel
theorem dX9_ahead_161 : decode cX9_ahead 161 = .ok (.iload_n 3, 1) := by decide +kernel
theorem dX9_ahead_162 : decode cX9_ahead 162 = .ok (.ifCond .ne 14, 3) := by decide +kernel
theorem dX9_ahead_165 : decode cX9_ahead 165 = .ok (.aload_n 0, 1) := by decide +kernel
theorem dX9_ahead_166 : decode cX9_ahead 166 = .ok (.aload_n 0, 1) := by decide +kernel
theorem dX9_ahead_167 : decode cX9_ahead 167 = .ok (.getfield 7, 3) := by decide +kernel
theorem dX9_ahead_170 : decode cX9_ahead 170 = .ok (.iload_n 1, 1) := by decide +kernel
theorem dX9_ahead_171 : decode cX9_ahead 171 = .ok (.iaload, 1) := by decide +kernel
theorem dX9_ahead_172 : decode cX9_ahead 172 = .ok (.putfield 29, 3) := by decide +kernel
theorem dX9_ahead_175 : decode cX9_ahead 175 = .ok (.return_, 1) := by decide +kernel
theorem dX9_ahead_176 : decode cX9_ahead 176 = .ok (.aload_n 0, 1) := by decide +kernel
theorem dX9_ahead_177 : decode cX9_ahead 177 = .ok (.iload_n 2, 1) := by decide +kernel
theorem dX9_ahead_178 : decode cX9_ahead 178 = .ok (.ifCond .eq 7, 3) := by decide +kernel
theorem dX9_ahead_181 : decode cX9_ahead 181 = .ok (.iconst 1, 1) := by decide +kernel
theorem dX9_ahead_182 : decode cX9_ahead 182 = .ok (.goto 4, 3) := by decide +kernel
theorem dX9_ahead_185 : decode cX9_ahead 185 = .ok (.iconst 2, 1) := by decide +kernel
theorem dX9_ahead_186 : decode cX9_ahead 186 = .ok (.putfield 20, 3) := by decide +kernel
theorem dX9_ahead_189 : decode cX9_ahead 189 = .ok (.iload_n 2, 1) := by decide +kernel
theorem dX9_ahead_190 : decode cX9_ahead 190 = .ok (.ifCond .eq 8, 3) := by decide +kernel
theorem dX9_ahead_193 : decode cX9_ahead 193 = .ok (.bipush 6, 2) := by decide +kernel
theorem dX9_ahead_195 : decode cX9_ahead 195 = .ok (.goto 4, 3) := by decide +kernel
theorem dX9_ahead_198 : decode cX9_ahead 198 = .ok (.iconst 4, 1) := by decide +kernel
theorem dX9_ahead_199 : decode cX9_ahead 199 = .ok (.istore 4, 2) := by decide +kernel
theorem dX9_ahead_201 : decode cX9_ahead 201 = .ok (.iconst 0, 1) := by decide +kernel
theorem dX9_ahead_202 : decode cX9_ahead 202 = .ok (.istore 5, 2) := by decide +kernel
theorem dX9_ahead_204 : decode cX9_ahead 204 = .ok (.iload_n 1, 1) := by decide +kernel
theorem dX9_ahead_205 : decode cX9_ahead 205 = .ok (.aload_n 0, 1) := by decide +kernel
theorem dX9_ahead_206 : decode cX9_ahead 206 = .ok (.getfield 17, 3) := by decide +kernel
theorem dX9_ahead_209 : decode cX9_ahead 209 = .ok (.if_icmp .ge 125, 3) := by decide +kernel
theorem dX9_ahead_212 : decode cX9_ahead 212 = .ok (.iload_n 2, 1) := by decide +kernel
theorem dX9_ahead_213 : decode cX9_ahead 213 = .ok (.ifCond .eq 18, 3) := by decide +kernel
theorem dX9_ahead_216 : decode cX9_ahead 216 = .ok (.aload_n 0, 1) := by decide +kernel
theorem dX9_ahead_217 : decode cX9_ahead 217 = .ok (.getfield 7, 3) := by decide +kernel
theorem dX9_ahead_220 : decode cX9_ahead 220 = .ok (.iload_n 1, 1) := by decide +kernel
theorem dX9_ahead_221 : decode cX9_ahead 221 = .ok (.iaload, 1) := by decide +kernel
theorem dX9_ahead_222 : decode cX9_ahead 222 = .ok (.invokestatic 240, 3) := by decide +kernel
theorem dX9_ahead_225 : decode cX9_ahead 225 = .ok (.ifCond .eq 109, 3) := by decide +kernel
theorem dX9_ahead_228 : decode cX9_ahead 228 = .ok (.goto 15, 3) := by decide +kernel
theorem dX9_ahead_231 : decode cX9_ahead 231 = .ok (.aload_n 0, 1) := by decide +kernel
theorem dX9_ahead_232 : decode cX9_ahead 232 = .ok (.getfield 7, 3) := by decide +kernel
theorem dX9_ahead_235 : decode cX9_ahead 235 = .ok (.iload_n 1, 1) := by decide +kernel
theorem dX9_ahead_236 : decode cX9_ahead 236 = .ok (.iaload, 1) := by decide +kernel
theorem dX9_ahead_237 : decode cX9_ahead 237 = .ok (.invokestatic 244, 3) := by decide +kernel
theorem dX9_ahead_240 : decode cX9_ahead 240 = .ok (.ifCond .eq 94, 3) := by decide +kernel
theorem dX9_ahead_243 : decode cX9_ahead 243 = .ok (.iload 5, 2) := by decide +kernel
theorem dX9_ahead_245 : decode cX9_ahead 245 = .ok (.iload 4, 2) := by decide +kernel
theorem dX9_ahead_247 : decode cX9_ahead 247 = .ok (.if_icmp .ne 16, 3) := by decide +kernel
theorem dX9_ahead_250 : decode cX9_ahead 250 = .ok (.aload_n 0, 1) := by decide +kernel
theorem dX9_ahead_251 : decode cX9_ahead 251 = .ok (.getfield 48, 3) := by decide +kernel
theorem dX9_ahead_254 : decode cX9_ahead 254 = .ok (.iconst (-1), 1) := by decide +kernel
theorem dX9_ahead_255 : decode cX9_ahead 255 = .ok (.if_icmp .ne 8, 3) := by decide +kernel
theorem dX9_ahead_258 : decode cX9_ahead 258 = .ok (.aload_n 0, 1) := by decide +kernel
theorem dX9_ahead_259 : decode cX9_ahead 259 = .ok (.iload_n 1, 1) := by decide +kernel
theorem dX9_ahead_260 : decode cX9_ahead 260 = .ok (.putfield 48, 3) := by decide +kernel
theorem dX9_ahead_263 : decode cX9_ahead 263 = .ok (.iload 5, 2) := by decide +kernel
theorem dX9_ahead_265 : decode cX9_ahead 265 = .ok (.bipush 8, 2) := by decide +kernel
theorem dX9_ahead_267 : decode cX9_ahead 267 = .ok (.if_icmp .ge 26, 3) := by decide +kernel
theorem dX9_ahead_270 : decode cX9_ahead 270 = .ok (.iload_n 2, 1) := by decide +kernel
theorem dX9_ahead_271 : decode cX9_ahead 271 = .ok (.ifCond .eq 22, 3) := by decide +kernel
theorem dX9_ahead_274 : decode cX9_ahead 274 = .ok (.aload_n 0, 1) := by decide +kernel
theorem dX9_ahead_275 : decode cX9_ahead 275 = .ok (.aload_n 0, 1) := by decide +kernel
theorem dX9_ahead_276 : decode cX9_ahead 276 = .ok (.getfield 32, 3) := by decide +kernel
theorem dX9_ahead_279 : decode cX9_ahead 279 = .ok (.bipush 8, 2) := by decide +kernel
theorem dX9_ahead_281 : decode cX9_ahead 281 = .ok (.lshl, 1) := by decide +kernel
theorem dX9_ahead_282 : decode cX9_ahead 282 = .ok (.aload_n 0, 1) := by decide +kernel
theorem dX9_ahead_283 : decode cX9_ahead 283 = .ok (.getfield 7, 3) := by decide +kernel
theorem dX9_ahead_286 : decode cX9_ahead 286 = .ok (.iload_n 1, 1) := by decide +kernel
theorem dX9_ahead_287 : decode cX9_ahead 287 = .ok (.iaload, 1) := by decide +kernel
theorem dX9_ahead_288 : decode cX9_ahead 288 = .ok (.i2l, 1) := by decide +kernel
theorem dX9_ahead_289 : decode cX9_ahead 289 = .ok (.lor, 1) := by decide +kernel
theorem dX9_ahead_290 : decode cX9_ahead 290 = .ok (.putfield 32, 3) := by decide +kernel
theorem dX9_ahead_293 : decode cX9_ahead 293 = .ok (.iload 5, 2) := by decide +kernel
theorem dX9_ahead_295 : decode cX9_ahead 295 = .ok (.iload 4, 2) := by decide +kernel
theorem dX9_ahead_297 : decode cX9_ahead 297 = .ok (.if_icmp .ge 28, 3) := by decide +kernel
