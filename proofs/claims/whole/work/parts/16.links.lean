set_option maxRecDepth 100000 in
theorem lf_J0_38 : Cond.fieldLink RJ0 38 "java/lang/String" "COMPACT_STRINGS" "Z" ∈ gw_tbl := gs_1 49 rfl rfl
set_option maxRecDepth 100000 in
theorem lf_J0_15 : Cond.fieldLink RJ0 15 "java/lang/String" "coder" "B" ∈ gw_tbl := gs_8 156 rfl rfl
set_option maxRecDepth 100000 in
theorem lf_J0_9 : Cond.fieldLink RJ0 9 "java/lang/String" "value" "[B" ∈ gw_tbl := gs_8 155 rfl rfl
set_option maxRecDepth 100000 in
theorem lb_J0_coder_7d493 : LB_ yJ0_coder_7d493 cJ0_coder_7d493 1 (some .byte) 0 := ⟨gs_1 48 rfl rfl, gs_1 4 rfl rfl, ⟨by decide +kernel, by decide +kernel, by decide +kernel⟩, by decide⟩
set_option maxRecDepth 100000 in
theorem lk_J0_335 : LVS_ RJ0 335 yJ0_coder_7d493 cJ0_coder_7d493 1 (some .byte) 0 := ⟨lb_J0_coder_7d493, gs_1 45 rfl rfl, gs_1 46 rfl rfl, gs_1 47 rfl rfl, rfl⟩
set_option maxRecDepth 100000 in
theorem lf_J0_1053 : Cond.fieldLink RJ0 1053 "jdk/internal/util/Preconditions" "SIOOBE_FORMATTER" "Ljava/util/function/BiFunction;" ∈ gw_tbl := gs_1 65 rfl rfl
set_option maxRecDepth 100000 in
theorem lb_J3_checkIndex_8e157 : LB_ yJ3_checkIndex_8e157 cJ3_checkIndex_8e157 3 (some .int) 3 := ⟨gs_1 69 rfl rfl, gs_1 6 rfl rfl, ⟨by decide +kernel, by decide +kernel, by decide +kernel⟩, by decide⟩
set_option maxRecDepth 100000 in
theorem lk_J0_1059 : LS_ RJ0 1059 yJ3_checkIndex_8e157 cJ3_checkIndex_8e157 3 (some .int) 3 := ⟨lb_J3_checkIndex_8e157, gs_1 67 rfl rfl, gs_1 68 rfl rfl⟩
set_option maxRecDepth 100000 in
theorem lb_J0_checkIndex_df160 : LB_ yJ0_checkIndex_df160 cJ0_checkIndex_df160 2 none 2 := ⟨gs_1 64 rfl rfl, gs_1 4 rfl rfl, ⟨by decide +kernel, by decide +kernel, by decide +kernel⟩, by decide⟩
set_option maxRecDepth 100000 in
theorem lk_J1_9 : LS_ RJ1 9 yJ0_checkIndex_df160 cJ0_checkIndex_df160 2 none 2 := ⟨lb_J0_checkIndex_df160, gs_1 62 rfl rfl, gs_1 63 rfl rfl⟩
set_option maxRecDepth 100000 in
theorem lb_J0_isLatin1_aae02 : LB_ yJ0_isLatin1_aae02 cJ0_isLatin1_aae02 1 (some .boolean) 0 := ⟨gs_1 58 rfl rfl, gs_1 4 rfl rfl, ⟨by decide +kernel, by decide +kernel, by decide +kernel⟩, by decide⟩
set_option maxRecDepth 100000 in
theorem lk_J0_492 : LVS_ RJ0 492 yJ0_isLatin1_aae02 cJ0_isLatin1_aae02 1 (some .boolean) 0 := ⟨lb_J0_isLatin1_aae02, gs_1 55 rfl rfl, gs_1 56 rfl rfl, gs_1 57 rfl rfl, rfl⟩
set_option maxRecDepth 100000 in
theorem lb_J1_charAt_3b067 : LB_ yJ1_charAt_3b067 cJ1_charAt_3b067 2 (some .char) 2 := ⟨gs_1 61 rfl rfl, gs_1 5 rfl rfl, ⟨by decide +kernel, by decide +kernel, by decide +kernel⟩, by decide⟩
set_option maxRecDepth 100000 in
theorem lk_J0_495 : LS_ RJ0 495 yJ1_charAt_3b067 cJ1_charAt_3b067 2 (some .char) 2 := ⟨lb_J1_charAt_3b067, gs_1 59 rfl rfl, gs_1 60 rfl rfl⟩
set_option maxRecDepth 100000 in
theorem lo_X4_3 : Cond.methodLink RX4 3 Lib.objectInit ∈ gw_tbl ∧ Cond.instanceMethod Lib.objectInit ∈ gw_tbl ∧ Cond.code Lib.objectInit ⟨#[0xb1]⟩ 1 none ∈ gw_tbl := ⟨gs_1 39 rfl rfl, gs_1 26 rfl rfl, gs_1 27 rfl rfl⟩
set_option maxRecDepth 100000 in
theorem la_long : Cond.arrayClass .long ∈ gw_tbl := gs_1 131 rfl rfl
set_option maxRecDepth 100000 in
theorem ff_X4_9 : FF_ RX4 9 4 0 := ⟨_, rfl, by decide, gs_1 89 rfl rfl, rfl, rfl⟩
set_option maxRecDepth 100000 in
theorem la_int : Cond.arrayClass .int ∈ gw_tbl := gs_1 132 rfl rfl
set_option maxRecDepth 100000 in
theorem ff_X4_15 : FF_ RX4 15 4 1 := ⟨_, rfl, by decide, gs_1 90 rfl rfl, rfl, rfl⟩
set_option maxRecDepth 100000 in
theorem ff_X4_19 : FF_ RX4 19 4 2 := ⟨_, rfl, by decide, gs_1 91 rfl rfl, rfl, rfl⟩
set_option maxRecDepth 100000 in
theorem ff_X4_22 : FF_ RX4 22 4 3 := ⟨_, rfl, by decide, gs_1 92 rfl rfl, rfl, rfl⟩
set_option maxRecDepth 100000 in
theorem ff_X4_25 : FF_ RX4 25 4 4 := ⟨_, rfl, by decide, gs_1 93 rfl rfl, rfl, rfl⟩
set_option maxRecDepth 100000 in
theorem lb_J0_length_8abf5 : LB_ yJ0_length_8abf5 cJ0_length_8abf5 1 (some .int) 0 := ⟨gs_1 44 rfl rfl, gs_1 4 rfl rfl, ⟨by decide +kernel, by decide +kernel, by decide +kernel⟩, by decide⟩
set_option maxRecDepth 100000 in
theorem lk_X4_30 : LVS_ RX4 30 yJ0_length_8abf5 cJ0_length_8abf5 1 (some .int) 0 := ⟨lb_J0_length_8abf5, gs_1 41 rfl rfl, gs_1 42 rfl rfl, gs_1 43 rfl rfl, rfl⟩
set_option maxRecDepth 100000 in
theorem lb_J0_charAt_5068e : LB_ yJ0_charAt_5068e cJ0_charAt_5068e 2 (some .char) 1 := ⟨gs_1 54 rfl rfl, gs_1 4 rfl rfl, ⟨by decide +kernel, by decide +kernel, by decide +kernel⟩, by decide⟩
set_option maxRecDepth 100000 in
theorem lk_X4_36 : LVS_ RX4 36 yJ0_charAt_5068e cJ0_charAt_5068e 2 (some .char) 1 := ⟨lb_J0_charAt_5068e, gs_1 51 rfl rfl, gs_1 52 rfl rfl, gs_1 53 rfl rfl, rfl⟩
set_option maxRecDepth 100000 in
theorem fl_X4_9 : FL_ RX4 9 4 0 := ⟨_, rfl, by decide, gs_1 89 rfl rfl⟩
set_option maxRecDepth 100000 in
theorem lo_X1_3 : Cond.methodLink RX1 3 Lib.objectInit ∈ gw_tbl ∧ Cond.instanceMethod Lib.objectInit ∈ gw_tbl ∧ Cond.code Lib.objectInit ⟨#[0xb1]⟩ 1 none ∈ gw_tbl := ⟨gs_1 144 rfl rfl, gs_1 26 rfl rfl, gs_1 27 rfl rfl⟩
set_option maxRecDepth 100000 in
theorem ff_X1_9 : FF_ RX1 9 1 0 := ⟨_, rfl, by decide, gs_1 145 rfl rfl, rfl, rfl⟩
set_option maxRecDepth 100000 in
theorem ff_X1_15 : FF_ RX1 15 1 2 := ⟨_, rfl, by decide, gs_1 147 rfl rfl, rfl, rfl⟩
set_option maxRecDepth 100000 in
theorem lo_X5_3 : Cond.methodLink RX5 3 Lib.objectInit ∈ gw_tbl ∧ Cond.instanceMethod Lib.objectInit ∈ gw_tbl ∧ Cond.code Lib.objectInit ⟨#[0xb1]⟩ 1 none ∈ gw_tbl := ⟨gs_1 138 rfl rfl, gs_1 26 rfl rfl, gs_1 27 rfl rfl⟩
set_option maxRecDepth 100000 in
theorem ff_X5_9 : FF_ RX5 9 5 0 := ⟨_, rfl, by decide, gs_1 155 rfl rfl, rfl, rfl⟩
set_option maxRecDepth 100000 in
theorem ff_X5_15 : FF_ RX5 15 5 1 := ⟨_, rfl, by decide, gs_1 159 rfl rfl, rfl, rfl⟩
set_option maxRecDepth 100000 in
theorem ff_X5_18 : FF_ RX5 18 5 2 := ⟨_, rfl, by decide, gs_1 160 rfl rfl, rfl, rfl⟩
set_option maxRecDepth 100000 in
theorem ff_X5_21 : FF_ RX5 21 5 3 := ⟨_, rfl, by decide, gs_1 164 rfl rfl, rfl, rfl⟩
set_option maxRecDepth 100000 in
theorem ff_X5_24 : FF_ RX5 24 5 4 := ⟨_, rfl, by decide, gs_1 168 rfl rfl, rfl, rfl⟩
set_option maxRecDepth 100000 in
theorem ff_X5_27 : FF_ RX5 27 5 5 := ⟨_, rfl, by decide, gs_1 171 rfl rfl, rfl, rfl⟩
set_option maxRecDepth 100000 in
theorem ff_X5_30 : FF_ RX5 30 5 6 := ⟨_, rfl, by decide, gs_1 174 rfl rfl, rfl, rfl⟩
set_option maxRecDepth 100000 in
theorem ff_X5_33 : FF_ RX5 33 5 7 := ⟨_, rfl, by decide, gs_1 177 rfl rfl, rfl, rfl⟩
set_option maxRecDepth 100000 in
theorem ff_X5_36 : FF_ RX5 36 5 8 := ⟨_, rfl, by decide, gs_1 181 rfl rfl, rfl, rfl⟩
set_option maxRecDepth 100000 in
theorem nw_X5_39 : NW_ RX5 39 1 3 := ⟨_, rfl, rfl, gs_1 139 rfl rfl, gs_1 140 rfl rfl, gs_1 9 rfl rfl, by decide⟩
set_option maxRecDepth 100000 in
theorem lb_X1_init : LB_ yX1_init cX1_init 1 none 0 := ⟨gs_1 143 rfl rfl, gs_1 9 rfl rfl, ⟨by decide +kernel, by decide +kernel, by decide +kernel⟩, by decide⟩
set_option maxRecDepth 100000 in
theorem lk_X5_41 : LIN_ RX5 41 "CoinCircle" yX1_init cX1_init 1 0 := ⟨lb_X1_init, ns_1 141 rfl rfl, gs_1 142 rfl rfl, rfl⟩
set_option maxRecDepth 100000 in
theorem ff_X5_42 : FF_ RX5 42 5 9 := ⟨_, rfl, by decide, gs_1 186 rfl rfl, rfl, rfl⟩
set_option maxRecDepth 100000 in
theorem ff_X5_46 : FF_ RX5 46 5 10 := ⟨_, rfl, by decide, gs_1 188 rfl rfl, rfl, rfl⟩
set_option maxRecDepth 100000 in
theorem lo_X6_3 : Cond.methodLink RX6 3 Lib.objectInit ∈ gw_tbl ∧ Cond.instanceMethod Lib.objectInit ∈ gw_tbl ∧ Cond.code Lib.objectInit ⟨#[0xb1]⟩ 1 none ∈ gw_tbl := ⟨gs_1 33 rfl rfl, gs_1 26 rfl rfl, gs_1 27 rfl rfl⟩
set_option maxRecDepth 100000 in
theorem nw_X6_9 : NW_ RX6 9 4 12 := ⟨_, rfl, rfl, gs_1 34 rfl rfl, gs_1 35 rfl rfl, gs_1 3 rfl rfl, by decide⟩
set_option maxRecDepth 100000 in
theorem lb_X4_init : LB_ yX4_init cX4_init 5 none 0 := ⟨gs_1 38 rfl rfl, gs_1 3 rfl rfl, ⟨by decide +kernel, by decide +kernel, by decide +kernel⟩, by decide⟩
set_option maxRecDepth 100000 in
theorem lk_X6_11 : LI_ RX6 11 yX4_init cX4_init 5 0 := ⟨lb_X4_init, gs_1 36 rfl rfl, gs_1 37 rfl rfl, rfl⟩
set_option maxRecDepth 100000 in
theorem ff_X6_12 : FF_ RX6 12 6 0 := ⟨_, rfl, by decide, gs_1 225 rfl rfl, rfl, rfl⟩
set_option maxRecDepth 100000 in
theorem nw_X6_18 : NW_ RX6 18 5 13 := ⟨_, rfl, rfl, gs_1 133 rfl rfl, gs_1 134 rfl rfl, gs_1 8 rfl rfl, by decide⟩
set_option maxRecDepth 100000 in
theorem lb_X5_init : LB_ yX5_init cX5_init 1 none 0 := ⟨gs_1 137 rfl rfl, gs_1 8 rfl rfl, ⟨by decide +kernel, by decide +kernel, by decide +kernel⟩, by decide⟩
set_option maxRecDepth 100000 in
theorem lk_X6_20 : LIN_ RX6 20 "CoinCircle" yX5_init cX5_init 1 0 := ⟨lb_X5_init, ns_1 135 rfl rfl, gs_1 136 rfl rfl, rfl⟩
set_option maxRecDepth 100000 in
theorem fp_X6_21 : FP_ RX6 21 6 1 := ⟨_, rfl, by decide, gs_1 226 rfl rfl, rfl⟩
set_option maxRecDepth 100000 in
theorem fl_X6_21 : FL_ RX6 21 6 1 := ⟨_, rfl, by decide, gs_1 226 rfl rfl⟩
set_option maxRecDepth 100000 in
theorem fl_X6_25 : FL_ RX6 25 5 9 := ⟨_, rfl, by decide, gs_1 185 rfl rfl⟩
set_option maxRecDepth 100000 in
theorem fp_X6_29 : FP_ RX6 29 6 2 := ⟨_, rfl, by decide, gs_1 227 rfl rfl, rfl⟩
set_option maxRecDepth 100000 in
theorem fp_X6_32 : FP_ RX6 32 6 5 := ⟨_, rfl, by decide, gs_1 231 rfl rfl, rfl⟩
set_option maxRecDepth 100000 in
theorem lo_X3_3 : Cond.methodLink RX3 3 Lib.objectInit ∈ gw_tbl ∧ Cond.instanceMethod Lib.objectInit ∈ gw_tbl ∧ Cond.code Lib.objectInit ⟨#[0xb1]⟩ 1 none ∈ gw_tbl := ⟨gs_2 18 rfl rfl, gs_1 26 rfl rfl, gs_1 27 rfl rfl⟩
set_option maxRecDepth 100000 in
theorem ff_X3_9 : FF_ RX3 9 3 1 := ⟨_, rfl, by decide, gs_2 22 rfl rfl, rfl, rfl⟩
set_option maxRecDepth 100000 in
theorem ff_X3_15 : FF_ RX3 15 3 2 := ⟨_, rfl, by decide, gs_2 26 rfl rfl, rfl, rfl⟩
set_option maxRecDepth 100000 in
theorem ff_X3_18 : FF_ RX3 18 3 3 := ⟨_, rfl, by decide, gs_2 30 rfl rfl, rfl, rfl⟩
set_option maxRecDepth 100000 in
theorem ff_X3_21 : FF_ RX3 21 3 4 := ⟨_, rfl, by decide, gs_2 34 rfl rfl, rfl, rfl⟩
set_option maxRecDepth 100000 in
theorem lo_X2_3 : Cond.methodLink RX2 3 Lib.objectInit ∈ gw_tbl ∧ Cond.instanceMethod Lib.objectInit ∈ gw_tbl ∧ Cond.code Lib.objectInit ⟨#[0xb1]⟩ 1 none ∈ gw_tbl := ⟨gs_2 11 rfl rfl, gs_1 26 rfl rfl, gs_1 27 rfl rfl⟩
set_option maxRecDepth 100000 in
theorem lw_X2_9 : Cond.classLink RX2 9 "CoinCircle$Ledger" ∈ gw_tbl ∧ Cond.arrayOver (.object "CoinCircle$Ledger") ∈ nw_tbl := ⟨gs_2 12 rfl rfl, ns_2 13 rfl rfl⟩
set_option maxRecDepth 100000 in
theorem ff_X2_11 : FF_ RX2 11 2 0 := ⟨_, rfl, by decide, gs_2 46 rfl rfl, rfl, rfl⟩
set_option maxRecDepth 100000 in
theorem fl_X2_11 : FL_ RX2 11 2 0 := ⟨_, rfl, by decide, gs_2 46 rfl rfl⟩
set_option maxRecDepth 100000 in
theorem nw_X2_9 : NW_ RX2 9 3 5 := ⟨_, rfl, rfl, gs_2 12 rfl rfl, gs_2 14 rfl rfl, gs_1 11 rfl rfl, by decide⟩
set_option maxRecDepth 100000 in
theorem lb_X3_init : LB_ yX3_init cX3_init 1 none 0 := ⟨gs_2 17 rfl rfl, gs_1 11 rfl rfl, ⟨by decide +kernel, by decide +kernel, by decide +kernel⟩, by decide⟩
set_option maxRecDepth 100000 in
theorem lk_X2_17 : LIN_ RX2 17 "CoinCircle" yX3_init cX3_init 1 0 := ⟨lb_X3_init, ns_2 15 rfl rfl, gs_2 16 rfl rfl, rfl⟩
set_option maxRecDepth 100000 in
theorem lo_X7_3 : Cond.methodLink RX7 3 Lib.objectInit ∈ gw_tbl ∧ Cond.instanceMethod Lib.objectInit ∈ gw_tbl ∧ Cond.code Lib.objectInit ⟨#[0xb1]⟩ 1 none ∈ gw_tbl := ⟨gs_2 62 rfl rfl, gs_1 26 rfl rfl, gs_1 27 rfl rfl⟩
set_option maxRecDepth 100000 in
theorem ff_X7_11 : FF_ RX7 11 7 0 := ⟨_, rfl, by decide, gs_2 63 rfl rfl, rfl, rfl⟩
set_option maxRecDepth 100000 in
theorem ff_X7_15 : FF_ RX7 15 7 1 := ⟨_, rfl, by decide, gs_2 64 rfl rfl, rfl, rfl⟩
set_option maxRecDepth 100000 in
theorem ff_X7_18 : FF_ RX7 18 7 3 := ⟨_, rfl, by decide, gs_2 66 rfl rfl, rfl, rfl⟩
set_option maxRecDepth 100000 in
theorem ff_X7_21 : FF_ RX7 21 7 4 := ⟨_, rfl, by decide, gs_2 67 rfl rfl, rfl, rfl⟩
set_option maxRecDepth 100000 in
theorem ff_X7_24 : FF_ RX7 24 7 6 := ⟨_, rfl, by decide, gs_2 69 rfl rfl, rfl, rfl⟩
set_option maxRecDepth 100000 in
theorem fp_X7_27 : FP_ RX7 27 7 7 := ⟨_, rfl, by decide, gs_2 70 rfl rfl, rfl⟩
set_option maxRecDepth 100000 in
theorem lo_X0_3 : Cond.methodLink RX0 3 Lib.objectInit ∈ gw_tbl ∧ Cond.instanceMethod Lib.objectInit ∈ gw_tbl ∧ Cond.code Lib.objectInit ⟨#[0xb1]⟩ 1 none ∈ gw_tbl := ⟨gs_2 95 rfl rfl, gs_1 26 rfl rfl, gs_1 27 rfl rfl⟩
set_option maxRecDepth 100000 in
theorem nw_X0_9 : NW_ RX0 9 3 5 := ⟨_, rfl, rfl, gs_2 96 rfl rfl, gs_2 14 rfl rfl, gs_1 11 rfl rfl, by decide⟩
set_option maxRecDepth 100000 in
theorem lk_X0_11 : LIN_ RX0 11 "CoinCircle" yX3_init cX3_init 1 0 := ⟨lb_X3_init, ns_2 97 rfl rfl, gs_2 16 rfl rfl, rfl⟩
set_option maxRecDepth 100000 in
theorem ff_X0_12 : FF_ RX0 12 0 0 := ⟨_, rfl, by decide, gs_2 98 rfl rfl, rfl, rfl⟩
set_option maxRecDepth 100000 in
theorem ff_X0_18 : FF_ RX0 18 0 2 := ⟨_, rfl, by decide, gs_2 103 rfl rfl, rfl, rfl⟩
set_option maxRecDepth 100000 in
theorem fp_X0_22 : FP_ RX0 22 0 1 := ⟨_, rfl, by decide, gs_2 101 rfl rfl, rfl⟩
set_option maxRecDepth 100000 in
theorem lo_X8_3 : Cond.methodLink RX8 3 Lib.objectInit ∈ gw_tbl ∧ Cond.instanceMethod Lib.objectInit ∈ gw_tbl ∧ Cond.code Lib.objectInit ⟨#[0xb1]⟩ 1 none ∈ gw_tbl := ⟨gs_1 25 rfl rfl, gs_1 26 rfl rfl, gs_1 27 rfl rfl⟩
set_option maxRecDepth 100000 in
theorem la_byte : Cond.arrayClass .byte ∈ gw_tbl := gs_1 130 rfl rfl
set_option maxRecDepth 100000 in
theorem ff_X8_9 : FF_ RX8 9 8 0 := ⟨_, rfl, by decide, gs_2 111 rfl rfl, rfl, rfl⟩
set_option maxRecDepth 100000 in
theorem nw_X8_13 : NW_ RX8 13 6 6 := ⟨_, rfl, rfl, gs_1 28 rfl rfl, gs_1 29 rfl rfl, gs_1 2 rfl rfl, by decide⟩
set_option maxRecDepth 100000 in
theorem lb_X6_init : LB_ yX6_init cX6_init 1 none 0 := ⟨gs_1 32 rfl rfl, gs_1 2 rfl rfl, ⟨by decide +kernel, by decide +kernel, by decide +kernel⟩, by decide⟩
set_option maxRecDepth 100000 in
theorem lk_X8_15 : LIN_ RX8 15 "CoinCircle" yX6_init cX6_init 1 0 := ⟨lb_X6_init, ns_1 30 rfl rfl, gs_1 31 rfl rfl, rfl⟩
set_option maxRecDepth 100000 in
theorem ff_X8_16 : FF_ RX8 16 8 2 := ⟨_, rfl, by decide, gs_2 113 rfl rfl, rfl, rfl⟩
set_option maxRecDepth 100000 in
theorem nw_X8_20 : NW_ RX8 20 2 3 := ⟨_, rfl, rfl, gs_2 6 rfl rfl, gs_2 7 rfl rfl, gs_1 10 rfl rfl, by decide⟩
set_option maxRecDepth 100000 in
theorem lb_X2_init : LB_ yX2_init cX2_init 2 none 0 := ⟨gs_2 10 rfl rfl, gs_1 10 rfl rfl, ⟨by decide +kernel, by decide +kernel, by decide +kernel⟩, by decide⟩
set_option maxRecDepth 100000 in
theorem lk_X8_22 : LI_ RX8 22 yX2_init cX2_init 2 0 := ⟨lb_X2_init, gs_2 8 rfl rfl, gs_2 9 rfl rfl, rfl⟩
set_option maxRecDepth 100000 in
theorem ff_X8_23 : FF_ RX8 23 8 6 := ⟨_, rfl, by decide, gs_2 117 rfl rfl, rfl, rfl⟩
set_option maxRecDepth 100000 in
theorem nw_X8_27 : NW_ RX8 27 7 8 := ⟨_, rfl, rfl, gs_2 57 rfl rfl, gs_2 58 rfl rfl, gs_1 12 rfl rfl, by decide⟩
set_option maxRecDepth 100000 in
theorem lb_X7_init : LB_ yX7_init cX7_init 1 none 0 := ⟨gs_2 61 rfl rfl, gs_1 12 rfl rfl, ⟨by decide +kernel, by decide +kernel, by decide +kernel⟩, by decide⟩
set_option maxRecDepth 100000 in
theorem lk_X8_29 : LIN_ RX8 29 "CoinCircle" yX7_init cX7_init 1 0 := ⟨lb_X7_init, ns_2 59 rfl rfl, gs_2 60 rfl rfl, rfl⟩
set_option maxRecDepth 100000 in
theorem ff_X8_30 : FF_ RX8 30 8 7 := ⟨_, rfl, by decide, gs_2 118 rfl rfl, rfl, rfl⟩
set_option maxRecDepth 100000 in
theorem ff_X8_34 : FF_ RX8 34 8 8 := ⟨_, rfl, by decide, gs_2 119 rfl rfl, rfl, rfl⟩
set_option maxRecDepth 100000 in
theorem ff_X8_38 : FF_ RX8 38 8 9 := ⟨_, rfl, by decide, gs_2 120 rfl rfl, rfl, rfl⟩
set_option maxRecDepth 100000 in
theorem ff_X8_41 : FF_ RX8 41 8 11 := ⟨_, rfl, by decide, gs_2 122 rfl rfl, rfl, rfl⟩
set_option maxRecDepth 100000 in
theorem fp_X8_44 : FP_ RX8 44 8 13 := ⟨_, rfl, by decide, gs_2 124 rfl rfl, rfl⟩
set_option maxRecDepth 100000 in
theorem nw_X8_48 : NW_ RX8 48 5 13 := ⟨_, rfl, rfl, gs_2 88 rfl rfl, gs_1 134 rfl rfl, gs_1 8 rfl rfl, by decide⟩
set_option maxRecDepth 100000 in
theorem lk_X8_50 : LIN_ RX8 50 "CoinCircle" yX5_init cX5_init 1 0 := ⟨lb_X5_init, ns_2 89 rfl rfl, gs_1 136 rfl rfl, rfl⟩
set_option maxRecDepth 100000 in
theorem fp_X8_51 : FP_ RX8 51 8 3 := ⟨_, rfl, by decide, gs_2 114 rfl rfl, rfl⟩
set_option maxRecDepth 100000 in
theorem nw_X8_55 : NW_ RX8 55 0 3 := ⟨_, rfl, rfl, gs_2 90 rfl rfl, gs_2 91 rfl rfl, gs_1 13 rfl rfl, by decide⟩
set_option maxRecDepth 100000 in
theorem lb_X0_init : LB_ yX0_init cX0_init 2 none 1 := ⟨gs_2 94 rfl rfl, gs_1 13 rfl rfl, ⟨by decide +kernel, by decide +kernel, by decide +kernel⟩, by decide⟩
set_option maxRecDepth 100000 in
theorem lk_X8_57 : LI_ RX8 57 yX0_init cX0_init 2 1 := ⟨lb_X0_init, gs_2 92 rfl rfl, gs_2 93 rfl rfl, rfl⟩
set_option maxRecDepth 100000 in
theorem ff_X8_60 : FF_ RX8 60 8 4 := ⟨_, rfl, by decide, gs_2 115 rfl rfl, rfl, rfl⟩
set_option maxRecDepth 100000 in
theorem ff_X8_64 : FF_ RX8 64 8 5 := ⟨_, rfl, by decide, gs_2 116 rfl rfl, rfl, rfl⟩
set_option maxRecDepth 100000 in
theorem fl_X8_34 : FL_ RX8 34 8 8 := ⟨_, rfl, by decide, gs_2 119 rfl rfl⟩
set_option maxRecDepth 100000 in
theorem fl_X8_9 : FL_ RX8 9 8 0 := ⟨_, rfl, by decide, gs_2 111 rfl rfl⟩
set_option maxRecDepth 100000 in
theorem fl_X8_67 : FL_ RX8 67 8 1 := ⟨_, rfl, by decide, gs_2 112 rfl rfl⟩
set_option maxRecDepth 100000 in
theorem lb_X8_putNumber : LB_ yX8_putNumber cX8_putNumber 4 none 2 := ⟨gs_2 165 rfl rfl, gs_1 1 rfl rfl, ⟨by decide +kernel, by decide +kernel, by decide +kernel⟩, by decide⟩
set_option maxRecDepth 100000 in
theorem lk_X8_74 : LV_ RX8 74 yX8_putNumber cX8_putNumber 4 none 2 8 := ⟨lb_X8_putNumber, gs_2 162 rfl rfl, gs_2 164 rfl rfl, gp_1 1 rfl, _, rfl, rfl⟩
set_option maxRecDepth 100000 in
theorem fp_X8_67 : FP_ RX8 67 8 1 := ⟨_, rfl, by decide, gs_2 112 rfl rfl, rfl⟩
set_option maxRecDepth 100000 in
theorem lb_X8_refuse : LB_ yX8_refuse cX8_refuse 2 (some .int) 1 := ⟨gs_2 161 rfl rfl, gs_1 1 rfl rfl, ⟨by decide +kernel, by decide +kernel, by decide +kernel⟩, by decide⟩
set_option maxRecDepth 100000 in
theorem lk_X8_70 : LV_ RX8 70 yX8_refuse cX8_refuse 2 (some .int) 1 8 := ⟨lb_X8_refuse, gs_2 158 rfl rfl, gs_2 160 rfl rfl, gp_1 0 rfl, _, rfl, rfl⟩
set_option maxRecDepth 100000 in
theorem fp_X1_18 : FP_ RX1 18 1 1 := ⟨_, rfl, by decide, gs_1 146 rfl rfl, rfl⟩
set_option maxRecDepth 100000 in
theorem fl_X5_9 : FL_ RX5 9 5 0 := ⟨_, rfl, by decide, gs_1 155 rfl rfl⟩
set_option maxRecDepth 100000 in
theorem fl_X5_42 : FL_ RX5 42 5 9 := ⟨_, rfl, by decide, gs_1 186 rfl rfl⟩
set_option maxRecDepth 100000 in
theorem lb_X1_clear : LB_ yX1_clear cX1_clear 1 none 0 := ⟨gs_2 185 rfl rfl, gs_1 9 rfl rfl, ⟨by decide +kernel, by decide +kernel, by decide +kernel⟩, by decide⟩
set_option maxRecDepth 100000 in
theorem lk_X5_49 : LV_ RX5 49 yX1_clear cX1_clear 1 none 0 1 := ⟨lb_X1_clear, gs_2 182 rfl rfl, gs_2 183 rfl rfl, gs_2 184 rfl rfl, _, rfl, rfl⟩
set_option maxRecDepth 100000 in
theorem fl_X5_46 : FL_ RX5 46 5 10 := ⟨_, rfl, by decide, gs_1 188 rfl rfl⟩
set_option maxRecDepth 100000 in
theorem fp_X5_52 : FP_ RX5 52 5 11 := ⟨_, rfl, by decide, gs_1 191 rfl rfl, rfl⟩
set_option maxRecDepth 100000 in
theorem fp_X5_56 : FP_ RX5 56 5 12 := ⟨_, rfl, by decide, gs_1 195 rfl rfl, rfl⟩
set_option maxRecDepth 100000 in
theorem fl_X4_53 : FL_ RX4 53 4 7 := ⟨_, rfl, by decide, gs_1 96 rfl rfl⟩
set_option maxRecDepth 100000 in
theorem fp_X4_53 : FP_ RX4 53 4 7 := ⟨_, rfl, by decide, gs_1 96 rfl rfl, rfl⟩
set_option maxRecDepth 100000 in
theorem lb_X4_isLetter : LB_ yX4_isLetter cX4_isLetter 1 (some .boolean) 1 := ⟨gs_2 206 rfl rfl, gs_1 3 rfl rfl, ⟨by decide +kernel, by decide +kernel, by decide +kernel⟩, by decide⟩
set_option maxRecDepth 100000 in
theorem lk_X4_81 : LS_ RX4 81 yX4_isLetter cX4_isLetter 1 (some .boolean) 1 := ⟨lb_X4_isLetter, gs_2 204 rfl rfl, gs_2 205 rfl rfl⟩
set_option maxRecDepth 100000 in
theorem fp_X4_56 : FP_ RX4 56 4 8 := ⟨_, rfl, by decide, gs_1 97 rfl rfl, rfl⟩
set_option maxRecDepth 100000 in
theorem fp_X4_63 : FP_ RX4 63 4 9 := ⟨_, rfl, by decide, gs_1 99 rfl rfl, rfl⟩
set_option maxRecDepth 100000 in
theorem fl_X4_66 : FL_ RX4 66 4 10 := ⟨_, rfl, by decide, gs_1 101 rfl rfl⟩
set_option maxRecDepth 100000 in
theorem fp_X4_69 : FP_ RX4 69 4 11 := ⟨_, rfl, by decide, gs_1 103 rfl rfl, rfl⟩
set_option maxRecDepth 100000 in
theorem lb_X4_ownWordOf : LB_ yX4_ownWordOf cX4_ownWordOf 4 (some .int) 1 := ⟨gs_2 214 rfl rfl, gs_1 3 rfl rfl, ⟨by decide +kernel, by decide +kernel, by decide +kernel⟩, by decide⟩
set_option maxRecDepth 100000 in
theorem lk_X4_100 : LV_ RX4 100 yX4_ownWordOf cX4_ownWordOf 4 (some .int) 1 4 := ⟨lb_X4_ownWordOf, gs_2 211 rfl rfl, gs_2 213 rfl rfl, gp_1 5 rfl, _, rfl, rfl⟩
set_option maxRecDepth 100000 in
theorem lb_X4_isDigit : LB_ yX4_isDigit cX4_isDigit 1 (some .boolean) 1 := ⟨gs_2 217 rfl rfl, gs_1 3 rfl rfl, ⟨by decide +kernel, by decide +kernel, by decide +kernel⟩, by decide⟩
set_option maxRecDepth 100000 in
theorem lk_X4_88 : LS_ RX4 88 yX4_isDigit cX4_isDigit 1 (some .boolean) 1 := ⟨lb_X4_isDigit, gs_2 215 rfl rfl, gs_2 216 rfl rfl⟩
set_option maxRecDepth 100000 in
theorem fl_X4_63 : FL_ RX4 63 4 9 := ⟨_, rfl, by decide, gs_1 99 rfl rfl⟩
set_option maxRecDepth 100000 in
theorem lb_J1_canEncode_9a6ad : LB_ yJ1_canEncode_9a6ad cJ1_canEncode_9a6ad 1 (some .boolean) 1 := ⟨gs_2 237 rfl rfl, gs_1 5 rfl rfl, ⟨by decide +kernel, by decide +kernel, by decide +kernel⟩, by decide⟩
set_option maxRecDepth 100000 in
theorem lk_J1_88 : LS_ RJ1 88 yJ1_canEncode_9a6ad cJ1_canEncode_9a6ad 1 (some .boolean) 1 := ⟨lb_J1_canEncode_9a6ad, gs_2 235 rfl rfl, gs_2 236 rfl rfl⟩
set_option maxRecDepth 100000 in
theorem lb_J9_max_7cf53 : LB_ yJ9_max_7cf53 cJ9_max_7cf53 2 (some .int) 2 := ⟨gs_2 195 rfl rfl, gs_1 15 rfl rfl, ⟨by decide +kernel, by decide +kernel, by decide +kernel⟩, by decide⟩
set_option maxRecDepth 100000 in
theorem lk_J1_92 : LS_ RJ1 92 yJ9_max_7cf53 cJ9_max_7cf53 2 (some .int) 2 := ⟨lb_J9_max_7cf53, gs_2 238 rfl rfl, gs_2 194 rfl rfl⟩
set_option maxRecDepth 100000 in
theorem lb_J9_min_7cf53 : LB_ yJ9_min_7cf53 cJ9_min_7cf53 2 (some .int) 2 := ⟨gs_2 192 rfl rfl, gs_1 15 rfl rfl, ⟨by decide +kernel, by decide +kernel, by decide +kernel⟩, by decide⟩
set_option maxRecDepth 100000 in
theorem lk_J1_38 : LS_ RJ1 38 yJ9_min_7cf53 cJ9_min_7cf53 2 (some .int) 2 := ⟨lb_J9_min_7cf53, gs_2 239 rfl rfl, gs_2 191 rfl rfl⟩
set_option maxRecDepth 100000 in
theorem lb_J1_indexOfChar_4cfef : LB_ yJ1_indexOfChar_4cfef cJ1_indexOfChar_4cfef 6 (some .int) 4 := ⟨gs_3 2 rfl rfl, gs_1 5 rfl rfl, ⟨by decide +kernel, by decide +kernel, by decide +kernel⟩, by decide⟩
set_option maxRecDepth 100000 in
theorem lk_J1_95 : LS_ RJ1 95 yJ1_indexOfChar_4cfef cJ1_indexOfChar_4cfef 6 (some .int) 4 := ⟨lb_J1_indexOfChar_4cfef, gs_3 0 rfl rfl, gs_3 1 rfl rfl⟩
set_option maxRecDepth 100000 in
theorem lk_J0_505 : LVS_ RJ0 505 yJ0_length_8abf5 cJ0_length_8abf5 1 (some .int) 0 := ⟨lb_J0_length_8abf5, gs_2 231 rfl rfl, gs_1 42 rfl rfl, gs_1 43 rfl rfl, rfl⟩
set_option maxRecDepth 100000 in
theorem lb_J1_indexOf_4cfef : LB_ yJ1_indexOf_4cfef cJ1_indexOf_4cfef 4 (some .int) 4 := ⟨gs_2 234 rfl rfl, gs_1 5 rfl rfl, ⟨by decide +kernel, by decide +kernel, by decide +kernel⟩, by decide⟩
set_option maxRecDepth 100000 in
theorem lk_J0_637 : LS_ RJ0 637 yJ1_indexOf_4cfef cJ1_indexOf_4cfef 4 (some .int) 4 := ⟨lb_J1_indexOf_4cfef, gs_2 232 rfl rfl, gs_2 233 rfl rfl⟩
set_option maxRecDepth 100000 in
theorem lb_J0_indexOf_7cf53 : LB_ yJ0_indexOf_7cf53 cJ0_indexOf_7cf53 3 (some .int) 2 := ⟨gs_2 230 rfl rfl, gs_1 4 rfl rfl, ⟨by decide +kernel, by decide +kernel, by decide +kernel⟩, by decide⟩
set_option maxRecDepth 100000 in
theorem lk_J0_633 : LVS_ RJ0 633 yJ0_indexOf_7cf53 cJ0_indexOf_7cf53 3 (some .int) 2 := ⟨lb_J0_indexOf_7cf53, gs_2 227 rfl rfl, gs_2 228 rfl rfl, gs_2 229 rfl rfl, rfl⟩
set_option maxRecDepth 100000 in
theorem fl_X4_56 : FL_ RX4 56 4 8 := ⟨_, rfl, by decide, gs_1 97 rfl rfl⟩
set_option maxRecDepth 100000 in
theorem lb_X4_skipBlanks : LB_ yX4_skipBlanks cX4_skipBlanks 3 none 2 := ⟨gs_2 203 rfl rfl, gs_1 3 rfl rfl, ⟨by decide +kernel, by decide +kernel, by decide +kernel⟩, by decide⟩
set_option maxRecDepth 100000 in
theorem lk_X4_78 : LV_ RX4 78 yX4_skipBlanks cX4_skipBlanks 3 none 2 4 := ⟨lb_X4_skipBlanks, gs_2 200 rfl rfl, gs_2 202 rfl rfl, gp_1 3 rfl, _, rfl, rfl⟩
set_option maxRecDepth 100000 in
theorem fp_X4_66 : FP_ RX4 66 4 10 := ⟨_, rfl, by decide, gs_1 101 rfl rfl, rfl⟩
set_option maxRecDepth 100000 in
theorem lb_J0_indexOf_0f7a4 : LB_ yJ0_indexOf_0f7a4 cJ0_indexOf_0f7a4 2 (some .int) 1 := ⟨gs_2 226 rfl rfl, gs_1 4 rfl rfl, ⟨by decide +kernel, by decide +kernel, by decide +kernel⟩, by decide⟩
set_option maxRecDepth 100000 in
theorem lk_X4_96 : LVS_ RX4 96 yJ0_indexOf_0f7a4 cJ0_indexOf_0f7a4 2 (some .int) 1 := ⟨lb_J0_indexOf_0f7a4, gs_2 223 rfl rfl, gs_2 224 rfl rfl, gs_2 225 rfl rfl, rfl⟩
set_option maxRecDepth 100000 in
theorem lb_X4_readNumber : LB_ yX4_readNumber cX4_readNumber 4 none 2 := ⟨gs_2 221 rfl rfl, gs_1 3 rfl rfl, ⟨by decide +kernel, by decide +kernel, by decide +kernel⟩, by decide⟩
set_option maxRecDepth 100000 in
theorem lk_X4_91 : LV_ RX4 91 yX4_readNumber cX4_readNumber 4 none 2 4 := ⟨lb_X4_readNumber, gs_2 218 rfl rfl, gs_2 220 rfl rfl, gp_1 6 rfl, _, rfl, rfl⟩
set_option maxRecDepth 100000 in
theorem lb_X4_readWord : LB_ yX4_readWord cX4_readWord 7 none 2 := ⟨gs_2 210 rfl rfl, gs_1 3 rfl rfl, ⟨by decide +kernel, by decide +kernel, by decide +kernel⟩, by decide⟩
set_option maxRecDepth 100000 in
theorem lk_X4_85 : LV_ RX4 85 yX4_readWord cX4_readWord 7 none 2 4 := ⟨lb_X4_readWord, gs_2 207 rfl rfl, gs_2 209 rfl rfl, gp_1 4 rfl, _, rfl, rfl⟩
set_option maxRecDepth 100000 in
theorem fl_X4_72 : FL_ RX4 72 4 6 := ⟨_, rfl, by decide, gs_1 95 rfl rfl⟩
set_option maxRecDepth 100000 in
theorem fl_X4_49 : FL_ RX4 49 4 5 := ⟨_, rfl, by decide, gs_1 94 rfl rfl⟩
set_option maxRecDepth 100000 in
theorem fp_X4_72 : FP_ RX4 72 4 6 := ⟨_, rfl, by decide, gs_1 95 rfl rfl, rfl⟩
set_option maxRecDepth 100000 in
theorem fl_X4_15 : FL_ RX4 15 4 1 := ⟨_, rfl, by decide, gs_1 90 rfl rfl⟩
set_option maxRecDepth 100000 in
theorem fl_X4_19 : FL_ RX4 19 4 2 := ⟨_, rfl, by decide, gs_1 91 rfl rfl⟩
set_option maxRecDepth 100000 in
theorem fl_X4_22 : FL_ RX4 22 4 3 := ⟨_, rfl, by decide, gs_1 92 rfl rfl⟩
set_option maxRecDepth 100000 in
theorem fl_X4_25 : FL_ RX4 25 4 4 := ⟨_, rfl, by decide, gs_1 93 rfl rfl⟩
set_option maxRecDepth 100000 in
theorem lk_X4_40 : LS_ RX4 40 yJ9_min_7cf53 cJ9_min_7cf53 2 (some .int) 2 := ⟨lb_J9_min_7cf53, gs_2 190 rfl rfl, gs_2 191 rfl rfl⟩
set_option maxRecDepth 100000 in
theorem lk_X4_46 : LS_ RX4 46 yJ9_max_7cf53 cJ9_max_7cf53 2 (some .int) 2 := ⟨lb_J9_max_7cf53, gs_2 193 rfl rfl, gs_2 194 rfl rfl⟩
set_option maxRecDepth 100000 in
theorem fp_X4_49 : FP_ RX4 49 4 5 := ⟨_, rfl, by decide, gs_1 94 rfl rfl, rfl⟩
set_option maxRecDepth 100000 in
theorem lb_X4_readOne : LB_ yX4_readOne cX4_readOne 5 none 2 := ⟨gs_2 199 rfl rfl, gs_1 3 rfl rfl, ⟨by decide +kernel, by decide +kernel, by decide +kernel⟩, by decide⟩
set_option maxRecDepth 100000 in
theorem lk_X4_59 : LV_ RX4 59 yX4_readOne cX4_readOne 5 none 2 4 := ⟨lb_X4_readOne, gs_2 196 rfl rfl, gs_2 198 rfl rfl, gp_1 2 rfl, _, rfl, rfl⟩
set_option maxRecDepth 100000 in
theorem fl_X4_69 : FL_ RX4 69 4 11 := ⟨_, rfl, by decide, gs_1 103 rfl rfl⟩
set_option maxRecDepth 100000 in
theorem lb_X4_next : LB_ yX4_next cX4_next 1 none 0 := ⟨gs_3 41 rfl rfl, gs_1 3 rfl rfl, ⟨by decide +kernel, by decide +kernel, by decide +kernel⟩, by decide⟩
set_option maxRecDepth 100000 in
theorem lk_X4_75 : LV_ RX4 75 yX4_next cX4_next 1 none 0 4 := ⟨lb_X4_next, gs_3 38 rfl rfl, gs_3 39 rfl rfl, gs_3 40 rfl rfl, _, rfl, rfl⟩
set_option maxRecDepth 100000 in
theorem fp_X6_42 : FP_ RX6 42 6 4 := ⟨_, rfl, by decide, gs_1 229 rfl rfl, rfl⟩
set_option maxRecDepth 100000 in
theorem fl_X6_12 : FL_ RX6 12 6 0 := ⟨_, rfl, by decide, gs_1 225 rfl rfl⟩
set_option maxRecDepth 100000 in
theorem fl_X6_157 : FL_ RX6 157 4 10 := ⟨_, rfl, by decide, gs_1 102 rfl rfl⟩
set_option maxRecDepth 100000 in
theorem fl_X6_156 : FL_ RX6 156 4 11 := ⟨_, rfl, by decide, gs_1 104 rfl rfl⟩
set_option maxRecDepth 100000 in
theorem lb_X5_most : LB_ yX5_most cX5_most 1 (some .int) 1 := ⟨gs_3 64 rfl rfl, gs_1 8 rfl rfl, ⟨by decide +kernel, by decide +kernel, by decide +kernel⟩, by decide⟩
set_option maxRecDepth 100000 in
theorem lk_X5_59 : LS_ RX5 59 yX5_most cX5_most 1 (some .int) 1 := ⟨lb_X5_most, gs_3 62 rfl rfl, gs_3 63 rfl rfl⟩
set_option maxRecDepth 100000 in
theorem lb_X5_isThere : LB_ yX5_isThere cX5_isThere 3 (some .boolean) 2 := ⟨gs_3 77 rfl rfl, gs_1 8 rfl rfl, ⟨by decide +kernel, by decide +kernel, by decide +kernel⟩, by decide⟩
set_option maxRecDepth 100000 in
theorem lk_X5_63 : LV_ RX5 63 yX5_isThere cX5_isThere 3 (some .boolean) 2 5 := ⟨lb_X5_isThere, gs_3 74 rfl rfl, gs_3 75 rfl rfl, gs_3 76 rfl rfl, _, rfl, rfl⟩
set_option maxRecDepth 100000 in
theorem fl_X5_15 : FL_ RX5 15 5 1 := ⟨_, rfl, by decide, gs_1 159 rfl rfl⟩
set_option maxRecDepth 100000 in
theorem lb_X5_find : LB_ yX5_find cX5_find 4 (some .int) 2 := ⟨gs_3 73 rfl rfl, gs_1 8 rfl rfl, ⟨by decide +kernel, by decide +kernel, by decide +kernel⟩, by decide⟩
set_option maxRecDepth 100000 in
theorem lk_X5_67 : LV_ RX5 67 yX5_find cX5_find 4 (some .int) 2 5 := ⟨lb_X5_find, gs_3 70 rfl rfl, gs_3 71 rfl rfl, gs_3 72 rfl rfl, _, rfl, rfl⟩
set_option maxRecDepth 100000 in
theorem lb_X5_isFull : LB_ yX5_isFull cX5_isFull 2 (some .boolean) 1 := ⟨gs_3 61 rfl rfl, gs_1 8 rfl rfl, ⟨by decide +kernel, by decide +kernel, by decide +kernel⟩, by decide⟩
set_option maxRecDepth 100000 in
theorem lk_X5_71 : LV_ RX5 71 yX5_isFull cX5_isFull 2 (some .boolean) 1 5 := ⟨lb_X5_isFull, gs_3 82 rfl rfl, gs_3 59 rfl rfl, gs_3 60 rfl rfl, _, rfl, rfl⟩
set_option maxRecDepth 100000 in
theorem lk_X6_163 : LV_ RX6 163 yX5_isFull cX5_isFull 2 (some .boolean) 1 5 := ⟨lb_X5_isFull, gs_3 58 rfl rfl, gs_3 59 rfl rfl, gs_3 60 rfl rfl, _, rfl, rfl⟩
set_option maxRecDepth 100000 in
theorem lk_X6_127 : LV_ RX6 127 yX4_next cX4_next 1 none 0 4 := ⟨lb_X4_next, gs_3 65 rfl rfl, gs_3 39 rfl rfl, gs_3 40 rfl rfl, _, rfl, rfl⟩
set_option maxRecDepth 100000 in
theorem fl_X6_49 : FL_ RX6 49 4 8 := ⟨_, rfl, by decide, gs_1 98 rfl rfl⟩
set_option maxRecDepth 100000 in
theorem fl_X6_64 : FL_ RX6 64 4 9 := ⟨_, rfl, by decide, gs_1 100 rfl rfl⟩
set_option maxRecDepth 100000 in
theorem lb_X5_isGiven : LB_ yX5_isGiven cX5_isGiven 2 (some .boolean) 1 := ⟨gs_3 69 rfl rfl, gs_1 8 rfl rfl, ⟨by decide +kernel, by decide +kernel, by decide +kernel⟩, by decide⟩
set_option maxRecDepth 100000 in
theorem lk_X6_166 : LV_ RX6 166 yX5_isGiven cX5_isGiven 2 (some .boolean) 1 5 := ⟨lb_X5_isGiven, gs_3 66 rfl rfl, gs_3 67 rfl rfl, gs_3 68 rfl rfl, _, rfl, rfl⟩
set_option maxRecDepth 100000 in
theorem lb_X5_give : LB_ yX5_give cX5_give 4 (some .int) 2 := ⟨gs_3 81 rfl rfl, gs_1 8 rfl rfl, ⟨by decide +kernel, by decide +kernel, by decide +kernel⟩, by decide⟩
set_option maxRecDepth 100000 in
theorem lk_X6_169 : LV_ RX6 169 yX5_give cX5_give 4 (some .int) 2 5 := ⟨lb_X5_give, gs_3 78 rfl rfl, gs_3 79 rfl rfl, gs_3 80 rfl rfl, _, rfl, rfl⟩
set_option maxRecDepth 100000 in
theorem lb_X6_fail : LB_ yX6_fail cX6_fail 2 (some .boolean) 1 := ⟨gs_3 45 rfl rfl, gs_1 2 rfl rfl, ⟨by decide +kernel, by decide +kernel, by decide +kernel⟩, by decide⟩
set_option maxRecDepth 100000 in
theorem lk_X6_52 : LV_ RX6 52 yX6_fail cX6_fail 2 (some .boolean) 1 6 := ⟨lb_X6_fail, gs_3 42 rfl rfl, gs_3 44 rfl rfl, gp_1 7 rfl, _, rfl, rfl⟩
set_option maxRecDepth 100000 in
theorem lb_X4_isOwnWord : LB_ yX4_isOwnWord cX4_isOwnWord 2 (some .boolean) 1 := ⟨gs_3 90 rfl rfl, gs_1 3 rfl rfl, ⟨by decide +kernel, by decide +kernel, by decide +kernel⟩, by decide⟩
set_option maxRecDepth 100000 in
theorem lk_X6_121 : LV_ RX6 121 yX4_isOwnWord cX4_isOwnWord 2 (some .boolean) 1 4 := ⟨lb_X4_isOwnWord, gs_3 87 rfl rfl, gs_3 88 rfl rfl, gs_3 89 rfl rfl, _, rfl, rfl⟩
set_option maxRecDepth 100000 in
theorem lb_X6_newOne : LB_ yX6_newOne cX6_newOne 3 (some .int) 1 := ⟨gs_3 57 rfl rfl, gs_1 2 rfl rfl, ⟨by decide +kernel, by decide +kernel, by decide +kernel⟩, by decide⟩
set_option maxRecDepth 100000 in
theorem lk_X6_91 : LV_ RX6 91 yX6_newOne cX6_newOne 3 (some .int) 1 6 := ⟨lb_X6_newOne, gs_3 54 rfl rfl, gs_3 56 rfl rfl, gp_1 10 rfl, _, rfl, rfl⟩
set_option maxRecDepth 100000 in
theorem lb_X6_word : LB_ yX6_word cX6_word 2 (some .boolean) 1 := ⟨gs_3 86 rfl rfl, gs_1 2 rfl rfl, ⟨by decide +kernel, by decide +kernel, by decide +kernel⟩, by decide⟩
set_option maxRecDepth 100000 in
theorem lk_X6_95 : LV_ RX6 95 yX6_word cX6_word 2 (some .boolean) 1 6 := ⟨lb_X6_word, gs_3 83 rfl rfl, gs_3 85 rfl rfl, gp_1 11 rfl, _, rfl, rfl⟩
set_option maxRecDepth 100000 in
theorem lb_X6_number : LB_ yX6_number cX6_number 4 (some .int) 2 := ⟨gs_3 94 rfl rfl, gs_1 2 rfl rfl, ⟨by decide +kernel, by decide +kernel, by decide +kernel⟩, by decide⟩
set_option maxRecDepth 100000 in
theorem lk_X6_98 : LV_ RX6 98 yX6_number cX6_number 4 (some .int) 2 6 := ⟨lb_X6_number, gs_3 91 rfl rfl, gs_3 93 rfl rfl, gp_1 12 rfl, _, rfl, rfl⟩
set_option maxRecDepth 100000 in
theorem fl_X6_102 : FL_ RX6 102 5 2 := ⟨_, rfl, by decide, gs_1 161 rfl rfl⟩
set_option maxRecDepth 100000 in
theorem lk_X6_172 : LV_ RX6 172 yX5_find cX5_find 4 (some .int) 2 5 := ⟨lb_X5_find, gs_3 103 rfl rfl, gs_3 71 rfl rfl, gs_3 72 rfl rfl, _, rfl, rfl⟩
set_option maxRecDepth 100000 in
theorem lb_X8_isIn : LB_ yX8_isIn cX8_isIn 2 (some .boolean) 2 := ⟨gs_3 106 rfl rfl, gs_1 1 rfl rfl, ⟨by decide +kernel, by decide +kernel, by decide +kernel⟩, by decide⟩
set_option maxRecDepth 100000 in
theorem lk_X6_175 : LSN_ RX6 175 "CoinCircle" yX8_isIn cX8_isIn 2 (some .boolean) 2 := ⟨lb_X8_isIn, ns_3 104 rfl rfl, gs_3 105 rfl rfl⟩
set_option maxRecDepth 100000 in
theorem fl_X6_115 : FL_ RX6 115 5 5 := ⟨_, rfl, by decide, gs_1 173 rfl rfl⟩
set_option maxRecDepth 100000 in
theorem lb_X6_asked : LB_ yX6_asked cX6_asked 4 (some .int) 2 := ⟨gs_3 102 rfl rfl, gs_1 2 rfl rfl, ⟨by decide +kernel, by decide +kernel, by decide +kernel⟩, by decide⟩
set_option maxRecDepth 100000 in
theorem lk_X6_106 : LV_ RX6 106 yX6_asked cX6_asked 4 (some .int) 2 6 := ⟨lb_X6_asked, gs_3 99 rfl rfl, gs_3 101 rfl rfl, gp_1 14 rfl, _, rfl, rfl⟩
set_option maxRecDepth 100000 in
theorem fl_X6_109 : FL_ RX6 109 5 3 := ⟨_, rfl, by decide, gs_1 165 rfl rfl⟩
set_option maxRecDepth 100000 in
theorem fl_X6_112 : FL_ RX6 112 5 4 := ⟨_, rfl, by decide, gs_1 170 rfl rfl⟩
set_option maxRecDepth 100000 in
theorem fl_X6_118 : FL_ RX6 118 5 6 := ⟨_, rfl, by decide, gs_1 176 rfl rfl⟩
set_option maxRecDepth 100000 in
theorem lb_X6_tellKnown : LB_ yX6_tellKnown cX6_tellKnown 4 (some .boolean) 1 := ⟨gs_3 110 rfl rfl, gs_1 2 rfl rfl, ⟨by decide +kernel, by decide +kernel, by decide +kernel⟩, by decide⟩
set_option maxRecDepth 100000 in
theorem lk_X6_124 : LV_ RX6 124 yX6_tellKnown cX6_tellKnown 4 (some .boolean) 1 6 := ⟨lb_X6_tellKnown, gs_3 107 rfl rfl, gs_3 109 rfl rfl, gp_1 15 rfl, _, rfl, rfl⟩
set_option maxRecDepth 100000 in
theorem fl_X6_130 : FL_ RX6 130 5 7 := ⟨_, rfl, by decide, gs_1 178 rfl rfl⟩
set_option maxRecDepth 100000 in
theorem fl_X6_133 : FL_ RX6 133 5 8 := ⟨_, rfl, by decide, gs_1 182 rfl rfl⟩
set_option maxRecDepth 100000 in
theorem fp_X6_136 : FP_ RX6 136 5 11 := ⟨_, rfl, by decide, gs_1 193 rfl rfl, rfl⟩
set_option maxRecDepth 100000 in
theorem fl_X6_136 : FL_ RX6 136 5 11 := ⟨_, rfl, by decide, gs_1 193 rfl rfl⟩
set_option maxRecDepth 100000 in
theorem fp_X6_139 : FP_ RX6 139 5 12 := ⟨_, rfl, by decide, gs_1 197 rfl rfl, rfl⟩
set_option maxRecDepth 100000 in
theorem fl_X6_139 : FL_ RX6 139 5 12 := ⟨_, rfl, by decide, gs_1 197 rfl rfl⟩
set_option maxRecDepth 100000 in
theorem fl_X1_18 : FL_ RX1 18 1 1 := ⟨_, rfl, by decide, gs_1 146 rfl rfl⟩
set_option maxRecDepth 100000 in
theorem fl_X6_39 : FL_ RX6 39 6 3 := ⟨_, rfl, by decide, gs_1 228 rfl rfl⟩
set_option maxRecDepth 100000 in
theorem fp_X6_39 : FP_ RX6 39 6 3 := ⟨_, rfl, by decide, gs_1 228 rfl rfl, rfl⟩
set_option maxRecDepth 100000 in
theorem fl_X1_9 : FL_ RX1 9 1 0 := ⟨_, rfl, by decide, gs_1 145 rfl rfl⟩
set_option maxRecDepth 100000 in
theorem lb_X4_isSign : LB_ yX4_isSign cX4_isSign 2 (some .boolean) 1 := ⟨gs_3 162 rfl rfl, gs_1 3 rfl rfl, ⟨by decide +kernel, by decide +kernel, by decide +kernel⟩, by decide⟩
set_option maxRecDepth 100000 in
theorem lk_X6_160 : LV_ RX6 160 yX4_isSign cX4_isSign 2 (some .boolean) 1 4 := ⟨lb_X4_isSign, gs_3 159 rfl rfl, gs_3 160 rfl rfl, gs_3 161 rfl rfl, _, rfl, rfl⟩
set_option maxRecDepth 100000 in
theorem lb_X6_enter : LB_ yX6_enter cX6_enter 1 (some .boolean) 0 := ⟨gs_3 154 rfl rfl, gs_1 2 rfl rfl, ⟨by decide +kernel, by decide +kernel, by decide +kernel⟩, by decide⟩
set_option maxRecDepth 100000 in
theorem lk_X6_199 : LV_ RX6 199 yX6_enter cX6_enter 1 (some .boolean) 0 6 := ⟨lb_X6_enter, gs_3 151 rfl rfl, gs_3 153 rfl rfl, gp_2 9 rfl, _, rfl, rfl⟩
set_option maxRecDepth 100000 in
theorem lb_X6_sum : LB_ yX6_sum cX6_sum 3 (some .boolean) 0 := ⟨gs_3 174 rfl rfl, gs_1 2 rfl rfl, ⟨by decide +kernel, by decide +kernel, by decide +kernel⟩, by decide⟩
set_option maxRecDepth 100000 in
theorem lk_X6_153 : LV_ RX6 153 yX6_sum cX6_sum 3 (some .boolean) 0 6 := ⟨lb_X6_sum, gs_3 171 rfl rfl, gs_3 173 rfl rfl, gp_2 12 rfl, _, rfl, rfl⟩
set_option maxRecDepth 100000 in
theorem lb_X6_sign : LB_ yX6_sign cX6_sign 2 (some .boolean) 1 := ⟨gs_3 170 rfl rfl, gs_1 2 rfl rfl, ⟨by decide +kernel, by decide +kernel, by decide +kernel⟩, by decide⟩
set_option maxRecDepth 100000 in
theorem lk_X6_60 : LV_ RX6 60 yX6_sign cX6_sign 2 (some .boolean) 1 6 := ⟨lb_X6_sign, gs_3 167 rfl rfl, gs_3 169 rfl rfl, gp_2 11 rfl, _, rfl, rfl⟩
set_option maxRecDepth 100000 in
theorem fl_X6_29 : FL_ RX6 29 6 2 := ⟨_, rfl, by decide, gs_1 227 rfl rfl⟩
set_option maxRecDepth 100000 in
theorem lb_X1_add : LB_ yX1_add cX1_add 2 none 1 := ⟨gs_3 158 rfl rfl, gs_1 9 rfl rfl, ⟨by decide +kernel, by decide +kernel, by decide +kernel⟩, by decide⟩
set_option maxRecDepth 100000 in
theorem lk_X6_182 : LV_ RX6 182 yX1_add cX1_add 2 none 1 1 := ⟨lb_X1_add, gs_3 155 rfl rfl, gs_3 156 rfl rfl, gs_3 157 rfl rfl, _, rfl, rfl⟩
set_option maxRecDepth 100000 in
theorem lb_X6_oneOfTwo : LB_ yX6_oneOfTwo cX6_oneOfTwo 2 (some .boolean) 1 := ⟨gs_3 190 rfl rfl, gs_1 2 rfl rfl, ⟨by decide +kernel, by decide +kernel, by decide +kernel⟩, by decide⟩
set_option maxRecDepth 100000 in
theorem lk_X6_214 : LV_ RX6 214 yX6_oneOfTwo cX6_oneOfTwo 2 (some .boolean) 1 6 := ⟨lb_X6_oneOfTwo, gs_3 187 rfl rfl, gs_3 189 rfl rfl, gp_3 0 rfl, _, rfl, rfl⟩
set_option maxRecDepth 100000 in
theorem lb_X6_factWord : LB_ yX6_factWord cX6_factWord 1 (some .int) 0 := ⟨gs_3 194 rfl rfl, gs_1 2 rfl rfl, ⟨by decide +kernel, by decide +kernel, by decide +kernel⟩, by decide⟩
set_option maxRecDepth 100000 in
theorem lk_X6_217 : LV_ RX6 217 yX6_factWord cX6_factWord 1 (some .int) 0 6 := ⟨lb_X6_factWord, gs_3 191 rfl rfl, gs_3 193 rfl rfl, gp_3 1 rfl, _, rfl, rfl⟩
set_option maxRecDepth 100000 in
theorem lb_X6_inParentheses : LB_ yX6_inParentheses cX6_inParentheses 1 (some .boolean) 0 := ⟨gs_3 186 rfl rfl, gs_1 2 rfl rfl, ⟨by decide +kernel, by decide +kernel, by decide +kernel⟩, by decide⟩
set_option maxRecDepth 100000 in
theorem lk_X6_211 : LV_ RX6 211 yX6_inParentheses cX6_inParentheses 1 (some .boolean) 0 6 := ⟨lb_X6_inParentheses, gs_3 183 rfl rfl, gs_3 185 rfl rfl, gp_2 15 rfl, _, rfl, rfl⟩
set_option maxRecDepth 100000 in
theorem lb_X6_part : LB_ yX6_part cX6_part 2 (some .boolean) 0 := ⟨gs_3 182 rfl rfl, gs_1 2 rfl rfl, ⟨by decide +kernel, by decide +kernel, by decide +kernel⟩, by decide⟩
set_option maxRecDepth 100000 in
theorem lk_X6_205 : LV_ RX6 205 yX6_part cX6_part 2 (some .boolean) 0 6 := ⟨lb_X6_part, gs_3 179 rfl rfl, gs_3 181 rfl rfl, gp_2 14 rfl, _, rfl, rfl⟩
set_option maxRecDepth 100000 in
theorem lb_X6_productDeed : LB_ yX6_productDeed cX6_productDeed 1 (some .int) 0 := ⟨gs_3 198 rfl rfl, gs_1 2 rfl rfl, ⟨by decide +kernel, by decide +kernel, by decide +kernel⟩, by decide⟩
set_option maxRecDepth 100000 in
theorem lk_X6_208 : LV_ RX6 208 yX6_productDeed cX6_productDeed 1 (some .int) 0 6 := ⟨lb_X6_productDeed, gs_3 195 rfl rfl, gs_3 197 rfl rfl, gp_3 2 rfl, _, rfl, rfl⟩
set_option maxRecDepth 100000 in
theorem lb_X6_product : LB_ yX6_product cX6_product 3 (some .boolean) 0 := ⟨gs_3 178 rfl rfl, gs_1 2 rfl rfl, ⟨by decide +kernel, by decide +kernel, by decide +kernel⟩, by decide⟩
set_option maxRecDepth 100000 in
theorem lk_X6_202 : LV_ RX6 202 yX6_product cX6_product 3 (some .boolean) 0 6 := ⟨lb_X6_product, gs_3 175 rfl rfl, gs_3 177 rfl rfl, gp_2 13 rfl, _, rfl, rfl⟩
set_option maxRecDepth 100000 in
theorem lb_X6_test : LB_ yX6_test cX6_test 2 (some .boolean) 0 := ⟨gs_3 138 rfl rfl, gs_1 2 rfl rfl, ⟨by decide +kernel, by decide +kernel, by decide +kernel⟩, by decide⟩
set_option maxRecDepth 100000 in
theorem lk_X6_147 : LV_ RX6 147 yX6_test cX6_test 2 (some .boolean) 0 6 := ⟨lb_X6_test, gs_3 135 rfl rfl, gs_3 137 rfl rfl, gp_2 5 rfl, _, rfl, rfl⟩
set_option maxRecDepth 100000 in
theorem lb_X6_fact : LB_ yX6_fact cX6_fact 2 (some .boolean) 0 := ⟨gs_3 146 rfl rfl, gs_1 2 rfl rfl, ⟨by decide +kernel, by decide +kernel, by decide +kernel⟩, by decide⟩
set_option maxRecDepth 100000 in
theorem lk_X6_186 : LV_ RX6 186 yX6_fact cX6_fact 2 (some .boolean) 0 6 := ⟨lb_X6_fact, gs_3 143 rfl rfl, gs_3 145 rfl rfl, gp_2 7 rfl, _, rfl, rfl⟩
set_option maxRecDepth 100000 in
theorem lb_X6_comparison : LB_ yX6_comparison cX6_comparison 1 (some .int) 0 := ⟨gs_3 202 rfl rfl, gs_1 2 rfl rfl, ⟨by decide +kernel, by decide +kernel, by decide +kernel⟩, by decide⟩
set_option maxRecDepth 100000 in
theorem lk_X6_195 : LV_ RX6 195 yX6_comparison cX6_comparison 1 (some .int) 0 6 := ⟨lb_X6_comparison, gs_3 199 rfl rfl, gs_3 201 rfl rfl, gp_3 3 rfl, _, rfl, rfl⟩
set_option maxRecDepth 100000 in
theorem lb_X6_inBrackets : LB_ yX6_inBrackets cX6_inBrackets 1 (some .boolean) 0 := ⟨gs_3 166 rfl rfl, gs_1 2 rfl rfl, ⟨by decide +kernel, by decide +kernel, by decide +kernel⟩, by decide⟩
set_option maxRecDepth 100000 in
theorem lk_X6_192 : LV_ RX6 192 yX6_inBrackets cX6_inBrackets 1 (some .boolean) 0 6 := ⟨lb_X6_inBrackets, gs_3 163 rfl rfl, gs_3 165 rfl rfl, gp_2 10 rfl, _, rfl, rfl⟩
set_option maxRecDepth 100000 in
theorem lb_X6_notFact : LB_ yX6_notFact cX6_notFact 1 (some .boolean) 0 := ⟨gs_3 150 rfl rfl, gs_1 2 rfl rfl, ⟨by decide +kernel, by decide +kernel, by decide +kernel⟩, by decide⟩
set_option maxRecDepth 100000 in
theorem lk_X6_189 : LV_ RX6 189 yX6_notFact cX6_notFact 1 (some .boolean) 0 6 := ⟨lb_X6_notFact, gs_3 147 rfl rfl, gs_3 149 rfl rfl, gp_2 8 rfl, _, rfl, rfl⟩
set_option maxRecDepth 100000 in
theorem lb_X6_both : LB_ yX6_both cX6_both 2 (some .boolean) 0 := ⟨gs_3 142 rfl rfl, gs_1 2 rfl rfl, ⟨by decide +kernel, by decide +kernel, by decide +kernel⟩, by decide⟩
set_option maxRecDepth 100000 in
theorem lk_X6_179 : LV_ RX6 179 yX6_both cX6_both 2 (some .boolean) 0 6 := ⟨lb_X6_both, gs_3 139 rfl rfl, gs_3 141 rfl rfl, gp_2 6 rfl, _, rfl, rfl⟩
set_option maxRecDepth 100000 in
theorem lb_X1_isTold : LB_ yX1_isTold cX1_isTold 1 (some .boolean) 0 := ⟨gs_3 134 rfl rfl, gs_1 9 rfl rfl, ⟨by decide +kernel, by decide +kernel, by decide +kernel⟩, by decide⟩
set_option maxRecDepth 100000 in
theorem lk_X6_142 : LV_ RX6 142 yX1_isTold cX1_isTold 1 (some .boolean) 0 1 := ⟨lb_X1_isTold, gs_3 131 rfl rfl, gs_3 132 rfl rfl, gs_3 133 rfl rfl, _, rfl, rfl⟩
set_option maxRecDepth 100000 in
theorem fl_X6_150 : FL_ RX6 150 5 10 := ⟨_, rfl, by decide, gs_1 189 rfl rfl⟩
set_option maxRecDepth 100000 in
theorem lb_X6_tellPerson : LB_ yX6_tellPerson cX6_tellPerson 3 (some .boolean) 0 := ⟨gs_3 53 rfl rfl, gs_1 2 rfl rfl, ⟨by decide +kernel, by decide +kernel, by decide +kernel⟩, by decide⟩
set_option maxRecDepth 100000 in
theorem lk_X6_67 : LV_ RX6 67 yX6_tellPerson cX6_tellPerson 3 (some .boolean) 0 6 := ⟨lb_X6_tellPerson, gs_3 50 rfl rfl, gs_3 52 rfl rfl, gp_1 9 rfl, _, rfl, rfl⟩
set_option maxRecDepth 100000 in
theorem lb_X6_tellCoin : LB_ yX6_tellCoin cX6_tellCoin 4 (some .boolean) 0 := ⟨gs_3 98 rfl rfl, gs_1 2 rfl rfl, ⟨by decide +kernel, by decide +kernel, by decide +kernel⟩, by decide⟩
set_option maxRecDepth 100000 in
theorem lk_X6_70 : LV_ RX6 70 yX6_tellCoin cX6_tellCoin 4 (some .boolean) 0 6 := ⟨lb_X6_tellCoin, gs_3 95 rfl rfl, gs_3 97 rfl rfl, gp_1 13 rfl, _, rfl, rfl⟩
set_option maxRecDepth 100000 in
theorem lb_X6_tellGoods : LB_ yX6_tellGoods cX6_tellGoods 4 (some .boolean) 0 := ⟨gs_3 114 rfl rfl, gs_1 2 rfl rfl, ⟨by decide +kernel, by decide +kernel, by decide +kernel⟩, by decide⟩
set_option maxRecDepth 100000 in
theorem lk_X6_73 : LV_ RX6 73 yX6_tellGoods cX6_tellGoods 4 (some .boolean) 0 6 := ⟨lb_X6_tellGoods, gs_3 111 rfl rfl, gs_3 113 rfl rfl, gp_2 0 rfl, _, rfl, rfl⟩
set_option maxRecDepth 100000 in
theorem lb_X6_tellSnub : LB_ yX6_tellSnub cX6_tellSnub 3 (some .boolean) 0 := ⟨gs_3 118 rfl rfl, gs_1 2 rfl rfl, ⟨by decide +kernel, by decide +kernel, by decide +kernel⟩, by decide⟩
set_option maxRecDepth 100000 in
theorem lk_X6_76 : LV_ RX6 76 yX6_tellSnub cX6_tellSnub 3 (some .boolean) 0 6 := ⟨lb_X6_tellSnub, gs_3 115 rfl rfl, gs_3 117 rfl rfl, gp_2 1 rfl, _, rfl, rfl⟩
set_option maxRecDepth 100000 in
theorem lb_X6_tellFades : LB_ yX6_tellFades cX6_tellFades 1 (some .boolean) 0 := ⟨gs_3 122 rfl rfl, gs_1 2 rfl rfl, ⟨by decide +kernel, by decide +kernel, by decide +kernel⟩, by decide⟩
set_option maxRecDepth 100000 in
theorem lk_X6_79 : LV_ RX6 79 yX6_tellFades cX6_tellFades 1 (some .boolean) 0 6 := ⟨lb_X6_tellFades, gs_3 119 rfl rfl, gs_3 121 rfl rfl, gp_2 2 rfl, _, rfl, rfl⟩
set_option maxRecDepth 100000 in
theorem lb_X6_tellVogue : LB_ yX6_tellVogue cX6_tellVogue 1 (some .boolean) 0 := ⟨gs_3 126 rfl rfl, gs_1 2 rfl rfl, ⟨by decide +kernel, by decide +kernel, by decide +kernel⟩, by decide⟩
set_option maxRecDepth 100000 in
theorem lk_X6_82 : LV_ RX6 82 yX6_tellVogue cX6_tellVogue 1 (some .boolean) 0 6 := ⟨lb_X6_tellVogue, gs_3 123 rfl rfl, gs_3 125 rfl rfl, gp_2 3 rfl, _, rfl, rfl⟩
set_option maxRecDepth 100000 in
theorem lb_X6_tellPresents : LB_ yX6_tellPresents cX6_tellPresents 1 (some .boolean) 0 := ⟨gs_3 130 rfl rfl, gs_1 2 rfl rfl, ⟨by decide +kernel, by decide +kernel, by decide +kernel⟩, by decide⟩
set_option maxRecDepth 100000 in
theorem lk_X6_85 : LV_ RX6 85 yX6_tellPresents cX6_tellPresents 1 (some .boolean) 0 6 := ⟨lb_X6_tellPresents, gs_3 127 rfl rfl, gs_3 129 rfl rfl, gp_2 4 rfl, _, rfl, rfl⟩
set_option maxRecDepth 100000 in
theorem lb_X6_tellPrice : LB_ yX6_tellPrice cX6_tellPrice 1 (some .boolean) 0 := ⟨gs_3 206 rfl rfl, gs_1 2 rfl rfl, ⟨by decide +kernel, by decide +kernel, by decide +kernel⟩, by decide⟩
set_option maxRecDepth 100000 in
theorem lk_X6_88 : LV_ RX6 88 yX6_tellPrice cX6_tellPrice 1 (some .boolean) 0 6 := ⟨lb_X6_tellPrice, gs_3 203 rfl rfl, gs_3 205 rfl rfl, gp_3 4 rfl, _, rfl, rfl⟩
set_option maxRecDepth 100000 in
theorem lb_X5_clear : LB_ yX5_clear cX5_clear 1 none 0 := ⟨gs_2 181 rfl rfl, gs_1 8 rfl rfl, ⟨by decide +kernel, by decide +kernel, by decide +kernel⟩, by decide⟩
set_option maxRecDepth 100000 in
theorem lk_X6_36 : LV_ RX6 36 yX5_clear cX5_clear 1 none 0 5 := ⟨lb_X5_clear, gs_2 178 rfl rfl, gs_2 179 rfl rfl, gs_2 180 rfl rfl, _, rfl, rfl⟩
set_option maxRecDepth 100000 in
theorem lb_X4_read : LB_ yX4_read cX4_read 5 none 2 := ⟨gs_2 189 rfl rfl, gs_1 3 rfl rfl, ⟨by decide +kernel, by decide +kernel, by decide +kernel⟩, by decide⟩
set_option maxRecDepth 100000 in
theorem lk_X6_45 : LV_ RX6 45 yX4_read cX4_read 5 none 2 4 := ⟨lb_X4_read, gs_2 186 rfl rfl, gs_2 187 rfl rfl, gs_2 188 rfl rfl, _, rfl, rfl⟩
set_option maxRecDepth 100000 in
theorem lb_X6_statement : LB_ yX6_statement cX6_statement 1 (some .boolean) 0 := ⟨gs_3 49 rfl rfl, gs_1 2 rfl rfl, ⟨by decide +kernel, by decide +kernel, by decide +kernel⟩, by decide⟩
set_option maxRecDepth 100000 in
theorem lk_X6_56 : LV_ RX6 56 yX6_statement cX6_statement 1 (some .boolean) 0 6 := ⟨lb_X6_statement, gs_3 46 rfl rfl, gs_3 48 rfl rfl, gp_1 8 rfl, _, rfl, rfl⟩
set_option maxRecDepth 100000 in
theorem fl_X3_21 : FL_ RX3 21 3 4 := ⟨_, rfl, by decide, gs_2 34 rfl rfl⟩
set_option maxRecDepth 100000 in
theorem fl_X0_12 : FL_ RX0 12 0 0 := ⟨_, rfl, by decide, gs_2 98 rfl rfl⟩
set_option maxRecDepth 100000 in
theorem fp_X0_26 : FP_ RX0 26 3 0 := ⟨_, rfl, by decide, gs_2 20 rfl rfl, rfl⟩
set_option maxRecDepth 100000 in
theorem fl_X0_30 : FL_ RX0 30 3 1 := ⟨_, rfl, by decide, gs_2 24 rfl rfl⟩
set_option maxRecDepth 100000 in
theorem fl_X0_33 : FL_ RX0 33 5 4 := ⟨_, rfl, by decide, gs_1 169 rfl rfl⟩
set_option maxRecDepth 100000 in
theorem fl_X0_36 : FL_ RX0 36 3 2 := ⟨_, rfl, by decide, gs_2 28 rfl rfl⟩
set_option maxRecDepth 100000 in
theorem fl_X0_39 : FL_ RX0 39 5 5 := ⟨_, rfl, by decide, gs_1 172 rfl rfl⟩
set_option maxRecDepth 100000 in
theorem fl_X0_40 : FL_ RX0 40 3 3 := ⟨_, rfl, by decide, gs_2 31 rfl rfl⟩
set_option maxRecDepth 100000 in
theorem fl_X0_43 : FL_ RX0 43 5 6 := ⟨_, rfl, by decide, gs_1 175 rfl rfl⟩
set_option maxRecDepth 100000 in
theorem lb_X3_setMet : LB_ yX3_setMet cX3_setMet 5 none 3 := ⟨gs_3 218 rfl rfl, gs_1 11 rfl rfl, ⟨by decide +kernel, by decide +kernel, by decide +kernel⟩, by decide⟩
set_option maxRecDepth 100000 in
theorem lk_X0_44 : LV_ RX0 44 yX3_setMet cX3_setMet 5 none 3 3 := ⟨lb_X3_setMet, gs_3 215 rfl rfl, gs_3 216 rfl rfl, gs_3 217 rfl rfl, _, rfl, rfl⟩
set_option maxRecDepth 100000 in
theorem fp_X2_18 : FP_ RX2 18 2 2 := ⟨_, rfl, by decide, gs_2 48 rfl rfl, rfl⟩
set_option maxRecDepth 100000 in
theorem fl_X8_16 : FL_ RX8 16 8 2 := ⟨_, rfl, by decide, gs_2 113 rfl rfl⟩
set_option maxRecDepth 100000 in
theorem lb_X6_tell : LB_ yX6_tell cX6_tell 4 (some .int) 2 := ⟨gs_2 177 rfl rfl, gs_1 2 rfl rfl, ⟨by decide +kernel, by decide +kernel, by decide +kernel⟩, by decide⟩
set_option maxRecDepth 100000 in
theorem lk_X8_78 : LV_ RX8 78 yX6_tell cX6_tell 4 (some .int) 2 6 := ⟨lb_X6_tell, gs_2 174 rfl rfl, gs_2 175 rfl rfl, gs_2 176 rfl rfl, _, rfl, rfl⟩
set_option maxRecDepth 100000 in
theorem fl_X8_51 : FL_ RX8 51 8 3 := ⟨_, rfl, by decide, gs_2 114 rfl rfl⟩
set_option maxRecDepth 100000 in
theorem lb_X6_exchange : LB_ yX6_exchange cX6_exchange 3 (some (.object "CoinCircle$Society")) 1 := ⟨gs_3 210 rfl rfl, gs_1 2 rfl rfl, ⟨by decide +kernel, by decide +kernel, by decide +kernel⟩, by decide⟩
set_option maxRecDepth 100000 in
theorem lk_X8_82 : LV_ RX8 82 yX6_exchange cX6_exchange 3 (some (.object "CoinCircle$Society")) 1 6 := ⟨lb_X6_exchange, gs_3 207 rfl rfl, gs_3 208 rfl rfl, gs_3 209 rfl rfl, _, rfl, rfl⟩
set_option maxRecDepth 100000 in
theorem fl_X8_60 : FL_ RX8 60 8 4 := ⟨_, rfl, by decide, gs_2 115 rfl rfl⟩
set_option maxRecDepth 100000 in
theorem lb_X0_begin : LB_ yX0_begin cX0_begin 4 none 1 := ⟨gs_3 214 rfl rfl, gs_1 13 rfl rfl, ⟨by decide +kernel, by decide +kernel, by decide +kernel⟩, by decide⟩
set_option maxRecDepth 100000 in
theorem lk_X8_86 : LV_ RX8 86 yX0_begin cX0_begin 4 none 1 0 := ⟨lb_X0_begin, gs_3 211 rfl rfl, gs_3 212 rfl rfl, gs_3 213 rfl rfl, _, rfl, rfl⟩
set_option maxRecDepth 100000 in
theorem fl_X8_64 : FL_ RX8 64 8 5 := ⟨_, rfl, by decide, gs_2 116 rfl rfl⟩
set_option maxRecDepth 100000 in
theorem fl_X8_23 : FL_ RX8 23 8 6 := ⟨_, rfl, by decide, gs_2 117 rfl rfl⟩
set_option maxRecDepth 100000 in
theorem lb_X2_clear : LB_ yX2_clear cX2_clear 1 none 0 := ⟨gs_3 222 rfl rfl, gs_1 10 rfl rfl, ⟨by decide +kernel, by decide +kernel, by decide +kernel⟩, by decide⟩
set_option maxRecDepth 100000 in
theorem lk_X8_89 : LV_ RX8 89 yX2_clear cX2_clear 1 none 0 2 := ⟨lb_X2_clear, gs_3 219 rfl rfl, gs_3 220 rfl rfl, gs_3 221 rfl rfl, _, rfl, rfl⟩
set_option maxRecDepth 100000 in
theorem fp_X8_92 : FP_ RX8 92 8 10 := ⟨_, rfl, by decide, gs_2 121 rfl rfl, rfl⟩
set_option maxRecDepth 100000 in
theorem fl_X8_95 : FL_ RX8 95 6 4 := ⟨_, rfl, by decide, gs_1 230 rfl rfl⟩
set_option maxRecDepth 100000 in
theorem fl_X8_98 : FL_ RX8 98 6 5 := ⟨_, rfl, by decide, gs_1 232 rfl rfl⟩
set_option maxRecDepth 100000 in
theorem fl_X0_22 : FL_ RX0 22 0 1 := ⟨_, rfl, by decide, gs_2 101 rfl rfl⟩
set_option maxRecDepth 100000 in
theorem fl_X0_48 : FL_ RX0 48 5 0 := ⟨_, rfl, by decide, gs_1 156 rfl rfl⟩
set_option maxRecDepth 100000 in
theorem ck_J6_265 : Cond.constant RJ6 265 (i32 1431655765) ∈ gw_tbl := gs_4 2 rfl rfl
set_option maxRecDepth 100000 in
theorem ck_J6_266 : Cond.constant RJ6 266 (i32 858993459) ∈ gw_tbl := gs_4 3 rfl rfl
set_option maxRecDepth 100000 in
theorem ck_J6_267 : Cond.constant RJ6 267 (i32 252645135) ∈ gw_tbl := gs_4 4 rfl rfl
set_option maxRecDepth 100000 in
theorem lb_X0_coins : LB_ yX0_coins cX0_coins 1 (some .int) 0 := ⟨gs_3 238 rfl rfl, gs_1 13 rfl rfl, ⟨by decide +kernel, by decide +kernel, by decide +kernel⟩, by decide⟩
set_option maxRecDepth 100000 in
theorem lk_X0_55 : LV_ RX0 55 yX0_coins cX0_coins 1 (some .int) 0 0 := ⟨lb_X0_coins, gs_3 235 rfl rfl, gs_3 236 rfl rfl, gs_3 237 rfl rfl, _, rfl, rfl⟩
set_option maxRecDepth 100000 in
theorem fl_X0_62 : FL_ RX0 62 5 3 := ⟨_, rfl, by decide, gs_1 166 rfl rfl⟩
set_option maxRecDepth 100000 in
theorem lb_J6_bitCount_0f7a4 : LB_ yJ6_bitCount_0f7a4 cJ6_bitCount_0f7a4 1 (some .int) 1 := ⟨gs_4 1 rfl rfl, gs_1 17 rfl rfl, ⟨by decide +kernel, by decide +kernel, by decide +kernel⟩, by decide⟩
set_option maxRecDepth 100000 in
theorem lk_X0_65 : LS_ RX0 65 yJ6_bitCount_0f7a4 cJ6_bitCount_0f7a4 1 (some .int) 1 := ⟨lb_J6_bitCount_0f7a4, gs_3 239 rfl rfl, gs_4 0 rfl rfl⟩
set_option maxRecDepth 100000 in
theorem lb_X5_allPeople : LB_ yX5_allPeople cX5_allPeople 1 (some .int) 0 := ⟨gs_4 16 rfl rfl, gs_1 8 rfl rfl, ⟨by decide +kernel, by decide +kernel, by decide +kernel⟩, by decide⟩
set_option maxRecDepth 100000 in
theorem lk_X0_71 : LV_ RX0 71 yX5_allPeople cX5_allPeople 1 (some .int) 0 5 := ⟨lb_X5_allPeople, gs_4 13 rfl rfl, gs_4 14 rfl rfl, gs_4 15 rfl rfl, _, rfl, rfl⟩
set_option maxRecDepth 100000 in
theorem lb_X0_heldBy : LB_ yX0_heldBy cX0_heldBy 4 (some .int) 1 := ⟨gs_4 28 rfl rfl, gs_1 13 rfl rfl, ⟨by decide +kernel, by decide +kernel, by decide +kernel⟩, by decide⟩
set_option maxRecDepth 100000 in
theorem lk_X0_74 : LV_ RX0 74 yX0_heldBy cX0_heldBy 4 (some .int) 1 0 := ⟨lb_X0_heldBy, gs_4 25 rfl rfl, gs_4 26 rfl rfl, gs_4 27 rfl rfl, _, rfl, rfl⟩
set_option maxRecDepth 100000 in
theorem lk_X0_51 : LSN_ RX0 51 "CoinCircle" yX8_isIn cX8_isIn 2 (some .boolean) 2 := ⟨lb_X8_isIn, ns_4 29 rfl rfl, gs_3 105 rfl rfl⟩
set_option maxRecDepth 100000 in
theorem lb_X0_isUseless : LB_ yX0_isUseless cX0_isUseless 4 (some .boolean) 1 := ⟨gs_4 24 rfl rfl, gs_1 13 rfl rfl, ⟨by decide +kernel, by decide +kernel, by decide +kernel⟩, by decide⟩
set_option maxRecDepth 100000 in
theorem lk_X0_77 : LV_ RX0 77 yX0_isUseless cX0_isUseless 4 (some .boolean) 1 0 := ⟨lb_X0_isUseless, gs_4 21 rfl rfl, gs_4 22 rfl rfl, gs_4 23 rfl rfl, _, rfl, rfl⟩
set_option maxRecDepth 100000 in
theorem fl_X8_101 : FL_ RX8 101 5 0 := ⟨_, rfl, by decide, gs_1 158 rfl rfl⟩
set_option maxRecDepth 100000 in
theorem fl_X8_104 : FL_ RX8 104 5 11 := ⟨_, rfl, by decide, gs_1 192 rfl rfl⟩
set_option maxRecDepth 100000 in
theorem fl_X8_107 : FL_ RX8 107 5 12 := ⟨_, rfl, by decide, gs_1 196 rfl rfl⟩
set_option maxRecDepth 100000 in
theorem fl_X8_110 : FL_ RX8 110 0 0 := ⟨_, rfl, by decide, gs_2 100 rfl rfl⟩
set_option maxRecDepth 100000 in
theorem fl_X8_114 : FL_ RX8 114 3 0 := ⟨_, rfl, by decide, gs_2 21 rfl rfl⟩
set_option maxRecDepth 100000 in
theorem lb_X0_flow : LB_ yX0_flow cX0_flow 3 (some .int) 0 := ⟨gs_3 234 rfl rfl, gs_1 13 rfl rfl, ⟨by decide +kernel, by decide +kernel, by decide +kernel⟩, by decide⟩
set_option maxRecDepth 100000 in
theorem lk_X8_119 : LV_ RX8 119 yX0_flow cX0_flow 3 (some .int) 0 0 := ⟨lb_X0_flow, gs_3 231 rfl rfl, gs_3 232 rfl rfl, gs_3 233 rfl rfl, _, rfl, rfl⟩
set_option maxRecDepth 100000 in
theorem lb_X0_snubCount : LB_ yX0_snubCount cX0_snubCount 3 (some .int) 0 := ⟨gs_4 8 rfl rfl, gs_1 13 rfl rfl, ⟨by decide +kernel, by decide +kernel, by decide +kernel⟩, by decide⟩
set_option maxRecDepth 100000 in
theorem lk_X8_123 : LV_ RX8 123 yX0_snubCount cX0_snubCount 3 (some .int) 0 0 := ⟨lb_X0_snubCount, gs_4 5 rfl rfl, gs_4 6 rfl rfl, gs_4 7 rfl rfl, _, rfl, rfl⟩
set_option maxRecDepth 100000 in
theorem lb_X0_knowingAllCount : LB_ yX0_knowingAllCount cX0_knowingAllCount 3 (some .int) 0 := ⟨gs_4 12 rfl rfl, gs_1 13 rfl rfl, ⟨by decide +kernel, by decide +kernel, by decide +kernel⟩, by decide⟩
set_option maxRecDepth 100000 in
theorem lk_X8_126 : LV_ RX8 126 yX0_knowingAllCount cX0_knowingAllCount 3 (some .int) 0 0 := ⟨lb_X0_knowingAllCount, gs_4 9 rfl rfl, gs_4 10 rfl rfl, gs_4 11 rfl rfl, _, rfl, rfl⟩
set_option maxRecDepth 100000 in
theorem lb_X0_uselessPurses : LB_ yX0_uselessPurses cX0_uselessPurses 3 (some .int) 0 := ⟨gs_4 20 rfl rfl, gs_1 13 rfl rfl, ⟨by decide +kernel, by decide +kernel, by decide +kernel⟩, by decide⟩
set_option maxRecDepth 100000 in
theorem lk_X8_129 : LV_ RX8 129 yX0_uselessPurses cX0_uselessPurses 3 (some .int) 0 0 := ⟨lb_X0_uselessPurses, gs_4 17 rfl rfl, gs_4 18 rfl rfl, gs_4 19 rfl rfl, _, rfl, rfl⟩
set_option maxRecDepth 100000 in
theorem fl_X8_132 : FL_ RX8 132 2 2 := ⟨_, rfl, by decide, gs_2 49 rfl rfl⟩
set_option maxRecDepth 100000 in
theorem fl_X8_44 : FL_ RX8 44 8 13 := ⟨_, rfl, by decide, gs_2 124 rfl rfl⟩
set_option maxRecDepth 100000 in
theorem lk_X8_135 : LV_ RX8 135 yX5_isThere cX5_isThere 3 (some .boolean) 2 5 := ⟨lb_X5_isThere, gs_4 34 rfl rfl, gs_3 75 rfl rfl, gs_3 76 rfl rfl, _, rfl, rfl⟩
set_option maxRecDepth 100000 in
theorem lb_X5_nameOf : LB_ yX5_nameOf cX5_nameOf 3 (some .int) 2 := ⟨gs_4 38 rfl rfl, gs_1 8 rfl rfl, ⟨by decide +kernel, by decide +kernel, by decide +kernel⟩, by decide⟩
set_option maxRecDepth 100000 in
theorem lk_X8_139 : LV_ RX8 139 yX5_nameOf cX5_nameOf 3 (some .int) 2 5 := ⟨lb_X5_nameOf, gs_4 35 rfl rfl, gs_4 36 rfl rfl, gs_4 37 rfl rfl, _, rfl, rfl⟩
set_option maxRecDepth 100000 in
theorem lb_X8_letterOf : LB_ yX8_letterOf cX8_letterOf 3 (some .int) 2 := ⟨gs_4 41 rfl rfl, gs_1 1 rfl rfl, ⟨by decide +kernel, by decide +kernel, by decide +kernel⟩, by decide⟩
set_option maxRecDepth 100000 in
theorem lk_X8_143 : LS_ RX8 143 yX8_letterOf cX8_letterOf 3 (some .int) 2 := ⟨lb_X8_letterOf, gs_4 39 rfl rfl, gs_4 40 rfl rfl⟩
set_option maxRecDepth 100000 in
theorem lk_X5_75 : LSN_ RX5 75 "CoinCircle" yX8_isIn cX8_isIn 2 (some .boolean) 2 := ⟨lb_X8_isIn, ns_4 51 rfl rfl, gs_3 105 rfl rfl⟩
set_option maxRecDepth 100000 in
theorem fl_X5_21 : FL_ RX5 21 5 3 := ⟨_, rfl, by decide, gs_1 164 rfl rfl⟩
set_option maxRecDepth 100000 in
theorem lb_X0_knows : LB_ yX0_knows cX0_knows 3 (some .boolean) 2 := ⟨gs_4 59 rfl rfl, gs_1 13 rfl rfl, ⟨by decide +kernel, by decide +kernel, by decide +kernel⟩, by decide⟩
set_option maxRecDepth 100000 in
theorem lk_X0_59 : LV_ RX0 59 yX0_knows cX0_knows 3 (some .boolean) 2 0 := ⟨lb_X0_knows, gs_4 56 rfl rfl, gs_4 57 rfl rfl, gs_4 58 rfl rfl, _, rfl, rfl⟩
set_option maxRecDepth 100000 in
theorem fl_X8_147 : FL_ RX8 147 5 2 := ⟨_, rfl, by decide, gs_1 162 rfl rfl⟩
set_option maxRecDepth 100000 in
theorem lk_X8_150 : LV_ RX8 150 yX0_heldBy cX0_heldBy 4 (some .int) 1 0 := ⟨lb_X0_heldBy, gs_4 46 rfl rfl, gs_4 26 rfl rfl, gs_4 27 rfl rfl, _, rfl, rfl⟩
set_option maxRecDepth 100000 in
theorem lb_X5_worthOf : LB_ yX5_worthOf cX5_worthOf 4 (some .int) 1 := ⟨gs_4 50 rfl rfl, gs_1 8 rfl rfl, ⟨by decide +kernel, by decide +kernel, by decide +kernel⟩, by decide⟩
set_option maxRecDepth 100000 in
theorem lk_X8_153 : LV_ RX8 153 yX5_worthOf cX5_worthOf 4 (some .int) 1 5 := ⟨lb_X5_worthOf, gs_4 47 rfl rfl, gs_4 48 rfl rfl, gs_4 49 rfl rfl, _, rfl, rfl⟩
set_option maxRecDepth 100000 in
theorem lb_X0_knowing : LB_ yX0_knowing cX0_knowing 4 (some .int) 1 := ⟨gs_4 55 rfl rfl, gs_1 13 rfl rfl, ⟨by decide +kernel, by decide +kernel, by decide +kernel⟩, by decide⟩
set_option maxRecDepth 100000 in
theorem lk_X8_156 : LV_ RX8 156 yX0_knowing cX0_knowing 4 (some .int) 1 0 := ⟨lb_X0_knowing, gs_4 52 rfl rfl, gs_4 53 rfl rfl, gs_4 54 rfl rfl, _, rfl, rfl⟩
set_option maxRecDepth 100000 in
theorem lb_X0_snubbedBy : LB_ yX0_snubbedBy cX0_snubbedBy 4 (some .int) 1 := ⟨gs_4 63 rfl rfl, gs_1 13 rfl rfl, ⟨by decide +kernel, by decide +kernel, by decide +kernel⟩, by decide⟩
set_option maxRecDepth 100000 in
theorem lk_X8_159 : LV_ RX8 159 yX0_snubbedBy cX0_snubbedBy 4 (some .int) 1 0 := ⟨lb_X0_snubbedBy, gs_4 60 rfl rfl, gs_4 61 rfl rfl, gs_4 62 rfl rfl, _, rfl, rfl⟩
set_option maxRecDepth 100000 in
theorem lk_X8_162 : LV_ RX8 162 yX0_isUseless cX0_isUseless 4 (some .boolean) 1 0 := ⟨lb_X0_isUseless, gs_4 64 rfl rfl, gs_4 22 rfl rfl, gs_4 23 rfl rfl, _, rfl, rfl⟩
set_option maxRecDepth 100000 in
theorem fl_X8_166 : FL_ RX8 166 5 3 := ⟨_, rfl, by decide, gs_1 167 rfl rfl⟩
set_option maxRecDepth 100000 in
theorem fl_X8_169 : FL_ RX8 169 3 1 := ⟨_, rfl, by decide, gs_2 25 rfl rfl⟩
set_option maxRecDepth 100000 in
theorem fl_X8_172 : FL_ RX8 172 3 2 := ⟨_, rfl, by decide, gs_2 29 rfl rfl⟩
set_option maxRecDepth 100000 in
theorem fl_X8_175 : FL_ RX8 175 3 3 := ⟨_, rfl, by decide, gs_2 33 rfl rfl⟩
set_option maxRecDepth 100000 in
theorem lk_X8_178 : LS_ RX8 178 yJ6_bitCount_0f7a4 cJ6_bitCount_0f7a4 1 (some .int) 1 := ⟨lb_J6_bitCount_0f7a4, gs_4 69 rfl rfl, gs_4 0 rfl rfl⟩
set_option maxRecDepth 100000 in
theorem lb_X8_areThere : LB_ yX8_areThere cX8_areThere 3 (some .boolean) 2 := ⟨gs_4 77 rfl rfl, gs_1 1 rfl rfl, ⟨by decide +kernel, by decide +kernel, by decide +kernel⟩, by decide⟩
set_option maxRecDepth 100000 in
theorem lk_X8_183 : LV_ RX8 183 yX8_areThere cX8_areThere 3 (some .boolean) 2 8 := ⟨lb_X8_areThere, gs_4 74 rfl rfl, gs_4 76 rfl rfl, gp_3 5 rfl, _, rfl, rfl⟩
set_option maxRecDepth 100000 in
theorem lk_X8_186 : LV_ RX8 186 yX0_knows cX0_knows 3 (some .boolean) 2 0 := ⟨lb_X0_knows, gs_4 78 rfl rfl, gs_4 57 rfl rfl, gs_4 58 rfl rfl, _, rfl, rfl⟩
set_option maxRecDepth 100000 in
theorem lb_X3_metOn : LB_ yX3_metOn cX3_metOn 4 (some .int) 2 := ⟨gs_4 82 rfl rfl, gs_1 11 rfl rfl, ⟨by decide +kernel, by decide +kernel, by decide +kernel⟩, by decide⟩
set_option maxRecDepth 100000 in
theorem lk_X8_189 : LV_ RX8 189 yX3_metOn cX3_metOn 4 (some .int) 2 3 := ⟨lb_X3_metOn, gs_4 79 rfl rfl, gs_4 80 rfl rfl, gs_4 81 rfl rfl, _, rfl, rfl⟩
set_option maxRecDepth 100000 in
theorem fl_X0_18 : FL_ RX0 18 0 2 := ⟨_, rfl, by decide, gs_2 103 rfl rfl⟩
set_option maxRecDepth 100000 in
theorem fl_X0_109 : FL_ RX0 109 5 2 := ⟨_, rfl, by decide, gs_1 163 rfl rfl⟩
set_option maxRecDepth 100000 in
theorem fl_X0_26 : FL_ RX0 26 3 0 := ⟨_, rfl, by decide, gs_2 20 rfl rfl⟩
set_option maxRecDepth 100000 in
theorem lb_J9_floorMod_f86c9 : LB_ yJ9_floorMod_f86c9 cJ9_floorMod_f86c9 6 (some .long) 2 := ⟨gs_4 125 rfl rfl, gs_1 15 rfl rfl, ⟨by decide +kernel, by decide +kernel, by decide +kernel⟩, by decide⟩
set_option maxRecDepth 100000 in
theorem lk_X1_46 : LS_ RX1 46 yJ9_floorMod_f86c9 cJ9_floorMod_f86c9 6 (some .long) 2 := ⟨lb_J9_floorMod_f86c9, gs_4 123 rfl rfl, gs_4 124 rfl rfl⟩
set_option maxRecDepth 100000 in
theorem lb_J9_floorDiv_f86c9 : LB_ yJ9_floorDiv_f86c9 cJ9_floorDiv_f86c9 6 (some .long) 2 := ⟨gs_4 122 rfl rfl, gs_1 15 rfl rfl, ⟨by decide +kernel, by decide +kernel, by decide +kernel⟩, by decide⟩
set_option maxRecDepth 100000 in
theorem lk_X1_43 : LS_ RX1 43 yJ9_floorDiv_f86c9 cJ9_floorDiv_f86c9 6 (some .long) 2 := ⟨lb_J9_floorDiv_f86c9, gs_4 120 rfl rfl, gs_4 121 rfl rfl⟩
set_option maxRecDepth 100000 in
theorem lb_J9_max_f86c9 : LB_ yJ9_max_f86c9 cJ9_max_f86c9 4 (some .long) 2 := ⟨gs_4 119 rfl rfl, gs_1 15 rfl rfl, ⟨by decide +kernel, by decide +kernel, by decide +kernel⟩, by decide⟩
set_option maxRecDepth 100000 in
theorem lk_X1_40 : LS_ RX1 40 yJ9_max_f86c9 cJ9_max_f86c9 4 (some .long) 2 := ⟨lb_J9_max_f86c9, gs_4 117 rfl rfl, gs_4 118 rfl rfl⟩
set_option maxRecDepth 100000 in
theorem lb_J9_min_f86c9 : LB_ yJ9_min_f86c9 cJ9_min_f86c9 4 (some .long) 2 := ⟨gs_4 116 rfl rfl, gs_1 15 rfl rfl, ⟨by decide +kernel, by decide +kernel, by decide +kernel⟩, by decide⟩
set_option maxRecDepth 100000 in
theorem lk_X1_34 : LS_ RX1 34 yJ9_min_f86c9 cJ9_min_f86c9 4 (some .long) 2 := ⟨lb_J9_min_f86c9, gs_4 114 rfl rfl, gs_4 115 rfl rfl⟩
set_option maxRecDepth 100000 in
theorem ck_X1_49 : Cond.constantLong RX1 49 (i64 (-1000000)) ∈ gw_tbl := gs_4 129 rfl rfl
set_option maxRecDepth 100000 in
theorem ck_X1_51 : Cond.constantLong RX1 51 (i64 1000000) ∈ gw_tbl := gs_4 130 rfl rfl
set_option maxRecDepth 100000 in
theorem fl_X1_15 : FL_ RX1 15 1 2 := ⟨_, rfl, by decide, gs_1 147 rfl rfl⟩
set_option maxRecDepth 100000 in
theorem lb_X1_done : LB_ yX1_done cX1_done 5 (some .long) 3 := ⟨gs_4 113 rfl rfl, gs_1 9 rfl rfl, ⟨by decide +kernel, by decide +kernel, by decide +kernel⟩, by decide⟩
set_option maxRecDepth 100000 in
theorem lk_X1_26 : LS_ RX1 26 yX1_done cX1_done 5 (some .long) 3 := ⟨lb_X1_done, gs_4 111 rfl rfl, gs_4 112 rfl rfl⟩
set_option maxRecDepth 100000 in
theorem lb_X1_bounded : LB_ yX1_bounded cX1_bounded 2 (some .int) 1 := ⟨gs_4 128 rfl rfl, gs_1 9 rfl rfl, ⟨by decide +kernel, by decide +kernel, by decide +kernel⟩, by decide⟩
set_option maxRecDepth 100000 in
theorem lk_X1_30 : LS_ RX1 30 yX1_bounded cX1_bounded 2 (some .int) 1 := ⟨lb_X1_bounded, gs_4 126 rfl rfl, gs_4 127 rfl rfl⟩
set_option maxRecDepth 100000 in
theorem lb_X1_factOf : LB_ yX1_factOf cX1_factOf 2 (some .int) 2 := ⟨gs_4 110 rfl rfl, gs_1 9 rfl rfl, ⟨by decide +kernel, by decide +kernel, by decide +kernel⟩, by decide⟩
set_option maxRecDepth 100000 in
theorem lk_X1_22 : LS_ RX1 22 yX1_factOf cX1_factOf 2 (some .int) 2 := ⟨lb_X1_factOf, gs_4 108 rfl rfl, gs_4 109 rfl rfl⟩
set_option maxRecDepth 100000 in
theorem fl_X0_91 : FL_ RX0 91 5 9 := ⟨_, rfl, by decide, gs_1 187 rfl rfl⟩
set_option maxRecDepth 100000 in
theorem lk_X0_95 : LV_ RX0 95 yX1_isTold cX1_isTold 1 (some .boolean) 0 1 := ⟨lb_X1_isTold, gs_4 99 rfl rfl, gs_3 132 rfl rfl, gs_3 133 rfl rfl, _, rfl, rfl⟩
set_option maxRecDepth 100000 in
theorem lb_X0_putFacts : LB_ yX0_putFacts cX0_putFacts 6 none 5 := ⟨gs_4 103 rfl rfl, gs_1 13 rfl rfl, ⟨by decide +kernel, by decide +kernel, by decide +kernel⟩, by decide⟩
set_option maxRecDepth 100000 in
theorem lk_X0_101 : LV_ RX0 101 yX0_putFacts cX0_putFacts 6 none 5 0 := ⟨lb_X0_putFacts, gs_4 100 rfl rfl, gs_4 102 rfl rfl, gp_3 6 rfl, _, rfl, rfl⟩
set_option maxRecDepth 100000 in
theorem lb_X1_value : LB_ yX1_value cX1_value 5 (some .int) 1 := ⟨gs_4 107 rfl rfl, gs_1 9 rfl rfl, ⟨by decide +kernel, by decide +kernel, by decide +kernel⟩, by decide⟩
set_option maxRecDepth 100000 in
theorem lk_X0_105 : LV_ RX0 105 yX1_value cX1_value 5 (some .int) 1 1 := ⟨lb_X1_value, gs_4 104 rfl rfl, gs_4 105 rfl rfl, gs_4 106 rfl rfl, _, rfl, rfl⟩
set_option maxRecDepth 100000 in
theorem lb_X0_testWouldHold : LB_ yX0_testWouldHold cX0_testWouldHold 6 (some .boolean) 5 := ⟨gs_4 98 rfl rfl, gs_1 13 rfl rfl, ⟨by decide +kernel, by decide +kernel, by decide +kernel⟩, by decide⟩
set_option maxRecDepth 100000 in
theorem lk_X0_87 : LV_ RX0 87 yX0_testWouldHold cX0_testWouldHold 6 (some .boolean) 5 0 := ⟨lb_X0_testWouldHold, gs_4 95 rfl rfl, gs_4 96 rfl rfl, gs_4 97 rfl rfl, _, rfl, rfl⟩
set_option maxRecDepth 100000 in
theorem lb_X0_canBePresented : LB_ yX0_canBePresented cX0_canBePresented 3 (some .boolean) 2 := ⟨gs_4 90 rfl rfl, gs_1 13 rfl rfl, ⟨by decide +kernel, by decide +kernel, by decide +kernel⟩, by decide⟩
set_option maxRecDepth 100000 in
theorem lk_X8_192 : LV_ RX8 192 yX0_canBePresented cX0_canBePresented 3 (some .boolean) 2 0 := ⟨lb_X0_canBePresented, gs_4 87 rfl rfl, gs_4 88 rfl rfl, gs_4 89 rfl rfl, _, rfl, rfl⟩
set_option maxRecDepth 100000 in
theorem lb_X0_testHolds : LB_ yX0_testHolds cX0_testHolds 4 (some .boolean) 2 := ⟨gs_4 94 rfl rfl, gs_1 13 rfl rfl, ⟨by decide +kernel, by decide +kernel, by decide +kernel⟩, by decide⟩
set_option maxRecDepth 100000 in
theorem lk_X8_195 : LV_ RX8 195 yX0_testHolds cX0_testHolds 4 (some .boolean) 2 0 := ⟨lb_X0_testHolds, gs_4 91 rfl rfl, gs_4 92 rfl rfl, gs_4 93 rfl rfl, _, rfl, rfl⟩
set_option maxRecDepth 100000 in
theorem fl_X0_112 : FL_ RX0 112 5 10 := ⟨_, rfl, by decide, gs_1 190 rfl rfl⟩
set_option maxRecDepth 100000 in
theorem fl_X0_118 : FL_ RX0 118 5 8 := ⟨_, rfl, by decide, gs_1 184 rfl rfl⟩
set_option maxRecDepth 100000 in
theorem lk_X0_81 : LV_ RX0 81 yX0_knowing cX0_knowing 4 (some .int) 1 0 := ⟨lb_X0_knowing, gs_4 139 rfl rfl, gs_4 53 rfl rfl, gs_4 54 rfl rfl, _, rfl, rfl⟩
set_option maxRecDepth 100000 in
theorem fl_X0_115 : FL_ RX0 115 5 7 := ⟨_, rfl, by decide, gs_1 180 rfl rfl⟩
set_option maxRecDepth 100000 in
theorem lk_X0_121 : LS_ RX0 121 yJ9_min_7cf53 cJ9_min_7cf53 2 (some .int) 2 := ⟨lb_J9_min_7cf53, gs_4 140 rfl rfl, gs_2 191 rfl rfl⟩
set_option maxRecDepth 100000 in
theorem lk_X0_127 : LS_ RX0 127 yJ9_max_7cf53 cJ9_max_7cf53 2 (some .int) 2 := ⟨lb_J9_max_7cf53, gs_4 141 rfl rfl, gs_2 194 rfl rfl⟩
set_option maxRecDepth 100000 in
theorem fl_X8_198 : FL_ RX8 198 5 7 := ⟨_, rfl, by decide, gs_1 179 rfl rfl⟩
set_option maxRecDepth 100000 in
theorem fl_X8_201 : FL_ RX8 201 5 8 := ⟨_, rfl, by decide, gs_1 183 rfl rfl⟩
set_option maxRecDepth 100000 in
theorem lb_X0_priceFor : LB_ yX0_priceFor cX0_priceFor 6 (some .int) 2 := ⟨gs_4 138 rfl rfl, gs_1 13 rfl rfl, ⟨by decide +kernel, by decide +kernel, by decide +kernel⟩, by decide⟩
set_option maxRecDepth 100000 in
theorem lk_X8_204 : LV_ RX8 204 yX0_priceFor cX0_priceFor 6 (some .int) 2 0 := ⟨lb_X0_priceFor, gs_4 135 rfl rfl, gs_4 136 rfl rfl, gs_4 137 rfl rfl, _, rfl, rfl⟩
set_option maxRecDepth 100000 in
theorem lk_X0_84 : LV_ RX0 84 yX5_worthOf cX5_worthOf 4 (some .int) 1 5 := ⟨lb_X5_worthOf, gs_4 154 rfl rfl, gs_4 48 rfl rfl, gs_4 49 rfl rfl, _, rfl, rfl⟩
set_option maxRecDepth 100000 in
theorem lb_X8_areTwo : LB_ yX8_areTwo cX8_areTwo 3 (some .boolean) 2 := ⟨gs_4 149 rfl rfl, gs_1 1 rfl rfl, ⟨by decide +kernel, by decide +kernel, by decide +kernel⟩, by decide⟩
set_option maxRecDepth 100000 in
theorem lk_X8_207 : LV_ RX8 207 yX8_areTwo cX8_areTwo 3 (some .boolean) 2 8 := ⟨lb_X8_areTwo, gs_4 146 rfl rfl, gs_4 148 rfl rfl, gp_3 7 rfl, _, rfl, rfl⟩
set_option maxRecDepth 100000 in
theorem lb_X0_canSpend : LB_ yX0_canSpend cX0_canSpend 3 (some .int) 2 := ⟨gs_4 153 rfl rfl, gs_1 13 rfl rfl, ⟨by decide +kernel, by decide +kernel, by decide +kernel⟩, by decide⟩
set_option maxRecDepth 100000 in
theorem lk_X8_210 : LV_ RX8 210 yX0_canSpend cX0_canSpend 3 (some .int) 2 0 := ⟨lb_X0_canSpend, gs_4 150 rfl rfl, gs_4 151 rfl rfl, gs_4 152 rfl rfl, _, rfl, rfl⟩
set_option maxRecDepth 100000 in
theorem fl_X3_24 : FL_ RX3 24 3 0 := ⟨_, rfl, by decide, gs_2 19 rfl rfl⟩
set_option maxRecDepth 100000 in
theorem fp_X3_24 : FP_ RX3 24 3 0 := ⟨_, rfl, by decide, gs_2 19 rfl rfl, rfl⟩
set_option maxRecDepth 100000 in
theorem fl_X3_9 : FL_ RX3 9 3 1 := ⟨_, rfl, by decide, gs_2 22 rfl rfl⟩
set_option maxRecDepth 100000 in
theorem lc_X3_28 : Cond.methodLink RX3 28 arraycopyName ∈ gw_tbl ∧ Cond.native arraycopyName ∈ gw_tbl ∧ Cond.static arraycopyName ∈ gw_tbl ∧ Cond.initialized "java/lang/System" ∈ gw_tbl := ⟨gs_4 167 rfl rfl, gs_4 169 rfl rfl, gs_4 168 rfl rfl, gs_1 18 rfl rfl⟩
set_option maxRecDepth 100000 in
theorem fl_X3_15 : FL_ RX3 15 3 2 := ⟨_, rfl, by decide, gs_2 26 rfl rfl⟩
set_option maxRecDepth 100000 in
theorem fl_X3_18 : FL_ RX3 18 3 3 := ⟨_, rfl, by decide, gs_2 30 rfl rfl⟩
set_option maxRecDepth 100000 in
theorem fl_X2_22 : FL_ RX2 22 2 1 := ⟨_, rfl, by decide, gs_2 47 rfl rfl⟩
set_option maxRecDepth 100000 in
theorem lb_X3_copyFrom : LB_ yX3_copyFrom cX3_copyFrom 2 none 1 := ⟨gs_4 166 rfl rfl, gs_1 11 rfl rfl, ⟨by decide +kernel, by decide +kernel, by decide +kernel⟩, by decide⟩
set_option maxRecDepth 100000 in
theorem lk_X2_25 : LV_ RX2 25 yX3_copyFrom cX3_copyFrom 2 none 1 3 := ⟨lb_X3_copyFrom, gs_4 163 rfl rfl, gs_4 164 rfl rfl, gs_4 165 rfl rfl, _, rfl, rfl⟩
set_option maxRecDepth 100000 in
theorem fp_X2_22 : FP_ RX2 22 2 1 := ⟨_, rfl, by decide, gs_2 47 rfl rfl, rfl⟩
set_option maxRecDepth 100000 in
theorem fl_X2_18 : FL_ RX2 18 2 2 := ⟨_, rfl, by decide, gs_2 48 rfl rfl⟩
set_option maxRecDepth 100000 in
theorem lk_X2_29 : LS_ RX2 29 yJ9_min_7cf53 cJ9_min_7cf53 2 (some .int) 2 := ⟨lb_J9_min_7cf53, gs_4 170 rfl rfl, gs_2 191 rfl rfl⟩
set_option maxRecDepth 100000 in
theorem lk_X0_130 : LV_ RX0 130 yX0_testHolds cX0_testHolds 4 (some .boolean) 2 0 := ⟨lb_X0_testHolds, gs_4 175 rfl rfl, gs_4 92 rfl rfl, gs_4 93 rfl rfl, _, rfl, rfl⟩
set_option maxRecDepth 100000 in
theorem lb_X0_meet : LB_ yX0_meet cX0_meet 3 none 2 := ⟨gs_4 179 rfl rfl, gs_1 13 rfl rfl, ⟨by decide +kernel, by decide +kernel, by decide +kernel⟩, by decide⟩
set_option maxRecDepth 100000 in
theorem lk_X0_133 : LV_ RX0 133 yX0_meet cX0_meet 3 none 2 0 := ⟨lb_X0_meet, gs_4 176 rfl rfl, gs_4 178 rfl rfl, gp_3 8 rfl, _, rfl, rfl⟩
set_option maxRecDepth 100000 in
theorem lb_X2_keep : LB_ yX2_keep cX2_keep 2 none 1 := ⟨gs_4 162 rfl rfl, gs_1 10 rfl rfl, ⟨by decide +kernel, by decide +kernel, by decide +kernel⟩, by decide⟩
set_option maxRecDepth 100000 in
theorem lk_X8_213 : LV_ RX8 213 yX2_keep cX2_keep 2 none 1 2 := ⟨lb_X2_keep, gs_4 159 rfl rfl, gs_4 160 rfl rfl, gs_4 161 rfl rfl, _, rfl, rfl⟩
set_option maxRecDepth 100000 in
theorem lb_X0_presentTo : LB_ yX0_presentTo cX0_presentTo 3 (some .boolean) 2 := ⟨gs_4 174 rfl rfl, gs_1 13 rfl rfl, ⟨by decide +kernel, by decide +kernel, by decide +kernel⟩, by decide⟩
set_option maxRecDepth 100000 in
theorem lk_X8_217 : LV_ RX8 217 yX0_presentTo cX0_presentTo 3 (some .boolean) 2 0 := ⟨lb_X0_presentTo, gs_4 171 rfl rfl, gs_4 172 rfl rfl, gs_4 173 rfl rfl, _, rfl, rfl⟩
set_option maxRecDepth 100000 in
theorem lb_X0_payTo : LB_ yX0_payTo cX0_payTo 3 none 2 := ⟨gs_4 187 rfl rfl, gs_1 13 rfl rfl, ⟨by decide +kernel, by decide +kernel, by decide +kernel⟩, by decide⟩
set_option maxRecDepth 100000 in
theorem lk_X8_220 : LV_ RX8 220 yX0_payTo cX0_payTo 3 none 2 0 := ⟨lb_X0_payTo, gs_4 184 rfl rfl, gs_4 185 rfl rfl, gs_4 186 rfl rfl, _, rfl, rfl⟩
set_option maxRecDepth 100000 in
theorem lk_X5_89 : LS_ RX5 89 yJ6_bitCount_0f7a4 cJ6_bitCount_0f7a4 1 (some .int) 1 := ⟨lb_J6_bitCount_0f7a4, gs_4 201 rfl rfl, gs_4 0 rfl rfl⟩
set_option maxRecDepth 100000 in
theorem lk_X5_78 : LV_ RX5 78 yX5_worthOf cX5_worthOf 4 (some .int) 1 5 := ⟨lb_X5_worthOf, gs_4 202 rfl rfl, gs_4 48 rfl rfl, gs_4 49 rfl rfl, _, rfl, rfl⟩
set_option maxRecDepth 100000 in
theorem lk_X0_140 : LV_ RX0 140 yX0_priceFor cX0_priceFor 6 (some .int) 2 0 := ⟨lb_X0_priceFor, gs_4 196 rfl rfl, gs_4 136 rfl rfl, gs_4 137 rfl rfl, _, rfl, rfl⟩
set_option maxRecDepth 100000 in
theorem lb_X5_fewestWorth : LB_ yX5_fewestWorth cX5_fewestWorth 8 (some .int) 2 := ⟨gs_4 200 rfl rfl, gs_1 8 rfl rfl, ⟨by decide +kernel, by decide +kernel, by decide +kernel⟩, by decide⟩
set_option maxRecDepth 100000 in
theorem lk_X0_143 : LV_ RX0 143 yX5_fewestWorth cX5_fewestWorth 8 (some .int) 2 5 := ⟨lb_X5_fewestWorth, gs_4 197 rfl rfl, gs_4 198 rfl rfl, gs_4 199 rfl rfl, _, rfl, rfl⟩
set_option maxRecDepth 100000 in
theorem lk_X0_137 : LV_ RX0 137 yX0_payTo cX0_payTo 3 none 2 0 := ⟨lb_X0_payTo, gs_4 207 rfl rfl, gs_4 185 rfl rfl, gs_4 186 rfl rfl, _, rfl, rfl⟩
set_option maxRecDepth 100000 in
theorem lb_X0_changeOf : LB_ yX0_changeOf cX0_changeOf 6 (some .int) 3 := ⟨gs_4 195 rfl rfl, gs_1 13 rfl rfl, ⟨by decide +kernel, by decide +kernel, by decide +kernel⟩, by decide⟩
set_option maxRecDepth 100000 in
theorem lk_X8_223 : LV_ RX8 223 yX0_changeOf cX0_changeOf 6 (some .int) 3 0 := ⟨lb_X0_changeOf, gs_4 192 rfl rfl, gs_4 193 rfl rfl, gs_4 194 rfl rfl, _, rfl, rfl⟩
set_option maxRecDepth 100000 in
theorem lb_X0_payAll : LB_ yX0_payAll cX0_payAll 4 none 2 := ⟨gs_4 206 rfl rfl, gs_1 13 rfl rfl, ⟨by decide +kernel, by decide +kernel, by decide +kernel⟩, by decide⟩
set_option maxRecDepth 100000 in
theorem lk_X8_227 : LV_ RX8 227 yX0_payAll cX0_payAll 4 none 2 0 := ⟨lb_X0_payAll, gs_4 203 rfl rfl, gs_4 204 rfl rfl, gs_4 205 rfl rfl, _, rfl, rfl⟩
set_option maxRecDepth 100000 in
theorem lk_X0_146 : LV_ RX0 146 yX0_canBePresented cX0_canBePresented 3 (some .boolean) 2 0 := ⟨lb_X0_canBePresented, gs_4 217 rfl rfl, gs_4 88 rfl rfl, gs_4 89 rfl rfl, _, rfl, rfl⟩
set_option maxRecDepth 100000 in
theorem lk_X8_230 : LV_ RX8 230 yX5_allPeople cX5_allPeople 1 (some .int) 0 5 := ⟨lb_X5_allPeople, gs_4 212 rfl rfl, gs_4 14 rfl rfl, gs_4 15 rfl rfl, _, rfl, rfl⟩
set_option maxRecDepth 100000 in
theorem lb_X0_takeTea : LB_ yX0_takeTea cX0_takeTea 5 (some .int) 1 := ⟨gs_4 216 rfl rfl, gs_1 13 rfl rfl, ⟨by decide +kernel, by decide +kernel, by decide +kernel⟩, by decide⟩
set_option maxRecDepth 100000 in
theorem lk_X8_233 : LV_ RX8 233 yX0_takeTea cX0_takeTea 5 (some .int) 1 0 := ⟨lb_X0_takeTea, gs_4 213 rfl rfl, gs_4 214 rfl rfl, gs_4 215 rfl rfl, _, rfl, rfl⟩
set_option maxRecDepth 100000 in
theorem lk_X0_155 : LV_ RX0 155 yX3_metOn cX3_metOn 4 (some .int) 2 3 := ⟨lb_X3_metOn, gs_4 230 rfl rfl, gs_4 80 rfl rfl, gs_4 81 rfl rfl, _, rfl, rfl⟩
set_option maxRecDepth 100000 in
theorem fl_X0_149 : FL_ RX0 149 5 11 := ⟨_, rfl, by decide, gs_1 194 rfl rfl⟩
set_option maxRecDepth 100000 in
theorem lb_X0_forget : LB_ yX0_forget cX0_forget 5 (some .int) 1 := ⟨gs_4 229 rfl rfl, gs_1 13 rfl rfl, ⟨by decide +kernel, by decide +kernel, by decide +kernel⟩, by decide⟩
set_option maxRecDepth 100000 in
theorem lk_X0_152 : LV_ RX0 152 yX0_forget cX0_forget 5 (some .int) 1 0 := ⟨lb_X0_forget, gs_4 226 rfl rfl, gs_4 228 rfl rfl, gp_3 9 rfl, _, rfl, rfl⟩
set_option maxRecDepth 100000 in
theorem lb_X0_passDays : LB_ yX0_passDays cX0_passDays 5 (some .int) 1 := ⟨gs_4 225 rfl rfl, gs_1 13 rfl rfl, ⟨by decide +kernel, by decide +kernel, by decide +kernel⟩, by decide⟩
set_option maxRecDepth 100000 in
theorem lk_X8_236 : LV_ RX8 236 yX0_passDays cX0_passDays 5 (some .int) 1 0 := ⟨lb_X0_passDays, gs_4 222 rfl rfl, gs_4 223 rfl rfl, gs_4 224 rfl rfl, _, rfl, rfl⟩
set_option maxRecDepth 100000 in
theorem ck_X8_246 : Cond.constantLong RX8 246 (i64 1103515245) ∈ gw_tbl := gs_5 3 rfl rfl
set_option maxRecDepth 100000 in
theorem ck_X8_248 : Cond.constantLong RX8 248 (i64 12345) ∈ gw_tbl := gs_5 4 rfl rfl
set_option maxRecDepth 100000 in
theorem ck_X8_250 : Cond.constantLong RX8 250 (i64 2147483647) ∈ gw_tbl := gs_5 5 rfl rfl
set_option maxRecDepth 100000 in
theorem lb_X8_draw : LB_ yX8_draw cX8_draw 2 (some .int) 1 := ⟨gs_5 2 rfl rfl, gs_1 1 rfl rfl, ⟨by decide +kernel, by decide +kernel, by decide +kernel⟩, by decide⟩
set_option maxRecDepth 100000 in
theorem lk_X8_243 : LV_ RX8 243 yX8_draw cX8_draw 2 (some .int) 1 8 := ⟨lb_X8_draw, gs_4 239 rfl rfl, gs_5 1 rfl rfl, gp_3 11 rfl, _, rfl, rfl⟩
set_option maxRecDepth 100000 in
theorem lb_X8_callIsPaid : LB_ yX8_callIsPaid cX8_callIsPaid 3 (some .boolean) 0 := ⟨gs_4 238 rfl rfl, gs_1 1 rfl rfl, ⟨by decide +kernel, by decide +kernel, by decide +kernel⟩, by decide⟩
set_option maxRecDepth 100000 in
theorem lk_X8_239 : LV_ RX8 239 yX8_callIsPaid cX8_callIsPaid 3 (some .boolean) 0 8 := ⟨lb_X8_callIsPaid, gs_4 235 rfl rfl, gs_4 237 rfl rfl, gp_3 10 rfl, _, rfl, rfl⟩
set_option maxRecDepth 100000 in
theorem lb_X2_giveBack : LB_ yX2_giveBack cX2_giveBack 2 none 1 := ⟨gs_5 13 rfl rfl, gs_1 10 rfl rfl, ⟨by decide +kernel, by decide +kernel, by decide +kernel⟩, by decide⟩
set_option maxRecDepth 100000 in
theorem lk_X8_252 : LV_ RX8 252 yX2_giveBack cX2_giveBack 2 none 1 2 := ⟨lb_X2_giveBack, gs_5 10 rfl rfl, gs_5 11 rfl rfl, gs_5 12 rfl rfl, _, rfl, rfl⟩
set_option maxRecDepth 100000 in
theorem lk_X0_158 : LV_ RX0 158 yX0_canSpend cX0_canSpend 3 (some .int) 2 0 := ⟨lb_X0_canSpend, gs_5 26 rfl rfl, gs_4 151 rfl rfl, gs_4 152 rfl rfl, _, rfl, rfl⟩
set_option maxRecDepth 100000 in
theorem lb_X0_worthiest : LB_ yX0_worthiest cX0_worthiest 6 (some .int) 2 := ⟨gs_5 30 rfl rfl, gs_1 13 rfl rfl, ⟨by decide +kernel, by decide +kernel, by decide +kernel⟩, by decide⟩
set_option maxRecDepth 100000 in
theorem lk_X0_161 : LV_ RX0 161 yX0_worthiest cX0_worthiest 6 (some .int) 2 0 := ⟨lb_X0_worthiest, gs_5 27 rfl rfl, gs_5 29 rfl rfl, gp_3 12 rfl, _, rfl, rfl⟩
set_option maxRecDepth 100000 in
theorem lb_X0_introductions : LB_ yX0_introductions cX0_introductions 9 (some .int) 3 := ⟨gs_5 25 rfl rfl, gs_1 13 rfl rfl, ⟨by decide +kernel, by decide +kernel, by decide +kernel⟩, by decide⟩
set_option maxRecDepth 100000 in
theorem lk_X8_255 : LV_ RX8 255 yX0_introductions cX0_introductions 9 (some .int) 3 0 := ⟨lb_X0_introductions, gs_5 22 rfl rfl, gs_5 23 rfl rfl, gs_5 24 rfl rfl, _, rfl, rfl⟩
set_option maxRecDepth 100000 in
theorem fl_X7_75 : FL_ RX7 75 0 1 := ⟨_, rfl, by decide, gs_2 102 rfl rfl⟩
set_option maxRecDepth 100000 in
theorem fl_X7_79 : FL_ RX7 79 5 0 := ⟨_, rfl, by decide, gs_1 157 rfl rfl⟩
set_option maxRecDepth 100000 in
theorem fp_X7_60 : FP_ RX7 60 7 5 := ⟨_, rfl, by decide, gs_2 68 rfl rfl, rfl⟩
set_option maxRecDepth 100000 in
theorem fl_X7_60 : FL_ RX7 60 7 5 := ⟨_, rfl, by decide, gs_2 68 rfl rfl⟩
set_option maxRecDepth 100000 in
theorem fl_X7_11 : FL_ RX7 11 7 0 := ⟨_, rfl, by decide, gs_2 63 rfl rfl⟩
set_option maxRecDepth 100000 in
theorem fl_X7_18 : FL_ RX7 18 7 3 := ⟨_, rfl, by decide, gs_2 66 rfl rfl⟩
set_option maxRecDepth 100000 in
theorem lb_J7_fill_53178 : LB_ yJ7_fill_53178 cJ7_fill_53178 4 none 2 := ⟨gs_5 45 rfl rfl, gs_1 19 rfl rfl, ⟨by decide +kernel, by decide +kernel, by decide +kernel⟩, by decide⟩
set_option maxRecDepth 100000 in
theorem lk_X7_84 : LS_ RX7 84 yJ7_fill_53178 cJ7_fill_53178 4 none 2 := ⟨lb_J7_fill_53178, gs_5 43 rfl rfl, gs_5 44 rfl rfl⟩
set_option maxRecDepth 100000 in
theorem fp_X7_57 : FP_ RX7 57 7 2 := ⟨_, rfl, by decide, gs_2 65 rfl rfl, rfl⟩
set_option maxRecDepth 100000 in
theorem fl_X7_35 : FL_ RX7 35 0 0 := ⟨_, rfl, by decide, gs_2 99 rfl rfl⟩
set_option maxRecDepth 100000 in
theorem fl_X7_41 : FL_ RX7 41 3 1 := ⟨_, rfl, by decide, gs_2 23 rfl rfl⟩
set_option maxRecDepth 100000 in
theorem fl_X7_21 : FL_ RX7 21 7 4 := ⟨_, rfl, by decide, gs_2 67 rfl rfl⟩
set_option maxRecDepth 100000 in
theorem lk_X7_90 : LV_ RX7 90 yX0_heldBy cX0_heldBy 4 (some .int) 1 0 := ⟨lb_X0_heldBy, gs_5 46 rfl rfl, gs_4 26 rfl rfl, gs_4 27 rfl rfl, _, rfl, rfl⟩
set_option maxRecDepth 100000 in
theorem lk_X7_94 : LS_ RX7 94 yJ6_bitCount_0f7a4 cJ6_bitCount_0f7a4 1 (some .int) 1 := ⟨lb_J6_bitCount_0f7a4, gs_5 47 rfl rfl, gs_4 0 rfl rfl⟩
set_option maxRecDepth 100000 in
theorem lb_X7_stateOf : LB_ yX7_stateOf cX7_stateOf 3 (some .int) 2 := ⟨gs_5 55 rfl rfl, gs_1 12 rfl rfl, ⟨by decide +kernel, by decide +kernel, by decide +kernel⟩, by decide⟩
set_option maxRecDepth 100000 in
theorem lk_X7_53 : LV_ RX7 53 yX7_stateOf cX7_stateOf 3 (some .int) 2 7 := ⟨lb_X7_stateOf, gs_5 52 rfl rfl, gs_5 54 rfl rfl, gp_3 15 rfl, _, rfl, rfl⟩
set_option maxRecDepth 100000 in
theorem fl_X7_57 : FL_ RX7 57 7 2 := ⟨_, rfl, by decide, gs_2 65 rfl rfl⟩
set_option maxRecDepth 100000 in
theorem fl_X7_15 : FL_ RX7 15 7 1 := ⟨_, rfl, by decide, gs_2 64 rfl rfl⟩
set_option maxRecDepth 100000 in
theorem lk_X7_99 : LSN_ RX7 99 "CoinCircle" yX8_isIn cX8_isIn 2 (some .boolean) 2 := ⟨lb_X8_isIn, ns_5 60 rfl rfl, gs_3 105 rfl rfl⟩
set_option maxRecDepth 100000 in
theorem lb_X7_reach : LB_ yX7_reach cX7_reach 5 none 3 := ⟨gs_5 51 rfl rfl, gs_1 12 rfl rfl, ⟨by decide +kernel, by decide +kernel, by decide +kernel⟩, by decide⟩
set_option maxRecDepth 100000 in
theorem lk_X7_49 : LV_ RX7 49 yX7_reach cX7_reach 5 none 3 7 := ⟨lb_X7_reach, gs_5 48 rfl rfl, gs_5 50 rfl rfl, gp_3 14 rfl, _, rfl, rfl⟩
set_option maxRecDepth 100000 in
theorem lk_X7_110 : LV_ RX7 110 yX0_testWouldHold cX0_testWouldHold 6 (some .boolean) 5 0 := ⟨lb_X0_testWouldHold, gs_5 69 rfl rfl, gs_4 96 rfl rfl, gs_4 97 rfl rfl, _, rfl, rfl⟩
set_option maxRecDepth 100000 in
theorem fl_X7_103 : FL_ RX7 103 3 3 := ⟨_, rfl, by decide, gs_2 32 rfl rfl⟩
set_option maxRecDepth 100000 in
theorem lb_X7_testHolds : LB_ yX7_testHolds cX7_testHolds 7 (some .boolean) 5 := ⟨gs_5 68 rfl rfl, gs_1 12 rfl rfl, ⟨by decide +kernel, by decide +kernel, by decide +kernel⟩, by decide⟩
set_option maxRecDepth 100000 in
theorem lk_X7_106 : LV_ RX7 106 yX7_testHolds cX7_testHolds 7 (some .boolean) 5 7 := ⟨lb_X7_testHolds, gs_5 65 rfl rfl, gs_5 67 rfl rfl, gp_4 2 rfl, _, rfl, rfl⟩
set_option maxRecDepth 100000 in
theorem fl_X7_24 : FL_ RX7 24 7 6 := ⟨_, rfl, by decide, gs_2 69 rfl rfl⟩
set_option maxRecDepth 100000 in
theorem fl_X7_27 : FL_ RX7 27 7 7 := ⟨_, rfl, by decide, gs_2 70 rfl rfl⟩
set_option maxRecDepth 100000 in
theorem lb_X7_begin : LB_ yX7_begin cX7_begin 5 none 2 := ⟨gs_5 42 rfl rfl, gs_1 12 rfl rfl, ⟨by decide +kernel, by decide +kernel, by decide +kernel⟩, by decide⟩
set_option maxRecDepth 100000 in
theorem lk_X7_31 : LV_ RX7 31 yX7_begin cX7_begin 5 none 2 7 := ⟨lb_X7_begin, gs_5 39 rfl rfl, gs_5 41 rfl rfl, gp_3 13 rfl, _, rfl, rfl⟩
set_option maxRecDepth 100000 in
theorem fl_X7_46 : FL_ RX7 46 3 2 := ⟨_, rfl, by decide, gs_2 27 rfl rfl⟩
set_option maxRecDepth 100000 in
theorem lb_X7_payFrom : LB_ yX7_payFrom cX7_payFrom 5 (some .int) 3 := ⟨gs_5 59 rfl rfl, gs_1 12 rfl rfl, ⟨by decide +kernel, by decide +kernel, by decide +kernel⟩, by decide⟩
set_option maxRecDepth 100000 in
theorem lk_X7_63 : LV_ RX7 63 yX7_payFrom cX7_payFrom 5 (some .int) 3 7 := ⟨lb_X7_payFrom, gs_5 56 rfl rfl, gs_5 58 rfl rfl, gp_4 0 rfl, _, rfl, rfl⟩
set_option maxRecDepth 100000 in
theorem lb_X7_presentFrom : LB_ yX7_presentFrom cX7_presentFrom 8 none 3 := ⟨gs_5 64 rfl rfl, gs_1 12 rfl rfl, ⟨by decide +kernel, by decide +kernel, by decide +kernel⟩, by decide⟩
set_option maxRecDepth 100000 in
theorem lk_X7_67 : LV_ RX7 67 yX7_presentFrom cX7_presentFrom 8 none 3 7 := ⟨lb_X7_presentFrom, gs_5 61 rfl rfl, gs_5 63 rfl rfl, gp_4 1 rfl, _, rfl, rfl⟩
set_option maxRecDepth 100000 in
theorem lb_X7_trace : LB_ yX7_trace cX7_trace 7 none 1 := ⟨gs_5 73 rfl rfl, gs_1 12 rfl rfl, ⟨by decide +kernel, by decide +kernel, by decide +kernel⟩, by decide⟩
set_option maxRecDepth 100000 in
theorem lk_X7_71 : LV_ RX7 71 yX7_trace cX7_trace 7 none 1 7 := ⟨lb_X7_trace, gs_5 70 rfl rfl, gs_5 72 rfl rfl, gp_4 3 rfl, _, rfl, rfl⟩
set_option maxRecDepth 100000 in
theorem fl_X8_30 : FL_ RX8 30 8 7 := ⟨_, rfl, by decide, gs_2 118 rfl rfl⟩
set_option maxRecDepth 100000 in
theorem lb_X7_find : LB_ yX7_find cX7_find 9 (some .int) 3 := ⟨gs_5 38 rfl rfl, gs_1 12 rfl rfl, ⟨by decide +kernel, by decide +kernel, by decide +kernel⟩, by decide⟩
set_option maxRecDepth 100000 in
theorem lk_X8_258 : LV_ RX8 258 yX7_find cX7_find 9 (some .int) 3 7 := ⟨lb_X7_find, gs_5 35 rfl rfl, gs_5 36 rfl rfl, gs_5 37 rfl rfl, _, rfl, rfl⟩
set_option maxRecDepth 100000 in
theorem lb_X7_act : LB_ yX7_act cX7_act 3 (some .int) 1 := ⟨gs_5 77 rfl rfl, gs_1 12 rfl rfl, ⟨by decide +kernel, by decide +kernel, by decide +kernel⟩, by decide⟩
set_option maxRecDepth 100000 in
theorem lk_X8_262 : LV_ RX8 262 yX7_act cX7_act 3 (some .int) 1 7 := ⟨lb_X7_act, gs_5 74 rfl rfl, gs_5 75 rfl rfl, gs_5 76 rfl rfl, _, rfl, rfl⟩
set_option maxRecDepth 100000 in
theorem lk_X8_265 : LV_ RX8 265 yX3_copyFrom cX3_copyFrom 2 none 1 3 := ⟨lb_X3_copyFrom, gs_5 82 rfl rfl, gs_4 164 rfl rfl, gs_4 165 rfl rfl, _, rfl, rfl⟩
set_option maxRecDepth 100000 in
theorem lb_X8_tapeByte : LB_ yX8_tapeByte cX8_tapeByte 2 (some .int) 1 := ⟨gs_5 94 rfl rfl, gs_1 1 rfl rfl, ⟨by decide +kernel, by decide +kernel, by decide +kernel⟩, by decide⟩
set_option maxRecDepth 100000 in
theorem lk_X8_271 : LV_ RX8 271 yX8_tapeByte cX8_tapeByte 2 (some .int) 1 8 := ⟨lb_X8_tapeByte, gs_5 91 rfl rfl, gs_5 93 rfl rfl, gp_4 5 rfl, _, rfl, rfl⟩
set_option maxRecDepth 100000 in
theorem lb_X8_tellsLetters : LB_ yX8_tellsLetters cX8_tellsLetters 3 (some .boolean) 1 := ⟨gs_5 90 rfl rfl, gs_1 1 rfl rfl, ⟨by decide +kernel, by decide +kernel, by decide +kernel⟩, by decide⟩
set_option maxRecDepth 100000 in
theorem lk_X8_268 : LV_ RX8 268 yX8_tellsLetters cX8_tellsLetters 3 (some .boolean) 1 8 := ⟨lb_X8_tellsLetters, gs_5 87 rfl rfl, gs_5 89 rfl rfl, gp_4 4 rfl, _, rfl, rfl⟩
set_option maxRecDepth 100000 in
theorem fl_X8_92 : FL_ RX8 92 8 10 := ⟨_, rfl, by decide, gs_2 121 rfl rfl⟩
set_option maxRecDepth 100000 in
theorem fl_X8_38 : FL_ RX8 38 8 9 := ⟨_, rfl, by decide, gs_2 120 rfl rfl⟩
set_option maxRecDepth 100000 in
theorem lb_X0_letterVerdict : LB_ yX0_letterVerdict cX0_letterVerdict 3 (some .int) 2 := ⟨gs_5 98 rfl rfl, gs_1 13 rfl rfl, ⟨by decide +kernel, by decide +kernel, by decide +kernel⟩, by decide⟩
set_option maxRecDepth 100000 in
theorem lk_X8_274 : LV_ RX8 274 yX0_letterVerdict cX0_letterVerdict 3 (some .int) 2 0 := ⟨lb_X0_letterVerdict, gs_5 95 rfl rfl, gs_5 96 rfl rfl, gs_5 97 rfl rfl, _, rfl, rfl⟩
set_option maxRecDepth 100000 in
theorem lb_J9_abs_0f7a4 : LB_ yJ9_abs_0f7a4 cJ9_abs_0f7a4 1 (some .int) 1 := ⟨gs_5 117 rfl rfl, gs_1 15 rfl rfl, ⟨by decide +kernel, by decide +kernel, by decide +kernel⟩, by decide⟩
set_option maxRecDepth 100000 in
theorem lk_X5_81 : LS_ RX5 81 yJ9_abs_0f7a4 cJ9_abs_0f7a4 1 (some .int) 1 := ⟨lb_J9_abs_0f7a4, gs_5 115 rfl rfl, gs_5 116 rfl rfl⟩
set_option maxRecDepth 100000 in
theorem lb_X5_difference : LB_ yX5_difference cX5_difference 3 (some .int) 2 := ⟨gs_5 114 rfl rfl, gs_1 8 rfl rfl, ⟨by decide +kernel, by decide +kernel, by decide +kernel⟩, by decide⟩
set_option maxRecDepth 100000 in
theorem lk_X5_86 : LV_ RX5 86 yX5_difference cX5_difference 3 (some .int) 2 5 := ⟨lb_X5_difference, gs_5 111 rfl rfl, gs_5 112 rfl rfl, gs_5 113 rfl rfl, _, rfl, rfl⟩
set_option maxRecDepth 100000 in
theorem lb_X5_fairPurse : LB_ yX5_fairPurse cX5_fairPurse 7 (some .int) 1 := ⟨gs_5 110 rfl rfl, gs_1 8 rfl rfl, ⟨by decide +kernel, by decide +kernel, by decide +kernel⟩, by decide⟩
set_option maxRecDepth 100000 in
theorem lk_X8_277 : LV_ RX8 277 yX5_fairPurse cX5_fairPurse 7 (some .int) 1 5 := ⟨lb_X5_fairPurse, gs_5 107 rfl rfl, gs_5 108 rfl rfl, gs_5 109 rfl rfl, _, rfl, rfl⟩
set_option maxRecDepth 100000 in
theorem lk_X8_280 : LV_ RX8 280 yX5_difference cX5_difference 3 (some .int) 2 5 := ⟨lb_X5_difference, gs_5 118 rfl rfl, gs_5 112 rfl rfl, gs_5 113 rfl rfl, _, rfl, rfl⟩
set_option maxRecDepth 100000 in
theorem ck_J6_264 : Cond.constant RJ6 264 (i32 65536) ∈ gw_tbl := gs_5 130 rfl rfl
set_option maxRecDepth 100000 in
theorem lb_J6_numberOfTrailingZeros_0f7a4 : LB_ yJ6_numberOfTrailingZeros_0f7a4 cJ6_numberOfTrailingZeros_0f7a4 2 (some .int) 1 := ⟨gs_5 129 rfl rfl, gs_1 17 rfl rfl, ⟨by decide +kernel, by decide +kernel, by decide +kernel⟩, by decide⟩
set_option maxRecDepth 100000 in
theorem lk_X8_283 : LS_ RX8 283 yJ6_numberOfTrailingZeros_0f7a4 cJ6_numberOfTrailingZeros_0f7a4 2 (some .int) 1 := ⟨lb_J6_numberOfTrailingZeros_0f7a4, gs_5 127 rfl rfl, gs_5 128 rfl rfl⟩
set_option maxRecDepth 100000 in
theorem fl_X8_286 : FL_ RX8 286 8 12 := ⟨_, rfl, by decide, gs_2 123 rfl rfl⟩
set_option maxRecDepth 100000 in
theorem fl_X8_41 : FL_ RX8 41 8 11 := ⟨_, rfl, by decide, gs_2 122 rfl rfl⟩
set_option maxRecDepth 100000 in
theorem fp_X8_286 : FP_ RX8 286 8 12 := ⟨_, rfl, by decide, gs_2 123 rfl rfl, rfl⟩
set_option maxRecDepth 100000 in
theorem lb_X8_putImageByte : LB_ yX8_putImageByte cX8_putImageByte 2 none 1 := ⟨gs_5 138 rfl rfl, gs_1 1 rfl rfl, ⟨by decide +kernel, by decide +kernel, by decide +kernel⟩, by decide⟩
set_option maxRecDepth 100000 in
theorem lk_X8_289 : LV_ RX8 289 yX8_putImageByte cX8_putImageByte 2 none 1 8 := ⟨lb_X8_putImageByte, gs_5 135 rfl rfl, gs_5 137 rfl rfl, gp_4 6 rfl, _, rfl, rfl⟩
set_option maxRecDepth 100000 in
theorem lb_X0_standing : LB_ yX0_standing cX0_standing 3 (some .int) 2 := ⟨gs_5 142 rfl rfl, gs_1 13 rfl rfl, ⟨by decide +kernel, by decide +kernel, by decide +kernel⟩, by decide⟩
set_option maxRecDepth 100000 in
theorem lk_X8_293 : LV_ RX8 293 yX0_standing cX0_standing 3 (some .int) 2 0 := ⟨lb_X0_standing, gs_5 139 rfl rfl, gs_5 140 rfl rfl, gs_5 141 rfl rfl, _, rfl, rfl⟩
set_option maxRecDepth 100000 in
theorem lb_X8_tapeDay : LB_ yX8_tapeDay cX8_tapeDay 1 (some .int) 0 := ⟨gs_5 162 rfl rfl, gs_1 1 rfl rfl, ⟨by decide +kernel, by decide +kernel, by decide +kernel⟩, by decide⟩
set_option maxRecDepth 100000 in
theorem lk_X8_299 : LV_ RX8 299 yX8_tapeDay cX8_tapeDay 1 (some .int) 0 8 := ⟨lb_X8_tapeDay, gs_5 159 rfl rfl, gs_5 161 rfl rfl, gp_4 9 rfl, _, rfl, rfl⟩
set_option maxRecDepth 100000 in
theorem lk_X8_312 : LS_ RX8 312 yJ9_min_7cf53 cJ9_min_7cf53 2 (some .int) 2 := ⟨lb_J9_min_7cf53, gs_5 167 rfl rfl, gs_2 191 rfl rfl⟩
set_option maxRecDepth 100000 in
theorem lb_X8_imageRow : LB_ yX8_imageRow cX8_imageRow 2 (some .int) 1 := ⟨gs_5 158 rfl rfl, gs_1 1 rfl rfl, ⟨by decide +kernel, by decide +kernel, by decide +kernel⟩, by decide⟩
set_option maxRecDepth 100000 in
theorem lk_X8_302 : LV_ RX8 302 yX8_imageRow cX8_imageRow 2 (some .int) 1 8 := ⟨lb_X8_imageRow, gs_5 155 rfl rfl, gs_5 157 rfl rfl, gp_4 8 rfl, _, rfl, rfl⟩
set_option maxRecDepth 100000 in
theorem lb_X8_tellsCoin : LB_ yX8_tellsCoin cX8_tellsCoin 6 (some .boolean) 1 := ⟨gs_5 166 rfl rfl, gs_1 1 rfl rfl, ⟨by decide +kernel, by decide +kernel, by decide +kernel⟩, by decide⟩
set_option maxRecDepth 100000 in
theorem lk_X8_309 : LV_ RX8 309 yX8_tellsCoin cX8_tellsCoin 6 (some .boolean) 1 8 := ⟨lb_X8_tellsCoin, gs_5 163 rfl rfl, gs_5 165 rfl rfl, gp_4 10 rfl, _, rfl, rfl⟩
set_option maxRecDepth 100000 in
theorem lb_X8_tellsImage : LB_ yX8_tellsImage cX8_tellsImage 4 (some .boolean) 1 := ⟨gs_5 154 rfl rfl, gs_1 1 rfl rfl, ⟨by decide +kernel, by decide +kernel, by decide +kernel⟩, by decide⟩
set_option maxRecDepth 100000 in
theorem lk_X8_296 : LV_ RX8 296 yX8_tellsImage cX8_tellsImage 4 (some .boolean) 1 8 := ⟨lb_X8_tellsImage, gs_5 151 rfl rfl, gs_5 153 rfl rfl, gp_4 7 rfl, _, rfl, rfl⟩
set_option maxRecDepth 100000 in
theorem fp_X8_114 : FP_ RX8 114 3 0 := ⟨_, rfl, by decide, gs_2 21 rfl rfl, rfl⟩
set_option maxRecDepth 100000 in
theorem lb_X0_stand : LB_ yX0_stand cX0_stand 4 none 3 := ⟨gs_5 171 rfl rfl, gs_1 13 rfl rfl, ⟨by decide +kernel, by decide +kernel, by decide +kernel⟩, by decide⟩
set_option maxRecDepth 100000 in
theorem lk_X8_305 : LV_ RX8 305 yX0_stand cX0_stand 4 none 3 0 := ⟨lb_X0_stand, gs_5 168 rfl rfl, gs_5 169 rfl rfl, gs_5 170 rfl rfl, _, rfl, rfl⟩
set_option maxRecDepth 100000 in
theorem lo_X9_1 : Cond.methodLink RX9 1 Lib.objectInit ∈ gw_tbl ∧ Cond.instanceMethod Lib.objectInit ∈ gw_tbl ∧ Cond.code Lib.objectInit ⟨#[0xb1]⟩ 1 none ∈ gw_tbl := ⟨gs_5 181 rfl rfl, gs_1 26 rfl rfl, gs_1 27 rfl rfl⟩
set_option maxRecDepth 100000 in
theorem ff_X9_7 : FF_ RX9 7 9 0 := ⟨_, rfl, by decide, gs_5 182 rfl rfl, rfl, rfl⟩
set_option maxRecDepth 100000 in
theorem fp_X9_13 : FP_ RX9 13 9 1 := ⟨_, rfl, by decide, gs_5 183 rfl rfl, rfl⟩
set_option maxRecDepth 100000 in
theorem fp_X9_17 : FP_ RX9 17 9 2 := ⟨_, rfl, by decide, gs_5 184 rfl rfl, rfl⟩
set_option maxRecDepth 100000 in
theorem fp_X9_20 : FP_ RX9 20 9 3 := ⟨_, rfl, by decide, gs_5 185 rfl rfl, rfl⟩
set_option maxRecDepth 100000 in
theorem fp_X9_23 : FP_ RX9 23 9 4 := ⟨_, rfl, by decide, gs_5 186 rfl rfl, rfl⟩
set_option maxRecDepth 100000 in
theorem fp_X9_26 : FP_ RX9 26 9 5 := ⟨_, rfl, by decide, gs_5 187 rfl rfl, rfl⟩
set_option maxRecDepth 100000 in
theorem fp_X9_29 : FP_ RX9 29 9 6 := ⟨_, rfl, by decide, gs_5 188 rfl rfl, rfl⟩
set_option maxRecDepth 100000 in
theorem fp_X9_32 : FP_ RX9 32 9 7 := ⟨_, rfl, by decide, gs_5 189 rfl rfl, rfl⟩
set_option maxRecDepth 100000 in
theorem fp_X9_36 : FP_ RX9 36 9 8 := ⟨_, rfl, by decide, gs_5 190 rfl rfl, rfl⟩
set_option maxRecDepth 100000 in
theorem fp_X9_39 : FP_ RX9 39 9 9 := ⟨_, rfl, by decide, gs_5 191 rfl rfl, rfl⟩
set_option maxRecDepth 100000 in
theorem fp_X9_42 : FP_ RX9 42 9 10 := ⟨_, rfl, by decide, gs_5 192 rfl rfl, rfl⟩
set_option maxRecDepth 100000 in
theorem fp_X9_45 : FP_ RX9 45 9 11 := ⟨_, rfl, by decide, gs_5 193 rfl rfl, rfl⟩
set_option maxRecDepth 100000 in
theorem fp_X9_48 : FP_ RX9 48 9 12 := ⟨_, rfl, by decide, gs_5 194 rfl rfl, rfl⟩
set_option maxRecDepth 100000 in
theorem fp_X9_51 : FP_ RX9 51 9 13 := ⟨_, rfl, by decide, gs_5 195 rfl rfl, rfl⟩
set_option maxRecDepth 100000 in
theorem ff_X9_54 : FF_ RX9 54 9 14 := ⟨_, rfl, by decide, gs_5 196 rfl rfl, rfl, rfl⟩
set_option maxRecDepth 100000 in
theorem ff_X9_57 : FF_ RX9 57 9 15 := ⟨_, rfl, by decide, gs_5 197 rfl rfl, rfl, rfl⟩
set_option maxRecDepth 100000 in
theorem ff_X9_60 : FF_ RX9 60 9 16 := ⟨_, rfl, by decide, gs_5 198 rfl rfl, rfl, rfl⟩
set_option maxRecDepth 100000 in
theorem ff_X9_63 : FF_ RX9 63 9 17 := ⟨_, rfl, by decide, gs_5 199 rfl rfl, rfl, rfl⟩
set_option maxRecDepth 100000 in
theorem ff_X9_66 : FF_ RX9 66 9 18 := ⟨_, rfl, by decide, gs_5 200 rfl rfl, rfl, rfl⟩
set_option maxRecDepth 100000 in
theorem ff_X9_69 : FF_ RX9 69 9 19 := ⟨_, rfl, by decide, gs_5 201 rfl rfl, rfl, rfl⟩
set_option maxRecDepth 100000 in
theorem ff_X9_72 : FF_ RX9 72 9 20 := ⟨_, rfl, by decide, gs_5 202 rfl rfl, rfl, rfl⟩
set_option maxRecDepth 100000 in
theorem ff_X9_75 : FF_ RX9 75 9 21 := ⟨_, rfl, by decide, gs_5 203 rfl rfl, rfl, rfl⟩
set_option maxRecDepth 100000 in
theorem ff_X9_78 : FF_ RX9 78 9 22 := ⟨_, rfl, by decide, gs_5 204 rfl rfl, rfl, rfl⟩
set_option maxRecDepth 100000 in
theorem ff_X9_81 : FF_ RX9 81 9 23 := ⟨_, rfl, by decide, gs_5 205 rfl rfl, rfl, rfl⟩
set_option maxRecDepth 100000 in
theorem ff_X9_84 : FF_ RX9 84 9 24 := ⟨_, rfl, by decide, gs_5 206 rfl rfl, rfl, rfl⟩
set_option maxRecDepth 100000 in
theorem ff_X9_87 : FF_ RX9 87 9 25 := ⟨_, rfl, by decide, gs_5 207 rfl rfl, rfl, rfl⟩
set_option maxRecDepth 100000 in
theorem ff_X9_90 : FF_ RX9 90 9 26 := ⟨_, rfl, by decide, gs_5 208 rfl rfl, rfl, rfl⟩
set_option maxRecDepth 100000 in
theorem ff_X9_93 : FF_ RX9 93 9 27 := ⟨_, rfl, by decide, gs_5 209 rfl rfl, rfl, rfl⟩
set_option maxRecDepth 100000 in
theorem ff_X9_96 : FF_ RX9 96 9 28 := ⟨_, rfl, by decide, gs_5 210 rfl rfl, rfl, rfl⟩
set_option maxRecDepth 100000 in
theorem ff_X9_99 : FF_ RX9 99 9 29 := ⟨_, rfl, by decide, gs_5 211 rfl rfl, rfl, rfl⟩
set_option maxRecDepth 100000 in
theorem ff_X9_102 : FF_ RX9 102 9 30 := ⟨_, rfl, by decide, gs_5 212 rfl rfl, rfl, rfl⟩
set_option maxRecDepth 100000 in
theorem ff_X9_105 : FF_ RX9 105 9 31 := ⟨_, rfl, by decide, gs_5 213 rfl rfl, rfl, rfl⟩
set_option maxRecDepth 100000 in
theorem ff_X9_108 : FF_ RX9 108 9 32 := ⟨_, rfl, by decide, gs_5 214 rfl rfl, rfl, rfl⟩
set_option maxRecDepth 100000 in
theorem ff_X9_112 : FF_ RX9 112 9 33 := ⟨_, rfl, by decide, gs_5 215 rfl rfl, rfl, rfl⟩
set_option maxRecDepth 100000 in
theorem ff_X9_115 : FF_ RX9 115 9 34 := ⟨_, rfl, by decide, gs_5 216 rfl rfl, rfl, rfl⟩
set_option maxRecDepth 100000 in
theorem fp_X9_118 : FP_ RX9 118 9 35 := ⟨_, rfl, by decide, gs_5 217 rfl rfl, rfl⟩
set_option maxRecDepth 100000 in
theorem fp_X9_121 : FP_ RX9 121 9 36 := ⟨_, rfl, by decide, gs_5 218 rfl rfl, rfl⟩
set_option maxRecDepth 100000 in
theorem ff_X9_124 : FF_ RX9 124 9 37 := ⟨_, rfl, by decide, gs_5 219 rfl rfl, rfl, rfl⟩
set_option maxRecDepth 100000 in
theorem ff_X9_127 : FF_ RX9 127 9 38 := ⟨_, rfl, by decide, gs_5 220 rfl rfl, rfl, rfl⟩
set_option maxRecDepth 100000 in
theorem la_boolean : Cond.arrayClass .boolean ∈ gw_tbl := gs_6 156 rfl rfl
set_option maxRecDepth 100000 in
theorem ff_X9_130 : FF_ RX9 130 9 39 := ⟨_, rfl, by decide, gs_5 221 rfl rfl, rfl, rfl⟩
set_option maxRecDepth 100000 in
theorem ff_X9_134 : FF_ RX9 134 9 40 := ⟨_, rfl, by decide, gs_5 222 rfl rfl, rfl, rfl⟩
set_option maxRecDepth 100000 in
theorem ff_X9_137 : FF_ RX9 137 9 41 := ⟨_, rfl, by decide, gs_5 223 rfl rfl, rfl, rfl⟩
set_option maxRecDepth 100000 in
theorem fp_X9_140 : FP_ RX9 140 9 42 := ⟨_, rfl, by decide, gs_5 224 rfl rfl, rfl⟩
set_option maxRecDepth 100000 in
theorem fp_X9_143 : FP_ RX9 143 9 43 := ⟨_, rfl, by decide, gs_5 225 rfl rfl, rfl⟩
set_option maxRecDepth 100000 in
theorem ff_X9_146 : FF_ RX9 146 9 44 := ⟨_, rfl, by decide, gs_5 226 rfl rfl, rfl, rfl⟩
set_option maxRecDepth 100000 in
theorem fp_X9_149 : FP_ RX9 149 9 45 := ⟨_, rfl, by decide, gs_5 227 rfl rfl, rfl⟩
set_option maxRecDepth 100000 in
theorem fp_X9_152 : FP_ RX9 152 9 46 := ⟨_, rfl, by decide, gs_5 228 rfl rfl, rfl⟩
set_option maxRecDepth 100000 in
theorem ff_X9_156 : FF_ RX9 156 9 47 := ⟨_, rfl, by decide, gs_5 229 rfl rfl, rfl, rfl⟩
set_option maxRecDepth 100000 in
theorem ff_X9_159 : FF_ RX9 159 9 48 := ⟨_, rfl, by decide, gs_5 230 rfl rfl, rfl, rfl⟩
set_option maxRecDepth 100000 in
theorem ff_X9_162 : FF_ RX9 162 9 49 := ⟨_, rfl, by decide, gs_5 231 rfl rfl, rfl, rfl⟩
set_option maxRecDepth 100000 in
theorem ff_X9_165 : FF_ RX9 165 9 50 := ⟨_, rfl, by decide, gs_5 232 rfl rfl, rfl, rfl⟩
set_option maxRecDepth 100000 in
theorem ff_X9_168 : FF_ RX9 168 9 51 := ⟨_, rfl, by decide, gs_5 233 rfl rfl, rfl, rfl⟩
set_option maxRecDepth 100000 in
theorem ff_X9_171 : FF_ RX9 171 9 52 := ⟨_, rfl, by decide, gs_5 234 rfl rfl, rfl, rfl⟩
set_option maxRecDepth 100000 in
theorem fp_X9_174 : FP_ RX9 174 9 53 := ⟨_, rfl, by decide, gs_5 235 rfl rfl, rfl⟩
set_option maxRecDepth 100000 in
theorem fp_X9_177 : FP_ RX9 177 9 54 := ⟨_, rfl, by decide, gs_5 236 rfl rfl, rfl⟩
set_option maxRecDepth 100000 in
theorem fp_X9_180 : FP_ RX9 180 9 55 := ⟨_, rfl, by decide, gs_5 237 rfl rfl, rfl⟩
set_option maxRecDepth 100000 in
theorem ff_X9_183 : FF_ RX9 183 9 56 := ⟨_, rfl, by decide, gs_5 238 rfl rfl, rfl, rfl⟩
set_option maxRecDepth 100000 in
theorem fp_X9_186 : FP_ RX9 186 9 57 := ⟨_, rfl, by decide, gs_5 239 rfl rfl, rfl⟩
set_option maxRecDepth 100000 in
theorem fp_X9_189 : FP_ RX9 189 9 58 := ⟨_, rfl, by decide, gs_6 0 rfl rfl, rfl⟩
set_option maxRecDepth 100000 in
theorem fp_X9_192 : FP_ RX9 192 9 59 := ⟨_, rfl, by decide, gs_6 1 rfl rfl, rfl⟩
set_option maxRecDepth 100000 in
theorem fp_X9_195 : FP_ RX9 195 9 60 := ⟨_, rfl, by decide, gs_6 2 rfl rfl, rfl⟩
set_option maxRecDepth 100000 in
theorem fp_X9_198 : FP_ RX9 198 9 61 := ⟨_, rfl, by decide, gs_6 3 rfl rfl, rfl⟩
set_option maxRecDepth 100000 in
theorem fp_X9_201 : FP_ RX9 201 9 62 := ⟨_, rfl, by decide, gs_6 4 rfl rfl, rfl⟩
set_option maxRecDepth 100000 in
theorem ff_X9_204 : FF_ RX9 204 9 63 := ⟨_, rfl, by decide, gs_6 5 rfl rfl, rfl, rfl⟩
set_option maxRecDepth 100000 in
theorem ff_X9_207 : FF_ RX9 207 9 64 := ⟨_, rfl, by decide, gs_6 6 rfl rfl, rfl, rfl⟩
set_option maxRecDepth 100000 in
theorem ff_X9_210 : FF_ RX9 210 9 65 := ⟨_, rfl, by decide, gs_6 7 rfl rfl, rfl, rfl⟩
set_option maxRecDepth 100000 in
theorem fp_X9_213 : FP_ RX9 213 9 66 := ⟨_, rfl, by decide, gs_6 8 rfl rfl, rfl⟩
set_option maxRecDepth 100000 in
theorem fp_X9_216 : FP_ RX9 216 9 67 := ⟨_, rfl, by decide, gs_6 9 rfl rfl, rfl⟩
set_option maxRecDepth 100000 in
theorem ff_X9_219 : FF_ RX9 219 9 68 := ⟨_, rfl, by decide, gs_6 10 rfl rfl, rfl, rfl⟩
set_option maxRecDepth 100000 in
theorem ff_X9_222 : FF_ RX9 222 9 69 := ⟨_, rfl, by decide, gs_6 11 rfl rfl, rfl, rfl⟩
set_option maxRecDepth 100000 in
theorem fp_X9_225 : FP_ RX9 225 9 70 := ⟨_, rfl, by decide, gs_6 12 rfl rfl, rfl⟩
set_option maxRecDepth 100000 in
theorem fl_X9_90 : FL_ RX9 90 9 26 := ⟨_, rfl, by decide, gs_5 208 rfl rfl⟩
set_option maxRecDepth 100000 in
theorem fl_X9_96 : FL_ RX9 96 9 28 := ⟨_, rfl, by decide, gs_5 210 rfl rfl⟩
set_option maxRecDepth 100000 in
theorem fl_X9_7 : FL_ RX9 7 9 0 := ⟨_, rfl, by decide, gs_5 182 rfl rfl⟩
set_option maxRecDepth 100000 in
theorem fl_X9_13 : FL_ RX9 13 9 1 := ⟨_, rfl, by decide, gs_5 183 rfl rfl⟩
set_option maxRecDepth 100000 in
theorem fl_X9_156 : FL_ RX9 156 9 47 := ⟨_, rfl, by decide, gs_5 229 rfl rfl⟩
set_option maxRecDepth 100000 in
theorem lb_X9_put : LB_ yX9_put cX9_put 3 none 1 := ⟨gs_6 168 rfl rfl, gs_1 14 rfl rfl, ⟨by decide +kernel, by decide +kernel, by decide +kernel⟩, by decide⟩
set_option maxRecDepth 100000 in
theorem lk_X9_232 : LV_ RX9 232 yX9_put cX9_put 3 none 1 9 := ⟨lb_X9_put, gs_6 165 rfl rfl, gs_6 167 rfl rfl, gp_4 12 rfl, _, rfl, rfl⟩
set_option maxRecDepth 100000 in
theorem lb_X9_refuses : LB_ yX9_refuses cX9_refuses 2 (some .int) 1 := ⟨gs_6 164 rfl rfl, gs_1 14 rfl rfl, ⟨by decide +kernel, by decide +kernel, by decide +kernel⟩, by decide⟩
set_option maxRecDepth 100000 in
theorem lk_X9_228 : LV_ RX9 228 yX9_refuses cX9_refuses 2 (some .int) 1 9 := ⟨lb_X9_refuses, gs_6 161 rfl rfl, gs_6 163 rfl rfl, gp_4 11 rfl, _, rfl, rfl⟩
set_option maxRecDepth 100000 in
theorem fl_X9_36 : FL_ RX9 36 9 8 := ⟨_, rfl, by decide, gs_5 190 rfl rfl⟩
set_option maxRecDepth 100000 in
theorem fl_X9_48 : FL_ RX9 48 9 12 := ⟨_, rfl, by decide, gs_5 194 rfl rfl⟩
set_option maxRecDepth 100000 in
theorem lb_X9_blame : LB_ yX9_blame cX9_blame 3 none 2 := ⟨gs_6 225 rfl rfl, gs_1 14 rfl rfl, ⟨by decide +kernel, by decide +kernel, by decide +kernel⟩, by decide⟩
set_option maxRecDepth 100000 in
theorem lk_X9_236 : LV_ RX9 236 yX9_blame cX9_blame 3 none 2 9 := ⟨lb_X9_blame, gs_6 222 rfl rfl, gs_6 224 rfl rfl, gp_5 1 rfl, _, rfl, rfl⟩
set_option maxRecDepth 100000 in
theorem ck_X9_260 : Cond.constantLong RX9 260 (i64 123581014175598) ∈ gw_tbl := gs_6 191 rfl rfl
set_option maxRecDepth 100000 in
theorem ck_X9_262 : Cond.constantLong RX9 262 (i64 1918987883) ∈ gw_tbl := gs_6 192 rfl rfl
set_option maxRecDepth 100000 in
theorem ck_X9_264 : Cond.constantLong RX9 264 (i64 1668245870) ∈ gw_tbl := gs_6 193 rfl rfl
set_option maxRecDepth 100000 in
theorem ck_X9_266 : Cond.constantLong RX9 266 (i64 512970880104) ∈ gw_tbl := gs_6 194 rfl rfl
set_option maxRecDepth 100000 in
theorem ck_X9_268 : Cond.constantLong RX9 268 (i64 28518) ∈ gw_tbl := gs_6 195 rfl rfl
set_option maxRecDepth 100000 in
theorem ck_X9_270 : Cond.constantLong RX9 270 (i64 461414299507) ∈ gw_tbl := gs_6 196 rfl rfl
set_option maxRecDepth 100000 in
theorem ck_X9_272 : Cond.constantLong RX9 272 (i64 444251202675) ∈ gw_tbl := gs_6 197 rfl rfl
set_option maxRecDepth 100000 in
theorem ck_X9_274 : Cond.constantLong RX9 274 (i64 25209) ∈ gw_tbl := gs_6 198 rfl rfl
set_option maxRecDepth 100000 in
theorem ck_X9_276 : Cond.constantLong RX9 276 (i64 1936618850) ∈ gw_tbl := gs_6 199 rfl rfl
set_option maxRecDepth 100000 in
theorem ck_X9_278 : Cond.constantLong RX9 278 (i64 439720633715) ∈ gw_tbl := gs_6 200 rfl rfl
set_option maxRecDepth 100000 in
theorem ck_X9_280 : Cond.constantLong RX9 280 (i64 508675192165) ∈ gw_tbl := gs_6 201 rfl rfl
set_option maxRecDepth 100000 in
theorem ck_X9_282 : Cond.constantLong RX9 282 (i64 8102650225890325619) ∈ gw_tbl := gs_6 202 rfl rfl
set_option maxRecDepth 100000 in
theorem ck_X9_284 : Cond.constantLong RX9 284 (i64 482955846501) ∈ gw_tbl := gs_6 203 rfl rfl
set_option maxRecDepth 100000 in
theorem ck_X9_286 : Cond.constantLong RX9 286 (i64 478694368626) ∈ gw_tbl := gs_6 204 rfl rfl
set_option maxRecDepth 100000 in
theorem ck_X9_288 : Cond.constantLong RX9 288 (i64 109304541834341) ∈ gw_tbl := gs_6 205 rfl rfl
set_option maxRecDepth 100000 in
theorem ck_X9_290 : Cond.constantLong RX9 290 (i64 6578553) ∈ gw_tbl := gs_6 206 rfl rfl
set_option maxRecDepth 100000 in
theorem ck_X9_292 : Cond.constantLong RX9 292 (i64 448545973363) ∈ gw_tbl := gs_6 207 rfl rfl
set_option maxRecDepth 100000 in
theorem ck_X9_294 : Cond.constantLong RX9 294 (i64 28530) ∈ gw_tbl := gs_6 208 rfl rfl
set_option maxRecDepth 100000 in
theorem ck_X9_296 : Cond.constantLong RX9 296 (i64 6385252) ∈ gw_tbl := gs_6 209 rfl rfl
set_option maxRecDepth 100000 in
theorem ck_X9_298 : Cond.constantLong RX9 298 (i64 7237492) ∈ gw_tbl := gs_6 210 rfl rfl
set_option maxRecDepth 100000 in
theorem ck_X9_300 : Cond.constantLong RX9 300 (i64 6384748) ∈ gw_tbl := gs_6 211 rfl rfl
set_option maxRecDepth 100000 in
theorem ck_X9_302 : Cond.constantLong RX9 302 (i64 7170414) ∈ gw_tbl := gs_6 212 rfl rfl
set_option maxRecDepth 100000 in
theorem ck_X9_304 : Cond.constantLong RX9 304 (i64 7168376) ∈ gw_tbl := gs_6 213 rfl rfl
set_option maxRecDepth 100000 in
theorem fl_X9_26 : FL_ RX9 26 9 5 := ⟨_, rfl, by decide, gs_5 187 rfl rfl⟩
set_option maxRecDepth 100000 in
theorem fl_X9_17 : FL_ RX9 17 9 2 := ⟨_, rfl, by decide, gs_5 184 rfl rfl⟩
set_option maxRecDepth 100000 in
theorem lb_X9_isLetter : LB_ yX9_isLetter cX9_isLetter 1 (some .boolean) 1 := ⟨gs_6 183 rfl rfl, gs_1 14 rfl rfl, ⟨by decide +kernel, by decide +kernel, by decide +kernel⟩, by decide⟩
set_option maxRecDepth 100000 in
theorem lk_X9_240 : LS_ RX9 240 yX9_isLetter cX9_isLetter 1 (some .boolean) 1 := ⟨lb_X9_isLetter, gs_6 181 rfl rfl, gs_6 182 rfl rfl⟩
set_option maxRecDepth 100000 in
theorem lb_X9_isDigit : LB_ yX9_isDigit cX9_isDigit 1 (some .boolean) 1 := ⟨gs_6 186 rfl rfl, gs_1 14 rfl rfl, ⟨by decide +kernel, by decide +kernel, by decide +kernel⟩, by decide⟩
set_option maxRecDepth 100000 in
theorem lk_X9_244 : LS_ RX9 244 yX9_isDigit cX9_isDigit 1 (some .boolean) 1 := ⟨lb_X9_isDigit, gs_6 184 rfl rfl, gs_6 185 rfl rfl⟩
set_option maxRecDepth 100000 in
theorem fl_X9_29 : FL_ RX9 29 9 6 := ⟨_, rfl, by decide, gs_5 188 rfl rfl⟩
set_option maxRecDepth 100000 in
theorem fl_X9_32 : FL_ RX9 32 9 7 := ⟨_, rfl, by decide, gs_5 189 rfl rfl⟩
set_option maxRecDepth 100000 in
theorem fl_X9_23 : FL_ RX9 23 9 4 := ⟨_, rfl, by decide, gs_5 186 rfl rfl⟩
set_option maxRecDepth 100000 in
theorem lb_X9_isOwn : LB_ yX9_isOwn cX9_isOwn 3 (some .boolean) 1 := ⟨gs_6 190 rfl rfl, gs_1 14 rfl rfl, ⟨by decide +kernel, by decide +kernel, by decide +kernel⟩, by decide⟩
set_option maxRecDepth 100000 in
theorem lk_X9_247 : LV_ RX9 247 yX9_isOwn cX9_isOwn 3 (some .boolean) 1 9 := ⟨lb_X9_isOwn, gs_6 187 rfl rfl, gs_6 189 rfl rfl, gp_4 14 rfl, _, rfl, rfl⟩
set_option maxRecDepth 100000 in
theorem fl_X9_20 : FL_ RX9 20 9 3 := ⟨_, rfl, by decide, gs_5 185 rfl rfl⟩
set_option maxRecDepth 100000 in
theorem lb_X9_lex : LB_ yX9_lex cX9_lex 1 none 0 := ⟨gs_6 221 rfl rfl, gs_1 14 rfl rfl, ⟨by decide +kernel, by decide +kernel, by decide +kernel⟩, by decide⟩
set_option maxRecDepth 100000 in
theorem lk_X9_251 : LV_ RX9 251 yX9_lex cX9_lex 1 none 0 9 := ⟨lb_X9_lex, gs_6 218 rfl rfl, gs_6 220 rfl rfl, gp_5 0 rfl, _, rfl, rfl⟩
set_option maxRecDepth 100000 in
theorem lb_X9_isSign : LB_ yX9_isSign cX9_isSign 2 (some .boolean) 1 := ⟨gs_7 78 rfl rfl, gs_1 14 rfl rfl, ⟨by decide +kernel, by decide +kernel, by decide +kernel⟩, by decide⟩
set_option maxRecDepth 100000 in
theorem lk_X9_254 : LV_ RX9 254 yX9_isSign cX9_isSign 2 (some .boolean) 1 9 := ⟨lb_X9_isSign, gs_7 75 rfl rfl, gs_7 77 rfl rfl, gp_6 6 rfl, _, rfl, rfl⟩
set_option maxRecDepth 100000 in
theorem lb_X9_ahead : LB_ yX9_ahead cX9_ahead 6 none 0 := ⟨gs_6 180 rfl rfl, gs_1 14 rfl rfl, ⟨by decide +kernel, by decide +kernel, by decide +kernel⟩, by decide⟩
set_option maxRecDepth 100000 in
theorem lk_X9_257 : LV_ RX9 257 yX9_ahead cX9_ahead 6 none 0 9 := ⟨lb_X9_ahead, gs_6 177 rfl rfl, gs_6 179 rfl rfl, gp_4 13 rfl, _, rfl, rfl⟩
set_option maxRecDepth 100000 in
theorem fl_X9_75 : FL_ RX9 75 9 21 := ⟨_, rfl, by decide, gs_5 203 rfl rfl⟩
set_option maxRecDepth 100000 in
theorem fl_X9_60 : FL_ RX9 60 9 16 := ⟨_, rfl, by decide, gs_5 198 rfl rfl⟩
set_option maxRecDepth 100000 in
theorem fl_X9_54 : FL_ RX9 54 9 14 := ⟨_, rfl, by decide, gs_5 196 rfl rfl⟩
set_option maxRecDepth 100000 in
theorem fl_X9_115 : FL_ RX9 115 9 34 := ⟨_, rfl, by decide, gs_5 216 rfl rfl⟩
set_option maxRecDepth 100000 in
theorem fl_X9_112 : FL_ RX9 112 9 33 := ⟨_, rfl, by decide, gs_5 215 rfl rfl⟩
set_option maxRecDepth 100000 in
theorem fl_X9_108 : FL_ RX9 108 9 32 := ⟨_, rfl, by decide, gs_5 214 rfl rfl⟩
set_option maxRecDepth 100000 in
theorem fl_X9_121 : FL_ RX9 121 9 36 := ⟨_, rfl, by decide, gs_5 218 rfl rfl⟩
set_option maxRecDepth 100000 in
theorem lb_X9_manyOf : LB_ yX9_manyOf cX9_manyOf 3 (some .int) 2 := ⟨gs_7 9 rfl rfl, gs_1 14 rfl rfl, ⟨by decide +kernel, by decide +kernel, by decide +kernel⟩, by decide⟩
set_option maxRecDepth 100000 in
theorem lk_X9_306 : LV_ RX9 306 yX9_manyOf cX9_manyOf 3 (some .int) 2 9 := ⟨lb_X9_manyOf, gs_7 6 rfl rfl, gs_7 8 rfl rfl, gp_5 7 rfl, _, rfl, rfl⟩
set_option maxRecDepth 100000 in
theorem lb_X9_nameOf : LB_ yX9_nameOf cX9_nameOf 4 (some .long) 3 := ⟨gs_7 13 rfl rfl, gs_1 14 rfl rfl, ⟨by decide +kernel, by decide +kernel, by decide +kernel⟩, by decide⟩
set_option maxRecDepth 100000 in
theorem lk_X9_310 : LV_ RX9 310 yX9_nameOf cX9_nameOf 4 (some .long) 3 9 := ⟨lb_X9_nameOf, gs_7 10 rfl rfl, gs_7 12 rfl rfl, gp_5 8 rfl, _, rfl, rfl⟩
set_option maxRecDepth 100000 in
theorem lb_X9_is : LB_ yX9_is cX9_is 3 (some .boolean) 3 := ⟨gs_7 24 rfl rfl, gs_1 14 rfl rfl, ⟨by decide +kernel, by decide +kernel, by decide +kernel⟩, by decide⟩
set_option maxRecDepth 100000 in
theorem lk_X9_314 : LS_ RX9 314 yX9_is cX9_is 3 (some .boolean) 3 := ⟨lb_X9_is, gs_7 22 rfl rfl, gs_7 23 rfl rfl⟩
set_option maxRecDepth 100000 in
theorem fl_X9_102 : FL_ RX9 102 9 30 := ⟨_, rfl, by decide, gs_5 212 rfl rfl⟩
set_option maxRecDepth 100000 in
theorem fl_X9_118 : FL_ RX9 118 9 35 := ⟨_, rfl, by decide, gs_5 217 rfl rfl⟩
set_option maxRecDepth 100000 in
theorem fl_X9_105 : FL_ RX9 105 9 31 := ⟨_, rfl, by decide, gs_5 213 rfl rfl⟩
set_option maxRecDepth 100000 in
theorem fl_X9_149 : FL_ RX9 149 9 45 := ⟨_, rfl, by decide, gs_5 227 rfl rfl⟩
set_option maxRecDepth 100000 in
theorem fl_X9_137 : FL_ RX9 137 9 41 := ⟨_, rfl, by decide, gs_5 223 rfl rfl⟩
set_option maxRecDepth 100000 in
theorem fl_X9_140 : FL_ RX9 140 9 42 := ⟨_, rfl, by decide, gs_5 224 rfl rfl⟩
set_option maxRecDepth 100000 in
theorem fl_X9_146 : FL_ RX9 146 9 44 := ⟨_, rfl, by decide, gs_5 226 rfl rfl⟩
set_option maxRecDepth 100000 in
theorem lb_X9_rank : LB_ yX9_rank cX9_rank 1 (some .int) 1 := ⟨gs_7 97 rfl rfl, gs_1 14 rfl rfl, ⟨by decide +kernel, by decide +kernel, by decide +kernel⟩, by decide⟩
set_option maxRecDepth 100000 in
theorem lk_X9_318 : LS_ RX9 318 yX9_rank cX9_rank 1 (some .int) 1 := ⟨lb_X9_rank, gs_7 95 rfl rfl, gs_7 96 rfl rfl⟩
set_option maxRecDepth 100000 in
theorem lb_X9_add : LB_ yX9_add cX9_add 3 none 2 := ⟨gs_7 86 rfl rfl, gs_1 14 rfl rfl, ⟨by decide +kernel, by decide +kernel, by decide +kernel⟩, by decide⟩
set_option maxRecDepth 100000 in
theorem lk_X9_321 : LV_ RX9 321 yX9_add cX9_add 3 none 2 9 := ⟨lb_X9_add, gs_7 83 rfl rfl, gs_7 85 rfl rfl, gp_6 8 rfl, _, rfl, rfl⟩
set_option maxRecDepth 100000 in
theorem fl_X9_143 : FL_ RX9 143 9 43 := ⟨_, rfl, by decide, gs_5 225 rfl rfl⟩
set_option maxRecDepth 100000 in
theorem fl_X9_124 : FL_ RX9 124 9 37 := ⟨_, rfl, by decide, gs_5 219 rfl rfl⟩
set_option maxRecDepth 100000 in
theorem fl_X9_127 : FL_ RX9 127 9 38 := ⟨_, rfl, by decide, gs_5 220 rfl rfl⟩
set_option maxRecDepth 100000 in
theorem fl_X9_130 : FL_ RX9 130 9 39 := ⟨_, rfl, by decide, gs_5 221 rfl rfl⟩
set_option maxRecDepth 100000 in
theorem lb_X9_pushes : LB_ yX9_pushes cX9_pushes 2 none 1 := ⟨gs_7 63 rfl rfl, gs_1 14 rfl rfl, ⟨by decide +kernel, by decide +kernel, by decide +kernel⟩, by decide⟩
set_option maxRecDepth 100000 in
theorem lk_X9_324 : LV_ RX9 324 yX9_pushes cX9_pushes 2 none 1 9 := ⟨lb_X9_pushes, gs_7 60 rfl rfl, gs_7 62 rfl rfl, gp_6 3 rfl, _, rfl, rfl⟩
set_option maxRecDepth 100000 in
theorem lb_X9_isTest : LB_ yX9_isTest cX9_isTest 1 (some .boolean) 1 := ⟨gs_7 70 rfl rfl, gs_1 14 rfl rfl, ⟨by decide +kernel, by decide +kernel, by decide +kernel⟩, by decide⟩
set_option maxRecDepth 100000 in
theorem lk_X9_327 : LS_ RX9 327 yX9_isTest cX9_isTest 1 (some .boolean) 1 := ⟨lb_X9_isTest, gs_7 68 rfl rfl, gs_7 69 rfl rfl⟩
set_option maxRecDepth 100000 in
theorem lb_X9_isWord : LB_ yX9_isWord cX9_isWord 3 (some .boolean) 1 := ⟨gs_6 229 rfl rfl, gs_1 14 rfl rfl, ⟨by decide +kernel, by decide +kernel, by decide +kernel⟩, by decide⟩
set_option maxRecDepth 100000 in
theorem lk_X9_330 : LV_ RX9 330 yX9_isWord cX9_isWord 3 (some .boolean) 1 9 := ⟨lb_X9_isWord, gs_6 226 rfl rfl, gs_6 228 rfl rfl, gp_5 2 rfl, _, rfl, rfl⟩
set_option maxRecDepth 100000 in
theorem lb_X9_opens : LB_ yX9_opens cX9_opens 2 none 1 := ⟨gs_7 82 rfl rfl, gs_1 14 rfl rfl, ⟨by decide +kernel, by decide +kernel, by decide +kernel⟩, by decide⟩
set_option maxRecDepth 100000 in
theorem lk_X9_336 : LV_ RX9 336 yX9_opens cX9_opens 2 none 1 9 := ⟨lb_X9_opens, gs_7 79 rfl rfl, gs_7 81 rfl rfl, gp_6 7 rfl, _, rfl, rfl⟩
set_option maxRecDepth 100000 in
theorem fl_X9_134 : FL_ RX9 134 9 40 := ⟨_, rfl, by decide, gs_5 222 rfl rfl⟩
set_option maxRecDepth 100000 in
theorem lb_X9_holdsBack : LB_ yX9_holdsBack cX9_holdsBack 2 none 1 := ⟨gs_7 74 rfl rfl, gs_1 14 rfl rfl, ⟨by decide +kernel, by decide +kernel, by decide +kernel⟩, by decide⟩
set_option maxRecDepth 100000 in
theorem lk_X9_333 : LV_ RX9 333 yX9_holdsBack cX9_holdsBack 2 none 1 9 := ⟨lb_X9_holdsBack, gs_7 71 rfl rfl, gs_7 73 rfl rfl, gp_6 5 rfl, _, rfl, rfl⟩
set_option maxRecDepth 100000 in
theorem lb_X9_joins : LB_ yX9_joins cX9_joins 2 none 1 := ⟨gs_7 94 rfl rfl, gs_1 14 rfl rfl, ⟨by decide +kernel, by decide +kernel, by decide +kernel⟩, by decide⟩
set_option maxRecDepth 100000 in
theorem lk_X9_339 : LV_ RX9 339 yX9_joins cX9_joins 2 none 1 9 := ⟨lb_X9_joins, gs_7 91 rfl rfl, gs_7 93 rfl rfl, gp_6 10 rfl, _, rfl, rfl⟩
set_option maxRecDepth 100000 in
theorem fl_X9_152 : FL_ RX9 152 9 46 := ⟨_, rfl, by decide, gs_5 228 rfl rfl⟩
set_option maxRecDepth 100000 in
theorem lb_X9_goesOn : LB_ yX9_goesOn cX9_goesOn 5 (some .boolean) 0 := ⟨gs_7 90 rfl rfl, gs_1 14 rfl rfl, ⟨by decide +kernel, by decide +kernel, by decide +kernel⟩, by decide⟩
set_option maxRecDepth 100000 in
theorem lk_X9_345 : LV_ RX9 345 yX9_goesOn cX9_goesOn 5 (some .boolean) 0 9 := ⟨lb_X9_goesOn, gs_7 87 rfl rfl, gs_7 89 rfl rfl, gp_6 9 rfl, _, rfl, rfl⟩
set_option maxRecDepth 100000 in
theorem lb_X9_operand : LB_ yX9_operand cX9_operand 4 (some .boolean) 0 := ⟨gs_7 67 rfl rfl, gs_1 14 rfl rfl, ⟨by decide +kernel, by decide +kernel, by decide +kernel⟩, by decide⟩
set_option maxRecDepth 100000 in
theorem lk_X9_342 : LV_ RX9 342 yX9_operand cX9_operand 4 (some .boolean) 0 9 := ⟨lb_X9_operand, gs_7 64 rfl rfl, gs_7 66 rfl rfl, gp_6 4 rfl, _, rfl, rfl⟩
set_option maxRecDepth 100000 in
theorem lb_X9_named : LB_ yX9_named cX9_named 5 (some .int) 2 := ⟨gs_7 5 rfl rfl, gs_1 14 rfl rfl, ⟨by decide +kernel, by decide +kernel, by decide +kernel⟩, by decide⟩
set_option maxRecDepth 100000 in
theorem lk_X9_348 : LV_ RX9 348 yX9_named cX9_named 5 (some .int) 2 9 := ⟨lb_X9_named, gs_7 2 rfl rfl, gs_7 4 rfl rfl, gp_5 6 rfl, _, rfl, rfl⟩
set_option maxRecDepth 100000 in
theorem lb_X9_looked : LB_ yX9_looked cX9_looked 3 (some .int) 1 := ⟨gs_7 36 rfl rfl, gs_1 14 rfl rfl, ⟨by decide +kernel, by decide +kernel, by decide +kernel⟩, by decide⟩
set_option maxRecDepth 100000 in
theorem lk_X9_352 : LV_ RX9 352 yX9_looked cX9_looked 3 (some .int) 1 9 := ⟨lb_X9_looked, gs_7 33 rfl rfl, gs_7 35 rfl rfl, gp_5 13 rfl, _, rfl, rfl⟩
set_option maxRecDepth 100000 in
theorem lb_X9_counts : LB_ yX9_counts cX9_counts 2 (some .boolean) 1 := ⟨gs_6 237 rfl rfl, gs_1 14 rfl rfl, ⟨by decide +kernel, by decide +kernel, by decide +kernel⟩, by decide⟩
set_option maxRecDepth 100000 in
theorem lk_X9_355 : LV_ RX9 355 yX9_counts cX9_counts 2 (some .boolean) 1 9 := ⟨lb_X9_counts, gs_6 234 rfl rfl, gs_6 236 rfl rfl, gp_5 4 rfl, _, rfl, rfl⟩
set_option maxRecDepth 100000 in
theorem lb_X9_fresh : LB_ yX9_fresh cX9_fresh 3 (some .long) 0 := ⟨gs_7 1 rfl rfl, gs_1 14 rfl rfl, ⟨by decide +kernel, by decide +kernel, by decide +kernel⟩, by decide⟩
set_option maxRecDepth 100000 in
theorem lk_X9_359 : LV_ RX9 359 yX9_fresh cX9_fresh 3 (some .long) 0 9 := ⟨lb_X9_fresh, gs_6 238 rfl rfl, gs_7 0 rfl rfl, gp_5 5 rfl, _, rfl, rfl⟩
set_option maxRecDepth 100000 in
theorem lb_X9_must_ : LB_ yX9_must_ cX9_must_ 3 none 1 := ⟨gs_7 17 rfl rfl, gs_1 14 rfl rfl, ⟨by decide +kernel, by decide +kernel, by decide +kernel⟩, by decide⟩
set_option maxRecDepth 100000 in
theorem lk_X9_363 : LV_ RX9 363 yX9_must_ cX9_must_ 3 none 1 9 := ⟨lb_X9_must_, gs_7 14 rfl rfl, gs_7 16 rfl rfl, gp_5 9 rfl, _, rfl, rfl⟩
set_option maxRecDepth 100000 in
theorem fl_X9_57 : FL_ RX9 57 9 15 := ⟨_, rfl, by decide, gs_5 197 rfl rfl⟩
set_option maxRecDepth 100000 in
theorem lb_X9_number : LB_ yX9_number cX9_number 4 (some .int) 2 := ⟨gs_7 21 rfl rfl, gs_1 14 rfl rfl, ⟨by decide +kernel, by decide +kernel, by decide +kernel⟩, by decide⟩
set_option maxRecDepth 100000 in
theorem lk_X9_367 : LV_ RX9 367 yX9_number cX9_number 4 (some .int) 2 9 := ⟨lb_X9_number, gs_7 18 rfl rfl, gs_7 20 rfl rfl, gp_5 10 rfl, _, rfl, rfl⟩
set_option maxRecDepth 100000 in
theorem fl_X9_63 : FL_ RX9 63 9 17 := ⟨_, rfl, by decide, gs_5 199 rfl rfl⟩
set_option maxRecDepth 100000 in
theorem fl_X9_66 : FL_ RX9 66 9 18 := ⟨_, rfl, by decide, gs_5 200 rfl rfl⟩
set_option maxRecDepth 100000 in
theorem lb_X9_asked : LB_ yX9_asked cX9_asked 3 (some .int) 1 := ⟨gs_7 32 rfl rfl, gs_1 14 rfl rfl, ⟨by decide +kernel, by decide +kernel, by decide +kernel⟩, by decide⟩
set_option maxRecDepth 100000 in
theorem lk_X9_370 : LV_ RX9 370 yX9_asked cX9_asked 3 (some .int) 1 9 := ⟨lb_X9_asked, gs_7 29 rfl rfl, gs_7 31 rfl rfl, gp_5 12 rfl, _, rfl, rfl⟩
set_option maxRecDepth 100000 in
theorem fl_X9_69 : FL_ RX9 69 9 19 := ⟨_, rfl, by decide, gs_5 201 rfl rfl⟩
set_option maxRecDepth 100000 in
theorem fl_X9_72 : FL_ RX9 72 9 20 := ⟨_, rfl, by decide, gs_5 202 rfl rfl⟩
set_option maxRecDepth 100000 in
theorem lb_X9_has2 : LB_ yX9_has2 cX9_has2 2 (some .boolean) 2 := ⟨gs_7 39 rfl rfl, gs_1 14 rfl rfl, ⟨by decide +kernel, by decide +kernel, by decide +kernel⟩, by decide⟩
set_option maxRecDepth 100000 in
theorem lk_X9_373 : LS_ RX9 373 yX9_has2 cX9_has2 2 (some .boolean) 2 := ⟨lb_X9_has2, gs_7 37 rfl rfl, gs_7 38 rfl rfl⟩
set_option maxRecDepth 100000 in
theorem fl_X9_78 : FL_ RX9 78 9 22 := ⟨_, rfl, by decide, gs_5 204 rfl rfl⟩
set_option maxRecDepth 100000 in
theorem fl_X9_81 : FL_ RX9 81 9 23 := ⟨_, rfl, by decide, gs_5 205 rfl rfl⟩
set_option maxRecDepth 100000 in
theorem fl_X9_87 : FL_ RX9 87 9 25 := ⟨_, rfl, by decide, gs_5 207 rfl rfl⟩
set_option maxRecDepth 100000 in
theorem fl_X9_84 : FL_ RX9 84 9 24 := ⟨_, rfl, by decide, gs_5 206 rfl rfl⟩
set_option maxRecDepth 100000 in
theorem lb_X9_reads : LB_ yX9_reads cX9_reads 3 none 1 := ⟨gs_7 59 rfl rfl, gs_1 14 rfl rfl, ⟨by decide +kernel, by decide +kernel, by decide +kernel⟩, by decide⟩
set_option maxRecDepth 100000 in
theorem lk_X9_377 : LV_ RX9 377 yX9_reads cX9_reads 3 none 1 9 := ⟨lb_X9_reads, gs_7 56 rfl rfl, gs_7 58 rfl rfl, gp_6 2 rfl, _, rfl, rfl⟩
set_option maxRecDepth 100000 in
theorem fl_X9_93 : FL_ RX9 93 9 27 := ⟨_, rfl, by decide, gs_5 209 rfl rfl⟩
set_option maxRecDepth 100000 in
theorem fl_X9_99 : FL_ RX9 99 9 29 := ⟨_, rfl, by decide, gs_5 211 rfl rfl⟩
set_option maxRecDepth 100000 in
theorem lb_X9_pricing : LB_ yX9_pricing cX9_pricing 1 none 0 := ⟨gs_7 101 rfl rfl, gs_1 14 rfl rfl, ⟨by decide +kernel, by decide +kernel, by decide +kernel⟩, by decide⟩
set_option maxRecDepth 100000 in
theorem lk_X9_399 : LV_ RX9 399 yX9_pricing cX9_pricing 1 none 0 9 := ⟨lb_X9_pricing, gs_7 98 rfl rfl, gs_7 100 rfl rfl, gp_6 11 rfl, _, rfl, rfl⟩
set_option maxRecDepth 100000 in
theorem lb_X9_presenting : LB_ yX9_presenting cX9_presenting 1 none 0 := ⟨gs_7 55 rfl rfl, gs_1 14 rfl rfl, ⟨by decide +kernel, by decide +kernel, by decide +kernel⟩, by decide⟩
set_option maxRecDepth 100000 in
theorem lk_X9_396 : LV_ RX9 396 yX9_presenting cX9_presenting 1 none 0 9 := ⟨lb_X9_presenting, gs_7 52 rfl rfl, gs_7 54 rfl rfl, gp_6 1 rfl, _, rfl, rfl⟩
set_option maxRecDepth 100000 in
theorem lb_X9_telling : LB_ yX9_telling cX9_telling 3 none 1 := ⟨gs_7 51 rfl rfl, gs_1 14 rfl rfl, ⟨by decide +kernel, by decide +kernel, by decide +kernel⟩, by decide⟩
set_option maxRecDepth 100000 in
theorem lk_X9_393 : LV_ RX9 393 yX9_telling cX9_telling 3 none 1 9 := ⟨lb_X9_telling, gs_7 48 rfl rfl, gs_7 50 rfl rfl, gp_6 0 rfl, _, rfl, rfl⟩
set_option maxRecDepth 100000 in
theorem lb_X9_snubbing : LB_ yX9_snubbing cX9_snubbing 3 none 0 := ⟨gs_7 47 rfl rfl, gs_1 14 rfl rfl, ⟨by decide +kernel, by decide +kernel, by decide +kernel⟩, by decide⟩
set_option maxRecDepth 100000 in
theorem lk_X9_390 : LV_ RX9 390 yX9_snubbing cX9_snubbing 3 none 0 9 := ⟨lb_X9_snubbing, gs_7 44 rfl rfl, gs_7 46 rfl rfl, gp_5 15 rfl, _, rfl, rfl⟩
set_option maxRecDepth 100000 in
theorem lb_X9_waring : LB_ yX9_waring cX9_waring 2 none 0 := ⟨gs_7 43 rfl rfl, gs_1 14 rfl rfl, ⟨by decide +kernel, by decide +kernel, by decide +kernel⟩, by decide⟩
set_option maxRecDepth 100000 in
theorem lk_X9_387 : LV_ RX9 387 yX9_waring cX9_waring 2 none 0 9 := ⟨lb_X9_waring, gs_7 40 rfl rfl, gs_7 42 rfl rfl, gp_5 14 rfl, _, rfl, rfl⟩
set_option maxRecDepth 100000 in
theorem lb_X9_coining : LB_ yX9_coining cX9_coining 4 none 0 := ⟨gs_7 28 rfl rfl, gs_1 14 rfl rfl, ⟨by decide +kernel, by decide +kernel, by decide +kernel⟩, by decide⟩
set_option maxRecDepth 100000 in
theorem lk_X9_384 : LV_ RX9 384 yX9_coining cX9_coining 4 none 0 9 := ⟨lb_X9_coining, gs_7 25 rfl rfl, gs_7 27 rfl rfl, gp_5 11 rfl, _, rfl, rfl⟩
set_option maxRecDepth 100000 in
theorem lb_X9_personing : LB_ yX9_personing cX9_personing 2 none 0 := ⟨gs_6 233 rfl rfl, gs_1 14 rfl rfl, ⟨by decide +kernel, by decide +kernel, by decide +kernel⟩, by decide⟩
set_option maxRecDepth 100000 in
theorem lk_X9_381 : LV_ RX9 381 yX9_personing cX9_personing 2 none 0 9 := ⟨lb_X9_personing, gs_6 230 rfl rfl, gs_6 232 rfl rfl, gp_5 3 rfl, _, rfl, rfl⟩
set_option maxRecDepth 100000 in
theorem lb_X9_must : LB_ yX9_must cX9_must 2 none 1 := ⟨gs_7 109 rfl rfl, gs_1 14 rfl rfl, ⟨by decide +kernel, by decide +kernel, by decide +kernel⟩, by decide⟩
set_option maxRecDepth 100000 in
theorem lk_X9_402 : LV_ RX9 402 yX9_must cX9_must 2 none 1 9 := ⟨lb_X9_must, gs_7 106 rfl rfl, gs_7 108 rfl rfl, gp_6 13 rfl, _, rfl, rfl⟩
set_option maxRecDepth 100000 in
theorem fl_X9_159 : FL_ RX9 159 9 48 := ⟨_, rfl, by decide, gs_5 230 rfl rfl⟩
set_option maxRecDepth 100000 in
theorem fl_X9_162 : FL_ RX9 162 9 49 := ⟨_, rfl, by decide, gs_5 231 rfl rfl⟩
set_option maxRecDepth 100000 in
theorem fl_X9_51 : FL_ RX9 51 9 13 := ⟨_, rfl, by decide, gs_5 195 rfl rfl⟩
set_option maxRecDepth 100000 in
theorem fl_X9_165 : FL_ RX9 165 9 50 := ⟨_, rfl, by decide, gs_5 232 rfl rfl⟩
set_option maxRecDepth 100000 in
theorem fl_X9_168 : FL_ RX9 168 9 51 := ⟨_, rfl, by decide, gs_5 233 rfl rfl⟩
set_option maxRecDepth 100000 in
theorem fl_X9_171 : FL_ RX9 171 9 52 := ⟨_, rfl, by decide, gs_5 234 rfl rfl⟩
set_option maxRecDepth 100000 in
theorem lb_X9_statement : LB_ yX9_statement cX9_statement 1 none 0 := ⟨gs_6 217 rfl rfl, gs_1 14 rfl rfl, ⟨by decide +kernel, by decide +kernel, by decide +kernel⟩, by decide⟩
set_option maxRecDepth 100000 in
theorem lk_X9_404 : LV_ RX9 404 yX9_statement cX9_statement 1 none 0 9 := ⟨lb_X9_statement, gs_6 214 rfl rfl, gs_6 216 rfl rfl, gp_4 15 rfl, _, rfl, rfl⟩
set_option maxRecDepth 100000 in
theorem lb_X9_finishes : LB_ yX9_finishes cX9_finishes 3 none 1 := ⟨gs_7 105 rfl rfl, gs_1 14 rfl rfl, ⟨by decide +kernel, by decide +kernel, by decide +kernel⟩, by decide⟩
set_option maxRecDepth 100000 in
theorem lk_X9_407 : LV_ RX9 407 yX9_finishes cX9_finishes 3 none 1 9 := ⟨lb_X9_finishes, gs_7 102 rfl rfl, gs_7 104 rfl rfl, gp_6 12 rfl, _, rfl, rfl⟩
set_option maxRecDepth 100000 in
theorem fl_X9_39 : FL_ RX9 39 9 9 := ⟨_, rfl, by decide, gs_5 191 rfl rfl⟩
set_option maxRecDepth 100000 in
theorem lb_X9_begin : LB_ yX9_begin cX9_begin 2 none 0 := ⟨gs_7 113 rfl rfl, gs_1 14 rfl rfl, ⟨by decide +kernel, by decide +kernel, by decide +kernel⟩, by decide⟩
set_option maxRecDepth 100000 in
theorem lk_X9_410 : LV_ RX9 410 yX9_begin cX9_begin 2 none 0 9 := ⟨lb_X9_begin, gs_7 110 rfl rfl, gs_7 112 rfl rfl, gp_6 14 rfl, _, rfl, rfl⟩
set_option maxRecDepth 100000 in
theorem fl_X9_45 : FL_ RX9 45 9 11 := ⟨_, rfl, by decide, gs_5 193 rfl rfl⟩
set_option maxRecDepth 100000 in
theorem fl_X9_42 : FL_ RX9 42 9 10 := ⟨_, rfl, by decide, gs_5 192 rfl rfl⟩
set_option maxRecDepth 100000 in
theorem fl_X9_174 : FL_ RX9 174 9 53 := ⟨_, rfl, by decide, gs_5 235 rfl rfl⟩
set_option maxRecDepth 100000 in
theorem fl_X9_177 : FL_ RX9 177 9 54 := ⟨_, rfl, by decide, gs_5 236 rfl rfl⟩
set_option maxRecDepth 100000 in
theorem lb_X9_ring : LB_ yX9_ring cX9_ring 2 (some .int) 1 := ⟨gs_7 129 rfl rfl, gs_1 14 rfl rfl, ⟨by decide +kernel, by decide +kernel, by decide +kernel⟩, by decide⟩
set_option maxRecDepth 100000 in
theorem lk_X9_413 : LV_ RX9 413 yX9_ring cX9_ring 2 (some .int) 1 9 := ⟨lb_X9_ring, gs_7 126 rfl rfl, gs_7 128 rfl rfl, gp_6 15 rfl, _, rfl, rfl⟩
set_option maxRecDepth 100000 in
theorem lb_X9_copies : LB_ yX9_copies cX9_copies 4 none 2 := ⟨gs_7 133 rfl rfl, gs_1 14 rfl rfl, ⟨by decide +kernel, by decide +kernel, by decide +kernel⟩, by decide⟩
set_option maxRecDepth 100000 in
theorem lk_X9_416 : LV_ RX9 416 yX9_copies cX9_copies 4 none 2 9 := ⟨lb_X9_copies, gs_7 130 rfl rfl, gs_7 132 rfl rfl, gp_7 0 rfl, _, rfl, rfl⟩
set_option maxRecDepth 100000 in
theorem lb_X9_worthOf : LB_ yX9_worthOf cX9_worthOf 2 (some .int) 1 := ⟨gs_7 145 rfl rfl, gs_1 14 rfl rfl, ⟨by decide +kernel, by decide +kernel, by decide +kernel⟩, by decide⟩
set_option maxRecDepth 100000 in
theorem lk_X9_419 : LV_ RX9 419 yX9_worthOf cX9_worthOf 2 (some .int) 1 9 := ⟨lb_X9_worthOf, gs_7 142 rfl rfl, gs_7 144 rfl rfl, gp_7 2 rfl, _, rfl, rfl⟩
set_option maxRecDepth 100000 in
theorem fl_X9_186 : FL_ RX9 186 9 57 := ⟨_, rfl, by decide, gs_5 239 rfl rfl⟩
set_option maxRecDepth 100000 in
theorem fl_X9_189 : FL_ RX9 189 9 58 := ⟨_, rfl, by decide, gs_6 0 rfl rfl⟩
set_option maxRecDepth 100000 in
theorem fl_X9_192 : FL_ RX9 192 9 59 := ⟨_, rfl, by decide, gs_6 1 rfl rfl⟩
set_option maxRecDepth 100000 in
theorem fl_X9_195 : FL_ RX9 195 9 60 := ⟨_, rfl, by decide, gs_6 2 rfl rfl⟩
set_option maxRecDepth 100000 in
theorem fl_X9_198 : FL_ RX9 198 9 61 := ⟨_, rfl, by decide, gs_6 3 rfl rfl⟩
set_option maxRecDepth 100000 in
theorem fl_X9_201 : FL_ RX9 201 9 62 := ⟨_, rfl, by decide, gs_6 4 rfl rfl⟩
set_option maxRecDepth 100000 in
theorem ck_X9_422 : Cond.constantLong RX9 422 (i64 1000000) ∈ gw_tbl := gs_7 224 rfl rfl
set_option maxRecDepth 100000 in
theorem ck_X9_424 : Cond.constantLong RX9 424 (i64 (-1000000)) ∈ gw_tbl := gs_7 225 rfl rfl
set_option maxRecDepth 100000 in
theorem lb_X9_held : LB_ yX9_held cX9_held 2 (some .long) 1 := ⟨gs_7 223 rfl rfl, gs_1 14 rfl rfl, ⟨by decide +kernel, by decide +kernel, by decide +kernel⟩, by decide⟩
set_option maxRecDepth 100000 in
theorem lk_X9_426 : LS_ RX9 426 yX9_held cX9_held 2 (some .long) 1 := ⟨lb_X9_held, gs_7 221 rfl rfl, gs_7 222 rfl rfl⟩
set_option maxRecDepth 100000 in
theorem lb_X9_floor : LB_ yX9_floor cX9_floor 6 (some .long) 2 := ⟨gs_7 228 rfl rfl, gs_1 14 rfl rfl, ⟨by decide +kernel, by decide +kernel, by decide +kernel⟩, by decide⟩
set_option maxRecDepth 100000 in
theorem lk_X9_430 : LS_ RX9 430 yX9_floor cX9_floor 6 (some .long) 2 := ⟨lb_X9_floor, gs_7 226 rfl rfl, gs_7 227 rfl rfl⟩
set_option maxRecDepth 100000 in
theorem fl_X9_183 : FL_ RX9 183 9 56 := ⟨_, rfl, by decide, gs_5 238 rfl rfl⟩
set_option maxRecDepth 100000 in
theorem lb_X9_two : LB_ yX9_two cX9_two 5 (some .long) 3 := ⟨gs_7 220 rfl rfl, gs_1 14 rfl rfl, ⟨by decide +kernel, by decide +kernel, by decide +kernel⟩, by decide⟩
set_option maxRecDepth 100000 in
theorem lk_X9_438 : LS_ RX9 438 yX9_two cX9_two 5 (some .long) 3 := ⟨lb_X9_two, gs_7 218 rfl rfl, gs_7 219 rfl rfl⟩
set_option maxRecDepth 100000 in
theorem lb_X9_part : LB_ yX9_part cX9_part 3 (some .long) 2 := ⟨gs_7 217 rfl rfl, gs_1 14 rfl rfl, ⟨by decide +kernel, by decide +kernel, by decide +kernel⟩, by decide⟩
set_option maxRecDepth 100000 in
theorem lk_X9_434 : LV_ RX9 434 yX9_part cX9_part 3 (some .long) 2 9 := ⟨lb_X9_part, gs_7 214 rfl rfl, gs_7 216 rfl rfl, gp_7 14 rfl, _, rfl, rfl⟩
set_option maxRecDepth 100000 in
theorem lb_X9_rankOf : LB_ yX9_rankOf cX9_rankOf 2 (some .int) 1 := ⟨gs_7 173 rfl rfl, gs_1 14 rfl rfl, ⟨by decide +kernel, by decide +kernel, by decide +kernel⟩, by decide⟩
set_option maxRecDepth 100000 in
theorem lk_X9_442 : LV_ RX9 442 yX9_rankOf cX9_rankOf 2 (some .int) 1 9 := ⟨lb_X9_rankOf, gs_7 170 rfl rfl, gs_7 172 rfl rfl, gp_7 6 rfl, _, rfl, rfl⟩
set_option maxRecDepth 100000 in
theorem lb_X9_reckons : LB_ yX9_reckons cX9_reckons 6 (some .long) 2 := ⟨gs_7 213 rfl rfl, gs_1 14 rfl rfl, ⟨by decide +kernel, by decide +kernel, by decide +kernel⟩, by decide⟩
set_option maxRecDepth 100000 in
theorem lk_X9_445 : LV_ RX9 445 yX9_reckons cX9_reckons 6 (some .long) 2 9 := ⟨lb_X9_reckons, gs_7 210 rfl rfl, gs_7 212 rfl rfl, gp_7 13 rfl, _, rfl, rfl⟩
set_option maxRecDepth 100000 in
theorem lb_X9_bits : LB_ yX9_bits cX9_bits 3 (some .int) 1 := ⟨gs_7 148 rfl rfl, gs_1 14 rfl rfl, ⟨by decide +kernel, by decide +kernel, by decide +kernel⟩, by decide⟩
set_option maxRecDepth 100000 in
theorem lk_X9_448 : LS_ RX9 448 yX9_bits cX9_bits 3 (some .int) 1 := ⟨lb_X9_bits, gs_7 146 rfl rfl, gs_7 147 rfl rfl⟩
set_option maxRecDepth 100000 in
theorem lb_X9_heldBy : LB_ yX9_heldBy cX9_heldBy 5 (some .int) 2 := ⟨gs_7 156 rfl rfl, gs_1 14 rfl rfl, ⟨by decide +kernel, by decide +kernel, by decide +kernel⟩, by decide⟩
set_option maxRecDepth 100000 in
theorem lk_X9_451 : LV_ RX9 451 yX9_heldBy cX9_heldBy 5 (some .int) 2 9 := ⟨lb_X9_heldBy, gs_7 153 rfl rfl, gs_7 155 rfl rfl, gp_7 4 rfl, _, rfl, rfl⟩
set_option maxRecDepth 100000 in
theorem lb_X9_holdsTest : LB_ yX9_holdsTest cX9_holdsTest 7 (some .boolean) 6 := ⟨gs_7 209 rfl rfl, gs_1 14 rfl rfl, ⟨by decide +kernel, by decide +kernel, by decide +kernel⟩, by decide⟩
set_option maxRecDepth 100000 in
theorem lk_X9_454 : LV_ RX9 454 yX9_holdsTest cX9_holdsTest 7 (some .boolean) 6 9 := ⟨lb_X9_holdsTest, gs_7 206 rfl rfl, gs_7 208 rfl rfl, gp_7 12 rfl, _, rfl, rfl⟩
set_option maxRecDepth 100000 in
theorem lb_X9_knowing : LB_ yX9_knowing cX9_knowing 5 (some .int) 2 := ⟨gs_7 181 rfl rfl, gs_1 14 rfl rfl, ⟨by decide +kernel, by decide +kernel, by decide +kernel⟩, by decide⟩
set_option maxRecDepth 100000 in
theorem lk_X9_458 : LV_ RX9 458 yX9_knowing cX9_knowing 5 (some .int) 2 9 := ⟨lb_X9_knowing, gs_7 178 rfl rfl, gs_7 180 rfl rfl, gp_7 8 rfl, _, rfl, rfl⟩
set_option maxRecDepth 100000 in
theorem ck_X9_461 : Cond.constantLong RX9 461 (i64 999) ∈ gw_tbl := gs_8 1 rfl rfl
set_option maxRecDepth 100000 in
theorem lb_X9_flowOf : LB_ yX9_flowOf cX9_flowOf 4 (some .int) 1 := ⟨gs_7 141 rfl rfl, gs_1 14 rfl rfl, ⟨by decide +kernel, by decide +kernel, by decide +kernel⟩, by decide⟩
set_option maxRecDepth 100000 in
theorem lk_X9_463 : LV_ RX9 463 yX9_flowOf cX9_flowOf 4 (some .int) 1 9 := ⟨lb_X9_flowOf, gs_7 138 rfl rfl, gs_7 140 rfl rfl, gp_7 1 rfl, _, rfl, rfl⟩
set_option maxRecDepth 100000 in
theorem lb_X9_isUseless : LB_ yX9_isUseless cX9_isUseless 5 (some .boolean) 2 := ⟨gs_7 152 rfl rfl, gs_1 14 rfl rfl, ⟨by decide +kernel, by decide +kernel, by decide +kernel⟩, by decide⟩
set_option maxRecDepth 100000 in
theorem lk_X9_466 : LV_ RX9 466 yX9_isUseless cX9_isUseless 5 (some .boolean) 2 9 := ⟨lb_X9_isUseless, gs_7 149 rfl rfl, gs_7 151 rfl rfl, gp_7 3 rfl, _, rfl, rfl⟩
set_option maxRecDepth 100000 in
theorem fl_X9_180 : FL_ RX9 180 9 55 := ⟨_, rfl, by decide, gs_5 237 rfl rfl⟩
set_option maxRecDepth 100000 in
theorem ck_X9_469 : Cond.constantLong RX9 469 (i64 255) ∈ gw_tbl := gs_7 161 rfl rfl
set_option maxRecDepth 100000 in
theorem lb_X9_isPerson : LB_ yX9_isPerson cX9_isPerson 2 (some .boolean) 1 := ⟨gs_7 169 rfl rfl, gs_1 14 rfl rfl, ⟨by decide +kernel, by decide +kernel, by decide +kernel⟩, by decide⟩
set_option maxRecDepth 100000 in
theorem lk_X9_471 : LV_ RX9 471 yX9_isPerson cX9_isPerson 2 (some .boolean) 1 9 := ⟨lb_X9_isPerson, gs_7 166 rfl rfl, gs_7 168 rfl rfl, gp_7 5 rfl, _, rfl, rfl⟩
set_option maxRecDepth 100000 in
theorem lb_X9_worthAll : LB_ yX9_worthAll cX9_worthAll 4 (some .int) 1 := ⟨gs_7 177 rfl rfl, gs_1 14 rfl rfl, ⟨by decide +kernel, by decide +kernel, by decide +kernel⟩, by decide⟩
set_option maxRecDepth 100000 in
theorem lk_X9_474 : LV_ RX9 474 yX9_worthAll cX9_worthAll 4 (some .int) 1 9 := ⟨lb_X9_worthAll, gs_7 174 rfl rfl, gs_7 176 rfl rfl, gp_7 7 rfl, _, rfl, rfl⟩
set_option maxRecDepth 100000 in
theorem lb_X9_isCoin : LB_ yX9_isCoin cX9_isCoin 2 (some .boolean) 1 := ⟨gs_7 189 rfl rfl, gs_1 14 rfl rfl, ⟨by decide +kernel, by decide +kernel, by decide +kernel⟩, by decide⟩
set_option maxRecDepth 100000 in
theorem lk_X9_477 : LV_ RX9 477 yX9_isCoin cX9_isCoin 2 (some .boolean) 1 9 := ⟨lb_X9_isCoin, gs_7 186 rfl rfl, gs_7 188 rfl rfl, gp_7 9 rfl, _, rfl, rfl⟩
set_option maxRecDepth 100000 in
theorem lb_X9_canPresent : LB_ yX9_canPresent cX9_canPresent 4 (some .boolean) 3 := ⟨gs_7 201 rfl rfl, gs_1 14 rfl rfl, ⟨by decide +kernel, by decide +kernel, by decide +kernel⟩, by decide⟩
set_option maxRecDepth 100000 in
theorem lk_X9_480 : LV_ RX9 480 yX9_canPresent cX9_canPresent 4 (some .boolean) 3 9 := ⟨lb_X9_canPresent, gs_7 198 rfl rfl, gs_7 200 rfl rfl, gp_7 10 rfl, _, rfl, rfl⟩
set_option maxRecDepth 100000 in
theorem lb_X9_wouldKnow : LB_ yX9_wouldKnow cX9_wouldKnow 5 (some .boolean) 3 := ⟨gs_7 205 rfl rfl, gs_1 14 rfl rfl, ⟨by decide +kernel, by decide +kernel, by decide +kernel⟩, by decide⟩
set_option maxRecDepth 100000 in
theorem lk_X9_483 : LV_ RX9 483 yX9_wouldKnow cX9_wouldKnow 5 (some .boolean) 3 9 := ⟨lb_X9_wouldKnow, gs_7 202 rfl rfl, gs_7 204 rfl rfl, gp_7 11 rfl, _, rfl, rfl⟩
set_option maxRecDepth 100000 in
theorem lb_X9_isWare : LB_ yX9_isWare cX9_isWare 2 (some .boolean) 1 := ⟨gs_7 236 rfl rfl, gs_1 14 rfl rfl, ⟨by decide +kernel, by decide +kernel, by decide +kernel⟩, by decide⟩
set_option maxRecDepth 100000 in
theorem lk_X9_486 : LV_ RX9 486 yX9_isWare cX9_isWare 2 (some .boolean) 1 9 := ⟨lb_X9_isWare, gs_7 233 rfl rfl, gs_7 235 rfl rfl, gp_7 15 rfl, _, rfl, rfl⟩
set_option maxRecDepth 100000 in
theorem lb_X9_priceFor : LB_ yX9_priceFor cX9_priceFor 7 (some .int) 2 := ⟨gs_8 0 rfl rfl, gs_1 14 rfl rfl, ⟨by decide +kernel, by decide +kernel, by decide +kernel⟩, by decide⟩
set_option maxRecDepth 100000 in
theorem lk_X9_489 : LV_ RX9 489 yX9_priceFor cX9_priceFor 7 (some .int) 2 9 := ⟨lb_X9_priceFor, gs_7 237 rfl rfl, gs_7 239 rfl rfl, gp_8 0 rfl, _, rfl, rfl⟩
set_option maxRecDepth 100000 in
theorem lb_X9_spends : LB_ yX9_spends cX9_spends 3 (some .int) 2 := ⟨gs_8 9 rfl rfl, gs_1 14 rfl rfl, ⟨by decide +kernel, by decide +kernel, by decide +kernel⟩, by decide⟩
set_option maxRecDepth 100000 in
theorem lk_X9_492 : LV_ RX9 492 yX9_spends cX9_spends 3 (some .int) 2 9 := ⟨lb_X9_spends, gs_8 6 rfl rfl, gs_8 8 rfl rfl, gp_8 1 rfl, _, rfl, rfl⟩
set_option maxRecDepth 100000 in
theorem lb_X9_meets : LB_ yX9_meets cX9_meets 4 none 3 := ⟨gs_8 29 rfl rfl, gs_1 14 rfl rfl, ⟨by decide +kernel, by decide +kernel, by decide +kernel⟩, by decide⟩
set_option maxRecDepth 100000 in
theorem lk_X9_495 : LV_ RX9 495 yX9_meets cX9_meets 4 none 3 9 := ⟨lb_X9_meets, gs_8 26 rfl rfl, gs_8 28 rfl rfl, gp_8 5 rfl, _, rfl, rfl⟩
set_option maxRecDepth 100000 in
theorem lb_X9_learns : LB_ yX9_learns cX9_learns 4 none 3 := ⟨gs_8 25 rfl rfl, gs_1 14 rfl rfl, ⟨by decide +kernel, by decide +kernel, by decide +kernel⟩, by decide⟩
set_option maxRecDepth 100000 in
theorem lk_X9_499 : LV_ RX9 499 yX9_learns cX9_learns 4 none 3 9 := ⟨lb_X9_learns, gs_8 22 rfl rfl, gs_8 24 rfl rfl, gp_8 4 rfl, _, rfl, rfl⟩
set_option maxRecDepth 100000 in
theorem lb_X9_keeps : LB_ yX9_keeps cX9_keeps 1 none 0 := ⟨gs_8 17 rfl rfl, gs_1 14 rfl rfl, ⟨by decide +kernel, by decide +kernel, by decide +kernel⟩, by decide⟩
set_option maxRecDepth 100000 in
theorem lk_X9_502 : LV_ RX9 502 yX9_keeps cX9_keeps 1 none 0 9 := ⟨lb_X9_keeps, gs_8 14 rfl rfl, gs_8 16 rfl rfl, gp_8 2 rfl, _, rfl, rfl⟩
set_option maxRecDepth 100000 in
theorem lb_X9_presents : LB_ yX9_presents cX9_presents 5 (some .boolean) 3 := ⟨gs_8 21 rfl rfl, gs_1 14 rfl rfl, ⟨by decide +kernel, by decide +kernel, by decide +kernel⟩, by decide⟩
set_option maxRecDepth 100000 in
theorem lk_X9_505 : LV_ RX9 505 yX9_presents cX9_presents 5 (some .boolean) 3 9 := ⟨lb_X9_presents, gs_8 18 rfl rfl, gs_8 20 rfl rfl, gp_8 3 rfl, _, rfl, rfl⟩
set_option maxRecDepth 100000 in
theorem lb_X9_pays : LB_ yX9_pays cX9_pays 3 none 2 := ⟨gs_8 37 rfl rfl, gs_1 14 rfl rfl, ⟨by decide +kernel, by decide +kernel, by decide +kernel⟩, by decide⟩
set_option maxRecDepth 100000 in
theorem lk_X9_508 : LV_ RX9 508 yX9_pays cX9_pays 3 none 2 9 := ⟨lb_X9_pays, gs_8 34 rfl rfl, gs_8 36 rfl rfl, gp_8 6 rfl, _, rfl, rfl⟩
set_option maxRecDepth 100000 in
theorem lb_X9_changeOf : LB_ yX9_changeOf cX9_changeOf 5 (some .int) 2 := ⟨gs_8 45 rfl rfl, gs_1 14 rfl rfl, ⟨by decide +kernel, by decide +kernel, by decide +kernel⟩, by decide⟩
set_option maxRecDepth 100000 in
theorem lk_X9_511 : LV_ RX9 511 yX9_changeOf cX9_changeOf 5 (some .int) 2 9 := ⟨lb_X9_changeOf, gs_8 42 rfl rfl, gs_8 44 rfl rfl, gp_8 7 rfl, _, rfl, rfl⟩
set_option maxRecDepth 100000 in
theorem lb_X9_teaOf : LB_ yX9_teaOf cX9_teaOf 6 (some .int) 2 := ⟨gs_8 53 rfl rfl, gs_1 14 rfl rfl, ⟨by decide +kernel, by decide +kernel, by decide +kernel⟩, by decide⟩
set_option maxRecDepth 100000 in
theorem lk_X9_514 : LV_ RX9 514 yX9_teaOf cX9_teaOf 6 (some .int) 2 9 := ⟨lb_X9_teaOf, gs_8 50 rfl rfl, gs_8 52 rfl rfl, gp_8 8 rfl, _, rfl, rfl⟩
set_option maxRecDepth 100000 in
theorem lb_X9_dayGoes : LB_ yX9_dayGoes cX9_dayGoes 6 (some .int) 1 := ⟨gs_8 61 rfl rfl, gs_1 14 rfl rfl, ⟨by decide +kernel, by decide +kernel, by decide +kernel⟩, by decide⟩
set_option maxRecDepth 100000 in
theorem lk_X9_517 : LV_ RX9 517 yX9_dayGoes cX9_dayGoes 6 (some .int) 1 9 := ⟨lb_X9_dayGoes, gs_8 58 rfl rfl, gs_8 60 rfl rfl, gp_8 9 rfl, _, rfl, rfl⟩
set_option maxRecDepth 100000 in
theorem ck_X9_520 : Cond.constantLong RX9 520 (i64 1103515245) ∈ gw_tbl := gs_8 70 rfl rfl
set_option maxRecDepth 100000 in
theorem ck_X9_522 : Cond.constantLong RX9 522 (i64 12345) ∈ gw_tbl := gs_8 71 rfl rfl
set_option maxRecDepth 100000 in
theorem ck_X9_524 : Cond.constantLong RX9 524 (i64 2147483648) ∈ gw_tbl := gs_8 72 rfl rfl
set_option maxRecDepth 100000 in
theorem ck_X9_526 : Cond.constantLong RX9 526 (i64 64) ∈ gw_tbl := gs_8 73 rfl rfl
set_option maxRecDepth 100000 in
theorem lb_X9_draw : LB_ yX9_draw cX9_draw 2 (some .int) 1 := ⟨gs_8 69 rfl rfl, gs_1 14 rfl rfl, ⟨by decide +kernel, by decide +kernel, by decide +kernel⟩, by decide⟩
set_option maxRecDepth 100000 in
theorem lk_X9_528 : LV_ RX9 528 yX9_draw cX9_draw 2 (some .int) 1 9 := ⟨lb_X9_draw, gs_8 66 rfl rfl, gs_8 68 rfl rfl, gp_8 10 rfl, _, rfl, rfl⟩
set_option maxRecDepth 100000 in
theorem fl_X9_207 : FL_ RX9 207 9 64 := ⟨_, rfl, by decide, gs_6 6 rfl rfl⟩
set_option maxRecDepth 100000 in
theorem fl_X9_204 : FL_ RX9 204 9 63 := ⟨_, rfl, by decide, gs_6 5 rfl rfl⟩
set_option maxRecDepth 100000 in
theorem fl_X9_210 : FL_ RX9 210 9 65 := ⟨_, rfl, by decide, gs_6 7 rfl rfl⟩
set_option maxRecDepth 100000 in
theorem fl_X9_213 : FL_ RX9 213 9 66 := ⟨_, rfl, by decide, gs_6 8 rfl rfl⟩
set_option maxRecDepth 100000 in
theorem lb_X9_reaches : LB_ yX9_reaches cX9_reaches 6 none 4 := ⟨gs_8 94 rfl rfl, gs_1 14 rfl rfl, ⟨by decide +kernel, by decide +kernel, by decide +kernel⟩, by decide⟩
set_option maxRecDepth 100000 in
theorem lk_X9_531 : LV_ RX9 531 yX9_reaches cX9_reaches 6 none 4 9 := ⟨lb_X9_reaches, gs_8 91 rfl rfl, gs_8 93 rfl rfl, gp_8 12 rfl, _, rfl, rfl⟩
set_option maxRecDepth 100000 in
theorem ck_X9_535 : Cond.constant RX9 535 (i32 100000000) ∈ gw_tbl := gs_8 90 rfl rfl
set_option maxRecDepth 100000 in
theorem lb_X9_goesOn_ : LB_ yX9_goesOn_ cX9_goesOn_ 7 none 2 := ⟨gs_8 98 rfl rfl, gs_1 14 rfl rfl, ⟨by decide +kernel, by decide +kernel, by decide +kernel⟩, by decide⟩
set_option maxRecDepth 100000 in
theorem lk_X9_536 : LV_ RX9 536 yX9_goesOn_ cX9_goesOn_ 7 none 2 9 := ⟨lb_X9_goesOn_, gs_8 95 rfl rfl, gs_8 97 rfl rfl, gp_8 13 rfl, _, rfl, rfl⟩
set_option maxRecDepth 100000 in
theorem lb_X9_findsState : LB_ yX9_findsState cX9_findsState 4 (some .int) 2 := ⟨gs_8 89 rfl rfl, gs_1 14 rfl rfl, ⟨by decide +kernel, by decide +kernel, by decide +kernel⟩, by decide⟩
set_option maxRecDepth 100000 in
theorem lk_X9_538 : LV_ RX9 538 yX9_findsState cX9_findsState 4 (some .int) 2 9 := ⟨lb_X9_findsState, gs_8 86 rfl rfl, gs_8 88 rfl rfl, gp_8 11 rfl, _, rfl, rfl⟩
set_option maxRecDepth 100000 in
theorem fl_X9_216 : FL_ RX9 216 9 67 := ⟨_, rfl, by decide, gs_6 9 rfl rfl⟩
set_option maxRecDepth 100000 in
theorem fl_X9_219 : FL_ RX9 219 9 68 := ⟨_, rfl, by decide, gs_6 10 rfl rfl⟩
set_option maxRecDepth 100000 in
theorem lb_X9_isAhead : LB_ yX9_isAhead cX9_isAhead 2 (some .boolean) 1 := ⟨gs_8 122 rfl rfl, gs_1 14 rfl rfl, ⟨by decide +kernel, by decide +kernel, by decide +kernel⟩, by decide⟩
set_option maxRecDepth 100000 in
theorem lk_X9_541 : LV_ RX9 541 yX9_isAhead cX9_isAhead 2 (some .boolean) 1 9 := ⟨lb_X9_isAhead, gs_8 119 rfl rfl, gs_8 121 rfl rfl, gp_8 14 rfl, _, rfl, rfl⟩
set_option maxRecDepth 100000 in
theorem fl_X9_222 : FL_ RX9 222 9 69 := ⟨_, rfl, by decide, gs_6 11 rfl rfl⟩
set_option maxRecDepth 100000 in
theorem fl_X9_225 : FL_ RX9 225 9 70 := ⟨_, rfl, by decide, gs_6 12 rfl rfl⟩
set_option maxRecDepth 100000 in
theorem lb_X9_writes : LB_ yX9_writes cX9_writes 2 none 1 := ⟨gs_8 134 rfl rfl, gs_1 14 rfl rfl, ⟨by decide +kernel, by decide +kernel, by decide +kernel⟩, by decide⟩
set_option maxRecDepth 100000 in
theorem lk_X9_544 : LV_ RX9 544 yX9_writes cX9_writes 2 none 1 9 := ⟨lb_X9_writes, gs_8 131 rfl rfl, gs_8 133 rfl rfl, gp_8 15 rfl, _, rfl, rfl⟩
set_option maxRecDepth 100000 in
theorem lb_X9_toldOf : LB_ yX9_toldOf cX9_toldOf 4 (some .int) 2 := ⟨gs_8 138 rfl rfl, gs_1 14 rfl rfl, ⟨by decide +kernel, by decide +kernel, by decide +kernel⟩, by decide⟩
set_option maxRecDepth 100000 in
theorem lk_X9_547 : LV_ RX9 547 yX9_toldOf cX9_toldOf 4 (some .int) 2 9 := ⟨lb_X9_toldOf, gs_8 135 rfl rfl, gs_8 137 rfl rfl, gp_9 0 rfl, _, rfl, rfl⟩
set_option maxRecDepth 100000 in
theorem lb_X9_coinOn : LB_ yX9_coinOn cX9_coinOn 6 (some .boolean) 2 := ⟨gs_8 154 rfl rfl, gs_1 14 rfl rfl, ⟨by decide +kernel, by decide +kernel, by decide +kernel⟩, by decide⟩
set_option maxRecDepth 100000 in
theorem lk_X9_550 : LV_ RX9 550 yX9_coinOn cX9_coinOn 6 (some .boolean) 2 9 := ⟨lb_X9_coinOn, gs_8 151 rfl rfl, gs_8 153 rfl rfl, gp_9 2 rfl, _, rfl, rfl⟩
set_option maxRecDepth 100000 in
theorem lb_X9_comesOn : LB_ yX9_comesOn cX9_comesOn 5 (some .boolean) 1 := ⟨gs_8 150 rfl rfl, gs_1 14 rfl rfl, ⟨by decide +kernel, by decide +kernel, by decide +kernel⟩, by decide⟩
set_option maxRecDepth 100000 in
theorem lk_X9_553 : LV_ RX9 553 yX9_comesOn cX9_comesOn 5 (some .boolean) 1 9 := ⟨lb_X9_comesOn, gs_8 147 rfl rfl, gs_8 149 rfl rfl, gp_9 1 rfl, _, rfl, rfl⟩
