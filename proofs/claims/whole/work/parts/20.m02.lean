-- CoinCircle$Teller.newOne(I)I
def fX6_newOne (sh : AwS) (M : AwM) (v0 : Int) (v1 : Int) : Option (Int × AwM) :=
  gd_ (kd_ sh v0 = (0, 6)) (gd_ (kd_ sh (M v0 1) = (0, 5)) (pb (fX5_isFull sh M (M v0 1) v1) <| u1 fun (x4 : Int) => ((if x4 = 0 then gd_ (kd_ sh (M v0 0) = (0, 4)) (pb (fX4_next sh M (M v0 0)) <| u1 fun (M8 : AwM) => (gd_ (kd_ sh (M8 v0 0) = (0, 4)) ((if (M8 (M8 v0 0) 8) = 3 then gd_ (kd_ sh (M8 v0 1) = (0, 5)) (pb (fX5_isGiven sh M8 (M8 v0 1) (M8 (M8 v0 0) 9)) <| u1 fun (x13 : Int) => ((if x13 = 0 then pb (fX4_next sh M8 (M8 v0 0)) <| u1 fun (M16 : AwM) => (gd_ (kd_ sh (M16 v0 1) = (0, 5)) (pb (fX5_give sh M16 (M16 v0 1) v1 (M8 (M8 v0 0) 9)) <| u2 fun (x19 : Int) (M20 : AwM) => (some (x19, M20)))) else pb (fX6_fail sh M8 v0 2) <| u2 fun (x22 : Int) (M23 : AwM) => (some ((-1), M23))))) else pb (fX6_fail sh M8 v0 1) <| u2 fun (x25 : Int) (M26 : AwM) => (some ((-1), M26)))))) else pb (fX6_fail sh M v0 6) <| u2 fun (x28 : Int) (M29 : AwM) => (some ((-1), M29))))))
set_option maxRecDepth 100000 in
set_option maxHeartbeats 4000000 in
theorem mX6_newOne {sh : AwS} {M : AwM} {v0 : Int} {v1 : Int} {r : Int} {M' : AwM} (h : fX6_newOne sh M v0 v1 = some (r, M')) : AMet yX6_newOne cX6_newOne 3 (some .int) 4 0 0 [.inr (.inr v0), .inl v1] sh M (some (.inl r)) sh M' := by
  refine amet_of (by decide +kernel) (Nat.le_of_ble_eq_true rfl) (fun Γ hC => ?_)
  replace hC : AOK Γ RX6 cX6_newOne 3 4 0 0 "newOne" (some .int) := hC
  unfold fX6_newOne at h
  refine aw_sub hC [some (.inr (.inr v0)), some (.inl v1), none] ⟨rfl, ⟨rfl, trivial⟩⟩ (Nat.le_of_ble_eq_true rfl) ?_
  refine aw_aload_n (pc' := 1) (i := 0) hC dX6_newOne_0 rfl rfl rfl ?_
  obtain ⟨g1, h⟩ := gd_s h
  refine aw_getfield (pc' := 4) (v := (.inr (.inr (M v0 1)))) hC dX6_newOne_1 rfl fl_X6_21 g1 rfl ?_
  refine aw_iload_n (pc' := 5) (i := 1) hC dX6_newOne_4 rfl rfl rfl ?_
  obtain ⟨g3, h⟩ := gd_s h
  obtain ⟨x4, q2, h⟩ := pb_s h
  replace h := u1_s h
  refine aw_cV (pc' := 8) (k2 := 0) (n2 := 0) (st := []) (stN := [.inl x4]) hC [.inl v1] (mX5_isFull q2) lk_X6_163 g3 dX6_newOne_5 rfl rfl (Nat.le_of_ble_eq_true rfl) (Nat.le_of_ble_eq_true rfl) (Nat.le_of_ble_eq_true rfl) rfl (Nat.le_of_ble_eq_true rfl) rfl rfl rfl ?_
  refine aw_if_eq (tgt := 20) (pc' := 11) hC dX6_newOne_8 (by decide) rfl (fun c5 => ?_) (fun c5 => ?_)
  · replace h := it_p c5 h
    refine aw_aload_n (pc' := 21) (i := 0) hC dX6_newOne_20 rfl rfl rfl ?_
    refine aw_getfield (pc' := 24) (v := (.inr (.inr (M v0 0)))) hC dX6_newOne_21 rfl fl_X6_12 g1 rfl ?_
    obtain ⟨g7, h⟩ := gd_s h
    obtain ⟨M8, q6, h⟩ := pb_s h
    replace h := u1_s h
    refine aw_cV (pc' := 27) (k2 := 0) (n2 := 0) (st := []) (stN := []) hC [] (mX4_next q6) lk_X6_127 g7 dX6_newOne_24 rfl rfl (Nat.le_of_ble_eq_true rfl) (Nat.le_of_ble_eq_true rfl) (Nat.le_of_ble_eq_true rfl) rfl (Nat.le_of_ble_eq_true rfl) rfl rfl rfl ?_
    refine aw_aload_n (pc' := 28) (i := 0) hC dX6_newOne_27 rfl rfl rfl ?_
    refine aw_getfield (pc' := 31) (v := (.inr (.inr (M8 v0 0)))) hC dX6_newOne_28 rfl fl_X6_12 g1 rfl ?_
    obtain ⟨g9, h⟩ := gd_s h
    refine aw_getfield (pc' := 34) (v := (.inl (M8 (M8 v0 0) 8))) hC dX6_newOne_31 rfl fl_X6_49 g9 rfl ?_
    refine aw_iconst (pc' := 35) hC dX6_newOne_34 rfl (by decide) ?_
    refine aw_icmp_eq (tgt := 46) (pc' := 38) hC dX6_newOne_35 (by decide) rfl (fun c10 => ?_) (fun c10 => ?_)
    · replace h := it_p c10 h
      refine aw_aload_n (pc' := 47) (i := 0) hC dX6_newOne_46 rfl rfl rfl ?_
      refine aw_getfield (pc' := 50) (v := (.inr (.inr (M8 v0 0)))) hC dX6_newOne_47 rfl fl_X6_12 g1 rfl ?_
      refine aw_getfield (pc' := 53) (v := (.inl (M8 (M8 v0 0) 9))) hC dX6_newOne_50 rfl fl_X6_64 g9 rfl ?_
      refine aw_istore_n (pc' := 54) (i := 2) (ls' := [some (.inr (.inr v0)), some (.inl v1), some (.inl (M8 (M8 v0 0) 9))]) hC dX6_newOne_53 rfl rfl (Nat.le_of_ble_eq_true rfl) rfl rfl ?_
      refine aw_aload_n (pc' := 55) (i := 0) hC dX6_newOne_54 rfl rfl rfl ?_
      refine aw_getfield (pc' := 58) (v := (.inr (.inr (M8 v0 1)))) hC dX6_newOne_55 rfl fl_X6_21 g1 rfl ?_
      refine aw_iload_n (pc' := 59) (i := 2) hC dX6_newOne_58 rfl rfl rfl ?_
      obtain ⟨g12, h⟩ := gd_s h
      obtain ⟨x13, q11, h⟩ := pb_s h
      replace h := u1_s h
      refine aw_cV (pc' := 62) (k2 := 0) (n2 := 0) (st := []) (stN := [.inl x13]) hC [.inl (M8 (M8 v0 0) 9)] (mX5_isGiven q11) lk_X6_166 g12 dX6_newOne_59 rfl rfl (Nat.le_of_ble_eq_true rfl) (Nat.le_of_ble_eq_true rfl) (Nat.le_of_ble_eq_true rfl) rfl (Nat.le_of_ble_eq_true rfl) rfl rfl rfl ?_
      refine aw_if_eq (tgt := 73) (pc' := 65) hC dX6_newOne_62 (by decide) rfl (fun c14 => ?_) (fun c14 => ?_)
      · replace h := it_p c14 h
        refine aw_aload_n (pc' := 74) (i := 0) hC dX6_newOne_73 rfl rfl rfl ?_
        refine aw_getfield (pc' := 77) (v := (.inr (.inr (M8 v0 0)))) hC dX6_newOne_74 rfl fl_X6_12 g1 rfl ?_
        obtain ⟨M16, q15, h⟩ := pb_s h
        replace h := u1_s h
        refine aw_cV (pc' := 80) (k2 := 0) (n2 := 0) (st := []) (stN := []) hC [] (mX4_next q15) lk_X6_127 g9 dX6_newOne_77 rfl rfl (Nat.le_of_ble_eq_true rfl) (Nat.le_of_ble_eq_true rfl) (Nat.le_of_ble_eq_true rfl) rfl (Nat.le_of_ble_eq_true rfl) rfl rfl rfl ?_
        refine aw_aload_n (pc' := 81) (i := 0) hC dX6_newOne_80 rfl rfl rfl ?_
        refine aw_getfield (pc' := 84) (v := (.inr (.inr (M16 v0 1)))) hC dX6_newOne_81 rfl fl_X6_21 g1 rfl ?_
        refine aw_iload_n (pc' := 85) (i := 1) hC dX6_newOne_84 rfl rfl rfl ?_
        refine aw_iload_n (pc' := 86) (i := 2) hC dX6_newOne_85 rfl rfl rfl ?_
        obtain ⟨g18, h⟩ := gd_s h
        obtain ⟨⟨x19, M20⟩, q17, h⟩ := pb_s h
        replace h := u2_s h
        refine aw_cV (pc' := 89) (k2 := 0) (n2 := 0) (st := []) (stN := [.inl x19]) hC [.inl v1, .inl (M8 (M8 v0 0) 9)] (mX5_give q17) lk_X6_169 g18 dX6_newOne_86 rfl rfl (Nat.le_of_ble_eq_true rfl) (Nat.le_of_ble_eq_true rfl) (Nat.le_of_ble_eq_true rfl) rfl (Nat.le_of_ble_eq_true rfl) rfl rfl rfl ?_
        cases h
        exact aw_iret hC dX6_newOne_89 (Nat.le_of_ble_eq_true rfl) (Nat.le_of_ble_eq_true rfl)
      · replace h := it_n c14 h
        refine aw_aload_n (pc' := 66) (i := 0) hC dX6_newOne_65 rfl rfl rfl ?_
        refine aw_iconst (pc' := 67) hC dX6_newOne_66 rfl (by decide) ?_
        obtain ⟨⟨x22, M23⟩, q21, h⟩ := pb_s h
        replace h := u2_s h
        refine aw_cV (pc' := 70) (k2 := 0) (n2 := 0) (st := []) (stN := [.inl x22]) hC [.inl 2] (mX6_fail q21) lk_X6_52 g1 dX6_newOne_67 rfl rfl (Nat.le_of_ble_eq_true rfl) (Nat.le_of_ble_eq_true rfl) (Nat.le_of_ble_eq_true rfl) rfl (Nat.le_of_ble_eq_true rfl) rfl rfl rfl ?_
        refine aw_pop (pc' := 71) hC dX6_newOne_70 rfl rfl ?_
        refine aw_iconst (pc' := 72) hC dX6_newOne_71 rfl (by decide) ?_
        cases h
        exact aw_iret hC dX6_newOne_72 (Nat.le_of_ble_eq_true rfl) (Nat.le_of_ble_eq_true rfl)
    · replace h := it_n c10 h
      refine aw_aload_n (pc' := 39) (i := 0) hC dX6_newOne_38 rfl rfl rfl ?_
      refine aw_iconst (pc' := 40) hC dX6_newOne_39 rfl (by decide) ?_
      obtain ⟨⟨x25, M26⟩, q24, h⟩ := pb_s h
      replace h := u2_s h
      refine aw_cV (pc' := 43) (k2 := 0) (n2 := 0) (st := []) (stN := [.inl x25]) hC [.inl 1] (mX6_fail q24) lk_X6_52 g1 dX6_newOne_40 rfl rfl (Nat.le_of_ble_eq_true rfl) (Nat.le_of_ble_eq_true rfl) (Nat.le_of_ble_eq_true rfl) rfl (Nat.le_of_ble_eq_true rfl) rfl rfl rfl ?_
      refine aw_pop (pc' := 44) hC dX6_newOne_43 rfl rfl ?_
      refine aw_iconst (pc' := 45) hC dX6_newOne_44 rfl (by decide) ?_
      cases h
      exact aw_iret hC dX6_newOne_45 (Nat.le_of_ble_eq_true rfl) (Nat.le_of_ble_eq_true rfl)
  · replace h := it_n c5 h
    refine aw_aload_n (pc' := 12) (i := 0) hC dX6_newOne_11 rfl rfl rfl ?_
    refine aw_bipush (pc' := 14) hC dX6_newOne_12 rfl (by decide) ?_
    obtain ⟨⟨x28, M29⟩, q27, h⟩ := pb_s h
    replace h := u2_s h
    refine aw_cV (pc' := 17) (k2 := 0) (n2 := 0) (st := []) (stN := [.inl x28]) hC [.inl 6] (mX6_fail q27) lk_X6_52 g1 dX6_newOne_14 rfl rfl (Nat.le_of_ble_eq_true rfl) (Nat.le_of_ble_eq_true rfl) (Nat.le_of_ble_eq_true rfl) rfl (Nat.le_of_ble_eq_true rfl) rfl rfl rfl ?_
    refine aw_pop (pc' := 18) hC dX6_newOne_17 rfl rfl ?_
    refine aw_iconst (pc' := 19) hC dX6_newOne_18 rfl (by decide) ?_
    cases h
    exact aw_iret hC dX6_newOne_19 (Nat.le_of_ble_eq_true rfl) (Nat.le_of_ble_eq_true rfl)
-- CoinCircle$Scanner.isOwnWord(I)Z
def fX4_isOwnWord (sh : AwS) (M : AwM) (v0 : Int) (v1 : Int) : Option Int :=
  gd_ (kd_ sh v0 = (0, 4)) ((if (M v0 8) = 4 then (if (M v0 9) = v1 then some 1 else some 0) else some 0))
set_option maxRecDepth 100000 in
set_option maxHeartbeats 4000000 in
theorem mX4_isOwnWord {sh : AwS} {M : AwM} {v0 : Int} {v1 : Int} {r : Int} (h : fX4_isOwnWord sh M v0 v1 = some r) : AMet yX4_isOwnWord cX4_isOwnWord 2 (some .boolean) 1 0 0 [.inr (.inr v0), .inl v1] sh M (some (.inl r)) sh M := by
  refine amet_of (by decide +kernel) (Nat.le_of_ble_eq_true rfl) (fun Γ hC => ?_)
  replace hC : AOK Γ RX4 cX4_isOwnWord 2 1 0 0 "isOwnWord" (some .boolean) := hC
  unfold fX4_isOwnWord at h
  refine aw_sub hC [some (.inr (.inr v0)), some (.inl v1)] ⟨rfl, ⟨rfl, trivial⟩⟩ (Nat.le_of_ble_eq_true rfl) ?_
  refine aw_aload_n (pc' := 1) (i := 0) hC dX4_isOwnWord_0 rfl rfl rfl ?_
  obtain ⟨g1, h⟩ := gd_s h
  refine aw_getfield (pc' := 4) (v := (.inl (M v0 8))) hC dX4_isOwnWord_1 rfl fl_X4_56 g1 rfl ?_
  refine aw_iconst (pc' := 5) hC dX4_isOwnWord_4 rfl (by decide) ?_
  refine aw_icmp_ne (tgt := 20) (pc' := 8) hC dX4_isOwnWord_5 (by decide) rfl (fun c2 => ?_) (fun c2 => ?_)
  · replace h := it_n c2 h
    refine aw_iconst (pc' := 21) hC dX4_isOwnWord_20 rfl (by decide) ?_
    cases h
    exact aw_zret hC (Or.inl rfl) dX4_isOwnWord_21 (Nat.le_of_ble_eq_true rfl) (Nat.le_of_ble_eq_true rfl)
  · replace h := it_p c2 h
    refine aw_aload_n (pc' := 9) (i := 0) hC dX4_isOwnWord_8 rfl rfl rfl ?_
    refine aw_getfield (pc' := 12) (v := (.inl (M v0 9))) hC dX4_isOwnWord_9 rfl fl_X4_63 g1 rfl ?_
    refine aw_iload_n (pc' := 13) (i := 1) hC dX4_isOwnWord_12 rfl rfl rfl ?_
    refine aw_icmp_ne (tgt := 20) (pc' := 16) hC dX4_isOwnWord_13 (by decide) rfl (fun c3 => ?_) (fun c3 => ?_)
    · replace h := it_n c3 h
      refine aw_iconst (pc' := 21) hC dX4_isOwnWord_20 rfl (by decide) ?_
      cases h
      exact aw_zret hC (Or.inl rfl) dX4_isOwnWord_21 (Nat.le_of_ble_eq_true rfl) (Nat.le_of_ble_eq_true rfl)
    · replace h := it_p c3 h
      refine aw_iconst (pc' := 17) hC dX4_isOwnWord_16 rfl (by decide) ?_
      refine aw_goto (tgt := 21) hC dX4_isOwnWord_17 (by decide) ?_
      cases h
      exact aw_zret hC (Or.inr rfl) dX4_isOwnWord_21 (Nat.le_of_ble_eq_true rfl) (Nat.le_of_ble_eq_true rfl)
-- CoinCircle$Teller.word(I)Z
def fX6_word (sh : AwS) (M : AwM) (v0 : Int) (v1 : Int) : Option (Int × AwM) :=
  gd_ (kd_ sh v0 = (0, 6)) (gd_ (kd_ sh (M v0 0) = (0, 4)) (pb (fX4_isOwnWord sh M (M v0 0) v1) <| u1 fun (x4 : Int) => ((if x4 = 0 then pb (fX6_fail sh M v0 1) <| u2 fun (x9 : Int) (M10 : AwM) => (gd_ (x9 = 0 ∨ x9 = 1) (some (x9, M10))) else pb (fX4_next sh M (M v0 0)) <| u1 fun (M7 : AwM) => (some (1, M7))))))
set_option maxRecDepth 100000 in
set_option maxHeartbeats 4000000 in
theorem mX6_word {sh : AwS} {M : AwM} {v0 : Int} {v1 : Int} {r : Int} {M' : AwM} (h : fX6_word sh M v0 v1 = some (r, M')) : AMet yX6_word cX6_word 2 (some .boolean) 2 0 0 [.inr (.inr v0), .inl v1] sh M (some (.inl r)) sh M' := by
  refine amet_of (by decide +kernel) (Nat.le_of_ble_eq_true rfl) (fun Γ hC => ?_)
  replace hC : AOK Γ RX6 cX6_word 2 2 0 0 "word" (some .boolean) := hC
  unfold fX6_word at h
  refine aw_sub hC [some (.inr (.inr v0)), some (.inl v1)] ⟨rfl, ⟨rfl, trivial⟩⟩ (Nat.le_of_ble_eq_true rfl) ?_
  refine aw_aload_n (pc' := 1) (i := 0) hC dX6_word_0 rfl rfl rfl ?_
  obtain ⟨g1, h⟩ := gd_s h
  refine aw_getfield (pc' := 4) (v := (.inr (.inr (M v0 0)))) hC dX6_word_1 rfl fl_X6_12 g1 rfl ?_
  refine aw_iload_n (pc' := 5) (i := 1) hC dX6_word_4 rfl rfl rfl ?_
  obtain ⟨g3, h⟩ := gd_s h
  obtain ⟨x4, q2, h⟩ := pb_s h
  replace h := u1_s h
  refine aw_cV (pc' := 8) (k2 := 0) (n2 := 0) (st := []) (stN := [.inl x4]) hC [.inl v1] (mX4_isOwnWord q2) lk_X6_121 g3 dX6_word_5 rfl rfl (Nat.le_of_ble_eq_true rfl) (Nat.le_of_ble_eq_true rfl) (Nat.le_of_ble_eq_true rfl) rfl (Nat.le_of_ble_eq_true rfl) rfl rfl rfl ?_
  refine aw_if_ne (tgt := 17) (pc' := 11) hC dX6_word_8 (by decide) rfl (fun c5 => ?_) (fun c5 => ?_)
  · replace h := it_n c5 h
    refine aw_aload_n (pc' := 18) (i := 0) hC dX6_word_17 rfl rfl rfl ?_
    refine aw_getfield (pc' := 21) (v := (.inr (.inr (M v0 0)))) hC dX6_word_18 rfl fl_X6_12 g1 rfl ?_
    obtain ⟨M7, q6, h⟩ := pb_s h
    replace h := u1_s h
    refine aw_cV (pc' := 24) (k2 := 0) (n2 := 0) (st := []) (stN := []) hC [] (mX4_next q6) lk_X6_127 g3 dX6_word_21 rfl rfl (Nat.le_of_ble_eq_true rfl) (Nat.le_of_ble_eq_true rfl) (Nat.le_of_ble_eq_true rfl) rfl (Nat.le_of_ble_eq_true rfl) rfl rfl rfl ?_
    refine aw_iconst (pc' := 25) hC dX6_word_24 rfl (by decide) ?_
    cases h
    exact aw_zret hC (Or.inr rfl) dX6_word_25 (Nat.le_of_ble_eq_true rfl) (Nat.le_of_ble_eq_true rfl)
  · replace h := it_p c5 h
    refine aw_aload_n (pc' := 12) (i := 0) hC dX6_word_11 rfl rfl rfl ?_
    refine aw_iconst (pc' := 13) hC dX6_word_12 rfl (by decide) ?_
    obtain ⟨⟨x9, M10⟩, q8, h⟩ := pb_s h
    replace h := u2_s h
    refine aw_cV (pc' := 16) (k2 := 0) (n2 := 0) (st := []) (stN := [.inl x9]) hC [.inl 1] (mX6_fail q8) lk_X6_52 g1 dX6_word_13 rfl rfl (Nat.le_of_ble_eq_true rfl) (Nat.le_of_ble_eq_true rfl) (Nat.le_of_ble_eq_true rfl) rfl (Nat.le_of_ble_eq_true rfl) rfl rfl rfl ?_
    obtain ⟨g11, h⟩ := gd_s h
    cases h
    exact aw_zret hC g11 dX6_word_16 (Nat.le_of_ble_eq_true rfl) (Nat.le_of_ble_eq_true rfl)
-- CoinCircle$Teller.number(II)I
def fX6_number (sh : AwS) (M : AwM) (v0 : Int) (v1 : Int) (v2 : Int) : Option (Int × AwM) :=
  gd_ (kd_ sh v0 = (0, 6)) (gd_ (kd_ sh (M v0 0) = (0, 4)) ((if (M (M v0 0) 8) = 2 then (if (M (M v0 0) 9) < v1 then pb (fX6_fail sh M v0 4) <| u2 fun (x6 : Int) (M7 : AwM) => (some ((-1), M7)) else (if v2 < (M (M v0 0) 9) then pb (fX6_fail sh M v0 4) <| u2 fun (x12 : Int) (M13 : AwM) => (some ((-1), M13)) else pb (fX4_next sh M (M v0 0)) <| u1 fun (M10 : AwM) => (some ((M (M v0 0) 9), M10)))) else pb (fX6_fail sh M v0 1) <| u2 fun (x15 : Int) (M16 : AwM) => (some ((-1), M16)))))
set_option maxRecDepth 100000 in
set_option maxHeartbeats 4000000 in
theorem mX6_number {sh : AwS} {M : AwM} {v0 : Int} {v1 : Int} {v2 : Int} {r : Int} {M' : AwM} (h : fX6_number sh M v0 v1 v2 = some (r, M')) : AMet yX6_number cX6_number 4 (some .int) 2 0 0 [.inr (.inr v0), .inl v1, .inl v2] sh M (some (.inl r)) sh M' := by
  refine amet_of (by decide +kernel) (Nat.le_of_ble_eq_true rfl) (fun Γ hC => ?_)
  replace hC : AOK Γ RX6 cX6_number 4 2 0 0 "number" (some .int) := hC
  unfold fX6_number at h
  refine aw_sub hC [some (.inr (.inr v0)), some (.inl v1), some (.inl v2), none] ⟨rfl, ⟨rfl, ⟨rfl, trivial⟩⟩⟩ (Nat.le_of_ble_eq_true rfl) ?_
  refine aw_aload_n (pc' := 1) (i := 0) hC dX6_number_0 rfl rfl rfl ?_
  obtain ⟨g1, h⟩ := gd_s h
  refine aw_getfield (pc' := 4) (v := (.inr (.inr (M v0 0)))) hC dX6_number_1 rfl fl_X6_12 g1 rfl ?_
  obtain ⟨g2, h⟩ := gd_s h
  refine aw_getfield (pc' := 7) (v := (.inl (M (M v0 0) 8))) hC dX6_number_4 rfl fl_X6_49 g2 rfl ?_
  refine aw_iconst (pc' := 8) hC dX6_number_7 rfl (by decide) ?_
  refine aw_icmp_eq (tgt := 19) (pc' := 11) hC dX6_number_8 (by decide) rfl (fun c3 => ?_) (fun c3 => ?_)
  · replace h := it_p c3 h
    refine aw_aload_n (pc' := 20) (i := 0) hC dX6_number_19 rfl rfl rfl ?_
    refine aw_getfield (pc' := 23) (v := (.inr (.inr (M v0 0)))) hC dX6_number_20 rfl fl_X6_12 g1 rfl ?_
    refine aw_getfield (pc' := 26) (v := (.inl (M (M v0 0) 9))) hC dX6_number_23 rfl fl_X6_64 g2 rfl ?_
    refine aw_istore_n (pc' := 27) (i := 3) (ls' := [some (.inr (.inr v0)), some (.inl v1), some (.inl v2), some (.inl (M (M v0 0) 9))]) hC dX6_number_26 rfl rfl (Nat.le_of_ble_eq_true rfl) rfl rfl ?_
    refine aw_iload_n (pc' := 28) (i := 3) hC dX6_number_27 rfl rfl rfl ?_
    refine aw_iload_n (pc' := 29) (i := 1) hC dX6_number_28 rfl rfl rfl ?_
    refine aw_icmp_lt (tgt := 37) (pc' := 32) hC dX6_number_29 (by decide) rfl (fun c4 => ?_) (fun c4 => ?_)
    · replace h := it_p c4 h
      refine aw_aload_n (pc' := 38) (i := 0) hC dX6_number_37 rfl rfl rfl ?_
      refine aw_iconst (pc' := 39) hC dX6_number_38 rfl (by decide) ?_
      obtain ⟨⟨x6, M7⟩, q5, h⟩ := pb_s h
      replace h := u2_s h
      refine aw_cV (pc' := 42) (k2 := 0) (n2 := 0) (st := []) (stN := [.inl x6]) hC [.inl 4] (mX6_fail q5) lk_X6_52 g1 dX6_number_39 rfl rfl (Nat.le_of_ble_eq_true rfl) (Nat.le_of_ble_eq_true rfl) (Nat.le_of_ble_eq_true rfl) rfl (Nat.le_of_ble_eq_true rfl) rfl rfl rfl ?_
      refine aw_pop (pc' := 43) hC dX6_number_42 rfl rfl ?_
      refine aw_iconst (pc' := 44) hC dX6_number_43 rfl (by decide) ?_
      cases h
      exact aw_iret hC dX6_number_44 (Nat.le_of_ble_eq_true rfl) (Nat.le_of_ble_eq_true rfl)
    · replace h := it_n c4 h
      refine aw_iload_n (pc' := 33) (i := 3) hC dX6_number_32 rfl rfl rfl ?_
      refine aw_iload_n (pc' := 34) (i := 2) hC dX6_number_33 rfl rfl rfl ?_
      refine aw_icmp_le (tgt := 45) (pc' := 37) hC dX6_number_34 (by decide) rfl (fun c8 => ?_) (fun c8 => ?_)
      · replace h := it_n c8 h
        refine aw_aload_n (pc' := 46) (i := 0) hC dX6_number_45 rfl rfl rfl ?_
        refine aw_getfield (pc' := 49) (v := (.inr (.inr (M v0 0)))) hC dX6_number_46 rfl fl_X6_12 g1 rfl ?_
        obtain ⟨M10, q9, h⟩ := pb_s h
        replace h := u1_s h
        refine aw_cV (pc' := 52) (k2 := 0) (n2 := 0) (st := []) (stN := []) hC [] (mX4_next q9) lk_X6_127 g2 dX6_number_49 rfl rfl (Nat.le_of_ble_eq_true rfl) (Nat.le_of_ble_eq_true rfl) (Nat.le_of_ble_eq_true rfl) rfl (Nat.le_of_ble_eq_true rfl) rfl rfl rfl ?_
        refine aw_iload_n (pc' := 53) (i := 3) hC dX6_number_52 rfl rfl rfl ?_
        cases h
        exact aw_iret hC dX6_number_53 (Nat.le_of_ble_eq_true rfl) (Nat.le_of_ble_eq_true rfl)
      · replace h := it_p c8 h
        refine aw_aload_n (pc' := 38) (i := 0) hC dX6_number_37 rfl rfl rfl ?_
        refine aw_iconst (pc' := 39) hC dX6_number_38 rfl (by decide) ?_
        obtain ⟨⟨x12, M13⟩, q11, h⟩ := pb_s h
        replace h := u2_s h
        refine aw_cV (pc' := 42) (k2 := 0) (n2 := 0) (st := []) (stN := [.inl x12]) hC [.inl 4] (mX6_fail q11) lk_X6_52 g1 dX6_number_39 rfl rfl (Nat.le_of_ble_eq_true rfl) (Nat.le_of_ble_eq_true rfl) (Nat.le_of_ble_eq_true rfl) rfl (Nat.le_of_ble_eq_true rfl) rfl rfl rfl ?_
        refine aw_pop (pc' := 43) hC dX6_number_42 rfl rfl ?_
        refine aw_iconst (pc' := 44) hC dX6_number_43 rfl (by decide) ?_
        cases h
        exact aw_iret hC dX6_number_44 (Nat.le_of_ble_eq_true rfl) (Nat.le_of_ble_eq_true rfl)
  · replace h := it_n c3 h
    refine aw_aload_n (pc' := 12) (i := 0) hC dX6_number_11 rfl rfl rfl ?_
    refine aw_iconst (pc' := 13) hC dX6_number_12 rfl (by decide) ?_
    obtain ⟨⟨x15, M16⟩, q14, h⟩ := pb_s h
    replace h := u2_s h
    refine aw_cV (pc' := 16) (k2 := 0) (n2 := 0) (st := []) (stN := [.inl x15]) hC [.inl 1] (mX6_fail q14) lk_X6_52 g1 dX6_number_13 rfl rfl (Nat.le_of_ble_eq_true rfl) (Nat.le_of_ble_eq_true rfl) (Nat.le_of_ble_eq_true rfl) rfl (Nat.le_of_ble_eq_true rfl) rfl rfl rfl ?_
    refine aw_pop (pc' := 17) hC dX6_number_16 rfl rfl ?_
    refine aw_iconst (pc' := 18) hC dX6_number_17 rfl (by decide) ?_
    cases h
    exact aw_iret hC dX6_number_18 (Nat.le_of_ble_eq_true rfl) (Nat.le_of_ble_eq_true rfl)
-- CoinCircle$Teller.tellPerson()Z
def fX6_tellPerson (sh : AwS) (M : AwM) (v0 : Int) : Option (Int × AwM) :=
  gd_ (kd_ sh v0 = (0, 6)) (pb (fX6_newOne sh M v0 0) <| u2 fun (x3 : Int) (M4 : AwM) => ((if x3 = (-1) then some (0, M4) else pb (fX6_word sh M4 v0 1) <| u2 fun (x7 : Int) (M8 : AwM) => ((if x7 = 0 then some (0, M8) else pb (fX6_number sh M8 v0 0 9) <| u2 fun (x11 : Int) (M12 : AwM) => (gd_ (kd_ sh (M12 v0 1) = (0, 5)) (gd_ ((kd_ sh (M12 (M12 v0 1) 2)).1 = 1 ∧ (0 : Int) ≤ x3 ∧ x3 < ((kd_ sh (M12 (M12 v0 1) 2)).2 : Int)) (bd_ (up_ M12 (M12 (M12 v0 1) 2) x3 x11) fun (M15 : AwM) => ((if x11 = (-1) then some (0, M15) else some (1, M15)))))))))))
set_option maxRecDepth 100000 in
set_option maxHeartbeats 4000000 in
theorem mX6_tellPerson {sh : AwS} {M : AwM} {v0 : Int} {r : Int} {M' : AwM} (h : fX6_tellPerson sh M v0 = some (r, M')) : AMet yX6_tellPerson cX6_tellPerson 3 (some .boolean) 5 0 0 [.inr (.inr v0)] sh M (some (.inl r)) sh M' := by
  refine amet_of (by decide +kernel) (Nat.le_of_ble_eq_true rfl) (fun Γ hC => ?_)
  replace hC : AOK Γ RX6 cX6_tellPerson 3 5 0 0 "tellPerson" (some .boolean) := hC
  unfold fX6_tellPerson at h
  refine aw_sub hC [some (.inr (.inr v0)), none, none] ⟨rfl, trivial⟩ (Nat.le_of_ble_eq_true rfl) ?_
  refine aw_aload_n (pc' := 1) (i := 0) hC dX6_tellPerson_0 rfl rfl rfl ?_
  refine aw_iconst (pc' := 2) hC dX6_tellPerson_1 rfl (by decide) ?_
  obtain ⟨g2, h⟩ := gd_s h
  obtain ⟨⟨x3, M4⟩, q1, h⟩ := pb_s h
  replace h := u2_s h
  refine aw_cV (pc' := 5) (k2 := 0) (n2 := 0) (st := []) (stN := [.inl x3]) hC [.inl 0] (mX6_newOne q1) lk_X6_91 g2 dX6_tellPerson_2 rfl rfl (Nat.le_of_ble_eq_true rfl) (Nat.le_of_ble_eq_true rfl) (Nat.le_of_ble_eq_true rfl) rfl (Nat.le_of_ble_eq_true rfl) rfl rfl rfl ?_
  refine aw_istore_n (pc' := 6) (i := 1) (ls' := [some (.inr (.inr v0)), some (.inl x3), none]) hC dX6_tellPerson_5 rfl rfl (Nat.le_of_ble_eq_true rfl) rfl rfl ?_
  refine aw_iload_n (pc' := 7) (i := 1) hC dX6_tellPerson_6 rfl rfl rfl ?_
  refine aw_iconst (pc' := 8) hC dX6_tellPerson_7 rfl (by decide) ?_
  refine aw_icmp_eq (tgt := 19) (pc' := 11) hC dX6_tellPerson_8 (by decide) rfl (fun c5 => ?_) (fun c5 => ?_)
  · replace h := it_p c5 h
    refine aw_iconst (pc' := 20) hC dX6_tellPerson_19 rfl (by decide) ?_
    cases h
    exact aw_zret hC (Or.inl rfl) dX6_tellPerson_20 (Nat.le_of_ble_eq_true rfl) (Nat.le_of_ble_eq_true rfl)
  · replace h := it_n c5 h
    refine aw_aload_n (pc' := 12) (i := 0) hC dX6_tellPerson_11 rfl rfl rfl ?_
    refine aw_iconst (pc' := 13) hC dX6_tellPerson_12 rfl (by decide) ?_
    obtain ⟨⟨x7, M8⟩, q6, h⟩ := pb_s h
    replace h := u2_s h
    refine aw_cV (pc' := 16) (k2 := 0) (n2 := 0) (st := []) (stN := [.inl x7]) hC [.inl 1] (mX6_word q6) lk_X6_95 g2 dX6_tellPerson_13 rfl rfl (Nat.le_of_ble_eq_true rfl) (Nat.le_of_ble_eq_true rfl) (Nat.le_of_ble_eq_true rfl) rfl (Nat.le_of_ble_eq_true rfl) rfl rfl rfl ?_
    refine aw_if_ne (tgt := 21) (pc' := 19) hC dX6_tellPerson_16 (by decide) rfl (fun c9 => ?_) (fun c9 => ?_)
    · replace h := it_n c9 h
      refine aw_aload_n (pc' := 22) (i := 0) hC dX6_tellPerson_21 rfl rfl rfl ?_
      refine aw_iconst (pc' := 23) hC dX6_tellPerson_22 rfl (by decide) ?_
      refine aw_bipush (pc' := 25) hC dX6_tellPerson_23 rfl (by decide) ?_
      obtain ⟨⟨x11, M12⟩, q10, h⟩ := pb_s h
      replace h := u2_s h
      refine aw_cV (pc' := 28) (k2 := 0) (n2 := 0) (st := []) (stN := [.inl x11]) hC [.inl 0, .inl 9] (mX6_number q10) lk_X6_98 g2 dX6_tellPerson_25 rfl rfl (Nat.le_of_ble_eq_true rfl) (Nat.le_of_ble_eq_true rfl) (Nat.le_of_ble_eq_true rfl) rfl (Nat.le_of_ble_eq_true rfl) rfl rfl rfl ?_
      refine aw_istore_n (pc' := 29) (i := 2) (ls' := [some (.inr (.inr v0)), some (.inl x3), some (.inl x11)]) hC dX6_tellPerson_28 rfl rfl (Nat.le_of_ble_eq_true rfl) rfl rfl ?_
      refine aw_aload_n (pc' := 30) (i := 0) hC dX6_tellPerson_29 rfl rfl rfl ?_
      refine aw_getfield (pc' := 33) (v := (.inr (.inr (M12 v0 1)))) hC dX6_tellPerson_30 rfl fl_X6_21 g2 rfl ?_
      obtain ⟨g13, h⟩ := gd_s h
      refine aw_getfield (pc' := 36) (v := (.inr (.inr (M12 (M12 v0 1) 2)))) hC dX6_tellPerson_33 rfl fl_X6_102 g13 rfl ?_
      refine aw_iload_n (pc' := 37) (i := 1) hC dX6_tellPerson_36 rfl rfl rfl ?_
      refine aw_iload_n (pc' := 38) (i := 2) hC dX6_tellPerson_37 rfl rfl rfl ?_
      obtain ⟨g14, h⟩ := gd_s h
      obtain ⟨M15, e16, h⟩ := bd_s h
      refine aw_ias (pc' := 39) hC dX6_tellPerson_38 rfl g14 e16 ?_
      refine aw_iload_n (pc' := 40) (i := 2) hC dX6_tellPerson_39 rfl rfl rfl ?_
      refine aw_iconst (pc' := 41) hC dX6_tellPerson_40 rfl (by decide) ?_
      refine aw_icmp_eq (tgt := 48) (pc' := 44) hC dX6_tellPerson_41 (by decide) rfl (fun c17 => ?_) (fun c17 => ?_)
      · replace h := it_p c17 h
        refine aw_iconst (pc' := 49) hC dX6_tellPerson_48 rfl (by decide) ?_
        cases h
        exact aw_zret hC (Or.inl rfl) dX6_tellPerson_49 (Nat.le_of_ble_eq_true rfl) (Nat.le_of_ble_eq_true rfl)
      · replace h := it_n c17 h
        refine aw_iconst (pc' := 45) hC dX6_tellPerson_44 rfl (by decide) ?_
        refine aw_goto (tgt := 49) hC dX6_tellPerson_45 (by decide) ?_
        cases h
        exact aw_zret hC (Or.inr rfl) dX6_tellPerson_49 (Nat.le_of_ble_eq_true rfl) (Nat.le_of_ble_eq_true rfl)
    · replace h := it_p c9 h
      refine aw_iconst (pc' := 20) hC dX6_tellPerson_19 rfl (by decide) ?_
      cases h
      exact aw_zret hC (Or.inl rfl) dX6_tellPerson_20 (Nat.le_of_ble_eq_true rfl) (Nat.le_of_ble_eq_true rfl)
-- CoinCircle.isIn(II)Z
def fX8_isIn (sh : AwS) (M : AwM) (v0 : Int) (v1 : Int) : Option Int :=
  (if v1 < 0 then some 0 else (if v1 < 31 then (if (an_ (sr_ v0 v1) 1) = 0 then some 0 else some 1) else some 0))
set_option maxRecDepth 100000 in
set_option maxHeartbeats 4000000 in
theorem mX8_isIn {sh : AwS} {M : AwM} {v0 : Int} {v1 : Int} {r : Int} (h : fX8_isIn sh M v0 v1 = some r) : AMet yX8_isIn cX8_isIn 2 (some .boolean) 1 0 0 [.inl v0, .inl v1] sh M (some (.inl r)) sh M := by
  refine amet_of (by decide +kernel) (Nat.le_of_ble_eq_true rfl) (fun Γ hC => ?_)
  replace hC : AOK Γ RX8 cX8_isIn 2 1 0 0 "isIn" (some .boolean) := hC
  unfold fX8_isIn at h
  refine aw_sub hC [some (.inl v0), some (.inl v1)] ⟨rfl, ⟨rfl, trivial⟩⟩ (Nat.le_of_ble_eq_true rfl) ?_
  refine aw_iload_n (pc' := 1) (i := 1) hC dX8_isIn_0 rfl rfl rfl ?_
  refine aw_if_lt (tgt := 22) (pc' := 4) hC dX8_isIn_1 (by decide) rfl (fun c1 => ?_) (fun c1 => ?_)
  · replace h := it_p c1 h
    refine aw_iconst (pc' := 23) hC dX8_isIn_22 rfl (by decide) ?_
    cases h
    exact aw_zret hC (Or.inl rfl) dX8_isIn_23 (Nat.le_of_ble_eq_true rfl) (Nat.le_of_ble_eq_true rfl)
  · replace h := it_n c1 h
    refine aw_iload_n (pc' := 5) (i := 1) hC dX8_isIn_4 rfl rfl rfl ?_
    refine aw_bipush (pc' := 7) hC dX8_isIn_5 rfl (by decide) ?_
    refine aw_icmp_ge (tgt := 22) (pc' := 10) hC dX8_isIn_7 (by decide) rfl (fun c2 => ?_) (fun c2 => ?_)
    · replace h := it_n c2 h
      refine aw_iconst (pc' := 23) hC dX8_isIn_22 rfl (by decide) ?_
      cases h
      exact aw_zret hC (Or.inl rfl) dX8_isIn_23 (Nat.le_of_ble_eq_true rfl) (Nat.le_of_ble_eq_true rfl)
    · replace h := it_p c2 h
      refine aw_iload_n (pc' := 11) (i := 0) hC dX8_isIn_10 rfl rfl rfl ?_
      refine aw_iload_n (pc' := 12) (i := 1) hC dX8_isIn_11 rfl rfl rfl ?_
      refine aw_ishr (pc' := 13) hC dX8_isIn_12 rfl  ?_
      refine aw_iconst (pc' := 14) hC dX8_isIn_13 rfl (by decide) ?_
      refine aw_iand (pc' := 15) hC dX8_isIn_14 rfl  ?_
      refine aw_if_eq (tgt := 22) (pc' := 18) hC dX8_isIn_15 (by decide) rfl (fun c3 => ?_) (fun c3 => ?_)
      · replace h := it_p c3 h
        refine aw_iconst (pc' := 23) hC dX8_isIn_22 rfl (by decide) ?_
        cases h
        exact aw_zret hC (Or.inl rfl) dX8_isIn_23 (Nat.le_of_ble_eq_true rfl) (Nat.le_of_ble_eq_true rfl)
      · replace h := it_n c3 h
        refine aw_iconst (pc' := 19) hC dX8_isIn_18 rfl (by decide) ?_
        refine aw_goto (tgt := 23) hC dX8_isIn_19 (by decide) ?_
        cases h
        exact aw_zret hC (Or.inr rfl) dX8_isIn_23 (Nat.le_of_ble_eq_true rfl) (Nat.le_of_ble_eq_true rfl)
-- CoinCircle$Teller.asked(II)I
def fX6_asked (sh : AwS) (M : AwM) (v0 : Int) (v1 : Int) (v2 : Int) : Option (Int × AwM) :=
  gd_ (kd_ sh v0 = (0, 6)) (gd_ (kd_ sh (M v0 0) = (0, 4)) ((if (M (M v0 0) 8) = 3 then gd_ (kd_ sh (M v0 1) = (0, 5)) (pb (fX5_find sh M (M v0 1) v1 (M (M v0 0) 9)) <| u1 fun (x6 : Int) => ((if x6 = (-1) then pb (fX6_fail sh M v0 3) <| u2 fun (x9 : Int) (M10 : AwM) => (some ((-1), M10)) else pb (fX8_isIn sh M v2 x6) <| u1 fun (x12 : Int) => ((if x12 = 0 then pb (fX4_next sh M (M v0 0)) <| u1 fun (M15 : AwM) => (some (x6, M15)) else pb (fX6_fail sh M v0 3) <| u2 fun (x17 : Int) (M18 : AwM) => (some ((-1), M18))))))) else pb (fX6_fail sh M v0 1) <| u2 fun (x20 : Int) (M21 : AwM) => (some ((-1), M21)))))
set_option maxRecDepth 100000 in
set_option maxHeartbeats 4000000 in
theorem mX6_asked {sh : AwS} {M : AwM} {v0 : Int} {v1 : Int} {v2 : Int} {r : Int} {M' : AwM} (h : fX6_asked sh M v0 v1 v2 = some (r, M')) : AMet yX6_asked cX6_asked 4 (some .int) 3 0 0 [.inr (.inr v0), .inl v1, .inl v2] sh M (some (.inl r)) sh M' := by
  refine amet_of (by decide +kernel) (Nat.le_of_ble_eq_true rfl) (fun Γ hC => ?_)
  replace hC : AOK Γ RX6 cX6_asked 4 3 0 0 "asked" (some .int) := hC
  unfold fX6_asked at h
  refine aw_sub hC [some (.inr (.inr v0)), some (.inl v1), some (.inl v2), none] ⟨rfl, ⟨rfl, ⟨rfl, trivial⟩⟩⟩ (Nat.le_of_ble_eq_true rfl) ?_
  refine aw_aload_n (pc' := 1) (i := 0) hC dX6_asked_0 rfl rfl rfl ?_
  obtain ⟨g1, h⟩ := gd_s h
  refine aw_getfield (pc' := 4) (v := (.inr (.inr (M v0 0)))) hC dX6_asked_1 rfl fl_X6_12 g1 rfl ?_
  obtain ⟨g2, h⟩ := gd_s h
  refine aw_getfield (pc' := 7) (v := (.inl (M (M v0 0) 8))) hC dX6_asked_4 rfl fl_X6_49 g2 rfl ?_
  refine aw_iconst (pc' := 8) hC dX6_asked_7 rfl (by decide) ?_
  refine aw_icmp_eq (tgt := 19) (pc' := 11) hC dX6_asked_8 (by decide) rfl (fun c3 => ?_) (fun c3 => ?_)
  · replace h := it_p c3 h
    refine aw_aload_n (pc' := 20) (i := 0) hC dX6_asked_19 rfl rfl rfl ?_
    refine aw_getfield (pc' := 23) (v := (.inr (.inr (M v0 1)))) hC dX6_asked_20 rfl fl_X6_21 g1 rfl ?_
    refine aw_iload_n (pc' := 24) (i := 1) hC dX6_asked_23 rfl rfl rfl ?_
    refine aw_aload_n (pc' := 25) (i := 0) hC dX6_asked_24 rfl rfl rfl ?_
    refine aw_getfield (pc' := 28) (v := (.inr (.inr (M v0 0)))) hC dX6_asked_25 rfl fl_X6_12 g1 rfl ?_
    refine aw_getfield (pc' := 31) (v := (.inl (M (M v0 0) 9))) hC dX6_asked_28 rfl fl_X6_64 g2 rfl ?_
    obtain ⟨g5, h⟩ := gd_s h
    obtain ⟨x6, q4, h⟩ := pb_s h
    replace h := u1_s h
    refine aw_cV (pc' := 34) (k2 := 0) (n2 := 0) (st := []) (stN := [.inl x6]) hC [.inl v1, .inl (M (M v0 0) 9)] (mX5_find q4) lk_X6_172 g5 dX6_asked_31 rfl rfl (Nat.le_of_ble_eq_true rfl) (Nat.le_of_ble_eq_true rfl) (Nat.le_of_ble_eq_true rfl) rfl (Nat.le_of_ble_eq_true rfl) rfl rfl rfl ?_
    refine aw_istore_n (pc' := 35) (i := 3) (ls' := [some (.inr (.inr v0)), some (.inl v1), some (.inl v2), some (.inl x6)]) hC dX6_asked_34 rfl rfl (Nat.le_of_ble_eq_true rfl) rfl rfl ?_
    refine aw_iload_n (pc' := 36) (i := 3) hC dX6_asked_35 rfl rfl rfl ?_
    refine aw_iconst (pc' := 37) hC dX6_asked_36 rfl (by decide) ?_
    refine aw_icmp_eq (tgt := 48) (pc' := 40) hC dX6_asked_37 (by decide) rfl (fun c7 => ?_) (fun c7 => ?_)
    · replace h := it_p c7 h
      refine aw_aload_n (pc' := 49) (i := 0) hC dX6_asked_48 rfl rfl rfl ?_
      refine aw_iconst (pc' := 50) hC dX6_asked_49 rfl (by decide) ?_
      obtain ⟨⟨x9, M10⟩, q8, h⟩ := pb_s h
      replace h := u2_s h
      refine aw_cV (pc' := 53) (k2 := 0) (n2 := 0) (st := []) (stN := [.inl x9]) hC [.inl 3] (mX6_fail q8) lk_X6_52 g1 dX6_asked_50 rfl rfl (Nat.le_of_ble_eq_true rfl) (Nat.le_of_ble_eq_true rfl) (Nat.le_of_ble_eq_true rfl) rfl (Nat.le_of_ble_eq_true rfl) rfl rfl rfl ?_
      refine aw_pop (pc' := 54) hC dX6_asked_53 rfl rfl ?_
      refine aw_iconst (pc' := 55) hC dX6_asked_54 rfl (by decide) ?_
      cases h
      exact aw_iret hC dX6_asked_55 (Nat.le_of_ble_eq_true rfl) (Nat.le_of_ble_eq_true rfl)
    · replace h := it_n c7 h
      refine aw_iload_n (pc' := 41) (i := 2) hC dX6_asked_40 rfl rfl rfl ?_
      refine aw_iload_n (pc' := 42) (i := 3) hC dX6_asked_41 rfl rfl rfl ?_
      obtain ⟨x12, q11, h⟩ := pb_s h
      replace h := u1_s h
      refine aw_cSN (pc' := 45) (k2 := 0) (n2 := 0) (st := []) (stN := [.inl x12]) hC [.inl v2, .inl x6] (mX8_isIn q11) lk_X6_175 dX6_asked_42 rfl rfl (Nat.le_of_ble_eq_true rfl) (Nat.le_of_ble_eq_true rfl) (Nat.le_of_ble_eq_true rfl) rfl (Nat.le_of_ble_eq_true rfl) rfl rfl rfl ?_
      refine aw_if_eq (tgt := 56) (pc' := 48) hC dX6_asked_45 (by decide) rfl (fun c13 => ?_) (fun c13 => ?_)
      · replace h := it_p c13 h
        refine aw_aload_n (pc' := 57) (i := 0) hC dX6_asked_56 rfl rfl rfl ?_
        refine aw_getfield (pc' := 60) (v := (.inr (.inr (M v0 0)))) hC dX6_asked_57 rfl fl_X6_12 g1 rfl ?_
        obtain ⟨M15, q14, h⟩ := pb_s h
        replace h := u1_s h
        refine aw_cV (pc' := 63) (k2 := 0) (n2 := 0) (st := []) (stN := []) hC [] (mX4_next q14) lk_X6_127 g2 dX6_asked_60 rfl rfl (Nat.le_of_ble_eq_true rfl) (Nat.le_of_ble_eq_true rfl) (Nat.le_of_ble_eq_true rfl) rfl (Nat.le_of_ble_eq_true rfl) rfl rfl rfl ?_
        refine aw_iload_n (pc' := 64) (i := 3) hC dX6_asked_63 rfl rfl rfl ?_
        cases h
        exact aw_iret hC dX6_asked_64 (Nat.le_of_ble_eq_true rfl) (Nat.le_of_ble_eq_true rfl)
      · replace h := it_n c13 h
        refine aw_aload_n (pc' := 49) (i := 0) hC dX6_asked_48 rfl rfl rfl ?_
        refine aw_iconst (pc' := 50) hC dX6_asked_49 rfl (by decide) ?_
        obtain ⟨⟨x17, M18⟩, q16, h⟩ := pb_s h
        replace h := u2_s h
        refine aw_cV (pc' := 53) (k2 := 0) (n2 := 0) (st := []) (stN := [.inl x17]) hC [.inl 3] (mX6_fail q16) lk_X6_52 g1 dX6_asked_50 rfl rfl (Nat.le_of_ble_eq_true rfl) (Nat.le_of_ble_eq_true rfl) (Nat.le_of_ble_eq_true rfl) rfl (Nat.le_of_ble_eq_true rfl) rfl rfl rfl ?_
        refine aw_pop (pc' := 54) hC dX6_asked_53 rfl rfl ?_
        refine aw_iconst (pc' := 55) hC dX6_asked_54 rfl (by decide) ?_
        cases h
        exact aw_iret hC dX6_asked_55 (Nat.le_of_ble_eq_true rfl) (Nat.le_of_ble_eq_true rfl)
  · replace h := it_n c3 h
    refine aw_aload_n (pc' := 12) (i := 0) hC dX6_asked_11 rfl rfl rfl ?_
    refine aw_iconst (pc' := 13) hC dX6_asked_12 rfl (by decide) ?_
    obtain ⟨⟨x20, M21⟩, q19, h⟩ := pb_s h
    replace h := u2_s h
    refine aw_cV (pc' := 16) (k2 := 0) (n2 := 0) (st := []) (stN := [.inl x20]) hC [.inl 1] (mX6_fail q19) lk_X6_52 g1 dX6_asked_13 rfl rfl (Nat.le_of_ble_eq_true rfl) (Nat.le_of_ble_eq_true rfl) (Nat.le_of_ble_eq_true rfl) rfl (Nat.le_of_ble_eq_true rfl) rfl rfl rfl ?_
    refine aw_pop (pc' := 17) hC dX6_asked_16 rfl rfl ?_
    refine aw_iconst (pc' := 18) hC dX6_asked_17 rfl (by decide) ?_
    cases h
    exact aw_iret hC dX6_asked_18 (Nat.le_of_ble_eq_true rfl) (Nat.le_of_ble_eq_true rfl)
-- CoinCircle$Teller.tellKnown(I)Z
def fX6_tellKnown_J31_9 (sh : AwS) (M : AwM) (v0 : Int) (v1 : Int) (v2 : Int) : Option ((Int × AwM) ⊕ ((AwM) ⊕ (AwM))) :=
  gd_ (kd_ sh v0 = (0, 6)) (gd_ (kd_ sh (M v0 1) = (0, 5)) (gd_ ((kd_ sh (M (M v0 1) 5)).1 = 1 ∧ (0 : Int) ≤ v1 ∧ v1 < ((kd_ sh (M (M v0 1) 5)).2 : Int)) (pb (fX6_asked sh M v0 0 (M (M (M v0 1) 5) v1)) <| u2 fun (x11 : Int) (M12 : AwM) => ((if x11 = (-1) then some (.inr (.inr M12)) else gd_ (kd_ sh (M12 v0 1) = (0, 5)) (gd_ ((kd_ sh (M12 (M12 v0 1) 5)).1 = 1 ∧ (0 : Int) ≤ v1 ∧ v1 < ((kd_ sh (M12 (M12 v0 1) 5)).2 : Int)) (bd_ (up_ M12 (M12 (M12 v0 1) 5) v1 (or_ (M12 (M12 (M12 v0 1) 5) v1) (sl_ 1 x11))) fun (M16 : AwM) => (some (.inl ((w32 (v2 + 1)), M16))))))))))
def fX6_tellKnown_L9 (sh : AwS) (v0 : Int) (v1 : Int) (v2 : Int) (M : AwM) : Option ((Int × AwM) ⊕ ((AwM) ⊕ (AwM))) :=
  (if v2 < 1600 then (if v2 = 0 then fX6_tellKnown_J31_9 sh M v0 v1 v2 else gd_ (kd_ sh v0 = (0, 6)) (gd_ (kd_ sh (M v0 0) = (0, 4)) ((if (M (M v0 0) 8) = 3 then fX6_tellKnown_J31_9 sh M v0 v1 v2 else some (.inr (.inl M)))))) else some (.inr (.inl M)))
def p_X6_tellKnown_L9 (Γ : AwC) (sh : AwS) (v0 : Int) (v1 : Int) (Q : State → Prop) (s : Int × AwM) : Prop := AW Γ sh (s.2) 0 0 9 [some (.inr (.inr v0)), some (.inl v1), some (.inl (s.1)), none] [] Q
def x_X6_tellKnown_L9 (Γ : AwC) (sh : AwS) (v0 : Int) (v1 : Int) (Q : State → Prop) : ((AwM) ⊕ (AwM)) → Prop := (Sum.elim (fun (t : AwM) => AW Γ sh (t) 0 0 74 [none, none, none, none] [] Q) (fun (t : AwM) => AW Γ sh (t) 0 0 51 [none, none, none, none] [] Q))
def fX6_tellKnown (sh : AwS) (M : AwM) (v0 : Int) (v1 : Int) : Option (Int × AwM) :=
  gd_ (kd_ sh v0 = (0, 6)) (gd_ (kd_ sh (M v0 0) = (0, 4)) (pb (fX4_next sh M (M v0 0)) <| u1 fun (M4 : AwM) => (pb (lp (u2 (fX6_tellKnown_L9 sh v0 v1)) FU (0, M4)) (Sum.elim (u1 (fun (tq21 : AwM) => some (1, tq21))) (u1 (fun (tq21 : AwM) => some (0, tq21)))))))
set_option maxRecDepth 100000 in
set_option maxHeartbeats 4000000 in
theorem w_X6_tellKnown_J31_9 {Γ : AwC} (hC : AOK Γ RX6 cX6_tellKnown 4 4 0 0 "tellKnown" (some .boolean)) {sh : AwS} {M : AwM} {v0 : Int} {v1 : Int} {v2 : Int} {Q : State → Prop} {r : (Int × AwM) ⊕ ((AwM) ⊕ (AwM))} (h : fX6_tellKnown_J31_9 sh M v0 v1 v2 = some r) (hL : ∀ s', r = .inl s' → p_X6_tellKnown_L9 Γ sh v0 v1 Q s') (hX : ∀ t, r = .inr t → x_X6_tellKnown_L9 Γ sh v0 v1 Q t) : AW Γ sh M 0 0 31 [some (.inr (.inr v0)), some (.inl v1), some (.inl v2), none] [] Q := by
  unfold fX6_tellKnown_J31_9 at h
  refine aw_aload_n (pc' := 32) (i := 0) hC dX6_tellKnown_31 rfl rfl rfl ?_
  refine aw_iconst (pc' := 33) hC dX6_tellKnown_32 rfl (by decide) ?_
  refine aw_aload_n (pc' := 34) (i := 0) hC dX6_tellKnown_33 rfl rfl rfl ?_
  obtain ⟨g7, h⟩ := gd_s h
  refine aw_getfield (pc' := 37) (v := (.inr (.inr (M v0 1)))) hC dX6_tellKnown_34 rfl fl_X6_21 g7 rfl ?_
  obtain ⟨g8, h⟩ := gd_s h
  refine aw_getfield (pc' := 40) (v := (.inr (.inr (M (M v0 1) 5)))) hC dX6_tellKnown_37 rfl fl_X6_115 g8 rfl ?_
  refine aw_iload_n (pc' := 41) (i := 1) hC dX6_tellKnown_40 rfl rfl rfl ?_
  obtain ⟨g9, h⟩ := gd_s h
  refine aw_iaload (pc' := 42) hC dX6_tellKnown_41 rfl g9 ?_
  obtain ⟨⟨x11, M12⟩, q10, h⟩ := pb_s h
  replace h := u2_s h
  refine aw_cV (pc' := 45) (k2 := 0) (n2 := 0) (st := []) (stN := [.inl x11]) hC [.inl 0, .inl (M (M (M v0 1) 5) v1)] (mX6_asked q10) lk_X6_106 g7 dX6_tellKnown_42 rfl rfl (Nat.le_of_ble_eq_true rfl) (Nat.le_of_ble_eq_true rfl) (Nat.le_of_ble_eq_true rfl) rfl (Nat.le_of_ble_eq_true rfl) rfl rfl rfl ?_
  refine aw_istore_n (pc' := 46) (i := 3) (ls' := [some (.inr (.inr v0)), some (.inl v1), some (.inl v2), some (.inl x11)]) hC dX6_tellKnown_45 rfl rfl (Nat.le_of_ble_eq_true rfl) rfl rfl ?_
  refine aw_iload_n (pc' := 47) (i := 3) hC dX6_tellKnown_46 rfl rfl rfl ?_
  refine aw_iconst (pc' := 48) hC dX6_tellKnown_47 rfl (by decide) ?_
  refine aw_icmp_ne (tgt := 53) (pc' := 51) hC dX6_tellKnown_48 (by decide) rfl (fun c13 => ?_) (fun c13 => ?_)
  · replace h := it_n c13 h
    refine aw_aload_n (pc' := 54) (i := 0) hC dX6_tellKnown_53 rfl rfl rfl ?_
    refine aw_getfield (pc' := 57) (v := (.inr (.inr (M12 v0 1)))) hC dX6_tellKnown_54 rfl fl_X6_21 g7 rfl ?_
    obtain ⟨g14, h⟩ := gd_s h
    refine aw_getfield (pc' := 60) (v := (.inr (.inr (M12 (M12 v0 1) 5)))) hC dX6_tellKnown_57 rfl fl_X6_115 g14 rfl ?_
    refine aw_iload_n (pc' := 61) (i := 1) hC dX6_tellKnown_60 rfl rfl rfl ?_
    refine aw_dup2 (pc' := 62) hC dX6_tellKnown_61 rfl rfl rfl ?_
    obtain ⟨g15, h⟩ := gd_s h
    refine aw_iaload (pc' := 63) hC dX6_tellKnown_62 rfl g15 ?_
    refine aw_iconst (pc' := 64) hC dX6_tellKnown_63 rfl (by decide) ?_
    refine aw_iload_n (pc' := 65) (i := 3) hC dX6_tellKnown_64 rfl rfl rfl ?_
    refine aw_ishl (pc' := 66) hC dX6_tellKnown_65 rfl  ?_
    refine aw_ior (pc' := 67) hC dX6_tellKnown_66 rfl  ?_
    obtain ⟨M16, e17, h⟩ := bd_s h
    refine aw_ias (pc' := 68) hC dX6_tellKnown_67 rfl g15 e17 ?_
    refine aw_iinc (pc' := 71) (ls' := [some (.inr (.inr v0)), some (.inl v1), some (.inl (w32 (v2 + 1))), some (.inl x11)]) hC dX6_tellKnown_68 rfl rfl rfl rfl ?_
    refine aw_goto (tgt := 9) hC dX6_tellKnown_71 (by decide) ?_
    refine aw_sub hC [some (.inr (.inr v0)), some (.inl v1), some (.inl (w32 (v2 + 1))), none] ⟨rfl, ⟨rfl, ⟨rfl, trivial⟩⟩⟩ (Nat.le_of_ble_eq_true rfl) ?_
    cases h
    exact hL _ rfl
  · replace h := it_p c13 h
    refine aw_sub hC [none, none, none, none] trivial (Nat.le_of_ble_eq_true rfl) ?_
    cases h
    exact hX _ rfl
set_option maxRecDepth 100000 in
set_option maxHeartbeats 4000000 in
theorem w_X6_tellKnown_L9 {Γ : AwC} (hC : AOK Γ RX6 cX6_tellKnown 4 4 0 0 "tellKnown" (some .boolean)) {sh : AwS} {v0 : Int} {v1 : Int} {Q : State → Prop} : ∀ s r, u2 (fX6_tellKnown_L9 sh v0 v1) s = some r → (∀ s', r = .inl s' → p_X6_tellKnown_L9 Γ sh v0 v1 Q s') → (∀ t, r = .inr t → x_X6_tellKnown_L9 Γ sh v0 v1 Q t) → p_X6_tellKnown_L9 Γ sh v0 v1 Q s := by
  intro s r h hL hX
  obtain ⟨v2, M⟩ := s
  replace h := u2_s h
  unfold fX6_tellKnown_L9 at h
  show AW Γ sh M 0 0 9 [some (.inr (.inr v0)), some (.inl v1), some (.inl v2), none] [] Q
  refine aw_iload_n (pc' := 10) (i := 2) hC dX6_tellKnown_9 rfl rfl rfl ?_
  refine aw_sipush (pc' := 13) hC dX6_tellKnown_10 rfl (by decide) ?_
  refine aw_icmp_ge (tgt := 74) (pc' := 16) hC dX6_tellKnown_13 (by decide) rfl (fun c5 => ?_) (fun c5 => ?_)
  · replace h := it_n c5 h
    refine aw_sub hC [none, none, none, none] trivial (Nat.le_of_ble_eq_true rfl) ?_
    cases h
    exact hX _ rfl
  · replace h := it_p c5 h
    refine aw_iload_n (pc' := 17) (i := 2) hC dX6_tellKnown_16 rfl rfl rfl ?_
    refine aw_if_eq (tgt := 31) (pc' := 20) hC dX6_tellKnown_17 (by decide) rfl (fun c6 => ?_) (fun c6 => ?_)
    · replace h := it_p c6 h
      refine aw_sub hC [some (.inr (.inr v0)), some (.inl v1), some (.inl v2), none] ⟨rfl, ⟨rfl, ⟨rfl, trivial⟩⟩⟩ (Nat.le_of_ble_eq_true rfl) ?_
      exact w_X6_tellKnown_J31_9 hC h hL hX
    · replace h := it_n c6 h
      refine aw_aload_n (pc' := 21) (i := 0) hC dX6_tellKnown_20 rfl rfl rfl ?_
      obtain ⟨g18, h⟩ := gd_s h
      refine aw_getfield (pc' := 24) (v := (.inr (.inr (M v0 0)))) hC dX6_tellKnown_21 rfl fl_X6_12 g18 rfl ?_
      obtain ⟨g19, h⟩ := gd_s h
      refine aw_getfield (pc' := 27) (v := (.inl (M (M v0 0) 8))) hC dX6_tellKnown_24 rfl fl_X6_49 g19 rfl ?_
      refine aw_iconst (pc' := 28) hC dX6_tellKnown_27 rfl (by decide) ?_
      refine aw_icmp_ne (tgt := 74) (pc' := 31) hC dX6_tellKnown_28 (by decide) rfl (fun c20 => ?_) (fun c20 => ?_)
      · replace h := it_n c20 h
        refine aw_sub hC [none, none, none, none] trivial (Nat.le_of_ble_eq_true rfl) ?_
        cases h
        exact hX _ rfl
      · replace h := it_p c20 h
        refine aw_sub hC [some (.inr (.inr v0)), some (.inl v1), some (.inl v2), none] ⟨rfl, ⟨rfl, ⟨rfl, trivial⟩⟩⟩ (Nat.le_of_ble_eq_true rfl) ?_
        exact w_X6_tellKnown_J31_9 hC h hL hX
set_option maxRecDepth 100000 in
set_option maxHeartbeats 4000000 in
theorem mX6_tellKnown {sh : AwS} {M : AwM} {v0 : Int} {v1 : Int} {r : Int} {M' : AwM} (h : fX6_tellKnown sh M v0 v1 = some (r, M')) : AMet yX6_tellKnown cX6_tellKnown 4 (some .boolean) 4 0 0 [.inr (.inr v0), .inl v1] sh M (some (.inl r)) sh M' := by
  refine amet_of (by decide +kernel) (Nat.le_of_ble_eq_true rfl) (fun Γ hC => ?_)
  replace hC : AOK Γ RX6 cX6_tellKnown 4 4 0 0 "tellKnown" (some .boolean) := hC
  unfold fX6_tellKnown at h
  refine aw_sub hC [some (.inr (.inr v0)), some (.inl v1), none, none] ⟨rfl, ⟨rfl, trivial⟩⟩ (Nat.le_of_ble_eq_true rfl) ?_
  refine aw_aload_n (pc' := 1) (i := 0) hC dX6_tellKnown_0 rfl rfl rfl ?_
  obtain ⟨g1, h⟩ := gd_s h
  refine aw_getfield (pc' := 4) (v := (.inr (.inr (M v0 0)))) hC dX6_tellKnown_1 rfl fl_X6_12 g1 rfl ?_
  obtain ⟨g3, h⟩ := gd_s h
  obtain ⟨M4, q2, h⟩ := pb_s h
  replace h := u1_s h
  refine aw_cV (pc' := 7) (k2 := 0) (n2 := 0) (st := []) (stN := []) hC [] (mX4_next q2) lk_X6_127 g3 dX6_tellKnown_4 rfl rfl (Nat.le_of_ble_eq_true rfl) (Nat.le_of_ble_eq_true rfl) (Nat.le_of_ble_eq_true rfl) rfl (Nat.le_of_ble_eq_true rfl) rfl rfl rfl ?_
  refine aw_iconst (pc' := 8) hC dX6_tellKnown_7 rfl (by decide) ?_
  refine aw_istore_n (pc' := 9) (i := 2) (ls' := [some (.inr (.inr v0)), some (.inl v1), some (.inl 0), none]) hC dX6_tellKnown_8 rfl rfl (Nat.le_of_ble_eq_true rfl) rfl rfl ?_
  obtain ⟨tq21, q21, h⟩ := pb_s h
  refine aw_sub hC [some (.inr (.inr v0)), some (.inl v1), some (.inl 0), none] ⟨rfl, ⟨rfl, ⟨rfl, trivial⟩⟩⟩ (Nat.le_of_ble_eq_true rfl) ?_
  refine (lp_aw (p_X6_tellKnown_L9 Γ sh v0 v1 (fin_ Γ 0 0 (some (.inl r)) sh M')) (x_X6_tellKnown_L9 Γ sh v0 v1 (fin_ Γ 0 0 (some (.inl r)) sh M')) (w_X6_tellKnown_L9 hC ) FU _ _ q21 ?_ : p_X6_tellKnown_L9 Γ sh v0 v1 (fin_ Γ 0 0 (some (.inl r)) sh M') (0, M4))
  rcases tq21 with tq21 | tq21
  · replace h := se_l h
    replace h := u1_s h
    show AW Γ sh tq21 0 0 74 [none, none, none, none] [] _
    refine aw_iconst (pc' := 75) hC dX6_tellKnown_74 rfl (by decide) ?_
    cases h
    exact aw_zret hC (Or.inr rfl) dX6_tellKnown_75 (Nat.le_of_ble_eq_true rfl) (Nat.le_of_ble_eq_true rfl)
  · replace h := se_r h
    replace h := u1_s h
    show AW Γ sh tq21 0 0 51 [none, none, none, none] [] _
    refine aw_iconst (pc' := 52) hC dX6_tellKnown_51 rfl (by decide) ?_
    cases h
    exact aw_zret hC (Or.inl rfl) dX6_tellKnown_52 (Nat.le_of_ble_eq_true rfl) (Nat.le_of_ble_eq_true rfl)
-- CoinCircle$Teller.tellCoin()Z
def fX6_tellCoin (sh : AwS) (M : AwM) (v0 : Int) : Option (Int × AwM) :=
  gd_ (kd_ sh v0 = (0, 6)) (pb (fX6_newOne sh M v0 1) <| u2 fun (x3 : Int) (M4 : AwM) => ((if x3 = (-1) then some (0, M4) else pb (fX6_word sh M4 v0 3) <| u2 fun (x7 : Int) (M8 : AwM) => ((if x7 = 0 then some (0, M8) else pb (fX6_number sh M8 v0 1 99) <| u2 fun (x11 : Int) (M12 : AwM) => ((if x11 = (-1) then some (0, M12) else pb (fX6_word sh M12 v0 4) <| u2 fun (x15 : Int) (M16 : AwM) => ((if x15 = 0 then some (0, M16) else pb (fX6_asked sh M16 v0 0 0) <| u2 fun (x19 : Int) (M20 : AwM) => ((if x19 = (-1) then some (0, M20) else gd_ (kd_ sh (M20 v0 1) = (0, 5)) (gd_ ((kd_ sh (M20 (M20 v0 1) 3)).1 = 1 ∧ (0 : Int) ≤ x3 ∧ x3 < ((kd_ sh (M20 (M20 v0 1) 3)).2 : Int)) (bd_ (up_ M20 (M20 (M20 v0 1) 3) x3 x11) fun (M24 : AwM) => (gd_ (kd_ sh (M24 v0 1) = (0, 5)) (gd_ ((kd_ sh (M24 (M24 v0 1) 4)).1 = 1 ∧ (0 : Int) ≤ x3 ∧ x3 < ((kd_ sh (M24 (M24 v0 1) 4)).2 : Int)) (bd_ (up_ M24 (M24 (M24 v0 1) 4) x3 x19) fun (M28 : AwM) => (gd_ (kd_ sh (M28 v0 1) = (0, 5)) (gd_ ((kd_ sh (M28 (M28 v0 1) 5)).1 = 1 ∧ (0 : Int) ≤ x3 ∧ x3 < ((kd_ sh (M28 (M28 v0 1) 5)).2 : Int)) (bd_ (up_ M28 (M28 (M28 v0 1) 5) x3 (sl_ 1 x19)) fun (M32 : AwM) => (gd_ (kd_ sh (M32 v0 1) = (0, 5)) (gd_ ((kd_ sh (M32 (M32 v0 1) 6)).1 = 1 ∧ (0 : Int) ≤ x3 ∧ x3 < ((kd_ sh (M32 (M32 v0 1) 6)).2 : Int)) (bd_ (up_ M32 (M32 (M32 v0 1) 6) x3 0) fun (M36 : AwM) => (gd_ (kd_ sh (M36 v0 0) = (0, 4)) (pb (fX4_isOwnWord sh M36 (M36 v0 0) 5) <| u1 fun (x40 : Int) => ((if x40 = 0 then some (1, M36) else pb (fX6_tellKnown sh M36 v0 x3) <| u2 fun (x43 : Int) (M44 : AwM) => ((if x43 = 0 then some (0, M44) else some (1, M44)))))))))))))))))))))))))))))
set_option maxRecDepth 100000 in
set_option maxHeartbeats 4000000 in
theorem mX6_tellCoin {sh : AwS} {M : AwM} {v0 : Int} {r : Int} {M' : AwM} (h : fX6_tellCoin sh M v0 = some (r, M')) : AMet yX6_tellCoin cX6_tellCoin 4 (some .boolean) 5 0 0 [.inr (.inr v0)] sh M (some (.inl r)) sh M' := by
  refine amet_of (by decide +kernel) (Nat.le_of_ble_eq_true rfl) (fun Γ hC => ?_)
  replace hC : AOK Γ RX6 cX6_tellCoin 4 5 0 0 "tellCoin" (some .boolean) := hC
  unfold fX6_tellCoin at h
  refine aw_sub hC [some (.inr (.inr v0)), none, none, none] ⟨rfl, trivial⟩ (Nat.le_of_ble_eq_true rfl) ?_
  refine aw_aload_n (pc' := 1) (i := 0) hC dX6_tellCoin_0 rfl rfl rfl ?_
  refine aw_iconst (pc' := 2) hC dX6_tellCoin_1 rfl (by decide) ?_
  obtain ⟨g2, h⟩ := gd_s h
  obtain ⟨⟨x3, M4⟩, q1, h⟩ := pb_s h
  replace h := u2_s h
  refine aw_cV (pc' := 5) (k2 := 0) (n2 := 0) (st := []) (stN := [.inl x3]) hC [.inl 1] (mX6_newOne q1) lk_X6_91 g2 dX6_tellCoin_2 rfl rfl (Nat.le_of_ble_eq_true rfl) (Nat.le_of_ble_eq_true rfl) (Nat.le_of_ble_eq_true rfl) rfl (Nat.le_of_ble_eq_true rfl) rfl rfl rfl ?_
  refine aw_istore_n (pc' := 6) (i := 1) (ls' := [some (.inr (.inr v0)), some (.inl x3), none, none]) hC dX6_tellCoin_5 rfl rfl (Nat.le_of_ble_eq_true rfl) rfl rfl ?_
  refine aw_iload_n (pc' := 7) (i := 1) hC dX6_tellCoin_6 rfl rfl rfl ?_
  refine aw_iconst (pc' := 8) hC dX6_tellCoin_7 rfl (by decide) ?_
  refine aw_icmp_eq (tgt := 19) (pc' := 11) hC dX6_tellCoin_8 (by decide) rfl (fun c5 => ?_) (fun c5 => ?_)
  · replace h := it_p c5 h
    refine aw_iconst (pc' := 20) hC dX6_tellCoin_19 rfl (by decide) ?_
    cases h
    exact aw_zret hC (Or.inl rfl) dX6_tellCoin_20 (Nat.le_of_ble_eq_true rfl) (Nat.le_of_ble_eq_true rfl)
  · replace h := it_n c5 h
    refine aw_aload_n (pc' := 12) (i := 0) hC dX6_tellCoin_11 rfl rfl rfl ?_
    refine aw_iconst (pc' := 13) hC dX6_tellCoin_12 rfl (by decide) ?_
    obtain ⟨⟨x7, M8⟩, q6, h⟩ := pb_s h
    replace h := u2_s h
    refine aw_cV (pc' := 16) (k2 := 0) (n2 := 0) (st := []) (stN := [.inl x7]) hC [.inl 3] (mX6_word q6) lk_X6_95 g2 dX6_tellCoin_13 rfl rfl (Nat.le_of_ble_eq_true rfl) (Nat.le_of_ble_eq_true rfl) (Nat.le_of_ble_eq_true rfl) rfl (Nat.le_of_ble_eq_true rfl) rfl rfl rfl ?_
    refine aw_if_ne (tgt := 21) (pc' := 19) hC dX6_tellCoin_16 (by decide) rfl (fun c9 => ?_) (fun c9 => ?_)
    · replace h := it_n c9 h
      refine aw_aload_n (pc' := 22) (i := 0) hC dX6_tellCoin_21 rfl rfl rfl ?_
      refine aw_iconst (pc' := 23) hC dX6_tellCoin_22 rfl (by decide) ?_
      refine aw_bipush (pc' := 25) hC dX6_tellCoin_23 rfl (by decide) ?_
      obtain ⟨⟨x11, M12⟩, q10, h⟩ := pb_s h
      replace h := u2_s h
      refine aw_cV (pc' := 28) (k2 := 0) (n2 := 0) (st := []) (stN := [.inl x11]) hC [.inl 1, .inl 99] (mX6_number q10) lk_X6_98 g2 dX6_tellCoin_25 rfl rfl (Nat.le_of_ble_eq_true rfl) (Nat.le_of_ble_eq_true rfl) (Nat.le_of_ble_eq_true rfl) rfl (Nat.le_of_ble_eq_true rfl) rfl rfl rfl ?_
      refine aw_istore_n (pc' := 29) (i := 2) (ls' := [some (.inr (.inr v0)), some (.inl x3), some (.inl x11), none]) hC dX6_tellCoin_28 rfl rfl (Nat.le_of_ble_eq_true rfl) rfl rfl ?_
      refine aw_iload_n (pc' := 30) (i := 2) hC dX6_tellCoin_29 rfl rfl rfl ?_
      refine aw_iconst (pc' := 31) hC dX6_tellCoin_30 rfl (by decide) ?_
      refine aw_icmp_eq (tgt := 42) (pc' := 34) hC dX6_tellCoin_31 (by decide) rfl (fun c13 => ?_) (fun c13 => ?_)
      · replace h := it_p c13 h
        refine aw_iconst (pc' := 43) hC dX6_tellCoin_42 rfl (by decide) ?_
        cases h
        exact aw_zret hC (Or.inl rfl) dX6_tellCoin_43 (Nat.le_of_ble_eq_true rfl) (Nat.le_of_ble_eq_true rfl)
      · replace h := it_n c13 h
        refine aw_aload_n (pc' := 35) (i := 0) hC dX6_tellCoin_34 rfl rfl rfl ?_
        refine aw_iconst (pc' := 36) hC dX6_tellCoin_35 rfl (by decide) ?_
        obtain ⟨⟨x15, M16⟩, q14, h⟩ := pb_s h
        replace h := u2_s h
        refine aw_cV (pc' := 39) (k2 := 0) (n2 := 0) (st := []) (stN := [.inl x15]) hC [.inl 4] (mX6_word q14) lk_X6_95 g2 dX6_tellCoin_36 rfl rfl (Nat.le_of_ble_eq_true rfl) (Nat.le_of_ble_eq_true rfl) (Nat.le_of_ble_eq_true rfl) rfl (Nat.le_of_ble_eq_true rfl) rfl rfl rfl ?_
        refine aw_if_ne (tgt := 44) (pc' := 42) hC dX6_tellCoin_39 (by decide) rfl (fun c17 => ?_) (fun c17 => ?_)
        · replace h := it_n c17 h
          refine aw_aload_n (pc' := 45) (i := 0) hC dX6_tellCoin_44 rfl rfl rfl ?_
          refine aw_iconst (pc' := 46) hC dX6_tellCoin_45 rfl (by decide) ?_
          refine aw_iconst (pc' := 47) hC dX6_tellCoin_46 rfl (by decide) ?_
          obtain ⟨⟨x19, M20⟩, q18, h⟩ := pb_s h
          replace h := u2_s h
          refine aw_cV (pc' := 50) (k2 := 0) (n2 := 0) (st := []) (stN := [.inl x19]) hC [.inl 0, .inl 0] (mX6_asked q18) lk_X6_106 g2 dX6_tellCoin_47 rfl rfl (Nat.le_of_ble_eq_true rfl) (Nat.le_of_ble_eq_true rfl) (Nat.le_of_ble_eq_true rfl) rfl (Nat.le_of_ble_eq_true rfl) rfl rfl rfl ?_
          refine aw_istore_n (pc' := 51) (i := 3) (ls' := [some (.inr (.inr v0)), some (.inl x3), some (.inl x11), some (.inl x19)]) hC dX6_tellCoin_50 rfl rfl (Nat.le_of_ble_eq_true rfl) rfl rfl ?_
          refine aw_iload_n (pc' := 52) (i := 3) hC dX6_tellCoin_51 rfl rfl rfl ?_
          refine aw_iconst (pc' := 53) hC dX6_tellCoin_52 rfl (by decide) ?_
          refine aw_icmp_ne (tgt := 58) (pc' := 56) hC dX6_tellCoin_53 (by decide) rfl (fun c21 => ?_) (fun c21 => ?_)
          · replace h := it_n c21 h
            refine aw_aload_n (pc' := 59) (i := 0) hC dX6_tellCoin_58 rfl rfl rfl ?_
            refine aw_getfield (pc' := 62) (v := (.inr (.inr (M20 v0 1)))) hC dX6_tellCoin_59 rfl fl_X6_21 g2 rfl ?_
            obtain ⟨g22, h⟩ := gd_s h
            refine aw_getfield (pc' := 65) (v := (.inr (.inr (M20 (M20 v0 1) 3)))) hC dX6_tellCoin_62 rfl fl_X6_109 g22 rfl ?_
            refine aw_iload_n (pc' := 66) (i := 1) hC dX6_tellCoin_65 rfl rfl rfl ?_
            refine aw_iload_n (pc' := 67) (i := 2) hC dX6_tellCoin_66 rfl rfl rfl ?_
            obtain ⟨g23, h⟩ := gd_s h
            obtain ⟨M24, e25, h⟩ := bd_s h
            refine aw_ias (pc' := 68) hC dX6_tellCoin_67 rfl g23 e25 ?_
            refine aw_aload_n (pc' := 69) (i := 0) hC dX6_tellCoin_68 rfl rfl rfl ?_
            refine aw_getfield (pc' := 72) (v := (.inr (.inr (M24 v0 1)))) hC dX6_tellCoin_69 rfl fl_X6_21 g2 rfl ?_
            obtain ⟨g26, h⟩ := gd_s h
            refine aw_getfield (pc' := 75) (v := (.inr (.inr (M24 (M24 v0 1) 4)))) hC dX6_tellCoin_72 rfl fl_X6_112 g26 rfl ?_
            refine aw_iload_n (pc' := 76) (i := 1) hC dX6_tellCoin_75 rfl rfl rfl ?_
            refine aw_iload_n (pc' := 77) (i := 3) hC dX6_tellCoin_76 rfl rfl rfl ?_
            obtain ⟨g27, h⟩ := gd_s h
            obtain ⟨M28, e29, h⟩ := bd_s h
            refine aw_ias (pc' := 78) hC dX6_tellCoin_77 rfl g27 e29 ?_
            refine aw_aload_n (pc' := 79) (i := 0) hC dX6_tellCoin_78 rfl rfl rfl ?_
            refine aw_getfield (pc' := 82) (v := (.inr (.inr (M28 v0 1)))) hC dX6_tellCoin_79 rfl fl_X6_21 g2 rfl ?_
            obtain ⟨g30, h⟩ := gd_s h
            refine aw_getfield (pc' := 85) (v := (.inr (.inr (M28 (M28 v0 1) 5)))) hC dX6_tellCoin_82 rfl fl_X6_115 g30 rfl ?_
            refine aw_iload_n (pc' := 86) (i := 1) hC dX6_tellCoin_85 rfl rfl rfl ?_
            refine aw_iconst (pc' := 87) hC dX6_tellCoin_86 rfl (by decide) ?_
            refine aw_iload_n (pc' := 88) (i := 3) hC dX6_tellCoin_87 rfl rfl rfl ?_
            refine aw_ishl (pc' := 89) hC dX6_tellCoin_88 rfl  ?_
            obtain ⟨g31, h⟩ := gd_s h
            obtain ⟨M32, e33, h⟩ := bd_s h
            refine aw_ias (pc' := 90) hC dX6_tellCoin_89 rfl g31 e33 ?_
            refine aw_aload_n (pc' := 91) (i := 0) hC dX6_tellCoin_90 rfl rfl rfl ?_
            refine aw_getfield (pc' := 94) (v := (.inr (.inr (M32 v0 1)))) hC dX6_tellCoin_91 rfl fl_X6_21 g2 rfl ?_
            obtain ⟨g34, h⟩ := gd_s h
            refine aw_getfield (pc' := 97) (v := (.inr (.inr (M32 (M32 v0 1) 6)))) hC dX6_tellCoin_94 rfl fl_X6_118 g34 rfl ?_
            refine aw_iload_n (pc' := 98) (i := 1) hC dX6_tellCoin_97 rfl rfl rfl ?_
            refine aw_iconst (pc' := 99) hC dX6_tellCoin_98 rfl (by decide) ?_
            obtain ⟨g35, h⟩ := gd_s h
            obtain ⟨M36, e37, h⟩ := bd_s h
            refine aw_ias (pc' := 100) hC dX6_tellCoin_99 rfl g35 e37 ?_
            refine aw_aload_n (pc' := 101) (i := 0) hC dX6_tellCoin_100 rfl rfl rfl ?_
            refine aw_getfield (pc' := 104) (v := (.inr (.inr (M36 v0 0)))) hC dX6_tellCoin_101 rfl fl_X6_12 g2 rfl ?_
            refine aw_iconst (pc' := 105) hC dX6_tellCoin_104 rfl (by decide) ?_
            obtain ⟨g39, h⟩ := gd_s h
            obtain ⟨x40, q38, h⟩ := pb_s h
            replace h := u1_s h
            refine aw_cV (pc' := 108) (k2 := 0) (n2 := 0) (st := []) (stN := [.inl x40]) hC [.inl 5] (mX4_isOwnWord q38) lk_X6_121 g39 dX6_tellCoin_105 rfl rfl (Nat.le_of_ble_eq_true rfl) (Nat.le_of_ble_eq_true rfl) (Nat.le_of_ble_eq_true rfl) rfl (Nat.le_of_ble_eq_true rfl) rfl rfl rfl ?_
            refine aw_if_eq (tgt := 119) (pc' := 111) hC dX6_tellCoin_108 (by decide) rfl (fun c41 => ?_) (fun c41 => ?_)
            · replace h := it_p c41 h
              refine aw_iconst (pc' := 120) hC dX6_tellCoin_119 rfl (by decide) ?_
              refine aw_goto (tgt := 124) hC dX6_tellCoin_120 (by decide) ?_
              cases h
              exact aw_zret hC (Or.inr rfl) dX6_tellCoin_124 (Nat.le_of_ble_eq_true rfl) (Nat.le_of_ble_eq_true rfl)
            · replace h := it_n c41 h
              refine aw_aload_n (pc' := 112) (i := 0) hC dX6_tellCoin_111 rfl rfl rfl ?_
              refine aw_iload_n (pc' := 113) (i := 1) hC dX6_tellCoin_112 rfl rfl rfl ?_
              obtain ⟨⟨x43, M44⟩, q42, h⟩ := pb_s h
              replace h := u2_s h
              refine aw_cV (pc' := 116) (k2 := 0) (n2 := 0) (st := []) (stN := [.inl x43]) hC [.inl x3] (mX6_tellKnown q42) lk_X6_124 g2 dX6_tellCoin_113 rfl rfl (Nat.le_of_ble_eq_true rfl) (Nat.le_of_ble_eq_true rfl) (Nat.le_of_ble_eq_true rfl) rfl (Nat.le_of_ble_eq_true rfl) rfl rfl rfl ?_
              refine aw_if_eq (tgt := 123) (pc' := 119) hC dX6_tellCoin_116 (by decide) rfl (fun c45 => ?_) (fun c45 => ?_)
              · replace h := it_p c45 h
                refine aw_iconst (pc' := 124) hC dX6_tellCoin_123 rfl (by decide) ?_
                cases h
                exact aw_zret hC (Or.inl rfl) dX6_tellCoin_124 (Nat.le_of_ble_eq_true rfl) (Nat.le_of_ble_eq_true rfl)
              · replace h := it_n c45 h
                refine aw_iconst (pc' := 120) hC dX6_tellCoin_119 rfl (by decide) ?_
                refine aw_goto (tgt := 124) hC dX6_tellCoin_120 (by decide) ?_
                cases h
                exact aw_zret hC (Or.inr rfl) dX6_tellCoin_124 (Nat.le_of_ble_eq_true rfl) (Nat.le_of_ble_eq_true rfl)
          · replace h := it_p c21 h
            refine aw_iconst (pc' := 57) hC dX6_tellCoin_56 rfl (by decide) ?_
            cases h
            exact aw_zret hC (Or.inl rfl) dX6_tellCoin_57 (Nat.le_of_ble_eq_true rfl) (Nat.le_of_ble_eq_true rfl)
        · replace h := it_p c17 h
          refine aw_iconst (pc' := 43) hC dX6_tellCoin_42 rfl (by decide) ?_
          cases h
          exact aw_zret hC (Or.inl rfl) dX6_tellCoin_43 (Nat.le_of_ble_eq_true rfl) (Nat.le_of_ble_eq_true rfl)
    · replace h := it_p c9 h
      refine aw_iconst (pc' := 20) hC dX6_tellCoin_19 rfl (by decide) ?_
      cases h
      exact aw_zret hC (Or.inl rfl) dX6_tellCoin_20 (Nat.le_of_ble_eq_true rfl) (Nat.le_of_ble_eq_true rfl)
-- CoinCircle$Teller.tellGoods()Z
def fX6_tellGoods (sh : AwS) (M : AwM) (v0 : Int) : Option (Int × AwM) :=
  gd_ (kd_ sh v0 = (0, 6)) (pb (fX6_newOne sh M v0 2) <| u2 fun (x3 : Int) (M4 : AwM) => ((if x3 = (-1) then some (0, M4) else pb (fX6_word sh M4 v0 3) <| u2 fun (x7 : Int) (M8 : AwM) => ((if x7 = 0 then some (0, M8) else pb (fX6_number sh M8 v0 0 99) <| u2 fun (x11 : Int) (M12 : AwM) => ((if x11 = (-1) then some (0, M12) else pb (fX6_word sh M12 v0 7) <| u2 fun (x15 : Int) (M16 : AwM) => ((if x15 = 0 then some (0, M16) else pb (fX6_asked sh M16 v0 0 0) <| u2 fun (x19 : Int) (M20 : AwM) => (gd_ (kd_ sh (M20 v0 1) = (0, 5)) (gd_ ((kd_ sh (M20 (M20 v0 1) 7)).1 = 1 ∧ (0 : Int) ≤ x3 ∧ x3 < ((kd_ sh (M20 (M20 v0 1) 7)).2 : Int)) (bd_ (up_ M20 (M20 (M20 v0 1) 7) x3 x11) fun (M23 : AwM) => (gd_ (kd_ sh (M23 v0 1) = (0, 5)) (gd_ ((kd_ sh (M23 (M23 v0 1) 8)).1 = 1 ∧ (0 : Int) ≤ x3 ∧ x3 < ((kd_ sh (M23 (M23 v0 1) 8)).2 : Int)) (bd_ (up_ M23 (M23 (M23 v0 1) 8) x3 x19) fun (M27 : AwM) => ((if x19 = (-1) then some (0, M27) else some (1, M27))))))))))))))))))
set_option maxRecDepth 100000 in
set_option maxHeartbeats 4000000 in
theorem mX6_tellGoods {sh : AwS} {M : AwM} {v0 : Int} {r : Int} {M' : AwM} (h : fX6_tellGoods sh M v0 = some (r, M')) : AMet yX6_tellGoods cX6_tellGoods 4 (some .boolean) 5 0 0 [.inr (.inr v0)] sh M (some (.inl r)) sh M' := by
  refine amet_of (by decide +kernel) (Nat.le_of_ble_eq_true rfl) (fun Γ hC => ?_)
  replace hC : AOK Γ RX6 cX6_tellGoods 4 5 0 0 "tellGoods" (some .boolean) := hC
  unfold fX6_tellGoods at h
  refine aw_sub hC [some (.inr (.inr v0)), none, none, none] ⟨rfl, trivial⟩ (Nat.le_of_ble_eq_true rfl) ?_
  refine aw_aload_n (pc' := 1) (i := 0) hC dX6_tellGoods_0 rfl rfl rfl ?_
  refine aw_iconst (pc' := 2) hC dX6_tellGoods_1 rfl (by decide) ?_
  obtain ⟨g2, h⟩ := gd_s h
  obtain ⟨⟨x3, M4⟩, q1, h⟩ := pb_s h
  replace h := u2_s h
  refine aw_cV (pc' := 5) (k2 := 0) (n2 := 0) (st := []) (stN := [.inl x3]) hC [.inl 2] (mX6_newOne q1) lk_X6_91 g2 dX6_tellGoods_2 rfl rfl (Nat.le_of_ble_eq_true rfl) (Nat.le_of_ble_eq_true rfl) (Nat.le_of_ble_eq_true rfl) rfl (Nat.le_of_ble_eq_true rfl) rfl rfl rfl ?_
  refine aw_istore_n (pc' := 6) (i := 1) (ls' := [some (.inr (.inr v0)), some (.inl x3), none, none]) hC dX6_tellGoods_5 rfl rfl (Nat.le_of_ble_eq_true rfl) rfl rfl ?_
  refine aw_iload_n (pc' := 7) (i := 1) hC dX6_tellGoods_6 rfl rfl rfl ?_
  refine aw_iconst (pc' := 8) hC dX6_tellGoods_7 rfl (by decide) ?_
  refine aw_icmp_eq (tgt := 19) (pc' := 11) hC dX6_tellGoods_8 (by decide) rfl (fun c5 => ?_) (fun c5 => ?_)
  · replace h := it_p c5 h
    refine aw_iconst (pc' := 20) hC dX6_tellGoods_19 rfl (by decide) ?_
    cases h
    exact aw_zret hC (Or.inl rfl) dX6_tellGoods_20 (Nat.le_of_ble_eq_true rfl) (Nat.le_of_ble_eq_true rfl)
  · replace h := it_n c5 h
    refine aw_aload_n (pc' := 12) (i := 0) hC dX6_tellGoods_11 rfl rfl rfl ?_
    refine aw_iconst (pc' := 13) hC dX6_tellGoods_12 rfl (by decide) ?_
    obtain ⟨⟨x7, M8⟩, q6, h⟩ := pb_s h
    replace h := u2_s h
    refine aw_cV (pc' := 16) (k2 := 0) (n2 := 0) (st := []) (stN := [.inl x7]) hC [.inl 3] (mX6_word q6) lk_X6_95 g2 dX6_tellGoods_13 rfl rfl (Nat.le_of_ble_eq_true rfl) (Nat.le_of_ble_eq_true rfl) (Nat.le_of_ble_eq_true rfl) rfl (Nat.le_of_ble_eq_true rfl) rfl rfl rfl ?_
    refine aw_if_ne (tgt := 21) (pc' := 19) hC dX6_tellGoods_16 (by decide) rfl (fun c9 => ?_) (fun c9 => ?_)
    · replace h := it_n c9 h
      refine aw_aload_n (pc' := 22) (i := 0) hC dX6_tellGoods_21 rfl rfl rfl ?_
      refine aw_iconst (pc' := 23) hC dX6_tellGoods_22 rfl (by decide) ?_
      refine aw_bipush (pc' := 25) hC dX6_tellGoods_23 rfl (by decide) ?_
      obtain ⟨⟨x11, M12⟩, q10, h⟩ := pb_s h
      replace h := u2_s h
      refine aw_cV (pc' := 28) (k2 := 0) (n2 := 0) (st := []) (stN := [.inl x11]) hC [.inl 0, .inl 99] (mX6_number q10) lk_X6_98 g2 dX6_tellGoods_25 rfl rfl (Nat.le_of_ble_eq_true rfl) (Nat.le_of_ble_eq_true rfl) (Nat.le_of_ble_eq_true rfl) rfl (Nat.le_of_ble_eq_true rfl) rfl rfl rfl ?_
      refine aw_istore_n (pc' := 29) (i := 2) (ls' := [some (.inr (.inr v0)), some (.inl x3), some (.inl x11), none]) hC dX6_tellGoods_28 rfl rfl (Nat.le_of_ble_eq_true rfl) rfl rfl ?_
      refine aw_iload_n (pc' := 30) (i := 2) hC dX6_tellGoods_29 rfl rfl rfl ?_
      refine aw_iconst (pc' := 31) hC dX6_tellGoods_30 rfl (by decide) ?_
      refine aw_icmp_eq (tgt := 43) (pc' := 34) hC dX6_tellGoods_31 (by decide) rfl (fun c13 => ?_) (fun c13 => ?_)
      · replace h := it_p c13 h
        refine aw_iconst (pc' := 44) hC dX6_tellGoods_43 rfl (by decide) ?_
        cases h
        exact aw_zret hC (Or.inl rfl) dX6_tellGoods_44 (Nat.le_of_ble_eq_true rfl) (Nat.le_of_ble_eq_true rfl)
      · replace h := it_n c13 h
        refine aw_aload_n (pc' := 35) (i := 0) hC dX6_tellGoods_34 rfl rfl rfl ?_
        refine aw_bipush (pc' := 37) hC dX6_tellGoods_35 rfl (by decide) ?_
        obtain ⟨⟨x15, M16⟩, q14, h⟩ := pb_s h
        replace h := u2_s h
        refine aw_cV (pc' := 40) (k2 := 0) (n2 := 0) (st := []) (stN := [.inl x15]) hC [.inl 7] (mX6_word q14) lk_X6_95 g2 dX6_tellGoods_37 rfl rfl (Nat.le_of_ble_eq_true rfl) (Nat.le_of_ble_eq_true rfl) (Nat.le_of_ble_eq_true rfl) rfl (Nat.le_of_ble_eq_true rfl) rfl rfl rfl ?_
        refine aw_if_ne (tgt := 45) (pc' := 43) hC dX6_tellGoods_40 (by decide) rfl (fun c17 => ?_) (fun c17 => ?_)
        · replace h := it_n c17 h
          refine aw_aload_n (pc' := 46) (i := 0) hC dX6_tellGoods_45 rfl rfl rfl ?_
          refine aw_iconst (pc' := 47) hC dX6_tellGoods_46 rfl (by decide) ?_
          refine aw_iconst (pc' := 48) hC dX6_tellGoods_47 rfl (by decide) ?_
          obtain ⟨⟨x19, M20⟩, q18, h⟩ := pb_s h
          replace h := u2_s h
          refine aw_cV (pc' := 51) (k2 := 0) (n2 := 0) (st := []) (stN := [.inl x19]) hC [.inl 0, .inl 0] (mX6_asked q18) lk_X6_106 g2 dX6_tellGoods_48 rfl rfl (Nat.le_of_ble_eq_true rfl) (Nat.le_of_ble_eq_true rfl) (Nat.le_of_ble_eq_true rfl) rfl (Nat.le_of_ble_eq_true rfl) rfl rfl rfl ?_
          refine aw_istore_n (pc' := 52) (i := 3) (ls' := [some (.inr (.inr v0)), some (.inl x3), some (.inl x11), some (.inl x19)]) hC dX6_tellGoods_51 rfl rfl (Nat.le_of_ble_eq_true rfl) rfl rfl ?_
          refine aw_aload_n (pc' := 53) (i := 0) hC dX6_tellGoods_52 rfl rfl rfl ?_
          refine aw_getfield (pc' := 56) (v := (.inr (.inr (M20 v0 1)))) hC dX6_tellGoods_53 rfl fl_X6_21 g2 rfl ?_
          obtain ⟨g21, h⟩ := gd_s h
          refine aw_getfield (pc' := 59) (v := (.inr (.inr (M20 (M20 v0 1) 7)))) hC dX6_tellGoods_56 rfl fl_X6_130 g21 rfl ?_
          refine aw_iload_n (pc' := 60) (i := 1) hC dX6_tellGoods_59 rfl rfl rfl ?_
          refine aw_iload_n (pc' := 61) (i := 2) hC dX6_tellGoods_60 rfl rfl rfl ?_
          obtain ⟨g22, h⟩ := gd_s h
          obtain ⟨M23, e24, h⟩ := bd_s h
          refine aw_ias (pc' := 62) hC dX6_tellGoods_61 rfl g22 e24 ?_
          refine aw_aload_n (pc' := 63) (i := 0) hC dX6_tellGoods_62 rfl rfl rfl ?_
          refine aw_getfield (pc' := 66) (v := (.inr (.inr (M23 v0 1)))) hC dX6_tellGoods_63 rfl fl_X6_21 g2 rfl ?_
          obtain ⟨g25, h⟩ := gd_s h
          refine aw_getfield (pc' := 69) (v := (.inr (.inr (M23 (M23 v0 1) 8)))) hC dX6_tellGoods_66 rfl fl_X6_133 g25 rfl ?_
          refine aw_iload_n (pc' := 70) (i := 1) hC dX6_tellGoods_69 rfl rfl rfl ?_
          refine aw_iload_n (pc' := 71) (i := 3) hC dX6_tellGoods_70 rfl rfl rfl ?_
          obtain ⟨g26, h⟩ := gd_s h
          obtain ⟨M27, e28, h⟩ := bd_s h
          refine aw_ias (pc' := 72) hC dX6_tellGoods_71 rfl g26 e28 ?_
          refine aw_iload_n (pc' := 73) (i := 3) hC dX6_tellGoods_72 rfl rfl rfl ?_
          refine aw_iconst (pc' := 74) hC dX6_tellGoods_73 rfl (by decide) ?_
          refine aw_icmp_eq (tgt := 81) (pc' := 77) hC dX6_tellGoods_74 (by decide) rfl (fun c29 => ?_) (fun c29 => ?_)
          · replace h := it_p c29 h
            refine aw_iconst (pc' := 82) hC dX6_tellGoods_81 rfl (by decide) ?_
            cases h
            exact aw_zret hC (Or.inl rfl) dX6_tellGoods_82 (Nat.le_of_ble_eq_true rfl) (Nat.le_of_ble_eq_true rfl)
          · replace h := it_n c29 h
            refine aw_iconst (pc' := 78) hC dX6_tellGoods_77 rfl (by decide) ?_
            refine aw_goto (tgt := 82) hC dX6_tellGoods_78 (by decide) ?_
            cases h
            exact aw_zret hC (Or.inr rfl) dX6_tellGoods_82 (Nat.le_of_ble_eq_true rfl) (Nat.le_of_ble_eq_true rfl)
        · replace h := it_p c17 h
          refine aw_iconst (pc' := 44) hC dX6_tellGoods_43 rfl (by decide) ?_
          cases h
          exact aw_zret hC (Or.inl rfl) dX6_tellGoods_44 (Nat.le_of_ble_eq_true rfl) (Nat.le_of_ble_eq_true rfl)
    · replace h := it_p c9 h
      refine aw_iconst (pc' := 20) hC dX6_tellGoods_19 rfl (by decide) ?_
      cases h
      exact aw_zret hC (Or.inl rfl) dX6_tellGoods_20 (Nat.le_of_ble_eq_true rfl) (Nat.le_of_ble_eq_true rfl)
-- CoinCircle$Teller.tellSnub()Z
def fX6_tellSnub (sh : AwS) (M : AwM) (v0 : Int) : Option (Int × AwM) :=
  gd_ (kd_ sh v0 = (0, 6)) (gd_ (kd_ sh (M v0 0) = (0, 4)) (pb (fX4_next sh M (M v0 0)) <| u1 fun (M4 : AwM) => (pb (fX6_asked sh M4 v0 1 0) <| u2 fun (x6 : Int) (M7 : AwM) => ((if x6 = (-1) then some (0, M7) else gd_ (kd_ sh (M7 v0 1) = (0, 5)) (gd_ ((kd_ sh (M7 (M7 v0 1) 5)).1 = 1 ∧ (0 : Int) ≤ x6 ∧ x6 < ((kd_ sh (M7 (M7 v0 1) 5)).2 : Int)) (gd_ ((kd_ sh (M7 (M7 v0 1) 6)).1 = 1 ∧ (0 : Int) ≤ x6 ∧ x6 < ((kd_ sh (M7 (M7 v0 1) 6)).2 : Int)) (pb (fX6_asked sh M7 v0 0 (or_ (M7 (M7 (M7 v0 1) 5) x6) (M7 (M7 (M7 v0 1) 6) x6))) <| u2 fun (x13 : Int) (M14 : AwM) => ((if x13 = (-1) then some (0, M14) else gd_ (kd_ sh (M14 v0 1) = (0, 5)) (gd_ ((kd_ sh (M14 (M14 v0 1) 6)).1 = 1 ∧ (0 : Int) ≤ x6 ∧ x6 < ((kd_ sh (M14 (M14 v0 1) 6)).2 : Int)) (bd_ (up_ M14 (M14 (M14 v0 1) 6) x6 (or_ (M14 (M14 (M14 v0 1) 6) x6) (sl_ 1 x13))) fun (M18 : AwM) => (some (1, M18))))))))))))))
set_option maxRecDepth 100000 in
set_option maxHeartbeats 4000000 in
theorem mX6_tellSnub {sh : AwS} {M : AwM} {v0 : Int} {r : Int} {M' : AwM} (h : fX6_tellSnub sh M v0 = some (r, M')) : AMet yX6_tellSnub cX6_tellSnub 3 (some .boolean) 4 0 0 [.inr (.inr v0)] sh M (some (.inl r)) sh M' := by
  refine amet_of (by decide +kernel) (Nat.le_of_ble_eq_true rfl) (fun Γ hC => ?_)
  replace hC : AOK Γ RX6 cX6_tellSnub 3 4 0 0 "tellSnub" (some .boolean) := hC
  unfold fX6_tellSnub at h
  refine aw_sub hC [some (.inr (.inr v0)), none, none] ⟨rfl, trivial⟩ (Nat.le_of_ble_eq_true rfl) ?_
  refine aw_aload_n (pc' := 1) (i := 0) hC dX6_tellSnub_0 rfl rfl rfl ?_
  obtain ⟨g1, h⟩ := gd_s h
  refine aw_getfield (pc' := 4) (v := (.inr (.inr (M v0 0)))) hC dX6_tellSnub_1 rfl fl_X6_12 g1 rfl ?_
  obtain ⟨g3, h⟩ := gd_s h
  obtain ⟨M4, q2, h⟩ := pb_s h
  replace h := u1_s h
  refine aw_cV (pc' := 7) (k2 := 0) (n2 := 0) (st := []) (stN := []) hC [] (mX4_next q2) lk_X6_127 g3 dX6_tellSnub_4 rfl rfl (Nat.le_of_ble_eq_true rfl) (Nat.le_of_ble_eq_true rfl) (Nat.le_of_ble_eq_true rfl) rfl (Nat.le_of_ble_eq_true rfl) rfl rfl rfl ?_
  refine aw_aload_n (pc' := 8) (i := 0) hC dX6_tellSnub_7 rfl rfl rfl ?_
  refine aw_iconst (pc' := 9) hC dX6_tellSnub_8 rfl (by decide) ?_
  refine aw_iconst (pc' := 10) hC dX6_tellSnub_9 rfl (by decide) ?_
  obtain ⟨⟨x6, M7⟩, q5, h⟩ := pb_s h
  replace h := u2_s h
  refine aw_cV (pc' := 13) (k2 := 0) (n2 := 0) (st := []) (stN := [.inl x6]) hC [.inl 1, .inl 0] (mX6_asked q5) lk_X6_106 g1 dX6_tellSnub_10 rfl rfl (Nat.le_of_ble_eq_true rfl) (Nat.le_of_ble_eq_true rfl) (Nat.le_of_ble_eq_true rfl) rfl (Nat.le_of_ble_eq_true rfl) rfl rfl rfl ?_
  refine aw_istore_n (pc' := 14) (i := 1) (ls' := [some (.inr (.inr v0)), some (.inl x6), none]) hC dX6_tellSnub_13 rfl rfl (Nat.le_of_ble_eq_true rfl) rfl rfl ?_
  refine aw_iload_n (pc' := 15) (i := 1) hC dX6_tellSnub_14 rfl rfl rfl ?_
  refine aw_iconst (pc' := 16) hC dX6_tellSnub_15 rfl (by decide) ?_
  refine aw_icmp_ne (tgt := 21) (pc' := 19) hC dX6_tellSnub_16 (by decide) rfl (fun c8 => ?_) (fun c8 => ?_)
  · replace h := it_n c8 h
    refine aw_aload_n (pc' := 22) (i := 0) hC dX6_tellSnub_21 rfl rfl rfl ?_
    refine aw_iconst (pc' := 23) hC dX6_tellSnub_22 rfl (by decide) ?_
    refine aw_aload_n (pc' := 24) (i := 0) hC dX6_tellSnub_23 rfl rfl rfl ?_
    refine aw_getfield (pc' := 27) (v := (.inr (.inr (M7 v0 1)))) hC dX6_tellSnub_24 rfl fl_X6_21 g1 rfl ?_
    obtain ⟨g9, h⟩ := gd_s h
    refine aw_getfield (pc' := 30) (v := (.inr (.inr (M7 (M7 v0 1) 5)))) hC dX6_tellSnub_27 rfl fl_X6_115 g9 rfl ?_
    refine aw_iload_n (pc' := 31) (i := 1) hC dX6_tellSnub_30 rfl rfl rfl ?_
    obtain ⟨g10, h⟩ := gd_s h
    refine aw_iaload (pc' := 32) hC dX6_tellSnub_31 rfl g10 ?_
    refine aw_aload_n (pc' := 33) (i := 0) hC dX6_tellSnub_32 rfl rfl rfl ?_
    refine aw_getfield (pc' := 36) (v := (.inr (.inr (M7 v0 1)))) hC dX6_tellSnub_33 rfl fl_X6_21 g1 rfl ?_
    refine aw_getfield (pc' := 39) (v := (.inr (.inr (M7 (M7 v0 1) 6)))) hC dX6_tellSnub_36 rfl fl_X6_118 g9 rfl ?_
    refine aw_iload_n (pc' := 40) (i := 1) hC dX6_tellSnub_39 rfl rfl rfl ?_
    obtain ⟨g11, h⟩ := gd_s h
    refine aw_iaload (pc' := 41) hC dX6_tellSnub_40 rfl g11 ?_
    refine aw_ior (pc' := 42) hC dX6_tellSnub_41 rfl  ?_
    obtain ⟨⟨x13, M14⟩, q12, h⟩ := pb_s h
    replace h := u2_s h
    refine aw_cV (pc' := 45) (k2 := 0) (n2 := 0) (st := []) (stN := [.inl x13]) hC [.inl 0, .inl (or_ (M7 (M7 (M7 v0 1) 5) x6) (M7 (M7 (M7 v0 1) 6) x6))] (mX6_asked q12) lk_X6_106 g1 dX6_tellSnub_42 rfl rfl (Nat.le_of_ble_eq_true rfl) (Nat.le_of_ble_eq_true rfl) (Nat.le_of_ble_eq_true rfl) rfl (Nat.le_of_ble_eq_true rfl) rfl rfl rfl ?_
    refine aw_istore_n (pc' := 46) (i := 2) (ls' := [some (.inr (.inr v0)), some (.inl x6), some (.inl x13)]) hC dX6_tellSnub_45 rfl rfl (Nat.le_of_ble_eq_true rfl) rfl rfl ?_
    refine aw_iload_n (pc' := 47) (i := 2) hC dX6_tellSnub_46 rfl rfl rfl ?_
    refine aw_iconst (pc' := 48) hC dX6_tellSnub_47 rfl (by decide) ?_
    refine aw_icmp_ne (tgt := 53) (pc' := 51) hC dX6_tellSnub_48 (by decide) rfl (fun c15 => ?_) (fun c15 => ?_)
    · replace h := it_n c15 h
      refine aw_aload_n (pc' := 54) (i := 0) hC dX6_tellSnub_53 rfl rfl rfl ?_
      refine aw_getfield (pc' := 57) (v := (.inr (.inr (M14 v0 1)))) hC dX6_tellSnub_54 rfl fl_X6_21 g1 rfl ?_
      obtain ⟨g16, h⟩ := gd_s h
      refine aw_getfield (pc' := 60) (v := (.inr (.inr (M14 (M14 v0 1) 6)))) hC dX6_tellSnub_57 rfl fl_X6_118 g16 rfl ?_
      refine aw_iload_n (pc' := 61) (i := 1) hC dX6_tellSnub_60 rfl rfl rfl ?_
      refine aw_dup2 (pc' := 62) hC dX6_tellSnub_61 rfl rfl rfl ?_
      obtain ⟨g17, h⟩ := gd_s h
      refine aw_iaload (pc' := 63) hC dX6_tellSnub_62 rfl g17 ?_
      refine aw_iconst (pc' := 64) hC dX6_tellSnub_63 rfl (by decide) ?_
      refine aw_iload_n (pc' := 65) (i := 2) hC dX6_tellSnub_64 rfl rfl rfl ?_
      refine aw_ishl (pc' := 66) hC dX6_tellSnub_65 rfl  ?_
      refine aw_ior (pc' := 67) hC dX6_tellSnub_66 rfl  ?_
      obtain ⟨M18, e19, h⟩ := bd_s h
      refine aw_ias (pc' := 68) hC dX6_tellSnub_67 rfl g17 e19 ?_
      refine aw_iconst (pc' := 69) hC dX6_tellSnub_68 rfl (by decide) ?_
      cases h
      exact aw_zret hC (Or.inr rfl) dX6_tellSnub_69 (Nat.le_of_ble_eq_true rfl) (Nat.le_of_ble_eq_true rfl)
    · replace h := it_p c15 h
      refine aw_iconst (pc' := 52) hC dX6_tellSnub_51 rfl (by decide) ?_
      cases h
      exact aw_zret hC (Or.inl rfl) dX6_tellSnub_52 (Nat.le_of_ble_eq_true rfl) (Nat.le_of_ble_eq_true rfl)
  · replace h := it_p c8 h
    refine aw_iconst (pc' := 20) hC dX6_tellSnub_19 rfl (by decide) ?_
    cases h
    exact aw_zret hC (Or.inl rfl) dX6_tellSnub_20 (Nat.le_of_ble_eq_true rfl) (Nat.le_of_ble_eq_true rfl)
-- CoinCircle$Teller.tellFades()Z
def fX6_tellFades (sh : AwS) (M : AwM) (v0 : Int) : Option (Int × AwM) :=
  gd_ (kd_ sh v0 = (0, 6)) (gd_ (kd_ sh (M v0 0) = (0, 4)) (pb (fX4_next sh M (M v0 0)) <| u1 fun (M4 : AwM) => (pb (fX6_number sh M4 v0 0 99) <| u2 fun (x6 : Int) (M7 : AwM) => (gd_ (kd_ sh (M4 v0 1) = (0, 5)) (bd_ (up_ M7 (M4 v0 1) 11 x6) fun (M9 : AwM) => (gd_ (kd_ sh (M9 v0 1) = (0, 5)) ((if (M9 (M9 v0 1) 11) = (-1) then some (0, M9) else some (1, M9)))))))))
set_option maxRecDepth 100000 in
set_option maxHeartbeats 4000000 in
theorem mX6_tellFades {sh : AwS} {M : AwM} {v0 : Int} {r : Int} {M' : AwM} (h : fX6_tellFades sh M v0 = some (r, M')) : AMet yX6_tellFades cX6_tellFades 1 (some .boolean) 3 0 0 [.inr (.inr v0)] sh M (some (.inl r)) sh M' := by
  refine amet_of (by decide +kernel) (Nat.le_of_ble_eq_true rfl) (fun Γ hC => ?_)
  replace hC : AOK Γ RX6 cX6_tellFades 1 3 0 0 "tellFades" (some .boolean) := hC
  unfold fX6_tellFades at h
  refine aw_sub hC [some (.inr (.inr v0))] ⟨rfl, trivial⟩ (Nat.le_of_ble_eq_true rfl) ?_
  refine aw_aload_n (pc' := 1) (i := 0) hC dX6_tellFades_0 rfl rfl rfl ?_
  obtain ⟨g1, h⟩ := gd_s h
  refine aw_getfield (pc' := 4) (v := (.inr (.inr (M v0 0)))) hC dX6_tellFades_1 rfl fl_X6_12 g1 rfl ?_
  obtain ⟨g3, h⟩ := gd_s h
  obtain ⟨M4, q2, h⟩ := pb_s h
  replace h := u1_s h
  refine aw_cV (pc' := 7) (k2 := 0) (n2 := 0) (st := []) (stN := []) hC [] (mX4_next q2) lk_X6_127 g3 dX6_tellFades_4 rfl rfl (Nat.le_of_ble_eq_true rfl) (Nat.le_of_ble_eq_true rfl) (Nat.le_of_ble_eq_true rfl) rfl (Nat.le_of_ble_eq_true rfl) rfl rfl rfl ?_
  refine aw_aload_n (pc' := 8) (i := 0) hC dX6_tellFades_7 rfl rfl rfl ?_
  refine aw_getfield (pc' := 11) (v := (.inr (.inr (M4 v0 1)))) hC dX6_tellFades_8 rfl fl_X6_21 g1 rfl ?_
  refine aw_aload_n (pc' := 12) (i := 0) hC dX6_tellFades_11 rfl rfl rfl ?_
  refine aw_iconst (pc' := 13) hC dX6_tellFades_12 rfl (by decide) ?_
  refine aw_bipush (pc' := 15) hC dX6_tellFades_13 rfl (by decide) ?_
  obtain ⟨⟨x6, M7⟩, q5, h⟩ := pb_s h
  replace h := u2_s h
  refine aw_cV (pc' := 18) (k2 := 0) (n2 := 0) (st := [.inr (.inr (M4 v0 1))]) (stN := [.inl x6, .inr (.inr (M4 v0 1))]) hC [.inl 0, .inl 99] (mX6_number q5) lk_X6_98 g1 dX6_tellFades_15 rfl rfl (Nat.le_of_ble_eq_true rfl) (Nat.le_of_ble_eq_true rfl) (Nat.le_of_ble_eq_true rfl) rfl (Nat.le_of_ble_eq_true rfl) rfl rfl rfl ?_
  obtain ⟨g8, h⟩ := gd_s h
  obtain ⟨M9, e10, h⟩ := bd_s h
  refine aw_pf (pc' := 21) hC dX6_tellFades_18 rfl fp_X6_136 g8 rfl trivial e10 ?_
  refine aw_aload_n (pc' := 22) (i := 0) hC dX6_tellFades_21 rfl rfl rfl ?_
  refine aw_getfield (pc' := 25) (v := (.inr (.inr (M9 v0 1)))) hC dX6_tellFades_22 rfl fl_X6_21 g1 rfl ?_
  obtain ⟨g11, h⟩ := gd_s h
  refine aw_getfield (pc' := 28) (v := (.inl (M9 (M9 v0 1) 11))) hC dX6_tellFades_25 rfl fl_X6_136 g11 rfl ?_
  refine aw_iconst (pc' := 29) hC dX6_tellFades_28 rfl (by decide) ?_
  refine aw_icmp_eq (tgt := 36) (pc' := 32) hC dX6_tellFades_29 (by decide) rfl (fun c12 => ?_) (fun c12 => ?_)
  · replace h := it_p c12 h
    refine aw_iconst (pc' := 37) hC dX6_tellFades_36 rfl (by decide) ?_
    cases h
    exact aw_zret hC (Or.inl rfl) dX6_tellFades_37 (Nat.le_of_ble_eq_true rfl) (Nat.le_of_ble_eq_true rfl)
  · replace h := it_n c12 h
    refine aw_iconst (pc' := 33) hC dX6_tellFades_32 rfl (by decide) ?_
    refine aw_goto (tgt := 37) hC dX6_tellFades_33 (by decide) ?_
    cases h
    exact aw_zret hC (Or.inr rfl) dX6_tellFades_37 (Nat.le_of_ble_eq_true rfl) (Nat.le_of_ble_eq_true rfl)
-- CoinCircle$Teller.tellVogue()Z
def fX6_tellVogue (sh : AwS) (M : AwM) (v0 : Int) : Option (Int × AwM) :=
  gd_ (kd_ sh v0 = (0, 6)) (gd_ (kd_ sh (M v0 0) = (0, 4)) (pb (fX4_next sh M (M v0 0)) <| u1 fun (M4 : AwM) => (pb (fX6_number sh M4 v0 0 100) <| u2 fun (x6 : Int) (M7 : AwM) => (gd_ (kd_ sh (M4 v0 1) = (0, 5)) (bd_ (up_ M7 (M4 v0 1) 12 x6) fun (M9 : AwM) => (gd_ (kd_ sh (M9 v0 1) = (0, 5)) ((if (M9 (M9 v0 1) 12) = (-1) then some (0, M9) else some (1, M9)))))))))
set_option maxRecDepth 100000 in
set_option maxHeartbeats 4000000 in
theorem mX6_tellVogue {sh : AwS} {M : AwM} {v0 : Int} {r : Int} {M' : AwM} (h : fX6_tellVogue sh M v0 = some (r, M')) : AMet yX6_tellVogue cX6_tellVogue 1 (some .boolean) 3 0 0 [.inr (.inr v0)] sh M (some (.inl r)) sh M' := by
  refine amet_of (by decide +kernel) (Nat.le_of_ble_eq_true rfl) (fun Γ hC => ?_)
  replace hC : AOK Γ RX6 cX6_tellVogue 1 3 0 0 "tellVogue" (some .boolean) := hC
  unfold fX6_tellVogue at h
  refine aw_sub hC [some (.inr (.inr v0))] ⟨rfl, trivial⟩ (Nat.le_of_ble_eq_true rfl) ?_
  refine aw_aload_n (pc' := 1) (i := 0) hC dX6_tellVogue_0 rfl rfl rfl ?_
  obtain ⟨g1, h⟩ := gd_s h
  refine aw_getfield (pc' := 4) (v := (.inr (.inr (M v0 0)))) hC dX6_tellVogue_1 rfl fl_X6_12 g1 rfl ?_
  obtain ⟨g3, h⟩ := gd_s h
  obtain ⟨M4, q2, h⟩ := pb_s h
  replace h := u1_s h
  refine aw_cV (pc' := 7) (k2 := 0) (n2 := 0) (st := []) (stN := []) hC [] (mX4_next q2) lk_X6_127 g3 dX6_tellVogue_4 rfl rfl (Nat.le_of_ble_eq_true rfl) (Nat.le_of_ble_eq_true rfl) (Nat.le_of_ble_eq_true rfl) rfl (Nat.le_of_ble_eq_true rfl) rfl rfl rfl ?_
  refine aw_aload_n (pc' := 8) (i := 0) hC dX6_tellVogue_7 rfl rfl rfl ?_
  refine aw_getfield (pc' := 11) (v := (.inr (.inr (M4 v0 1)))) hC dX6_tellVogue_8 rfl fl_X6_21 g1 rfl ?_
  refine aw_aload_n (pc' := 12) (i := 0) hC dX6_tellVogue_11 rfl rfl rfl ?_
  refine aw_iconst (pc' := 13) hC dX6_tellVogue_12 rfl (by decide) ?_
  refine aw_bipush (pc' := 15) hC dX6_tellVogue_13 rfl (by decide) ?_
  obtain ⟨⟨x6, M7⟩, q5, h⟩ := pb_s h
  replace h := u2_s h
  refine aw_cV (pc' := 18) (k2 := 0) (n2 := 0) (st := [.inr (.inr (M4 v0 1))]) (stN := [.inl x6, .inr (.inr (M4 v0 1))]) hC [.inl 0, .inl 100] (mX6_number q5) lk_X6_98 g1 dX6_tellVogue_15 rfl rfl (Nat.le_of_ble_eq_true rfl) (Nat.le_of_ble_eq_true rfl) (Nat.le_of_ble_eq_true rfl) rfl (Nat.le_of_ble_eq_true rfl) rfl rfl rfl ?_
  obtain ⟨g8, h⟩ := gd_s h
  obtain ⟨M9, e10, h⟩ := bd_s h
  refine aw_pf (pc' := 21) hC dX6_tellVogue_18 rfl fp_X6_139 g8 rfl trivial e10 ?_
  refine aw_aload_n (pc' := 22) (i := 0) hC dX6_tellVogue_21 rfl rfl rfl ?_
  refine aw_getfield (pc' := 25) (v := (.inr (.inr (M9 v0 1)))) hC dX6_tellVogue_22 rfl fl_X6_21 g1 rfl ?_
  obtain ⟨g11, h⟩ := gd_s h
  refine aw_getfield (pc' := 28) (v := (.inl (M9 (M9 v0 1) 12))) hC dX6_tellVogue_25 rfl fl_X6_139 g11 rfl ?_
  refine aw_iconst (pc' := 29) hC dX6_tellVogue_28 rfl (by decide) ?_
  refine aw_icmp_eq (tgt := 36) (pc' := 32) hC dX6_tellVogue_29 (by decide) rfl (fun c12 => ?_) (fun c12 => ?_)
  · replace h := it_p c12 h
    refine aw_iconst (pc' := 37) hC dX6_tellVogue_36 rfl (by decide) ?_
    cases h
    exact aw_zret hC (Or.inl rfl) dX6_tellVogue_37 (Nat.le_of_ble_eq_true rfl) (Nat.le_of_ble_eq_true rfl)
  · replace h := it_n c12 h
    refine aw_iconst (pc' := 33) hC dX6_tellVogue_32 rfl (by decide) ?_
    refine aw_goto (tgt := 37) hC dX6_tellVogue_33 (by decide) ?_
    cases h
    exact aw_zret hC (Or.inr rfl) dX6_tellVogue_37 (Nat.le_of_ble_eq_true rfl) (Nat.le_of_ble_eq_true rfl)
-- CoinCircle$Formula.isTold()Z
def fX1_isTold (sh : AwS) (M : AwM) (v0 : Int) : Option Int :=
  gd_ (kd_ sh v0 = (0, 1)) ((if 0 < (M v0 1) then some 1 else some 0))
set_option maxRecDepth 100000 in
set_option maxHeartbeats 4000000 in
theorem mX1_isTold {sh : AwS} {M : AwM} {v0 : Int} {r : Int} (h : fX1_isTold sh M v0 = some r) : AMet yX1_isTold cX1_isTold 1 (some .boolean) 1 0 0 [.inr (.inr v0)] sh M (some (.inl r)) sh M := by
  refine amet_of (by decide +kernel) (Nat.le_of_ble_eq_true rfl) (fun Γ hC => ?_)
  replace hC : AOK Γ RX1 cX1_isTold 1 1 0 0 "isTold" (some .boolean) := hC
  unfold fX1_isTold at h
  refine aw_sub hC [some (.inr (.inr v0))] ⟨rfl, trivial⟩ (Nat.le_of_ble_eq_true rfl) ?_
  refine aw_aload_n (pc' := 1) (i := 0) hC dX1_isTold_0 rfl rfl rfl ?_
  obtain ⟨g1, h⟩ := gd_s h
  refine aw_getfield (pc' := 4) (v := (.inl (M v0 1))) hC dX1_isTold_1 rfl fl_X1_18 g1 rfl ?_
  refine aw_if_le (tgt := 11) (pc' := 7) hC dX1_isTold_4 (by decide) rfl (fun c2 => ?_) (fun c2 => ?_)
  · replace h := it_n c2 h
    refine aw_iconst (pc' := 12) hC dX1_isTold_11 rfl (by decide) ?_
    cases h
    exact aw_zret hC (Or.inl rfl) dX1_isTold_12 (Nat.le_of_ble_eq_true rfl) (Nat.le_of_ble_eq_true rfl)
  · replace h := it_p c2 h
    refine aw_iconst (pc' := 8) hC dX1_isTold_7 rfl (by decide) ?_
    refine aw_goto (tgt := 12) hC dX1_isTold_8 (by decide) ?_
    cases h
    exact aw_zret hC (Or.inr rfl) dX1_isTold_12 (Nat.le_of_ble_eq_true rfl) (Nat.le_of_ble_eq_true rfl)
-- CoinCircle$Teller.enter()Z
def fX6_enter (sh : AwS) (M : AwM) (v0 : Int) : Option (Int × AwM) :=
  gd_ (kd_ sh v0 = (0, 6)) ((if (M v0 3) < 7 then bd_ (up_ M v0 3 (w32 ((M v0 3) + 1))) fun (M3 : AwM) => (gd_ (kd_ sh (M3 v0 0) = (0, 4)) (pb (fX4_next sh M3 (M3 v0 0)) <| u1 fun (M7 : AwM) => (some (1, M7)))) else pb (fX6_fail sh M v0 5) <| u2 fun (x9 : Int) (M10 : AwM) => (gd_ (x9 = 0 ∨ x9 = 1) (some (x9, M10)))))
set_option maxRecDepth 100000 in
set_option maxHeartbeats 4000000 in
theorem mX6_enter {sh : AwS} {M : AwM} {v0 : Int} {r : Int} {M' : AwM} (h : fX6_enter sh M v0 = some (r, M')) : AMet yX6_enter cX6_enter 1 (some .boolean) 2 0 0 [.inr (.inr v0)] sh M (some (.inl r)) sh M' := by
  refine amet_of (by decide +kernel) (Nat.le_of_ble_eq_true rfl) (fun Γ hC => ?_)
  replace hC : AOK Γ RX6 cX6_enter 1 2 0 0 "enter" (some .boolean) := hC
  unfold fX6_enter at h
  refine aw_sub hC [some (.inr (.inr v0))] ⟨rfl, trivial⟩ (Nat.le_of_ble_eq_true rfl) ?_
  refine aw_aload_n (pc' := 1) (i := 0) hC dX6_enter_0 rfl rfl rfl ?_
  obtain ⟨g1, h⟩ := gd_s h
  refine aw_getfield (pc' := 4) (v := (.inl (M v0 3))) hC dX6_enter_1 rfl fl_X6_39 g1 rfl ?_
  refine aw_bipush (pc' := 6) hC dX6_enter_4 rfl (by decide) ?_
  refine aw_icmp_lt (tgt := 15) (pc' := 9) hC dX6_enter_6 (by decide) rfl (fun c2 => ?_) (fun c2 => ?_)
  · replace h := it_p c2 h
    refine aw_aload_n (pc' := 16) (i := 0) hC dX6_enter_15 rfl rfl rfl ?_
    refine aw_dup (pc' := 17) hC dX6_enter_16 rfl rfl ?_
    refine aw_getfield (pc' := 20) (v := (.inl (M v0 3))) hC dX6_enter_17 rfl fl_X6_39 g1 rfl ?_
    refine aw_iconst (pc' := 21) hC dX6_enter_20 rfl (by decide) ?_
    refine aw_iadd (pc' := 22) hC dX6_enter_21 rfl  ?_
    obtain ⟨M3, e4, h⟩ := bd_s h
    refine aw_pf (pc' := 25) hC dX6_enter_22 rfl fp_X6_39 g1 rfl trivial e4 ?_
    refine aw_aload_n (pc' := 26) (i := 0) hC dX6_enter_25 rfl rfl rfl ?_
    refine aw_getfield (pc' := 29) (v := (.inr (.inr (M3 v0 0)))) hC dX6_enter_26 rfl fl_X6_12 g1 rfl ?_
    obtain ⟨g6, h⟩ := gd_s h
    obtain ⟨M7, q5, h⟩ := pb_s h
    replace h := u1_s h
    refine aw_cV (pc' := 32) (k2 := 0) (n2 := 0) (st := []) (stN := []) hC [] (mX4_next q5) lk_X6_127 g6 dX6_enter_29 rfl rfl (Nat.le_of_ble_eq_true rfl) (Nat.le_of_ble_eq_true rfl) (Nat.le_of_ble_eq_true rfl) rfl (Nat.le_of_ble_eq_true rfl) rfl rfl rfl ?_
    refine aw_iconst (pc' := 33) hC dX6_enter_32 rfl (by decide) ?_
    cases h
    exact aw_zret hC (Or.inr rfl) dX6_enter_33 (Nat.le_of_ble_eq_true rfl) (Nat.le_of_ble_eq_true rfl)
  · replace h := it_n c2 h
    refine aw_aload_n (pc' := 10) (i := 0) hC dX6_enter_9 rfl rfl rfl ?_
    refine aw_iconst (pc' := 11) hC dX6_enter_10 rfl (by decide) ?_
    obtain ⟨⟨x9, M10⟩, q8, h⟩ := pb_s h
    replace h := u2_s h
    refine aw_cV (pc' := 14) (k2 := 0) (n2 := 0) (st := []) (stN := [.inl x9]) hC [.inl 5] (mX6_fail q8) lk_X6_52 g1 dX6_enter_11 rfl rfl (Nat.le_of_ble_eq_true rfl) (Nat.le_of_ble_eq_true rfl) (Nat.le_of_ble_eq_true rfl) rfl (Nat.le_of_ble_eq_true rfl) rfl rfl rfl ?_
    obtain ⟨g11, h⟩ := gd_s h
    cases h
    exact aw_zret hC g11 dX6_enter_14 (Nat.le_of_ble_eq_true rfl) (Nat.le_of_ble_eq_true rfl)
-- CoinCircle$Formula.add(I)V
def fX1_add (sh : AwS) (M : AwM) (v0 : Int) (v1 : Int) : Option (AwM) :=
  gd_ (kd_ sh v0 = (0, 1)) ((if (M v0 1) < 1600 then gd_ ((kd_ sh (M v0 0)).1 = 1 ∧ (0 : Int) ≤ (M v0 1) ∧ (M v0 1) < ((kd_ sh (M v0 0)).2 : Int)) (bd_ (up_ M (M v0 0) (M v0 1) v1) fun (M4 : AwM) => (bd_ (up_ M4 v0 1 (w32 ((M4 v0 1) + 1))) fun (M6 : AwM) => (some M6))) else some M))
set_option maxRecDepth 100000 in
set_option maxHeartbeats 4000000 in
theorem mX1_add {sh : AwS} {M : AwM} {v0 : Int} {v1 : Int} {M' : AwM} (h : fX1_add sh M v0 v1 = some M') : AMet yX1_add cX1_add 2 none 1 0 0 [.inr (.inr v0), .inl v1] sh M none sh M' := by
  refine amet_of (by decide +kernel) (Nat.le_of_ble_eq_true rfl) (fun Γ hC => ?_)
  replace hC : AOK Γ RX1 cX1_add 2 1 0 0 "add" none := hC
  unfold fX1_add at h
  refine aw_sub hC [some (.inr (.inr v0)), some (.inl v1)] ⟨rfl, ⟨rfl, trivial⟩⟩ (Nat.le_of_ble_eq_true rfl) ?_
  refine aw_aload_n (pc' := 1) (i := 0) hC dX1_add_0 rfl rfl rfl ?_
  obtain ⟨g1, h⟩ := gd_s h
  refine aw_getfield (pc' := 4) (v := (.inl (M v0 1))) hC dX1_add_1 rfl fl_X1_18 g1 rfl ?_
  refine aw_sipush (pc' := 7) hC dX1_add_4 rfl (by decide) ?_
  refine aw_icmp_ge (tgt := 30) (pc' := 10) hC dX1_add_7 (by decide) rfl (fun c2 => ?_) (fun c2 => ?_)
  · replace h := it_n c2 h
    cases h
    exact aw_vret hC dX1_add_30 (Nat.le_of_ble_eq_true rfl) (Nat.le_of_ble_eq_true rfl)
  · replace h := it_p c2 h
    refine aw_aload_n (pc' := 11) (i := 0) hC dX1_add_10 rfl rfl rfl ?_
    refine aw_getfield (pc' := 14) (v := (.inr (.inr (M v0 0)))) hC dX1_add_11 rfl fl_X1_9 g1 rfl ?_
    refine aw_aload_n (pc' := 15) (i := 0) hC dX1_add_14 rfl rfl rfl ?_
    refine aw_getfield (pc' := 18) (v := (.inl (M v0 1))) hC dX1_add_15 rfl fl_X1_18 g1 rfl ?_
    refine aw_iload_n (pc' := 19) (i := 1) hC dX1_add_18 rfl rfl rfl ?_
    obtain ⟨g3, h⟩ := gd_s h
    obtain ⟨M4, e5, h⟩ := bd_s h
    refine aw_ias (pc' := 20) hC dX1_add_19 rfl g3 e5 ?_
    refine aw_aload_n (pc' := 21) (i := 0) hC dX1_add_20 rfl rfl rfl ?_
    refine aw_dup (pc' := 22) hC dX1_add_21 rfl rfl ?_
    refine aw_getfield (pc' := 25) (v := (.inl (M4 v0 1))) hC dX1_add_22 rfl fl_X1_18 g1 rfl ?_
    refine aw_iconst (pc' := 26) hC dX1_add_25 rfl (by decide) ?_
    refine aw_iadd (pc' := 27) hC dX1_add_26 rfl  ?_
    obtain ⟨M6, e7, h⟩ := bd_s h
    refine aw_pf (pc' := 30) hC dX1_add_27 rfl fp_X1_18 g1 rfl trivial e7 ?_
    cases h
    exact aw_vret hC dX1_add_30 (Nat.le_of_ble_eq_true rfl) (Nat.le_of_ble_eq_true rfl)
-- CoinCircle$Scanner.isSign(C)Z
def fX4_isSign (sh : AwS) (M : AwM) (v0 : Int) (v1 : Int) : Option Int :=
  gd_ (kd_ sh v0 = (0, 4)) ((if (M v0 8) = 1 then (if (M v0 9) = v1 then some 1 else some 0) else some 0))
set_option maxRecDepth 100000 in
set_option maxHeartbeats 4000000 in
theorem mX4_isSign {sh : AwS} {M : AwM} {v0 : Int} {v1 : Int} {r : Int} (h : fX4_isSign sh M v0 v1 = some r) : AMet yX4_isSign cX4_isSign 2 (some .boolean) 1 0 0 [.inr (.inr v0), .inl v1] sh M (some (.inl r)) sh M := by
  refine amet_of (by decide +kernel) (Nat.le_of_ble_eq_true rfl) (fun Γ hC => ?_)
  replace hC : AOK Γ RX4 cX4_isSign 2 1 0 0 "isSign" (some .boolean) := hC
  unfold fX4_isSign at h
  refine aw_sub hC [some (.inr (.inr v0)), some (.inl v1)] ⟨rfl, ⟨rfl, trivial⟩⟩ (Nat.le_of_ble_eq_true rfl) ?_
  refine aw_aload_n (pc' := 1) (i := 0) hC dX4_isSign_0 rfl rfl rfl ?_
  obtain ⟨g1, h⟩ := gd_s h
  refine aw_getfield (pc' := 4) (v := (.inl (M v0 8))) hC dX4_isSign_1 rfl fl_X4_56 g1 rfl ?_
  refine aw_iconst (pc' := 5) hC dX4_isSign_4 rfl (by decide) ?_
  refine aw_icmp_ne (tgt := 20) (pc' := 8) hC dX4_isSign_5 (by decide) rfl (fun c2 => ?_) (fun c2 => ?_)
  · replace h := it_n c2 h
    refine aw_iconst (pc' := 21) hC dX4_isSign_20 rfl (by decide) ?_
    cases h
    exact aw_zret hC (Or.inl rfl) dX4_isSign_21 (Nat.le_of_ble_eq_true rfl) (Nat.le_of_ble_eq_true rfl)
  · replace h := it_p c2 h
    refine aw_aload_n (pc' := 9) (i := 0) hC dX4_isSign_8 rfl rfl rfl ?_
    refine aw_getfield (pc' := 12) (v := (.inl (M v0 9))) hC dX4_isSign_9 rfl fl_X4_63 g1 rfl ?_
    refine aw_iload_n (pc' := 13) (i := 1) hC dX4_isSign_12 rfl rfl rfl ?_
    refine aw_icmp_ne (tgt := 20) (pc' := 16) hC dX4_isSign_13 (by decide) rfl (fun c3 => ?_) (fun c3 => ?_)
    · replace h := it_n c3 h
      refine aw_iconst (pc' := 21) hC dX4_isSign_20 rfl (by decide) ?_
      cases h
      exact aw_zret hC (Or.inl rfl) dX4_isSign_21 (Nat.le_of_ble_eq_true rfl) (Nat.le_of_ble_eq_true rfl)
    · replace h := it_p c3 h
      refine aw_iconst (pc' := 17) hC dX4_isSign_16 rfl (by decide) ?_
      refine aw_goto (tgt := 21) hC dX4_isSign_17 (by decide) ?_
      cases h
      exact aw_zret hC (Or.inr rfl) dX4_isSign_21 (Nat.le_of_ble_eq_true rfl) (Nat.le_of_ble_eq_true rfl)
-- CoinCircle$Teller.sign(C)Z
def fX6_sign (sh : AwS) (M : AwM) (v0 : Int) (v1 : Int) : Option (Int × AwM) :=
  gd_ (kd_ sh v0 = (0, 6)) (gd_ (kd_ sh (M v0 0) = (0, 4)) (pb (fX4_isSign sh M (M v0 0) v1) <| u1 fun (x4 : Int) => ((if x4 = 0 then pb (fX6_fail sh M v0 1) <| u2 fun (x9 : Int) (M10 : AwM) => (gd_ (x9 = 0 ∨ x9 = 1) (some (x9, M10))) else pb (fX4_next sh M (M v0 0)) <| u1 fun (M7 : AwM) => (some (1, M7))))))
set_option maxRecDepth 100000 in
set_option maxHeartbeats 4000000 in
theorem mX6_sign {sh : AwS} {M : AwM} {v0 : Int} {v1 : Int} {r : Int} {M' : AwM} (h : fX6_sign sh M v0 v1 = some (r, M')) : AMet yX6_sign cX6_sign 2 (some .boolean) 2 0 0 [.inr (.inr v0), .inl v1] sh M (some (.inl r)) sh M' := by
  refine amet_of (by decide +kernel) (Nat.le_of_ble_eq_true rfl) (fun Γ hC => ?_)
  replace hC : AOK Γ RX6 cX6_sign 2 2 0 0 "sign" (some .boolean) := hC
  unfold fX6_sign at h
  refine aw_sub hC [some (.inr (.inr v0)), some (.inl v1)] ⟨rfl, ⟨rfl, trivial⟩⟩ (Nat.le_of_ble_eq_true rfl) ?_
  refine aw_aload_n (pc' := 1) (i := 0) hC dX6_sign_0 rfl rfl rfl ?_
  obtain ⟨g1, h⟩ := gd_s h
  refine aw_getfield (pc' := 4) (v := (.inr (.inr (M v0 0)))) hC dX6_sign_1 rfl fl_X6_12 g1 rfl ?_
  refine aw_iload_n (pc' := 5) (i := 1) hC dX6_sign_4 rfl rfl rfl ?_
  obtain ⟨g3, h⟩ := gd_s h
  obtain ⟨x4, q2, h⟩ := pb_s h
  replace h := u1_s h
  refine aw_cV (pc' := 8) (k2 := 0) (n2 := 0) (st := []) (stN := [.inl x4]) hC [.inl v1] (mX4_isSign q2) lk_X6_160 g3 dX6_sign_5 rfl rfl (Nat.le_of_ble_eq_true rfl) (Nat.le_of_ble_eq_true rfl) (Nat.le_of_ble_eq_true rfl) rfl (Nat.le_of_ble_eq_true rfl) rfl rfl rfl ?_
  refine aw_if_ne (tgt := 17) (pc' := 11) hC dX6_sign_8 (by decide) rfl (fun c5 => ?_) (fun c5 => ?_)
  · replace h := it_n c5 h
    refine aw_aload_n (pc' := 18) (i := 0) hC dX6_sign_17 rfl rfl rfl ?_
    refine aw_getfield (pc' := 21) (v := (.inr (.inr (M v0 0)))) hC dX6_sign_18 rfl fl_X6_12 g1 rfl ?_
    obtain ⟨M7, q6, h⟩ := pb_s h
    replace h := u1_s h
    refine aw_cV (pc' := 24) (k2 := 0) (n2 := 0) (st := []) (stN := []) hC [] (mX4_next q6) lk_X6_127 g3 dX6_sign_21 rfl rfl (Nat.le_of_ble_eq_true rfl) (Nat.le_of_ble_eq_true rfl) (Nat.le_of_ble_eq_true rfl) rfl (Nat.le_of_ble_eq_true rfl) rfl rfl rfl ?_
    refine aw_iconst (pc' := 25) hC dX6_sign_24 rfl (by decide) ?_
    cases h
    exact aw_zret hC (Or.inr rfl) dX6_sign_25 (Nat.le_of_ble_eq_true rfl) (Nat.le_of_ble_eq_true rfl)
  · replace h := it_p c5 h
    refine aw_aload_n (pc' := 12) (i := 0) hC dX6_sign_11 rfl rfl rfl ?_
    refine aw_iconst (pc' := 13) hC dX6_sign_12 rfl (by decide) ?_
    obtain ⟨⟨x9, M10⟩, q8, h⟩ := pb_s h
    replace h := u2_s h
    refine aw_cV (pc' := 16) (k2 := 0) (n2 := 0) (st := []) (stN := [.inl x9]) hC [.inl 1] (mX6_fail q8) lk_X6_52 g1 dX6_sign_13 rfl rfl (Nat.le_of_ble_eq_true rfl) (Nat.le_of_ble_eq_true rfl) (Nat.le_of_ble_eq_true rfl) rfl (Nat.le_of_ble_eq_true rfl) rfl rfl rfl ?_
    obtain ⟨g11, h⟩ := gd_s h
    cases h
    exact aw_zret hC g11 dX6_sign_16 (Nat.le_of_ble_eq_true rfl) (Nat.le_of_ble_eq_true rfl)
-- CoinCircle$Teller.factWord()I
def fX6_factWord_J22 (sh : AwS) (M : AwM) (s0 : Int) : Option Int :=
  (if s0 = 1 then some 1 else (if s0 = 2 then some (-1) else (if s0 = 3 then some 0 else (if s0 = 4 then some (-1) else (if s0 = 5 then some (-1) else (if s0 = 6 then some (-1) else (if s0 = 7 then some (-1) else (if s0 = 8 then some (-1) else (if s0 = 9 then some (-1) else (if s0 = 10 then some (-1) else (if s0 = 11 then some (-1) else (if s0 = 12 then some (-1) else (if s0 = 13 then some 2 else (if s0 = 14 then some 3 else (if s0 = 15 then some 4 else (if s0 = 16 then some 5 else some (-1)))))))))))))))))
def fX6_factWord (sh : AwS) (M : AwM) (v0 : Int) : Option Int :=
  gd_ (kd_ sh v0 = (0, 6)) (gd_ (kd_ sh (M v0 0) = (0, 4)) ((if (M (M v0 0) 8) = 4 then fX6_factWord_J22 sh M (M (M v0 0) 9) else fX6_factWord_J22 sh M (-1))))
set_option maxRecDepth 100000 in
set_option maxHeartbeats 4000000 in
theorem w_X6_factWord_J22 {Γ : AwC} (hC : AOK Γ RX6 cX6_factWord 1 1 0 0 "factWord" (some .int)) {sh : AwS} {M : AwM} {s0 : Int} {r : Int} (h : fX6_factWord_J22 sh M s0 = some r) {Q : State → Prop} (hQ : Q = (fin_ Γ 0 0 (some (.inl r)) sh M)) : AW Γ sh M 0 0 22 [none] [.inl s0] Q := by
  unfold fX6_factWord_J22 at h
  by_cases c4 : s0 = 1
  · replace h := it_p c4 h
    refine aw_tsIn (tgt := 102) (off := 80) hC dX6_factWord_22 ⟨by omega, by omega, by rw [c4]; rfl⟩ (by decide) ?_
    refine aw_iconst (pc' := 103) hC dX6_factWord_102 rfl (by decide) ?_
    cases h
    subst hQ
    exact aw_iret hC dX6_factWord_103 (Nat.le_of_ble_eq_true rfl) (Nat.le_of_ble_eq_true rfl)
  · replace h := it_n c4 h
    by_cases c5 : s0 = 2
    · replace h := it_p c5 h
      refine aw_tsIn (tgt := 112) (off := 90) hC dX6_factWord_22 ⟨by omega, by omega, by rw [c5]; rfl⟩ (by decide) ?_
      refine aw_iconst (pc' := 113) hC dX6_factWord_112 rfl (by decide) ?_
      cases h
      subst hQ
      exact aw_iret hC dX6_factWord_113 (Nat.le_of_ble_eq_true rfl) (Nat.le_of_ble_eq_true rfl)
    · replace h := it_n c5 h
      by_cases c6 : s0 = 3
      · replace h := it_p c6 h
        refine aw_tsIn (tgt := 100) (off := 78) hC dX6_factWord_22 ⟨by omega, by omega, by rw [c6]; rfl⟩ (by decide) ?_
        refine aw_iconst (pc' := 101) hC dX6_factWord_100 rfl (by decide) ?_
        cases h
        subst hQ
        exact aw_iret hC dX6_factWord_101 (Nat.le_of_ble_eq_true rfl) (Nat.le_of_ble_eq_true rfl)
      · replace h := it_n c6 h
        by_cases c7 : s0 = 4
        · replace h := it_p c7 h
          refine aw_tsIn (tgt := 112) (off := 90) hC dX6_factWord_22 ⟨by omega, by omega, by rw [c7]; rfl⟩ (by decide) ?_
          refine aw_iconst (pc' := 113) hC dX6_factWord_112 rfl (by decide) ?_
          cases h
          subst hQ
          exact aw_iret hC dX6_factWord_113 (Nat.le_of_ble_eq_true rfl) (Nat.le_of_ble_eq_true rfl)
        · replace h := it_n c7 h
          by_cases c8 : s0 = 5
          · replace h := it_p c8 h
            refine aw_tsIn (tgt := 112) (off := 90) hC dX6_factWord_22 ⟨by omega, by omega, by rw [c8]; rfl⟩ (by decide) ?_
            refine aw_iconst (pc' := 113) hC dX6_factWord_112 rfl (by decide) ?_
            cases h
            subst hQ
            exact aw_iret hC dX6_factWord_113 (Nat.le_of_ble_eq_true rfl) (Nat.le_of_ble_eq_true rfl)
          · replace h := it_n c8 h
            by_cases c9 : s0 = 6
            · replace h := it_p c9 h
              refine aw_tsIn (tgt := 112) (off := 90) hC dX6_factWord_22 ⟨by omega, by omega, by rw [c9]; rfl⟩ (by decide) ?_
              refine aw_iconst (pc' := 113) hC dX6_factWord_112 rfl (by decide) ?_
              cases h
              subst hQ
              exact aw_iret hC dX6_factWord_113 (Nat.le_of_ble_eq_true rfl) (Nat.le_of_ble_eq_true rfl)
            · replace h := it_n c9 h
              by_cases c10 : s0 = 7
              · replace h := it_p c10 h
                refine aw_tsIn (tgt := 112) (off := 90) hC dX6_factWord_22 ⟨by omega, by omega, by rw [c10]; rfl⟩ (by decide) ?_
                refine aw_iconst (pc' := 113) hC dX6_factWord_112 rfl (by decide) ?_
                cases h
                subst hQ
                exact aw_iret hC dX6_factWord_113 (Nat.le_of_ble_eq_true rfl) (Nat.le_of_ble_eq_true rfl)
              · replace h := it_n c10 h
                by_cases c11 : s0 = 8
                · replace h := it_p c11 h
                  refine aw_tsIn (tgt := 112) (off := 90) hC dX6_factWord_22 ⟨by omega, by omega, by rw [c11]; rfl⟩ (by decide) ?_
                  refine aw_iconst (pc' := 113) hC dX6_factWord_112 rfl (by decide) ?_
                  cases h
                  subst hQ
                  exact aw_iret hC dX6_factWord_113 (Nat.le_of_ble_eq_true rfl) (Nat.le_of_ble_eq_true rfl)
                · replace h := it_n c11 h
                  by_cases c12 : s0 = 9
                  · replace h := it_p c12 h
                    refine aw_tsIn (tgt := 112) (off := 90) hC dX6_factWord_22 ⟨by omega, by omega, by rw [c12]; rfl⟩ (by decide) ?_
                    refine aw_iconst (pc' := 113) hC dX6_factWord_112 rfl (by decide) ?_
                    cases h
                    subst hQ
                    exact aw_iret hC dX6_factWord_113 (Nat.le_of_ble_eq_true rfl) (Nat.le_of_ble_eq_true rfl)
                  · replace h := it_n c12 h
                    by_cases c13 : s0 = 10
                    · replace h := it_p c13 h
                      refine aw_tsIn (tgt := 112) (off := 90) hC dX6_factWord_22 ⟨by omega, by omega, by rw [c13]; rfl⟩ (by decide) ?_
                      refine aw_iconst (pc' := 113) hC dX6_factWord_112 rfl (by decide) ?_
                      cases h
                      subst hQ
                      exact aw_iret hC dX6_factWord_113 (Nat.le_of_ble_eq_true rfl) (Nat.le_of_ble_eq_true rfl)
                    · replace h := it_n c13 h
                      by_cases c14 : s0 = 11
                      · replace h := it_p c14 h
                        refine aw_tsIn (tgt := 112) (off := 90) hC dX6_factWord_22 ⟨by omega, by omega, by rw [c14]; rfl⟩ (by decide) ?_
                        refine aw_iconst (pc' := 113) hC dX6_factWord_112 rfl (by decide) ?_
                        cases h
                        subst hQ
                        exact aw_iret hC dX6_factWord_113 (Nat.le_of_ble_eq_true rfl) (Nat.le_of_ble_eq_true rfl)
                      · replace h := it_n c14 h
                        by_cases c15 : s0 = 12
                        · replace h := it_p c15 h
                          refine aw_tsIn (tgt := 112) (off := 90) hC dX6_factWord_22 ⟨by omega, by omega, by rw [c15]; rfl⟩ (by decide) ?_
                          refine aw_iconst (pc' := 113) hC dX6_factWord_112 rfl (by decide) ?_
                          cases h
                          subst hQ
                          exact aw_iret hC dX6_factWord_113 (Nat.le_of_ble_eq_true rfl) (Nat.le_of_ble_eq_true rfl)
                        · replace h := it_n c15 h
                          by_cases c16 : s0 = 13
                          · replace h := it_p c16 h
                            refine aw_tsIn (tgt := 104) (off := 82) hC dX6_factWord_22 ⟨by omega, by omega, by rw [c16]; rfl⟩ (by decide) ?_
                            refine aw_iconst (pc' := 105) hC dX6_factWord_104 rfl (by decide) ?_
                            cases h
                            subst hQ
                            exact aw_iret hC dX6_factWord_105 (Nat.le_of_ble_eq_true rfl) (Nat.le_of_ble_eq_true rfl)
                          · replace h := it_n c16 h
                            by_cases c17 : s0 = 14
                            · replace h := it_p c17 h
                              refine aw_tsIn (tgt := 106) (off := 84) hC dX6_factWord_22 ⟨by omega, by omega, by rw [c17]; rfl⟩ (by decide) ?_
                              refine aw_iconst (pc' := 107) hC dX6_factWord_106 rfl (by decide) ?_
                              cases h
                              subst hQ
                              exact aw_iret hC dX6_factWord_107 (Nat.le_of_ble_eq_true rfl) (Nat.le_of_ble_eq_true rfl)
                            · replace h := it_n c17 h
                              by_cases c18 : s0 = 15
                              · replace h := it_p c18 h
                                refine aw_tsIn (tgt := 108) (off := 86) hC dX6_factWord_22 ⟨by omega, by omega, by rw [c18]; rfl⟩ (by decide) ?_
                                refine aw_iconst (pc' := 109) hC dX6_factWord_108 rfl (by decide) ?_
                                cases h
                                subst hQ
                                exact aw_iret hC dX6_factWord_109 (Nat.le_of_ble_eq_true rfl) (Nat.le_of_ble_eq_true rfl)
                              · replace h := it_n c18 h
                                by_cases c19 : s0 = 16
                                · replace h := it_p c19 h
                                  refine aw_tsIn (tgt := 110) (off := 88) hC dX6_factWord_22 ⟨by omega, by omega, by rw [c19]; rfl⟩ (by decide) ?_
                                  refine aw_iconst (pc' := 111) hC dX6_factWord_110 rfl (by decide) ?_
                                  cases h
                                  subst hQ
                                  exact aw_iret hC dX6_factWord_111 (Nat.le_of_ble_eq_true rfl) (Nat.le_of_ble_eq_true rfl)
                                · replace h := it_n c19 h
                                  refine aw_tsOut (tgt := 112) hC dX6_factWord_22 (by omega) (by decide) ?_
                                  refine aw_iconst (pc' := 113) hC dX6_factWord_112 rfl (by decide) ?_
                                  cases h
                                  subst hQ
                                  exact aw_iret hC dX6_factWord_113 (Nat.le_of_ble_eq_true rfl) (Nat.le_of_ble_eq_true rfl)
set_option maxRecDepth 100000 in
set_option maxHeartbeats 4000000 in
theorem mX6_factWord {sh : AwS} {M : AwM} {v0 : Int} {r : Int} (h : fX6_factWord sh M v0 = some r) : AMet yX6_factWord cX6_factWord 1 (some .int) 1 0 0 [.inr (.inr v0)] sh M (some (.inl r)) sh M := by
  refine amet_of (by decide +kernel) (Nat.le_of_ble_eq_true rfl) (fun Γ hC => ?_)
  replace hC : AOK Γ RX6 cX6_factWord 1 1 0 0 "factWord" (some .int) := hC
  unfold fX6_factWord at h
  refine aw_sub hC [some (.inr (.inr v0))] ⟨rfl, trivial⟩ (Nat.le_of_ble_eq_true rfl) ?_
  refine aw_aload_n (pc' := 1) (i := 0) hC dX6_factWord_0 rfl rfl rfl ?_
  obtain ⟨g1, h⟩ := gd_s h
  refine aw_getfield (pc' := 4) (v := (.inr (.inr (M v0 0)))) hC dX6_factWord_1 rfl fl_X6_12 g1 rfl ?_
  obtain ⟨g2, h⟩ := gd_s h
  refine aw_getfield (pc' := 7) (v := (.inl (M (M v0 0) 8))) hC dX6_factWord_4 rfl fl_X6_49 g2 rfl ?_
  refine aw_iconst (pc' := 8) hC dX6_factWord_7 rfl (by decide) ?_
  refine aw_icmp_ne (tgt := 21) (pc' := 11) hC dX6_factWord_8 (by decide) rfl (fun c3 => ?_) (fun c3 => ?_)
  · replace h := it_n c3 h
    refine aw_iconst (pc' := 22) hC dX6_factWord_21 rfl (by decide) ?_
    refine aw_sub hC [none] trivial (Nat.le_of_ble_eq_true rfl) ?_
    exact w_X6_factWord_J22 hC h rfl
  · replace h := it_p c3 h
    refine aw_aload_n (pc' := 12) (i := 0) hC dX6_factWord_11 rfl rfl rfl ?_
    refine aw_getfield (pc' := 15) (v := (.inr (.inr (M v0 0)))) hC dX6_factWord_12 rfl fl_X6_12 g1 rfl ?_
    refine aw_getfield (pc' := 18) (v := (.inl (M (M v0 0) 9))) hC dX6_factWord_15 rfl fl_X6_64 g2 rfl ?_
    refine aw_goto (tgt := 22) hC dX6_factWord_18 (by decide) ?_
    refine aw_sub hC [none] trivial (Nat.le_of_ble_eq_true rfl) ?_
    exact w_X6_factWord_J22 hC h rfl
-- CoinCircle$Teller.productDeed()I
def fX6_productDeed (sh : AwS) (M : AwM) (v0 : Int) : Option Int :=
  gd_ (kd_ sh v0 = (0, 6)) (gd_ (kd_ sh (M v0 0) = (0, 4)) (pb (fX4_isSign sh M (M v0 0) 42) <| u1 fun (x4 : Int) => ((if x4 = 0 then pb (fX4_isSign sh M (M v0 0) 47) <| u1 fun (x7 : Int) => ((if x7 = 0 then pb (fX4_isSign sh M (M v0 0) 37) <| u1 fun (x10 : Int) => ((if x10 = 0 then some (-1) else some (-19))) else some (-18))) else some (-17)))))
set_option maxRecDepth 100000 in
set_option maxHeartbeats 4000000 in
theorem mX6_productDeed {sh : AwS} {M : AwM} {v0 : Int} {r : Int} (h : fX6_productDeed sh M v0 = some r) : AMet yX6_productDeed cX6_productDeed 1 (some .int) 2 0 0 [.inr (.inr v0)] sh M (some (.inl r)) sh M := by
  refine amet_of (by decide +kernel) (Nat.le_of_ble_eq_true rfl) (fun Γ hC => ?_)
  replace hC : AOK Γ RX6 cX6_productDeed 1 2 0 0 "productDeed" (some .int) := hC
  unfold fX6_productDeed at h
  refine aw_sub hC [some (.inr (.inr v0))] ⟨rfl, trivial⟩ (Nat.le_of_ble_eq_true rfl) ?_
  refine aw_aload_n (pc' := 1) (i := 0) hC dX6_productDeed_0 rfl rfl rfl ?_
  obtain ⟨g1, h⟩ := gd_s h
  refine aw_getfield (pc' := 4) (v := (.inr (.inr (M v0 0)))) hC dX6_productDeed_1 rfl fl_X6_12 g1 rfl ?_
  refine aw_bipush (pc' := 6) hC dX6_productDeed_4 rfl (by decide) ?_
  obtain ⟨g3, h⟩ := gd_s h
  obtain ⟨x4, q2, h⟩ := pb_s h
  replace h := u1_s h
  refine aw_cV (pc' := 9) (k2 := 0) (n2 := 0) (st := []) (stN := [.inl x4]) hC [.inl 42] (mX4_isSign q2) lk_X6_160 g3 dX6_productDeed_6 rfl rfl (Nat.le_of_ble_eq_true rfl) (Nat.le_of_ble_eq_true rfl) (Nat.le_of_ble_eq_true rfl) rfl (Nat.le_of_ble_eq_true rfl) rfl rfl rfl ?_
  refine aw_if_eq (tgt := 17) (pc' := 12) hC dX6_productDeed_9 (by decide) rfl (fun c5 => ?_) (fun c5 => ?_)
  · replace h := it_p c5 h
    refine aw_aload_n (pc' := 18) (i := 0) hC dX6_productDeed_17 rfl rfl rfl ?_
    refine aw_getfield (pc' := 21) (v := (.inr (.inr (M v0 0)))) hC dX6_productDeed_18 rfl fl_X6_12 g1 rfl ?_
    refine aw_bipush (pc' := 23) hC dX6_productDeed_21 rfl (by decide) ?_
    obtain ⟨x7, q6, h⟩ := pb_s h
    replace h := u1_s h
    refine aw_cV (pc' := 26) (k2 := 0) (n2 := 0) (st := []) (stN := [.inl x7]) hC [.inl 47] (mX4_isSign q6) lk_X6_160 g3 dX6_productDeed_23 rfl rfl (Nat.le_of_ble_eq_true rfl) (Nat.le_of_ble_eq_true rfl) (Nat.le_of_ble_eq_true rfl) rfl (Nat.le_of_ble_eq_true rfl) rfl rfl rfl ?_
    refine aw_if_eq (tgt := 34) (pc' := 29) hC dX6_productDeed_26 (by decide) rfl (fun c8 => ?_) (fun c8 => ?_)
    · replace h := it_p c8 h
      refine aw_aload_n (pc' := 35) (i := 0) hC dX6_productDeed_34 rfl rfl rfl ?_
      refine aw_getfield (pc' := 38) (v := (.inr (.inr (M v0 0)))) hC dX6_productDeed_35 rfl fl_X6_12 g1 rfl ?_
      refine aw_bipush (pc' := 40) hC dX6_productDeed_38 rfl (by decide) ?_
      obtain ⟨x10, q9, h⟩ := pb_s h
      replace h := u1_s h
      refine aw_cV (pc' := 43) (k2 := 0) (n2 := 0) (st := []) (stN := [.inl x10]) hC [.inl 37] (mX4_isSign q9) lk_X6_160 g3 dX6_productDeed_40 rfl rfl (Nat.le_of_ble_eq_true rfl) (Nat.le_of_ble_eq_true rfl) (Nat.le_of_ble_eq_true rfl) rfl (Nat.le_of_ble_eq_true rfl) rfl rfl rfl ?_
      refine aw_if_eq (tgt := 51) (pc' := 46) hC dX6_productDeed_43 (by decide) rfl (fun c11 => ?_) (fun c11 => ?_)
      · replace h := it_p c11 h
        refine aw_iconst (pc' := 52) hC dX6_productDeed_51 rfl (by decide) ?_
        cases h
        exact aw_iret hC dX6_productDeed_52 (Nat.le_of_ble_eq_true rfl) (Nat.le_of_ble_eq_true rfl)
      · replace h := it_n c11 h
        refine aw_bipush (pc' := 48) hC dX6_productDeed_46 rfl (by decide) ?_
        refine aw_goto (tgt := 52) hC dX6_productDeed_48 (by decide) ?_
        cases h
        exact aw_iret hC dX6_productDeed_52 (Nat.le_of_ble_eq_true rfl) (Nat.le_of_ble_eq_true rfl)
    · replace h := it_n c8 h
      refine aw_bipush (pc' := 31) hC dX6_productDeed_29 rfl (by decide) ?_
      refine aw_goto (tgt := 52) hC dX6_productDeed_31 (by decide) ?_
      cases h
      exact aw_iret hC dX6_productDeed_52 (Nat.le_of_ble_eq_true rfl) (Nat.le_of_ble_eq_true rfl)
  · replace h := it_n c5 h
    refine aw_bipush (pc' := 14) hC dX6_productDeed_12 rfl (by decide) ?_
    refine aw_goto (tgt := 52) hC dX6_productDeed_14 (by decide) ?_
    cases h
    exact aw_iret hC dX6_productDeed_52 (Nat.le_of_ble_eq_true rfl) (Nat.le_of_ble_eq_true rfl)
abbrev RecT_0 : Type := Nat → AwS → AwM → Int → Int → Option (Int × AwM)
def RecH_0 (rec : RecT_0) (dr : Nat) : Prop := (∀ {sh : AwS} {M : AwM} {v0 : Int} {v1 : Int} {r : Int} {M' : AwM}, rec 0 sh M v0 v1 = some (r, M') → AMet yX6_oneOfTwo cX6_oneOfTwo 2 (some .boolean) (2 + dr) 0 0 [.inr (.inr v0), .inl v1] sh M (some (.inl r)) sh M') ∧ (∀ {sh : AwS} {M : AwM} {v0 : Int} {v1 : Int} {r : Int} {M' : AwM}, rec 1 sh M v0 v1 = some (r, M') → AMet yX6_inParentheses cX6_inParentheses 1 (some .boolean) (2 + dr) 0 0 [.inr (.inr v0)] sh M (some (.inl r)) sh M') ∧ (∀ {sh : AwS} {M : AwM} {v0 : Int} {v1 : Int} {r : Int} {M' : AwM}, rec 2 sh M v0 v1 = some (r, M') → AMet yX6_part cX6_part 2 (some .boolean) (2 + dr) 0 0 [.inr (.inr v0)] sh M (some (.inl r)) sh M') ∧ (∀ {sh : AwS} {M : AwM} {v0 : Int} {v1 : Int} {r : Int} {M' : AwM}, rec 3 sh M v0 v1 = some (r, M') → AMet yX6_product cX6_product 3 (some .boolean) (2 + dr) 0 0 [.inr (.inr v0)] sh M (some (.inl r)) sh M') ∧ (∀ {sh : AwS} {M : AwM} {v0 : Int} {v1 : Int} {r : Int} {M' : AwM}, rec 4 sh M v0 v1 = some (r, M') → AMet yX6_sum cX6_sum 3 (some .boolean) (2 + dr) 0 0 [.inr (.inr v0)] sh M (some (.inl r)) sh M')
set_option maxRecDepth 100000 in
set_option maxHeartbeats 4000000 in
theorem rh_0_0 {rec : RecT_0} {dr : Nat} (hrec : RecH_0 rec dr) {sh : AwS} {M : AwM} {v0 : Int} {v1 : Int} {r : Int} {M' : AwM} (h : rec 0 sh M v0 v1 = some (r, M')) : AMet yX6_oneOfTwo cX6_oneOfTwo 2 (some .boolean) (2 + dr) 0 0 [.inr (.inr v0), .inl v1] sh M (some (.inl r)) sh M' := hrec.1 h
set_option maxRecDepth 100000 in
set_option maxHeartbeats 4000000 in
theorem rh_0_1 {rec : RecT_0} {dr : Nat} (hrec : RecH_0 rec dr) {sh : AwS} {M : AwM} {v0 : Int} {v1 : Int} {r : Int} {M' : AwM} (h : rec 1 sh M v0 v1 = some (r, M')) : AMet yX6_inParentheses cX6_inParentheses 1 (some .boolean) (2 + dr) 0 0 [.inr (.inr v0)] sh M (some (.inl r)) sh M' := hrec.2.1 h
set_option maxRecDepth 100000 in
set_option maxHeartbeats 4000000 in
theorem rh_0_2 {rec : RecT_0} {dr : Nat} (hrec : RecH_0 rec dr) {sh : AwS} {M : AwM} {v0 : Int} {v1 : Int} {r : Int} {M' : AwM} (h : rec 2 sh M v0 v1 = some (r, M')) : AMet yX6_part cX6_part 2 (some .boolean) (2 + dr) 0 0 [.inr (.inr v0)] sh M (some (.inl r)) sh M' := hrec.2.2.1 h
set_option maxRecDepth 100000 in
set_option maxHeartbeats 4000000 in
theorem rh_0_3 {rec : RecT_0} {dr : Nat} (hrec : RecH_0 rec dr) {sh : AwS} {M : AwM} {v0 : Int} {v1 : Int} {r : Int} {M' : AwM} (h : rec 3 sh M v0 v1 = some (r, M')) : AMet yX6_product cX6_product 3 (some .boolean) (2 + dr) 0 0 [.inr (.inr v0)] sh M (some (.inl r)) sh M' := hrec.2.2.2.1 h
set_option maxRecDepth 100000 in
set_option maxHeartbeats 4000000 in
theorem rh_0_4 {rec : RecT_0} {dr : Nat} (hrec : RecH_0 rec dr) {sh : AwS} {M : AwM} {v0 : Int} {v1 : Int} {r : Int} {M' : AwM} (h : rec 4 sh M v0 v1 = some (r, M')) : AMet yX6_sum cX6_sum 3 (some .boolean) (2 + dr) 0 0 [.inr (.inr v0)] sh M (some (.inl r)) sh M' := hrec.2.2.2.2 h
-- CoinCircle$Teller.oneOfTwo(I)Z
def fX6_oneOfTwo_B (rec : RecT_0) (sh : AwS) (M : AwM) (v0 : Int) (v1 : Int) : Option (Int × AwM) :=
  gd_ (kd_ sh v0 = (0, 6)) (gd_ (kd_ sh (M v0 0) = (0, 4)) (pb (fX4_next sh M (M v0 0)) <| u1 fun (M4 : AwM) => (gd_ (kd_ sh (M4 v0 0) = (0, 4)) (pb (fX4_isSign sh M4 (M4 v0 0) 40) <| u1 fun (x7 : Int) => ((if x7 = 0 then pb (fX6_fail sh M4 v0 1) <| u2 fun (x35 : Int) (M36 : AwM) => (gd_ (x35 = 0 ∨ x35 = 1) (some (x35, M36))) else pb (fX6_enter sh M4 v0) <| u2 fun (x10 : Int) (M11 : AwM) => ((if x10 = 0 then some (0, M11) else pb (rec 4 sh M11 v0 0) <| u2 fun (x14 : Int) (M15 : AwM) => ((if x14 = 0 then some (0, M15) else pb (fX6_sign sh M15 v0 44) <| u2 fun (x18 : Int) (M19 : AwM) => ((if x18 = 0 then some (0, M19) else pb (rec 4 sh M19 v0 0) <| u2 fun (x22 : Int) (M23 : AwM) => ((if x22 = 0 then some (0, M23) else bd_ (up_ M23 v0 3 (w32 ((M23 v0 3) - 1))) fun (M25 : AwM) => (gd_ (kd_ sh (M25 v0 2) = (0, 1)) (pb (fX1_add sh M25 (M25 v0 2) v1) <| u1 fun (M29 : AwM) => (pb (fX6_sign sh M29 v0 41) <| u2 fun (x31 : Int) (M32 : AwM) => (gd_ (x31 = 0 ∨ x31 = 1) (some (x31, M32))))))))))))))))))))
set_option maxRecDepth 100000 in
set_option maxHeartbeats 4000000 in
theorem mX6_oneOfTwo_B {dr : Nat} {rec : RecT_0} (hrec : RecH_0 rec dr) {sh : AwS} {M : AwM} {v0 : Int} {v1 : Int} {r : Int} {M' : AwM} (h : fX6_oneOfTwo_B rec sh M v0 v1 = some (r, M')) : AMet yX6_oneOfTwo cX6_oneOfTwo 2 (some .boolean) (2 + (dr + 1)) 0 0 [.inr (.inr v0), .inl v1] sh M (some (.inl r)) sh M' := by
  refine amet_of (by decide +kernel) (Nat.le_of_ble_eq_true rfl) (fun Γ hC => ?_)
  replace hC : AOK Γ RX6 cX6_oneOfTwo 2 (2 + (dr + 1)) 0 0 "oneOfTwo" (some .boolean) := hC
  unfold fX6_oneOfTwo_B at h
  refine aw_sub hC [some (.inr (.inr v0)), some (.inl v1)] ⟨rfl, ⟨rfl, trivial⟩⟩ (Nat.le_of_ble_eq_true rfl) ?_
  refine aw_aload_n (pc' := 1) (i := 0) hC dX6_oneOfTwo_0 rfl rfl rfl ?_
  obtain ⟨g1, h⟩ := gd_s h
  refine aw_getfield (pc' := 4) (v := (.inr (.inr (M v0 0)))) hC dX6_oneOfTwo_1 rfl fl_X6_12 g1 rfl ?_
  obtain ⟨g3, h⟩ := gd_s h
  obtain ⟨M4, q2, h⟩ := pb_s h
  replace h := u1_s h
  refine aw_cV (pc' := 7) (k2 := 0) (n2 := 0) (st := []) (stN := []) hC [] (mX4_next q2) lk_X6_127 g3 dX6_oneOfTwo_4 rfl rfl (by omega) (Nat.le_of_ble_eq_true rfl) (Nat.le_of_ble_eq_true rfl) rfl (Nat.le_of_ble_eq_true rfl) rfl rfl rfl ?_
  refine aw_aload_n (pc' := 8) (i := 0) hC dX6_oneOfTwo_7 rfl rfl rfl ?_
  refine aw_getfield (pc' := 11) (v := (.inr (.inr (M4 v0 0)))) hC dX6_oneOfTwo_8 rfl fl_X6_12 g1 rfl ?_
  refine aw_bipush (pc' := 13) hC dX6_oneOfTwo_11 rfl (by decide) ?_
  obtain ⟨g6, h⟩ := gd_s h
  obtain ⟨x7, q5, h⟩ := pb_s h
  replace h := u1_s h
  refine aw_cV (pc' := 16) (k2 := 0) (n2 := 0) (st := []) (stN := [.inl x7]) hC [.inl 40] (mX4_isSign q5) lk_X6_160 g6 dX6_oneOfTwo_13 rfl rfl (by omega) (Nat.le_of_ble_eq_true rfl) (Nat.le_of_ble_eq_true rfl) rfl (Nat.le_of_ble_eq_true rfl) rfl rfl rfl ?_
  refine aw_if_ne (tgt := 25) (pc' := 19) hC dX6_oneOfTwo_16 (by decide) rfl (fun c8 => ?_) (fun c8 => ?_)
  · replace h := it_n c8 h
    refine aw_aload_n (pc' := 26) (i := 0) hC dX6_oneOfTwo_25 rfl rfl rfl ?_
    obtain ⟨⟨x10, M11⟩, q9, h⟩ := pb_s h
    replace h := u2_s h
    refine aw_cV (pc' := 29) (k2 := 0) (n2 := 0) (st := []) (stN := [.inl x10]) hC [] (mX6_enter q9) lk_X6_199 g1 dX6_oneOfTwo_26 rfl rfl (by omega) (Nat.le_of_ble_eq_true rfl) (Nat.le_of_ble_eq_true rfl) rfl (Nat.le_of_ble_eq_true rfl) rfl rfl rfl ?_
    refine aw_if_eq (tgt := 55) (pc' := 32) hC dX6_oneOfTwo_29 (by decide) rfl (fun c12 => ?_) (fun c12 => ?_)
    · replace h := it_p c12 h
      refine aw_iconst (pc' := 56) hC dX6_oneOfTwo_55 rfl (by decide) ?_
      cases h
      exact aw_zret hC (Or.inl rfl) dX6_oneOfTwo_56 (Nat.le_of_ble_eq_true rfl) (Nat.le_of_ble_eq_true rfl)
    · replace h := it_n c12 h
      refine aw_aload_n (pc' := 33) (i := 0) hC dX6_oneOfTwo_32 rfl rfl rfl ?_
      obtain ⟨⟨x14, M15⟩, q13, h⟩ := pb_s h
      replace h := u2_s h
      refine aw_cV (pc' := 36) (k2 := 0) (n2 := 0) (st := []) (stN := [.inl x14]) hC [] (rh_0_4 hrec q13) lk_X6_153 g1 dX6_oneOfTwo_33 rfl rfl (by omega) (Nat.le_of_ble_eq_true rfl) (Nat.le_of_ble_eq_true rfl) rfl (Nat.le_of_ble_eq_true rfl) rfl rfl rfl ?_
      refine aw_if_eq (tgt := 55) (pc' := 39) hC dX6_oneOfTwo_36 (by decide) rfl (fun c16 => ?_) (fun c16 => ?_)
      · replace h := it_p c16 h
        refine aw_iconst (pc' := 56) hC dX6_oneOfTwo_55 rfl (by decide) ?_
        cases h
        exact aw_zret hC (Or.inl rfl) dX6_oneOfTwo_56 (Nat.le_of_ble_eq_true rfl) (Nat.le_of_ble_eq_true rfl)
      · replace h := it_n c16 h
        refine aw_aload_n (pc' := 40) (i := 0) hC dX6_oneOfTwo_39 rfl rfl rfl ?_
        refine aw_bipush (pc' := 42) hC dX6_oneOfTwo_40 rfl (by decide) ?_
        obtain ⟨⟨x18, M19⟩, q17, h⟩ := pb_s h
        replace h := u2_s h
        refine aw_cV (pc' := 45) (k2 := 0) (n2 := 0) (st := []) (stN := [.inl x18]) hC [.inl 44] (mX6_sign q17) lk_X6_60 g1 dX6_oneOfTwo_42 rfl rfl (by omega) (Nat.le_of_ble_eq_true rfl) (Nat.le_of_ble_eq_true rfl) rfl (Nat.le_of_ble_eq_true rfl) rfl rfl rfl ?_
        refine aw_if_eq (tgt := 55) (pc' := 48) hC dX6_oneOfTwo_45 (by decide) rfl (fun c20 => ?_) (fun c20 => ?_)
        · replace h := it_p c20 h
          refine aw_iconst (pc' := 56) hC dX6_oneOfTwo_55 rfl (by decide) ?_
          cases h
          exact aw_zret hC (Or.inl rfl) dX6_oneOfTwo_56 (Nat.le_of_ble_eq_true rfl) (Nat.le_of_ble_eq_true rfl)
        · replace h := it_n c20 h
          refine aw_aload_n (pc' := 49) (i := 0) hC dX6_oneOfTwo_48 rfl rfl rfl ?_
          obtain ⟨⟨x22, M23⟩, q21, h⟩ := pb_s h
          replace h := u2_s h
          refine aw_cV (pc' := 52) (k2 := 0) (n2 := 0) (st := []) (stN := [.inl x22]) hC [] (rh_0_4 hrec q21) lk_X6_153 g1 dX6_oneOfTwo_49 rfl rfl (by omega) (Nat.le_of_ble_eq_true rfl) (Nat.le_of_ble_eq_true rfl) rfl (Nat.le_of_ble_eq_true rfl) rfl rfl rfl ?_
          refine aw_if_ne (tgt := 57) (pc' := 55) hC dX6_oneOfTwo_52 (by decide) rfl (fun c24 => ?_) (fun c24 => ?_)
          · replace h := it_n c24 h
            refine aw_aload_n (pc' := 58) (i := 0) hC dX6_oneOfTwo_57 rfl rfl rfl ?_
            refine aw_dup (pc' := 59) hC dX6_oneOfTwo_58 rfl rfl ?_
            refine aw_getfield (pc' := 62) (v := (.inl (M23 v0 3))) hC dX6_oneOfTwo_59 rfl fl_X6_39 g1 rfl ?_
            refine aw_iconst (pc' := 63) hC dX6_oneOfTwo_62 rfl (by decide) ?_
            refine aw_isub (pc' := 64) hC dX6_oneOfTwo_63 rfl  ?_
            obtain ⟨M25, e26, h⟩ := bd_s h
            refine aw_pf (pc' := 67) hC dX6_oneOfTwo_64 rfl fp_X6_39 g1 rfl trivial e26 ?_
            refine aw_aload_n (pc' := 68) (i := 0) hC dX6_oneOfTwo_67 rfl rfl rfl ?_
            refine aw_getfield (pc' := 71) (v := (.inr (.inr (M25 v0 2)))) hC dX6_oneOfTwo_68 rfl fl_X6_29 g1 rfl ?_
            refine aw_iload_n (pc' := 72) (i := 1) hC dX6_oneOfTwo_71 rfl rfl rfl ?_
            obtain ⟨g28, h⟩ := gd_s h
            obtain ⟨M29, q27, h⟩ := pb_s h
            replace h := u1_s h
            refine aw_cV (pc' := 75) (k2 := 0) (n2 := 0) (st := []) (stN := []) hC [.inl v1] (mX1_add q27) lk_X6_182 g28 dX6_oneOfTwo_72 rfl rfl (by omega) (Nat.le_of_ble_eq_true rfl) (Nat.le_of_ble_eq_true rfl) rfl (Nat.le_of_ble_eq_true rfl) rfl rfl rfl ?_
            refine aw_aload_n (pc' := 76) (i := 0) hC dX6_oneOfTwo_75 rfl rfl rfl ?_
            refine aw_bipush (pc' := 78) hC dX6_oneOfTwo_76 rfl (by decide) ?_
            obtain ⟨⟨x31, M32⟩, q30, h⟩ := pb_s h
            replace h := u2_s h
            refine aw_cV (pc' := 81) (k2 := 0) (n2 := 0) (st := []) (stN := [.inl x31]) hC [.inl 41] (mX6_sign q30) lk_X6_60 g1 dX6_oneOfTwo_78 rfl rfl (by omega) (Nat.le_of_ble_eq_true rfl) (Nat.le_of_ble_eq_true rfl) rfl (Nat.le_of_ble_eq_true rfl) rfl rfl rfl ?_
            obtain ⟨g33, h⟩ := gd_s h
            cases h
            exact aw_zret hC g33 dX6_oneOfTwo_81 (Nat.le_of_ble_eq_true rfl) (Nat.le_of_ble_eq_true rfl)
          · replace h := it_p c24 h
            refine aw_iconst (pc' := 56) hC dX6_oneOfTwo_55 rfl (by decide) ?_
            cases h
            exact aw_zret hC (Or.inl rfl) dX6_oneOfTwo_56 (Nat.le_of_ble_eq_true rfl) (Nat.le_of_ble_eq_true rfl)
  · replace h := it_p c8 h
    refine aw_aload_n (pc' := 20) (i := 0) hC dX6_oneOfTwo_19 rfl rfl rfl ?_
    refine aw_iconst (pc' := 21) hC dX6_oneOfTwo_20 rfl (by decide) ?_
    obtain ⟨⟨x35, M36⟩, q34, h⟩ := pb_s h
    replace h := u2_s h
    refine aw_cV (pc' := 24) (k2 := 0) (n2 := 0) (st := []) (stN := [.inl x35]) hC [.inl 1] (mX6_fail q34) lk_X6_52 g1 dX6_oneOfTwo_21 rfl rfl (by omega) (Nat.le_of_ble_eq_true rfl) (Nat.le_of_ble_eq_true rfl) rfl (Nat.le_of_ble_eq_true rfl) rfl rfl rfl ?_
    obtain ⟨g37, h⟩ := gd_s h
    cases h
    exact aw_zret hC g37 dX6_oneOfTwo_24 (Nat.le_of_ble_eq_true rfl) (Nat.le_of_ble_eq_true rfl)
-- CoinCircle$Teller.inParentheses()Z
def fX6_inParentheses_B (rec : RecT_0) (sh : AwS) (M : AwM) (v0 : Int) : Option (Int × AwM) :=
  gd_ (kd_ sh v0 = (0, 6)) (pb (fX6_enter sh M v0) <| u2 fun (x3 : Int) (M4 : AwM) => ((if x3 = 0 then some (0, M4) else pb (rec 4 sh M4 v0 0) <| u2 fun (x7 : Int) (M8 : AwM) => ((if x7 = 0 then some (0, M8) else bd_ (up_ M8 v0 3 (w32 ((M8 v0 3) - 1))) fun (M10 : AwM) => (pb (fX6_sign sh M10 v0 41) <| u2 fun (x13 : Int) (M14 : AwM) => (gd_ (x13 = 0 ∨ x13 = 1) (some (x13, M14)))))))))
set_option maxRecDepth 100000 in
set_option maxHeartbeats 4000000 in
theorem mX6_inParentheses_B {dr : Nat} {rec : RecT_0} (hrec : RecH_0 rec dr) {sh : AwS} {M : AwM} {v0 : Int} {r : Int} {M' : AwM} (h : fX6_inParentheses_B rec sh M v0 = some (r, M')) : AMet yX6_inParentheses cX6_inParentheses 1 (some .boolean) (2 + (dr + 1)) 0 0 [.inr (.inr v0)] sh M (some (.inl r)) sh M' := by
  refine amet_of (by decide +kernel) (Nat.le_of_ble_eq_true rfl) (fun Γ hC => ?_)
  replace hC : AOK Γ RX6 cX6_inParentheses 1 (2 + (dr + 1)) 0 0 "inParentheses" (some .boolean) := hC
  unfold fX6_inParentheses_B at h
  refine aw_sub hC [some (.inr (.inr v0))] ⟨rfl, trivial⟩ (Nat.le_of_ble_eq_true rfl) ?_
  refine aw_aload_n (pc' := 1) (i := 0) hC dX6_inParentheses_0 rfl rfl rfl ?_
  obtain ⟨g2, h⟩ := gd_s h
  obtain ⟨⟨x3, M4⟩, q1, h⟩ := pb_s h
  replace h := u2_s h
  refine aw_cV (pc' := 4) (k2 := 0) (n2 := 0) (st := []) (stN := [.inl x3]) hC [] (mX6_enter q1) lk_X6_199 g2 dX6_inParentheses_1 rfl rfl (by omega) (Nat.le_of_ble_eq_true rfl) (Nat.le_of_ble_eq_true rfl) rfl (Nat.le_of_ble_eq_true rfl) rfl rfl rfl ?_
  refine aw_if_eq (tgt := 14) (pc' := 7) hC dX6_inParentheses_4 (by decide) rfl (fun c5 => ?_) (fun c5 => ?_)
  · replace h := it_p c5 h
    refine aw_iconst (pc' := 15) hC dX6_inParentheses_14 rfl (by decide) ?_
    cases h
    exact aw_zret hC (Or.inl rfl) dX6_inParentheses_15 (Nat.le_of_ble_eq_true rfl) (Nat.le_of_ble_eq_true rfl)
  · replace h := it_n c5 h
    refine aw_aload_n (pc' := 8) (i := 0) hC dX6_inParentheses_7 rfl rfl rfl ?_
    obtain ⟨⟨x7, M8⟩, q6, h⟩ := pb_s h
    replace h := u2_s h
    refine aw_cV (pc' := 11) (k2 := 0) (n2 := 0) (st := []) (stN := [.inl x7]) hC [] (rh_0_4 hrec q6) lk_X6_153 g2 dX6_inParentheses_8 rfl rfl (by omega) (Nat.le_of_ble_eq_true rfl) (Nat.le_of_ble_eq_true rfl) rfl (Nat.le_of_ble_eq_true rfl) rfl rfl rfl ?_
    refine aw_if_ne (tgt := 16) (pc' := 14) hC dX6_inParentheses_11 (by decide) rfl (fun c9 => ?_) (fun c9 => ?_)
    · replace h := it_n c9 h
      refine aw_aload_n (pc' := 17) (i := 0) hC dX6_inParentheses_16 rfl rfl rfl ?_
      refine aw_dup (pc' := 18) hC dX6_inParentheses_17 rfl rfl ?_
      refine aw_getfield (pc' := 21) (v := (.inl (M8 v0 3))) hC dX6_inParentheses_18 rfl fl_X6_39 g2 rfl ?_
      refine aw_iconst (pc' := 22) hC dX6_inParentheses_21 rfl (by decide) ?_
      refine aw_isub (pc' := 23) hC dX6_inParentheses_22 rfl  ?_
      obtain ⟨M10, e11, h⟩ := bd_s h
      refine aw_pf (pc' := 26) hC dX6_inParentheses_23 rfl fp_X6_39 g2 rfl trivial e11 ?_
      refine aw_aload_n (pc' := 27) (i := 0) hC dX6_inParentheses_26 rfl rfl rfl ?_
      refine aw_bipush (pc' := 29) hC dX6_inParentheses_27 rfl (by decide) ?_
      obtain ⟨⟨x13, M14⟩, q12, h⟩ := pb_s h
      replace h := u2_s h
      refine aw_cV (pc' := 32) (k2 := 0) (n2 := 0) (st := []) (stN := [.inl x13]) hC [.inl 41] (mX6_sign q12) lk_X6_60 g2 dX6_inParentheses_29 rfl rfl (by omega) (Nat.le_of_ble_eq_true rfl) (Nat.le_of_ble_eq_true rfl) rfl (Nat.le_of_ble_eq_true rfl) rfl rfl rfl ?_
      obtain ⟨g15, h⟩ := gd_s h
      cases h
      exact aw_zret hC g15 dX6_inParentheses_32 (Nat.le_of_ble_eq_true rfl) (Nat.le_of_ble_eq_true rfl)
    · replace h := it_p c9 h
      refine aw_iconst (pc' := 15) hC dX6_inParentheses_14 rfl (by decide) ?_
      cases h
      exact aw_zret hC (Or.inl rfl) dX6_inParentheses_15 (Nat.le_of_ble_eq_true rfl) (Nat.le_of_ble_eq_true rfl)
-- CoinCircle$Teller.part()Z
def fX6_part_B (rec : RecT_0) (sh : AwS) (M : AwM) (v0 : Int) : Option (Int × AwM) :=
  gd_ (kd_ sh v0 = (0, 6)) (gd_ (kd_ sh (M v0 0) = (0, 4)) ((if (M (M v0 0) 8) = 2 then gd_ (kd_ sh (M v0 2) = (0, 1)) (pb (fX1_add sh M (M v0 2) (M (M v0 0) 9)) <| u1 fun (M54 : AwM) => (gd_ (kd_ sh (M54 v0 0) = (0, 4)) (pb (fX4_next sh M54 (M54 v0 0)) <| u1 fun (M57 : AwM) => (some (1, M57))))) else pb (fX4_isSign sh M (M v0 0) 40) <| u1 fun (x5 : Int) => ((if x5 = 0 then pb (fX4_isOwnWord sh M (M v0 0) 21) <| u1 fun (x8 : Int) => ((if x8 = 0 then pb (fX4_isOwnWord sh M (M v0 0) 22) <| u1 fun (x22 : Int) => ((if x22 = 0 then pb (fX6_factWord sh M v0) <| u1 fun (x25 : Int) => ((if x25 = (-1) then pb (fX6_fail sh M v0 1) <| u2 fun (x34 : Int) (M35 : AwM) => (gd_ (x34 = 0 ∨ x34 = 1) (some (x34, M35))) else gd_ (kd_ sh (M v0 2) = (0, 1)) (pb (fX1_add sh M (M v0 2) (w32 ((-1) - x25))) <| u1 fun (M29 : AwM) => (gd_ (kd_ sh (M29 v0 0) = (0, 4)) (pb (fX4_next sh M29 (M29 v0 0)) <| u1 fun (M32 : AwM) => (some (1, M32))))))) else pb (fX4_isOwnWord sh M (M v0 0) 21) <| u1 fun (x38 : Int) => ((if x38 = 0 then pb (rec 0 sh M v0 (-11)) <| u2 fun (x41 : Int) (M42 : AwM) => (gd_ (x41 = 0 ∨ x41 = 1) (some (x41, M42))) else pb (rec 0 sh M v0 (-10)) <| u2 fun (x45 : Int) (M46 : AwM) => (gd_ (x45 = 0 ∨ x45 = 1) (some (x45, M46))))))) else pb (fX4_isOwnWord sh M (M v0 0) 21) <| u1 fun (x11 : Int) => ((if x11 = 0 then pb (rec 0 sh M v0 (-11)) <| u2 fun (x14 : Int) (M15 : AwM) => (gd_ (x14 = 0 ∨ x14 = 1) (some (x14, M15))) else pb (rec 0 sh M v0 (-10)) <| u2 fun (x18 : Int) (M19 : AwM) => (gd_ (x18 = 0 ∨ x18 = 1) (some (x18, M19))))))) else pb (rec 1 sh M v0 0) <| u2 fun (x49 : Int) (M50 : AwM) => (gd_ (x49 = 0 ∨ x49 = 1) (some (x49, M50))))))))
set_option maxRecDepth 100000 in
set_option maxHeartbeats 4000000 in
theorem mX6_part_B {dr : Nat} {rec : RecT_0} (hrec : RecH_0 rec dr) {sh : AwS} {M : AwM} {v0 : Int} {r : Int} {M' : AwM} (h : fX6_part_B rec sh M v0 = some (r, M')) : AMet yX6_part cX6_part 2 (some .boolean) (2 + (dr + 1)) 0 0 [.inr (.inr v0)] sh M (some (.inl r)) sh M' := by
  refine amet_of (by decide +kernel) (Nat.le_of_ble_eq_true rfl) (fun Γ hC => ?_)
  replace hC : AOK Γ RX6 cX6_part 2 (2 + (dr + 1)) 0 0 "part" (some .boolean) := hC
  unfold fX6_part_B at h
  refine aw_sub hC [some (.inr (.inr v0)), none] ⟨rfl, trivial⟩ (Nat.le_of_ble_eq_true rfl) ?_
  refine aw_aload_n (pc' := 1) (i := 0) hC dX6_part_0 rfl rfl rfl ?_
  obtain ⟨g1, h⟩ := gd_s h
  refine aw_getfield (pc' := 4) (v := (.inr (.inr (M v0 0)))) hC dX6_part_1 rfl fl_X6_12 g1 rfl ?_
  obtain ⟨g2, h⟩ := gd_s h
  refine aw_getfield (pc' := 7) (v := (.inl (M (M v0 0) 8))) hC dX6_part_4 rfl fl_X6_49 g2 rfl ?_
  refine aw_iconst (pc' := 8) hC dX6_part_7 rfl (by decide) ?_
  refine aw_icmp_ne (tgt := 34) (pc' := 11) hC dX6_part_8 (by decide) rfl (fun c3 => ?_) (fun c3 => ?_)
  · replace h := it_n c3 h
    refine aw_aload_n (pc' := 35) (i := 0) hC dX6_part_34 rfl rfl rfl ?_
    refine aw_getfield (pc' := 38) (v := (.inr (.inr (M v0 0)))) hC dX6_part_35 rfl fl_X6_12 g1 rfl ?_
    refine aw_bipush (pc' := 40) hC dX6_part_38 rfl (by decide) ?_
    obtain ⟨x5, q4, h⟩ := pb_s h
    replace h := u1_s h
    refine aw_cV (pc' := 43) (k2 := 0) (n2 := 0) (st := []) (stN := [.inl x5]) hC [.inl 40] (mX4_isSign q4) lk_X6_160 g2 dX6_part_40 rfl rfl (by omega) (Nat.le_of_ble_eq_true rfl) (Nat.le_of_ble_eq_true rfl) rfl (Nat.le_of_ble_eq_true rfl) rfl rfl rfl ?_
    refine aw_if_eq (tgt := 51) (pc' := 46) hC dX6_part_43 (by decide) rfl (fun c6 => ?_) (fun c6 => ?_)
    · replace h := it_p c6 h
      refine aw_aload_n (pc' := 52) (i := 0) hC dX6_part_51 rfl rfl rfl ?_
      refine aw_getfield (pc' := 55) (v := (.inr (.inr (M v0 0)))) hC dX6_part_52 rfl fl_X6_12 g1 rfl ?_
      refine aw_bipush (pc' := 57) hC dX6_part_55 rfl (by decide) ?_
      obtain ⟨x8, q7, h⟩ := pb_s h
      replace h := u1_s h
      refine aw_cV (pc' := 60) (k2 := 0) (n2 := 0) (st := []) (stN := [.inl x8]) hC [.inl 21] (mX4_isOwnWord q7) lk_X6_121 g2 dX6_part_57 rfl rfl (by omega) (Nat.le_of_ble_eq_true rfl) (Nat.le_of_ble_eq_true rfl) rfl (Nat.le_of_ble_eq_true rfl) rfl rfl rfl ?_
      refine aw_if_ne (tgt := 75) (pc' := 63) hC dX6_part_60 (by decide) rfl (fun c9 => ?_) (fun c9 => ?_)
      · replace h := it_n c9 h
        refine aw_aload_n (pc' := 76) (i := 0) hC dX6_part_75 rfl rfl rfl ?_
        refine aw_aload_n (pc' := 77) (i := 0) hC dX6_part_76 rfl rfl rfl ?_
        refine aw_getfield (pc' := 80) (v := (.inr (.inr (M v0 0)))) hC dX6_part_77 rfl fl_X6_12 g1 rfl ?_
        refine aw_bipush (pc' := 82) hC dX6_part_80 rfl (by decide) ?_
        obtain ⟨x11, q10, h⟩ := pb_s h
        replace h := u1_s h
        refine aw_cV (pc' := 85) (k2 := 0) (n2 := 0) (st := [.inr (.inr v0)]) (stN := [.inl x11, .inr (.inr v0)]) hC [.inl 21] (mX4_isOwnWord q10) lk_X6_121 g2 dX6_part_82 rfl rfl (by omega) (Nat.le_of_ble_eq_true rfl) (Nat.le_of_ble_eq_true rfl) rfl (Nat.le_of_ble_eq_true rfl) rfl rfl rfl ?_
        refine aw_if_eq (tgt := 93) (pc' := 88) hC dX6_part_85 (by decide) rfl (fun c12 => ?_) (fun c12 => ?_)
        · replace h := it_p c12 h
          refine aw_bipush (pc' := 95) hC dX6_part_93 rfl (by decide) ?_
          obtain ⟨⟨x14, M15⟩, q13, h⟩ := pb_s h
          replace h := u2_s h
          refine aw_cV (pc' := 98) (k2 := 0) (n2 := 0) (st := []) (stN := [.inl x14]) hC [.inl (-11)] (rh_0_0 hrec q13) lk_X6_214 g1 dX6_part_95 rfl rfl (by omega) (Nat.le_of_ble_eq_true rfl) (Nat.le_of_ble_eq_true rfl) rfl (Nat.le_of_ble_eq_true rfl) rfl rfl rfl ?_
          obtain ⟨g16, h⟩ := gd_s h
          cases h
          exact aw_zret hC g16 dX6_part_98 (Nat.le_of_ble_eq_true rfl) (Nat.le_of_ble_eq_true rfl)
        · replace h := it_n c12 h
          refine aw_bipush (pc' := 90) hC dX6_part_88 rfl (by decide) ?_
          refine aw_goto (tgt := 95) hC dX6_part_90 (by decide) ?_
          obtain ⟨⟨x18, M19⟩, q17, h⟩ := pb_s h
          replace h := u2_s h
          refine aw_cV (pc' := 98) (k2 := 0) (n2 := 0) (st := []) (stN := [.inl x18]) hC [.inl (-10)] (rh_0_0 hrec q17) lk_X6_214 g1 dX6_part_95 rfl rfl (by omega) (Nat.le_of_ble_eq_true rfl) (Nat.le_of_ble_eq_true rfl) rfl (Nat.le_of_ble_eq_true rfl) rfl rfl rfl ?_
          obtain ⟨g20, h⟩ := gd_s h
          cases h
          exact aw_zret hC g20 dX6_part_98 (Nat.le_of_ble_eq_true rfl) (Nat.le_of_ble_eq_true rfl)
      · replace h := it_p c9 h
        refine aw_aload_n (pc' := 64) (i := 0) hC dX6_part_63 rfl rfl rfl ?_
        refine aw_getfield (pc' := 67) (v := (.inr (.inr (M v0 0)))) hC dX6_part_64 rfl fl_X6_12 g1 rfl ?_
        refine aw_bipush (pc' := 69) hC dX6_part_67 rfl (by decide) ?_
        obtain ⟨x22, q21, h⟩ := pb_s h
        replace h := u1_s h
        refine aw_cV (pc' := 72) (k2 := 0) (n2 := 0) (st := []) (stN := [.inl x22]) hC [.inl 22] (mX4_isOwnWord q21) lk_X6_121 g2 dX6_part_69 rfl rfl (by omega) (Nat.le_of_ble_eq_true rfl) (Nat.le_of_ble_eq_true rfl) rfl (Nat.le_of_ble_eq_true rfl) rfl rfl rfl ?_
        refine aw_if_eq (tgt := 99) (pc' := 75) hC dX6_part_72 (by decide) rfl (fun c23 => ?_) (fun c23 => ?_)
        · replace h := it_p c23 h
          refine aw_aload_n (pc' := 100) (i := 0) hC dX6_part_99 rfl rfl rfl ?_
          obtain ⟨x25, q24, h⟩ := pb_s h
          replace h := u1_s h
          refine aw_cV (pc' := 103) (k2 := 0) (n2 := 0) (st := []) (stN := [.inl x25]) hC [] (mX6_factWord q24) lk_X6_217 g1 dX6_part_100 rfl rfl (by omega) (Nat.le_of_ble_eq_true rfl) (Nat.le_of_ble_eq_true rfl) rfl (Nat.le_of_ble_eq_true rfl) rfl rfl rfl ?_
          refine aw_istore_n (pc' := 104) (i := 1) (ls' := [some (.inr (.inr v0)), some (.inl x25)]) hC dX6_part_103 rfl rfl (Nat.le_of_ble_eq_true rfl) rfl rfl ?_
          refine aw_iload_n (pc' := 105) (i := 1) hC dX6_part_104 rfl rfl rfl ?_
          refine aw_iconst (pc' := 106) hC dX6_part_105 rfl (by decide) ?_
          refine aw_icmp_ne (tgt := 115) (pc' := 109) hC dX6_part_106 (by decide) rfl (fun c26 => ?_) (fun c26 => ?_)
          · replace h := it_n c26 h
            refine aw_aload_n (pc' := 116) (i := 0) hC dX6_part_115 rfl rfl rfl ?_
            refine aw_getfield (pc' := 119) (v := (.inr (.inr (M v0 2)))) hC dX6_part_116 rfl fl_X6_29 g1 rfl ?_
            refine aw_iconst (pc' := 120) hC dX6_part_119 rfl (by decide) ?_
            refine aw_iload_n (pc' := 121) (i := 1) hC dX6_part_120 rfl rfl rfl ?_
            refine aw_isub (pc' := 122) hC dX6_part_121 rfl  ?_
            obtain ⟨g28, h⟩ := gd_s h
            obtain ⟨M29, q27, h⟩ := pb_s h
            replace h := u1_s h
            refine aw_cV (pc' := 125) (k2 := 0) (n2 := 0) (st := []) (stN := []) hC [.inl (w32 ((-1) - x25))] (mX1_add q27) lk_X6_182 g28 dX6_part_122 rfl rfl (by omega) (Nat.le_of_ble_eq_true rfl) (Nat.le_of_ble_eq_true rfl) rfl (Nat.le_of_ble_eq_true rfl) rfl rfl rfl ?_
            refine aw_aload_n (pc' := 126) (i := 0) hC dX6_part_125 rfl rfl rfl ?_
            refine aw_getfield (pc' := 129) (v := (.inr (.inr (M29 v0 0)))) hC dX6_part_126 rfl fl_X6_12 g1 rfl ?_
            obtain ⟨g31, h⟩ := gd_s h
            obtain ⟨M32, q30, h⟩ := pb_s h
            replace h := u1_s h
            refine aw_cV (pc' := 132) (k2 := 0) (n2 := 0) (st := []) (stN := []) hC [] (mX4_next q30) lk_X6_127 g31 dX6_part_129 rfl rfl (by omega) (Nat.le_of_ble_eq_true rfl) (Nat.le_of_ble_eq_true rfl) rfl (Nat.le_of_ble_eq_true rfl) rfl rfl rfl ?_
            refine aw_iconst (pc' := 133) hC dX6_part_132 rfl (by decide) ?_
            cases h
            exact aw_zret hC (Or.inr rfl) dX6_part_133 (Nat.le_of_ble_eq_true rfl) (Nat.le_of_ble_eq_true rfl)
          · replace h := it_p c26 h
            refine aw_aload_n (pc' := 110) (i := 0) hC dX6_part_109 rfl rfl rfl ?_
            refine aw_iconst (pc' := 111) hC dX6_part_110 rfl (by decide) ?_
            obtain ⟨⟨x34, M35⟩, q33, h⟩ := pb_s h
            replace h := u2_s h
            refine aw_cV (pc' := 114) (k2 := 0) (n2 := 0) (st := []) (stN := [.inl x34]) hC [.inl 1] (mX6_fail q33) lk_X6_52 g1 dX6_part_111 rfl rfl (by omega) (Nat.le_of_ble_eq_true rfl) (Nat.le_of_ble_eq_true rfl) rfl (Nat.le_of_ble_eq_true rfl) rfl rfl rfl ?_
            obtain ⟨g36, h⟩ := gd_s h
            cases h
            exact aw_zret hC g36 dX6_part_114 (Nat.le_of_ble_eq_true rfl) (Nat.le_of_ble_eq_true rfl)
        · replace h := it_n c23 h
          refine aw_aload_n (pc' := 76) (i := 0) hC dX6_part_75 rfl rfl rfl ?_
          refine aw_aload_n (pc' := 77) (i := 0) hC dX6_part_76 rfl rfl rfl ?_
          refine aw_getfield (pc' := 80) (v := (.inr (.inr (M v0 0)))) hC dX6_part_77 rfl fl_X6_12 g1 rfl ?_
          refine aw_bipush (pc' := 82) hC dX6_part_80 rfl (by decide) ?_
          obtain ⟨x38, q37, h⟩ := pb_s h
          replace h := u1_s h
          refine aw_cV (pc' := 85) (k2 := 0) (n2 := 0) (st := [.inr (.inr v0)]) (stN := [.inl x38, .inr (.inr v0)]) hC [.inl 21] (mX4_isOwnWord q37) lk_X6_121 g2 dX6_part_82 rfl rfl (by omega) (Nat.le_of_ble_eq_true rfl) (Nat.le_of_ble_eq_true rfl) rfl (Nat.le_of_ble_eq_true rfl) rfl rfl rfl ?_
          refine aw_if_eq (tgt := 93) (pc' := 88) hC dX6_part_85 (by decide) rfl (fun c39 => ?_) (fun c39 => ?_)
          · replace h := it_p c39 h
            refine aw_bipush (pc' := 95) hC dX6_part_93 rfl (by decide) ?_
            obtain ⟨⟨x41, M42⟩, q40, h⟩ := pb_s h
            replace h := u2_s h
            refine aw_cV (pc' := 98) (k2 := 0) (n2 := 0) (st := []) (stN := [.inl x41]) hC [.inl (-11)] (rh_0_0 hrec q40) lk_X6_214 g1 dX6_part_95 rfl rfl (by omega) (Nat.le_of_ble_eq_true rfl) (Nat.le_of_ble_eq_true rfl) rfl (Nat.le_of_ble_eq_true rfl) rfl rfl rfl ?_
            obtain ⟨g43, h⟩ := gd_s h
            cases h
            exact aw_zret hC g43 dX6_part_98 (Nat.le_of_ble_eq_true rfl) (Nat.le_of_ble_eq_true rfl)
          · replace h := it_n c39 h
            refine aw_bipush (pc' := 90) hC dX6_part_88 rfl (by decide) ?_
            refine aw_goto (tgt := 95) hC dX6_part_90 (by decide) ?_
            obtain ⟨⟨x45, M46⟩, q44, h⟩ := pb_s h
            replace h := u2_s h
            refine aw_cV (pc' := 98) (k2 := 0) (n2 := 0) (st := []) (stN := [.inl x45]) hC [.inl (-10)] (rh_0_0 hrec q44) lk_X6_214 g1 dX6_part_95 rfl rfl (by omega) (Nat.le_of_ble_eq_true rfl) (Nat.le_of_ble_eq_true rfl) rfl (Nat.le_of_ble_eq_true rfl) rfl rfl rfl ?_
            obtain ⟨g47, h⟩ := gd_s h
            cases h
            exact aw_zret hC g47 dX6_part_98 (Nat.le_of_ble_eq_true rfl) (Nat.le_of_ble_eq_true rfl)
    · replace h := it_n c6 h
      refine aw_aload_n (pc' := 47) (i := 0) hC dX6_part_46 rfl rfl rfl ?_
      obtain ⟨⟨x49, M50⟩, q48, h⟩ := pb_s h
      replace h := u2_s h
      refine aw_cV (pc' := 50) (k2 := 0) (n2 := 0) (st := []) (stN := [.inl x49]) hC [] (rh_0_1 hrec q48) lk_X6_211 g1 dX6_part_47 rfl rfl (by omega) (Nat.le_of_ble_eq_true rfl) (Nat.le_of_ble_eq_true rfl) rfl (Nat.le_of_ble_eq_true rfl) rfl rfl rfl ?_
      obtain ⟨g51, h⟩ := gd_s h
      cases h
      exact aw_zret hC g51 dX6_part_50 (Nat.le_of_ble_eq_true rfl) (Nat.le_of_ble_eq_true rfl)
  · replace h := it_p c3 h
    refine aw_aload_n (pc' := 12) (i := 0) hC dX6_part_11 rfl rfl rfl ?_
    refine aw_getfield (pc' := 15) (v := (.inr (.inr (M v0 2)))) hC dX6_part_12 rfl fl_X6_29 g1 rfl ?_
    refine aw_aload_n (pc' := 16) (i := 0) hC dX6_part_15 rfl rfl rfl ?_
    refine aw_getfield (pc' := 19) (v := (.inr (.inr (M v0 0)))) hC dX6_part_16 rfl fl_X6_12 g1 rfl ?_
    refine aw_getfield (pc' := 22) (v := (.inl (M (M v0 0) 9))) hC dX6_part_19 rfl fl_X6_64 g2 rfl ?_
    obtain ⟨g53, h⟩ := gd_s h
    obtain ⟨M54, q52, h⟩ := pb_s h
    replace h := u1_s h
    refine aw_cV (pc' := 25) (k2 := 0) (n2 := 0) (st := []) (stN := []) hC [.inl (M (M v0 0) 9)] (mX1_add q52) lk_X6_182 g53 dX6_part_22 rfl rfl (by omega) (Nat.le_of_ble_eq_true rfl) (Nat.le_of_ble_eq_true rfl) rfl (Nat.le_of_ble_eq_true rfl) rfl rfl rfl ?_
    refine aw_aload_n (pc' := 26) (i := 0) hC dX6_part_25 rfl rfl rfl ?_
    refine aw_getfield (pc' := 29) (v := (.inr (.inr (M54 v0 0)))) hC dX6_part_26 rfl fl_X6_12 g1 rfl ?_
    obtain ⟨g56, h⟩ := gd_s h
    obtain ⟨M57, q55, h⟩ := pb_s h
    replace h := u1_s h
    refine aw_cV (pc' := 32) (k2 := 0) (n2 := 0) (st := []) (stN := []) hC [] (mX4_next q55) lk_X6_127 g56 dX6_part_29 rfl rfl (by omega) (Nat.le_of_ble_eq_true rfl) (Nat.le_of_ble_eq_true rfl) rfl (Nat.le_of_ble_eq_true rfl) rfl rfl rfl ?_
    refine aw_iconst (pc' := 33) hC dX6_part_32 rfl (by decide) ?_
    cases h
    exact aw_zret hC (Or.inr rfl) dX6_part_33 (Nat.le_of_ble_eq_true rfl) (Nat.le_of_ble_eq_true rfl)
