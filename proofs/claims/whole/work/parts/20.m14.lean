-- CoinCircleModel.presents(III)Z
def fX9_presents (sh : AwS) (M : AwM) (v0 : Int) (v1 : Int) (v2 : Int) (v3 : Int) : Option (Int × AwM) :=
  gd_ (kd_ sh v0 = (0, 9)) (pb (fX9_wouldKnow sh M v0 v1 v2 v3) <| u2 fun (x3 : Int) (M4 : AwM) => ((if x3 = 0 then gd_ ((kd_ sh (M4 v0 51)).1 = 1 ∧ (0 : Int) ≤ (w32 ((w32 (12 * v1)) + v2)) ∧ (w32 ((w32 (12 * v1)) + v2)) < ((kd_ sh (M4 v0 51)).2 : Int)) (bd_ (up_ M4 (M4 v0 51) (w32 ((w32 (12 * v1)) + v2)) (or_ (M4 (M4 v0 51) (w32 ((w32 (12 * v1)) + v2))) (sl_ 1 v3))) fun (M7 : AwM) => (gd_ (x3 = 0 ∨ x3 = 1) (some (x3, M7)))) else pb (fX9_learns sh M4 v0 v1 v2 v3) <| u1 fun (M11 : AwM) => (gd_ (x3 = 0 ∨ x3 = 1) (some (x3, M11))))))
set_option maxRecDepth 100000 in
set_option maxHeartbeats 4000000 in
theorem mX9_presents {sh : AwS} {M : AwM} {v0 : Int} {v1 : Int} {v2 : Int} {v3 : Int} {r : Int} {M' : AwM} (h : fX9_presents sh M v0 v1 v2 v3 = some (r, M')) : AMet yX9_presents cX9_presents 5 (some .boolean) 6 0 0 [.inr (.inr v0), .inl v1, .inl v2, .inl v3] sh M (some (.inl r)) sh M' := by
  refine amet_of (by decide +kernel) (Nat.le_of_ble_eq_true rfl) (fun Γ hC => ?_)
  replace hC : AOK Γ RX9 cX9_presents 5 6 0 0 "presents" (some .boolean) := hC
  unfold fX9_presents at h
  refine aw_sub hC [some (.inr (.inr v0)), some (.inl v1), some (.inl v2), some (.inl v3), none] ⟨rfl, ⟨rfl, ⟨rfl, ⟨rfl, trivial⟩⟩⟩⟩ (Nat.le_of_ble_eq_true rfl) ?_
  refine aw_aload_n (pc' := 1) (i := 0) hC dX9_presents_0 rfl rfl rfl ?_
  refine aw_iload_n (pc' := 2) (i := 1) hC dX9_presents_1 rfl rfl rfl ?_
  refine aw_iload_n (pc' := 3) (i := 2) hC dX9_presents_2 rfl rfl rfl ?_
  refine aw_iload_n (pc' := 4) (i := 3) hC dX9_presents_3 rfl rfl rfl ?_
  obtain ⟨g2, h⟩ := gd_s h
  obtain ⟨⟨x3, M4⟩, q1, h⟩ := pb_s h
  replace h := u2_s h
  refine aw_cV (pc' := 7) (k2 := 0) (n2 := 0) (st := []) (stN := [.inl x3]) hC [.inl v1, .inl v2, .inl v3] (mX9_wouldKnow q1) lk_X9_483 g2 dX9_presents_4 rfl rfl (Nat.le_of_ble_eq_true rfl) (Nat.le_of_ble_eq_true rfl) (Nat.le_of_ble_eq_true rfl) rfl (Nat.le_of_ble_eq_true rfl) rfl rfl rfl ?_
  refine aw_istore (pc' := 9) (ls' := [some (.inr (.inr v0)), some (.inl v1), some (.inl v2), some (.inl v3), some (.inl x3)]) hC dX9_presents_7 rfl (Nat.le_of_ble_eq_true rfl) rfl rfl ?_
  refine aw_iload (pc' := 11) hC dX9_presents_9 rfl rfl ?_
  refine aw_if_eq (tgt := 24) (pc' := 14) hC dX9_presents_11 (by decide) rfl (fun c5 => ?_) (fun c5 => ?_)
  · replace h := it_p c5 h
    refine aw_aload_n (pc' := 25) (i := 0) hC dX9_presents_24 rfl rfl rfl ?_
    refine aw_getfield (pc' := 28) (v := (.inr (.inr (M4 v0 51)))) hC dX9_presents_25 rfl fl_X9_168 g2 rfl ?_
    refine aw_bipush (pc' := 30) hC dX9_presents_28 rfl (by decide) ?_
    refine aw_iload_n (pc' := 31) (i := 1) hC dX9_presents_30 rfl rfl rfl ?_
    refine aw_imul (pc' := 32) hC dX9_presents_31 rfl  ?_
    refine aw_iload_n (pc' := 33) (i := 2) hC dX9_presents_32 rfl rfl rfl ?_
    refine aw_iadd (pc' := 34) hC dX9_presents_33 rfl  ?_
    refine aw_dup2 (pc' := 35) hC dX9_presents_34 rfl rfl rfl ?_
    obtain ⟨g6, h⟩ := gd_s h
    refine aw_iaload (pc' := 36) hC dX9_presents_35 rfl g6 ?_
    refine aw_iconst (pc' := 37) hC dX9_presents_36 rfl (by decide) ?_
    refine aw_iload_n (pc' := 38) (i := 3) hC dX9_presents_37 rfl rfl rfl ?_
    refine aw_ishl (pc' := 39) hC dX9_presents_38 rfl  ?_
    refine aw_ior (pc' := 40) hC dX9_presents_39 rfl  ?_
    obtain ⟨M7, e8, h⟩ := bd_s h
    refine aw_ias (pc' := 41) hC dX9_presents_40 rfl g6 e8 ?_
    refine aw_iload (pc' := 43) hC dX9_presents_41 rfl rfl ?_
    obtain ⟨g9, h⟩ := gd_s h
    cases h
    exact aw_zret hC g9 dX9_presents_43 (Nat.le_of_ble_eq_true rfl) (Nat.le_of_ble_eq_true rfl)
  · replace h := it_n c5 h
    refine aw_aload_n (pc' := 15) (i := 0) hC dX9_presents_14 rfl rfl rfl ?_
    refine aw_iload_n (pc' := 16) (i := 1) hC dX9_presents_15 rfl rfl rfl ?_
    refine aw_iload_n (pc' := 17) (i := 2) hC dX9_presents_16 rfl rfl rfl ?_
    refine aw_iload_n (pc' := 18) (i := 3) hC dX9_presents_17 rfl rfl rfl ?_
    obtain ⟨M11, q10, h⟩ := pb_s h
    replace h := u1_s h
    refine aw_cV (pc' := 21) (k2 := 0) (n2 := 0) (st := []) (stN := []) hC [.inl v1, .inl v2, .inl v3] (mX9_learns q10) lk_X9_499 g2 dX9_presents_18 rfl rfl (Nat.le_of_ble_eq_true rfl) (Nat.le_of_ble_eq_true rfl) (Nat.le_of_ble_eq_true rfl) rfl (Nat.le_of_ble_eq_true rfl) rfl rfl rfl ?_
    refine aw_goto (tgt := 41) hC dX9_presents_21 (by decide) ?_
    refine aw_iload (pc' := 43) hC dX9_presents_41 rfl rfl ?_
    obtain ⟨g12, h⟩ := gd_s h
    cases h
    exact aw_zret hC g12 dX9_presents_43 (Nat.le_of_ble_eq_true rfl) (Nat.le_of_ble_eq_true rfl)
-- CoinCircleModel.present(II)I
def fX9_present (sh : AwS) (M : AwM) (v0 : Int) (v1 : Int) (v2 : Int) : Option (Int × AwM) :=
  gd_ (kd_ sh v0 = (0, 9)) (pb (fX9_isCoin sh M v0 v1) <| u1 fun (x3 : Int) => ((if x3 = 0 then pb (fX9_refuses sh M v0 2) <| u2 fun (x6 : Int) (M7 : AwM) => (some (x6, M7)) else pb (fX9_isPerson sh M v0 v2) <| u1 fun (x9 : Int) => ((if x9 = 0 then pb (fX9_refuses sh M v0 2) <| u2 fun (x12 : Int) (M13 : AwM) => (some (x12, M13)) else pb (fX9_canPresent sh M v0 0 v1 v2) <| u1 fun (x15 : Int) => ((if x15 = 0 then pb (fX9_refuses sh M v0 2) <| u2 fun (x24 : Int) (M25 : AwM) => (some (x24, M25)) else pb (fX9_keeps sh M v0) <| u1 fun (M18 : AwM) => (pb (fX9_presents sh M18 v0 0 v1 v2) <| u2 fun (x20 : Int) (M21 : AwM) => ((if x20 = 0 then some (0, M21) else some (1, M21)))))))))))
set_option maxRecDepth 100000 in
set_option maxHeartbeats 4000000 in
theorem mX9_present {sh : AwS} {M : AwM} {v0 : Int} {v1 : Int} {v2 : Int} {r : Int} {M' : AwM} (h : fX9_present sh M v0 v1 v2 = some (r, M')) : AMet yX9_present cX9_present 3 (some .int) 7 0 0 [.inr (.inr v0), .inl v1, .inl v2] sh M (some (.inl r)) sh M' := by
  refine amet_of (by decide +kernel) (Nat.le_of_ble_eq_true rfl) (fun Γ hC => ?_)
  replace hC : AOK Γ RX9 cX9_present 3 7 0 0 "present" (some .int) := hC
  unfold fX9_present at h
  refine aw_sub hC [some (.inr (.inr v0)), some (.inl v1), some (.inl v2)] ⟨rfl, ⟨rfl, ⟨rfl, trivial⟩⟩⟩ (Nat.le_of_ble_eq_true rfl) ?_
  refine aw_aload_n (pc' := 1) (i := 0) hC dX9_present_0 rfl rfl rfl ?_
  refine aw_iload_n (pc' := 2) (i := 1) hC dX9_present_1 rfl rfl rfl ?_
  obtain ⟨g2, h⟩ := gd_s h
  obtain ⟨x3, q1, h⟩ := pb_s h
  replace h := u1_s h
  refine aw_cV (pc' := 5) (k2 := 0) (n2 := 0) (st := []) (stN := [.inl x3]) hC [.inl v1] (mX9_isCoin q1) lk_X9_477 g2 dX9_present_2 rfl rfl (Nat.le_of_ble_eq_true rfl) (Nat.le_of_ble_eq_true rfl) (Nat.le_of_ble_eq_true rfl) rfl (Nat.le_of_ble_eq_true rfl) rfl rfl rfl ?_
  refine aw_if_eq (tgt := 26) (pc' := 8) hC dX9_present_5 (by decide) rfl (fun c4 => ?_) (fun c4 => ?_)
  · replace h := it_p c4 h
    refine aw_aload_n (pc' := 27) (i := 0) hC dX9_present_26 rfl rfl rfl ?_
    refine aw_iconst (pc' := 28) hC dX9_present_27 rfl (by decide) ?_
    obtain ⟨⟨x6, M7⟩, q5, h⟩ := pb_s h
    replace h := u2_s h
    refine aw_cV (pc' := 31) (k2 := 0) (n2 := 0) (st := []) (stN := [.inl x6]) hC [.inl 2] (mX9_refuses q5) lk_X9_228 g2 dX9_present_28 rfl rfl (Nat.le_of_ble_eq_true rfl) (Nat.le_of_ble_eq_true rfl) (Nat.le_of_ble_eq_true rfl) rfl (Nat.le_of_ble_eq_true rfl) rfl rfl rfl ?_
    cases h
    exact aw_iret hC dX9_present_31 (Nat.le_of_ble_eq_true rfl) (Nat.le_of_ble_eq_true rfl)
  · replace h := it_n c4 h
    refine aw_aload_n (pc' := 9) (i := 0) hC dX9_present_8 rfl rfl rfl ?_
    refine aw_iload_n (pc' := 10) (i := 2) hC dX9_present_9 rfl rfl rfl ?_
    obtain ⟨x9, q8, h⟩ := pb_s h
    replace h := u1_s h
    refine aw_cV (pc' := 13) (k2 := 0) (n2 := 0) (st := []) (stN := [.inl x9]) hC [.inl v2] (mX9_isPerson q8) lk_X9_471 g2 dX9_present_10 rfl rfl (Nat.le_of_ble_eq_true rfl) (Nat.le_of_ble_eq_true rfl) (Nat.le_of_ble_eq_true rfl) rfl (Nat.le_of_ble_eq_true rfl) rfl rfl rfl ?_
    refine aw_if_eq (tgt := 26) (pc' := 16) hC dX9_present_13 (by decide) rfl (fun c10 => ?_) (fun c10 => ?_)
    · replace h := it_p c10 h
      refine aw_aload_n (pc' := 27) (i := 0) hC dX9_present_26 rfl rfl rfl ?_
      refine aw_iconst (pc' := 28) hC dX9_present_27 rfl (by decide) ?_
      obtain ⟨⟨x12, M13⟩, q11, h⟩ := pb_s h
      replace h := u2_s h
      refine aw_cV (pc' := 31) (k2 := 0) (n2 := 0) (st := []) (stN := [.inl x12]) hC [.inl 2] (mX9_refuses q11) lk_X9_228 g2 dX9_present_28 rfl rfl (Nat.le_of_ble_eq_true rfl) (Nat.le_of_ble_eq_true rfl) (Nat.le_of_ble_eq_true rfl) rfl (Nat.le_of_ble_eq_true rfl) rfl rfl rfl ?_
      cases h
      exact aw_iret hC dX9_present_31 (Nat.le_of_ble_eq_true rfl) (Nat.le_of_ble_eq_true rfl)
    · replace h := it_n c10 h
      refine aw_aload_n (pc' := 17) (i := 0) hC dX9_present_16 rfl rfl rfl ?_
      refine aw_iconst (pc' := 18) hC dX9_present_17 rfl (by decide) ?_
      refine aw_iload_n (pc' := 19) (i := 1) hC dX9_present_18 rfl rfl rfl ?_
      refine aw_iload_n (pc' := 20) (i := 2) hC dX9_present_19 rfl rfl rfl ?_
      obtain ⟨x15, q14, h⟩ := pb_s h
      replace h := u1_s h
      refine aw_cV (pc' := 23) (k2 := 0) (n2 := 0) (st := []) (stN := [.inl x15]) hC [.inl 0, .inl v1, .inl v2] (mX9_canPresent q14) lk_X9_480 g2 dX9_present_20 rfl rfl (Nat.le_of_ble_eq_true rfl) (Nat.le_of_ble_eq_true rfl) (Nat.le_of_ble_eq_true rfl) rfl (Nat.le_of_ble_eq_true rfl) rfl rfl rfl ?_
      refine aw_if_ne (tgt := 32) (pc' := 26) hC dX9_present_23 (by decide) rfl (fun c16 => ?_) (fun c16 => ?_)
      · replace h := it_n c16 h
        refine aw_aload_n (pc' := 33) (i := 0) hC dX9_present_32 rfl rfl rfl ?_
        obtain ⟨M18, q17, h⟩ := pb_s h
        replace h := u1_s h
        refine aw_cV (pc' := 36) (k2 := 0) (n2 := 0) (st := []) (stN := []) hC [] (mX9_keeps q17) lk_X9_502 g2 dX9_present_33 rfl rfl (Nat.le_of_ble_eq_true rfl) (Nat.le_of_ble_eq_true rfl) (Nat.le_of_ble_eq_true rfl) rfl (Nat.le_of_ble_eq_true rfl) rfl rfl rfl ?_
        refine aw_aload_n (pc' := 37) (i := 0) hC dX9_present_36 rfl rfl rfl ?_
        refine aw_iconst (pc' := 38) hC dX9_present_37 rfl (by decide) ?_
        refine aw_iload_n (pc' := 39) (i := 1) hC dX9_present_38 rfl rfl rfl ?_
        refine aw_iload_n (pc' := 40) (i := 2) hC dX9_present_39 rfl rfl rfl ?_
        obtain ⟨⟨x20, M21⟩, q19, h⟩ := pb_s h
        replace h := u2_s h
        refine aw_cV (pc' := 43) (k2 := 0) (n2 := 0) (st := []) (stN := [.inl x20]) hC [.inl 0, .inl v1, .inl v2] (mX9_presents q19) lk_X9_505 g2 dX9_present_40 rfl rfl (Nat.le_of_ble_eq_true rfl) (Nat.le_of_ble_eq_true rfl) (Nat.le_of_ble_eq_true rfl) rfl (Nat.le_of_ble_eq_true rfl) rfl rfl rfl ?_
        refine aw_if_eq (tgt := 50) (pc' := 46) hC dX9_present_43 (by decide) rfl (fun c22 => ?_) (fun c22 => ?_)
        · replace h := it_p c22 h
          refine aw_iconst (pc' := 51) hC dX9_present_50 rfl (by decide) ?_
          cases h
          exact aw_iret hC dX9_present_51 (Nat.le_of_ble_eq_true rfl) (Nat.le_of_ble_eq_true rfl)
        · replace h := it_n c22 h
          refine aw_iconst (pc' := 47) hC dX9_present_46 rfl (by decide) ?_
          refine aw_goto (tgt := 51) hC dX9_present_47 (by decide) ?_
          cases h
          exact aw_iret hC dX9_present_51 (Nat.le_of_ble_eq_true rfl) (Nat.le_of_ble_eq_true rfl)
      · replace h := it_p c16 h
        refine aw_aload_n (pc' := 27) (i := 0) hC dX9_present_26 rfl rfl rfl ?_
        refine aw_iconst (pc' := 28) hC dX9_present_27 rfl (by decide) ?_
        obtain ⟨⟨x24, M25⟩, q23, h⟩ := pb_s h
        replace h := u2_s h
        refine aw_cV (pc' := 31) (k2 := 0) (n2 := 0) (st := []) (stN := [.inl x24]) hC [.inl 2] (mX9_refuses q23) lk_X9_228 g2 dX9_present_28 rfl rfl (Nat.le_of_ble_eq_true rfl) (Nat.le_of_ble_eq_true rfl) (Nat.le_of_ble_eq_true rfl) rfl (Nat.le_of_ble_eq_true rfl) rfl rfl rfl ?_
        cases h
        exact aw_iret hC dX9_present_31 (Nat.le_of_ble_eq_true rfl) (Nat.le_of_ble_eq_true rfl)
-- CoinCircleModel.pays(II)V
def fX9_pays (sh : AwS) (M : AwM) (v0 : Int) (v1 : Int) (v2 : Int) : Option (AwM) :=
  gd_ (kd_ sh v0 = (0, 9)) (gd_ ((kd_ sh (M v0 49)).1 = 1 ∧ (0 : Int) ≤ v1 ∧ v1 < ((kd_ sh (M v0 49)).2 : Int)) (pb (fX9_meets sh M v0 0 v1 (M (M v0 49) v1)) <| u1 fun (M4 : AwM) => (gd_ ((kd_ sh (M4 v0 49)).1 = 1 ∧ (0 : Int) ≤ v1 ∧ v1 < ((kd_ sh (M4 v0 49)).2 : Int)) (bd_ (up_ M4 (M4 v0 49) v1 v2) fun (M6 : AwM) => (pb (fX9_meets sh M6 v0 0 v1 v2) <| u1 fun (M9 : AwM) => (some M9))))))
set_option maxRecDepth 100000 in
set_option maxHeartbeats 4000000 in
theorem mX9_pays {sh : AwS} {M : AwM} {v0 : Int} {v1 : Int} {v2 : Int} {M' : AwM} (h : fX9_pays sh M v0 v1 v2 = some M') : AMet yX9_pays cX9_pays 3 none 2 0 0 [.inr (.inr v0), .inl v1, .inl v2] sh M none sh M' := by
  refine amet_of (by decide +kernel) (Nat.le_of_ble_eq_true rfl) (fun Γ hC => ?_)
  replace hC : AOK Γ RX9 cX9_pays 3 2 0 0 "pays" none := hC
  unfold fX9_pays at h
  refine aw_sub hC [some (.inr (.inr v0)), some (.inl v1), some (.inl v2)] ⟨rfl, ⟨rfl, ⟨rfl, trivial⟩⟩⟩ (Nat.le_of_ble_eq_true rfl) ?_
  refine aw_aload_n (pc' := 1) (i := 0) hC dX9_pays_0 rfl rfl rfl ?_
  refine aw_iconst (pc' := 2) hC dX9_pays_1 rfl (by decide) ?_
  refine aw_iload_n (pc' := 3) (i := 1) hC dX9_pays_2 rfl rfl rfl ?_
  refine aw_aload_n (pc' := 4) (i := 0) hC dX9_pays_3 rfl rfl rfl ?_
  obtain ⟨g1, h⟩ := gd_s h
  refine aw_getfield (pc' := 7) (v := (.inr (.inr (M v0 49)))) hC dX9_pays_4 rfl fl_X9_162 g1 rfl ?_
  refine aw_iload_n (pc' := 8) (i := 1) hC dX9_pays_7 rfl rfl rfl ?_
  obtain ⟨g2, h⟩ := gd_s h
  refine aw_iaload (pc' := 9) hC dX9_pays_8 rfl g2 ?_
  obtain ⟨M4, q3, h⟩ := pb_s h
  replace h := u1_s h
  refine aw_cV (pc' := 12) (k2 := 0) (n2 := 0) (st := []) (stN := []) hC [.inl 0, .inl v1, .inl (M (M v0 49) v1)] (mX9_meets q3) lk_X9_495 g1 dX9_pays_9 rfl rfl (Nat.le_of_ble_eq_true rfl) (Nat.le_of_ble_eq_true rfl) (Nat.le_of_ble_eq_true rfl) rfl (Nat.le_of_ble_eq_true rfl) rfl rfl rfl ?_
  refine aw_aload_n (pc' := 13) (i := 0) hC dX9_pays_12 rfl rfl rfl ?_
  refine aw_getfield (pc' := 16) (v := (.inr (.inr (M4 v0 49)))) hC dX9_pays_13 rfl fl_X9_162 g1 rfl ?_
  refine aw_iload_n (pc' := 17) (i := 1) hC dX9_pays_16 rfl rfl rfl ?_
  refine aw_iload_n (pc' := 18) (i := 2) hC dX9_pays_17 rfl rfl rfl ?_
  obtain ⟨g5, h⟩ := gd_s h
  obtain ⟨M6, e7, h⟩ := bd_s h
  refine aw_ias (pc' := 19) hC dX9_pays_18 rfl g5 e7 ?_
  refine aw_aload_n (pc' := 20) (i := 0) hC dX9_pays_19 rfl rfl rfl ?_
  refine aw_iconst (pc' := 21) hC dX9_pays_20 rfl (by decide) ?_
  refine aw_iload_n (pc' := 22) (i := 1) hC dX9_pays_21 rfl rfl rfl ?_
  refine aw_iload_n (pc' := 23) (i := 2) hC dX9_pays_22 rfl rfl rfl ?_
  obtain ⟨M9, q8, h⟩ := pb_s h
  replace h := u1_s h
  refine aw_cV (pc' := 26) (k2 := 0) (n2 := 0) (st := []) (stN := []) hC [.inl 0, .inl v1, .inl v2] (mX9_meets q8) lk_X9_495 g1 dX9_pays_23 rfl rfl (Nat.le_of_ble_eq_true rfl) (Nat.le_of_ble_eq_true rfl) (Nat.le_of_ble_eq_true rfl) rfl (Nat.le_of_ble_eq_true rfl) rfl rfl rfl ?_
  cases h
  exact aw_vret hC dX9_pays_26 (Nat.le_of_ble_eq_true rfl) (Nat.le_of_ble_eq_true rfl)
-- CoinCircleModel.pay(II)Z
def fX9_pay_J39 (sh : AwS) (M : AwM) (v0 : Int) : Option (Int × AwM) :=
  gd_ (kd_ sh v0 = (0, 9)) (pb (fX9_refuses sh M v0 2) <| u2 fun (x7 : Int) (M8 : AwM) => ((if x7 < 0 then some (0, M8) else some (1, M8))))
def fX9_pay (sh : AwS) (M : AwM) (v0 : Int) (v1 : Int) (v2 : Int) : Option (Int × AwM) :=
  gd_ (kd_ sh v0 = (0, 9)) (pb (fX9_isCoin sh M v0 v1) <| u1 fun (x3 : Int) => ((if x3 = 0 then fX9_pay_J39 sh M v0 else pb (fX9_isPerson sh M v0 v2) <| u1 fun (x11 : Int) => ((if x11 = 0 then fX9_pay_J39 sh M v0 else gd_ ((kd_ sh (M v0 49)).1 = 1 ∧ (0 : Int) ≤ v1 ∧ v1 < ((kd_ sh (M v0 49)).2 : Int)) ((if (M (M v0 49) v1) = v2 then fX9_pay_J39 sh M v0 else gd_ ((kd_ sh (M v0 50)).1 = 1 ∧ (0 : Int) ≤ v1 ∧ v1 < ((kd_ sh (M v0 50)).2 : Int)) (pb (fX9_has2 sh M (M (M v0 50) v1) v2) <| u1 fun (x17 : Int) => ((if x17 = 0 then fX9_pay_J39 sh M v0 else pb (fX9_keeps sh M v0) <| u1 fun (M20 : AwM) => (pb (fX9_pays sh M20 v0 v1 v2) <| u1 fun (M22 : AwM) => (some (1, M22)))))))))))))
set_option maxRecDepth 100000 in
set_option maxHeartbeats 4000000 in
theorem w_X9_pay_J39 {Γ : AwC} (hC : AOK Γ RX9 cX9_pay 3 3 0 0 "pay" (some .boolean)) {sh : AwS} {M : AwM} {v0 : Int} {r : Int} {M' : AwM} (h : fX9_pay_J39 sh M v0 = some (r, M')) {Q : State → Prop} (hQ : Q = (fin_ Γ 0 0 (some (.inl r)) sh M')) : AW Γ sh M 0 0 39 [some (.inr (.inr v0)), none, none] [] Q := by
  unfold fX9_pay_J39 at h
  refine aw_aload_n (pc' := 40) (i := 0) hC dX9_pay_39 rfl rfl rfl ?_
  refine aw_iconst (pc' := 41) hC dX9_pay_40 rfl (by decide) ?_
  obtain ⟨g6, h⟩ := gd_s h
  obtain ⟨⟨x7, M8⟩, q5, h⟩ := pb_s h
  replace h := u2_s h
  refine aw_cV (pc' := 44) (k2 := 0) (n2 := 0) (st := []) (stN := [.inl x7]) hC [.inl 2] (mX9_refuses q5) lk_X9_228 g6 dX9_pay_41 rfl rfl (Nat.le_of_ble_eq_true rfl) (Nat.le_of_ble_eq_true rfl) (Nat.le_of_ble_eq_true rfl) rfl (Nat.le_of_ble_eq_true rfl) rfl rfl rfl ?_
  refine aw_if_lt (tgt := 51) (pc' := 47) hC dX9_pay_44 (by decide) rfl (fun c9 => ?_) (fun c9 => ?_)
  · replace h := it_p c9 h
    refine aw_iconst (pc' := 52) hC dX9_pay_51 rfl (by decide) ?_
    cases h
    subst hQ
    exact aw_zret hC (Or.inl rfl) dX9_pay_52 (Nat.le_of_ble_eq_true rfl) (Nat.le_of_ble_eq_true rfl)
  · replace h := it_n c9 h
    refine aw_iconst (pc' := 48) hC dX9_pay_47 rfl (by decide) ?_
    refine aw_goto (tgt := 52) hC dX9_pay_48 (by decide) ?_
    cases h
    subst hQ
    exact aw_zret hC (Or.inr rfl) dX9_pay_52 (Nat.le_of_ble_eq_true rfl) (Nat.le_of_ble_eq_true rfl)
set_option maxRecDepth 100000 in
set_option maxHeartbeats 4000000 in
theorem mX9_pay {sh : AwS} {M : AwM} {v0 : Int} {v1 : Int} {v2 : Int} {r : Int} {M' : AwM} (h : fX9_pay sh M v0 v1 v2 = some (r, M')) : AMet yX9_pay cX9_pay 3 (some .boolean) 3 0 0 [.inr (.inr v0), .inl v1, .inl v2] sh M (some (.inl r)) sh M' := by
  refine amet_of (by decide +kernel) (Nat.le_of_ble_eq_true rfl) (fun Γ hC => ?_)
  replace hC : AOK Γ RX9 cX9_pay 3 3 0 0 "pay" (some .boolean) := hC
  unfold fX9_pay at h
  refine aw_sub hC [some (.inr (.inr v0)), some (.inl v1), some (.inl v2)] ⟨rfl, ⟨rfl, ⟨rfl, trivial⟩⟩⟩ (Nat.le_of_ble_eq_true rfl) ?_
  refine aw_aload_n (pc' := 1) (i := 0) hC dX9_pay_0 rfl rfl rfl ?_
  refine aw_iload_n (pc' := 2) (i := 1) hC dX9_pay_1 rfl rfl rfl ?_
  obtain ⟨g2, h⟩ := gd_s h
  obtain ⟨x3, q1, h⟩ := pb_s h
  replace h := u1_s h
  refine aw_cV (pc' := 5) (k2 := 0) (n2 := 0) (st := []) (stN := [.inl x3]) hC [.inl v1] (mX9_isCoin q1) lk_X9_477 g2 dX9_pay_2 rfl rfl (Nat.le_of_ble_eq_true rfl) (Nat.le_of_ble_eq_true rfl) (Nat.le_of_ble_eq_true rfl) rfl (Nat.le_of_ble_eq_true rfl) rfl rfl rfl ?_
  refine aw_if_eq (tgt := 39) (pc' := 8) hC dX9_pay_5 (by decide) rfl (fun c4 => ?_) (fun c4 => ?_)
  · replace h := it_p c4 h
    refine aw_sub hC [some (.inr (.inr v0)), none, none] ⟨rfl, trivial⟩ (Nat.le_of_ble_eq_true rfl) ?_
    exact w_X9_pay_J39 hC h rfl
  · replace h := it_n c4 h
    refine aw_aload_n (pc' := 9) (i := 0) hC dX9_pay_8 rfl rfl rfl ?_
    refine aw_iload_n (pc' := 10) (i := 2) hC dX9_pay_9 rfl rfl rfl ?_
    obtain ⟨x11, q10, h⟩ := pb_s h
    replace h := u1_s h
    refine aw_cV (pc' := 13) (k2 := 0) (n2 := 0) (st := []) (stN := [.inl x11]) hC [.inl v2] (mX9_isPerson q10) lk_X9_471 g2 dX9_pay_10 rfl rfl (Nat.le_of_ble_eq_true rfl) (Nat.le_of_ble_eq_true rfl) (Nat.le_of_ble_eq_true rfl) rfl (Nat.le_of_ble_eq_true rfl) rfl rfl rfl ?_
    refine aw_if_eq (tgt := 39) (pc' := 16) hC dX9_pay_13 (by decide) rfl (fun c12 => ?_) (fun c12 => ?_)
    · replace h := it_p c12 h
      refine aw_sub hC [some (.inr (.inr v0)), none, none] ⟨rfl, trivial⟩ (Nat.le_of_ble_eq_true rfl) ?_
      exact w_X9_pay_J39 hC h rfl
    · replace h := it_n c12 h
      refine aw_aload_n (pc' := 17) (i := 0) hC dX9_pay_16 rfl rfl rfl ?_
      refine aw_getfield (pc' := 20) (v := (.inr (.inr (M v0 49)))) hC dX9_pay_17 rfl fl_X9_162 g2 rfl ?_
      refine aw_iload_n (pc' := 21) (i := 1) hC dX9_pay_20 rfl rfl rfl ?_
      obtain ⟨g13, h⟩ := gd_s h
      refine aw_iaload (pc' := 22) hC dX9_pay_21 rfl g13 ?_
      refine aw_iload_n (pc' := 23) (i := 2) hC dX9_pay_22 rfl rfl rfl ?_
      refine aw_icmp_eq (tgt := 39) (pc' := 26) hC dX9_pay_23 (by decide) rfl (fun c14 => ?_) (fun c14 => ?_)
      · replace h := it_p c14 h
        refine aw_sub hC [some (.inr (.inr v0)), none, none] ⟨rfl, trivial⟩ (Nat.le_of_ble_eq_true rfl) ?_
        exact w_X9_pay_J39 hC h rfl
      · replace h := it_n c14 h
        refine aw_aload_n (pc' := 27) (i := 0) hC dX9_pay_26 rfl rfl rfl ?_
        refine aw_getfield (pc' := 30) (v := (.inr (.inr (M v0 50)))) hC dX9_pay_27 rfl fl_X9_165 g2 rfl ?_
        refine aw_iload_n (pc' := 31) (i := 1) hC dX9_pay_30 rfl rfl rfl ?_
        obtain ⟨g15, h⟩ := gd_s h
        refine aw_iaload (pc' := 32) hC dX9_pay_31 rfl g15 ?_
        refine aw_iload_n (pc' := 33) (i := 2) hC dX9_pay_32 rfl rfl rfl ?_
        obtain ⟨x17, q16, h⟩ := pb_s h
        replace h := u1_s h
        refine aw_cS (pc' := 36) (k2 := 0) (n2 := 0) (st := []) (stN := [.inl x17]) hC [.inl (M (M v0 50) v1), .inl v2] (mX9_has2 q16) lk_X9_373 dX9_pay_33 rfl rfl (Nat.le_of_ble_eq_true rfl) (Nat.le_of_ble_eq_true rfl) (Nat.le_of_ble_eq_true rfl) rfl (Nat.le_of_ble_eq_true rfl) rfl rfl rfl ?_
        refine aw_if_ne (tgt := 53) (pc' := 39) hC dX9_pay_36 (by decide) rfl (fun c18 => ?_) (fun c18 => ?_)
        · replace h := it_n c18 h
          refine aw_aload_n (pc' := 54) (i := 0) hC dX9_pay_53 rfl rfl rfl ?_
          obtain ⟨M20, q19, h⟩ := pb_s h
          replace h := u1_s h
          refine aw_cV (pc' := 57) (k2 := 0) (n2 := 0) (st := []) (stN := []) hC [] (mX9_keeps q19) lk_X9_502 g2 dX9_pay_54 rfl rfl (Nat.le_of_ble_eq_true rfl) (Nat.le_of_ble_eq_true rfl) (Nat.le_of_ble_eq_true rfl) rfl (Nat.le_of_ble_eq_true rfl) rfl rfl rfl ?_
          refine aw_aload_n (pc' := 58) (i := 0) hC dX9_pay_57 rfl rfl rfl ?_
          refine aw_iload_n (pc' := 59) (i := 1) hC dX9_pay_58 rfl rfl rfl ?_
          refine aw_iload_n (pc' := 60) (i := 2) hC dX9_pay_59 rfl rfl rfl ?_
          obtain ⟨M22, q21, h⟩ := pb_s h
          replace h := u1_s h
          refine aw_cV (pc' := 63) (k2 := 0) (n2 := 0) (st := []) (stN := []) hC [.inl v1, .inl v2] (mX9_pays q21) lk_X9_508 g2 dX9_pay_60 rfl rfl (Nat.le_of_ble_eq_true rfl) (Nat.le_of_ble_eq_true rfl) (Nat.le_of_ble_eq_true rfl) rfl (Nat.le_of_ble_eq_true rfl) rfl rfl rfl ?_
          refine aw_iconst (pc' := 64) hC dX9_pay_63 rfl (by decide) ?_
          cases h
          exact aw_zret hC (Or.inr rfl) dX9_pay_64 (Nat.le_of_ble_eq_true rfl) (Nat.le_of_ble_eq_true rfl)
        · replace h := it_p c18 h
          refine aw_sub hC [some (.inr (.inr v0)), none, none] ⟨rfl, trivial⟩ (Nat.le_of_ble_eq_true rfl) ?_
          exact w_X9_pay_J39 hC h rfl
-- CoinCircleModel.changeOf(II)I
def fX9_changeOf_J63_5 (sh : AwS) (M : AwM) (v0 : Int) (v1 : Int) (v2 : Int) (v3 : Int) (v4 : Int) : Option ((Int × Int) ⊕ (Int)) :=
  some (.inl (v3, (w32 (v4 + 1))))
def fX9_changeOf_L5 (sh : AwS) (M : AwM) (v0 : Int) (v1 : Int) (v2 : Int) (v3 : Int) (v4 : Int) : Option ((Int × Int) ⊕ (Int)) :=
  gd_ (kd_ sh v0 = (0, 9)) (gd_ ((kd_ sh (M v0 16)).1 = 1 ∧ (0 : Int) ≤ (M v0 13) ∧ (M v0 13) < ((kd_ sh (M v0 16)).2 : Int)) ((if v4 < (sl_ 1 (M (M v0 16) (M v0 13))) then (if (an_ v4 (xo_ v1 (-1))) = 0 then pb (fX9_worthAll sh M v0 v4) <| u1 fun (x6 : Int) => ((if x6 = v2 then (if v3 = (-1) then fX9_changeOf_J63_5 sh M v0 v1 v2 v4 v4 else pb (fX9_bits sh M v4) <| u1 fun (x10 : Int) => (pb (fX9_bits sh M v3) <| u1 fun (x12 : Int) => ((if x10 < x12 then fX9_changeOf_J63_5 sh M v0 v1 v2 v4 v4 else fX9_changeOf_J63_5 sh M v0 v1 v2 v3 v4)))) else fX9_changeOf_J63_5 sh M v0 v1 v2 v3 v4)) else fX9_changeOf_J63_5 sh M v0 v1 v2 v3 v4) else some (.inr v3))))
def p_X9_changeOf_L5 (Γ : AwC) (sh : AwS) (M : AwM) (v0 : Int) (v1 : Int) (v2 : Int) (Q : State → Prop) (s : Int × Int) : Prop := AW Γ sh M 0 0 5 [some (.inr (.inr v0)), some (.inl v1), some (.inl v2), some (.inl (s.1)), some (.inl (s.2))] [] Q
def x_X9_changeOf_L5 (Γ : AwC) (sh : AwS) (M : AwM) (v0 : Int) (v1 : Int) (v2 : Int) (Q : State → Prop) : (Int) → Prop := (fun (t : Int) => AW Γ sh M 0 0 69 [none, none, none, some (.inl (t)), none] [] Q)
def fX9_changeOf (sh : AwS) (M : AwM) (v0 : Int) (v1 : Int) (v2 : Int) : Option Int :=
  pb (lp (u2 (fX9_changeOf_L5 sh M v0 v1 v2)) FU ((-1), 0)) (u1 (fun (tq14 : Int) => some tq14))
set_option maxRecDepth 100000 in
set_option maxHeartbeats 4000000 in
theorem w_X9_changeOf_J63_5 {Γ : AwC} (hC : AOK Γ RX9 cX9_changeOf 5 3 0 0 "changeOf" (some .int)) {sh : AwS} {M : AwM} {v0 : Int} {v1 : Int} {v2 : Int} {v3 : Int} {v4 : Int} {Q : State → Prop} {r : (Int × Int) ⊕ (Int)} (h : fX9_changeOf_J63_5 sh M v0 v1 v2 v3 v4 = some r) (hL : ∀ s', r = .inl s' → p_X9_changeOf_L5 Γ sh M v0 v1 v2 Q s') (hX : ∀ t, r = .inr t → x_X9_changeOf_L5 Γ sh M v0 v1 v2 Q t) : AW Γ sh M 0 0 63 [some (.inr (.inr v0)), some (.inl v1), some (.inl v2), some (.inl v3), some (.inl v4)] [] Q := by
  unfold fX9_changeOf_J63_5 at h
  refine aw_iinc (pc' := 66) (ls' := [some (.inr (.inr v0)), some (.inl v1), some (.inl v2), some (.inl v3), some (.inl (w32 (v4 + 1)))]) hC dX9_changeOf_63 rfl rfl rfl rfl ?_
  refine aw_goto (tgt := 5) hC dX9_changeOf_66 (by decide) ?_
  refine aw_sub hC [some (.inr (.inr v0)), some (.inl v1), some (.inl v2), some (.inl v3), some (.inl (w32 (v4 + 1)))] ⟨rfl, ⟨rfl, ⟨rfl, ⟨rfl, ⟨rfl, trivial⟩⟩⟩⟩⟩ (Nat.le_of_ble_eq_true rfl) ?_
  cases h
  exact hL _ rfl
set_option maxRecDepth 100000 in
set_option maxHeartbeats 4000000 in
theorem w_X9_changeOf_L5 {Γ : AwC} (hC : AOK Γ RX9 cX9_changeOf 5 3 0 0 "changeOf" (some .int)) {sh : AwS} {M : AwM} {v0 : Int} {v1 : Int} {v2 : Int} {Q : State → Prop} : ∀ s r, u2 (fX9_changeOf_L5 sh M v0 v1 v2) s = some r → (∀ s', r = .inl s' → p_X9_changeOf_L5 Γ sh M v0 v1 v2 Q s') → (∀ t, r = .inr t → x_X9_changeOf_L5 Γ sh M v0 v1 v2 Q t) → p_X9_changeOf_L5 Γ sh M v0 v1 v2 Q s := by
  intro s r h hL hX
  obtain ⟨v3, v4⟩ := s
  replace h := u2_s h
  unfold fX9_changeOf_L5 at h
  show AW Γ sh M 0 0 5 [some (.inr (.inr v0)), some (.inl v1), some (.inl v2), some (.inl v3), some (.inl v4)] [] Q
  refine aw_iload (pc' := 7) hC dX9_changeOf_5 rfl rfl ?_
  refine aw_iconst (pc' := 8) hC dX9_changeOf_7 rfl (by decide) ?_
  refine aw_aload_n (pc' := 9) (i := 0) hC dX9_changeOf_8 rfl rfl rfl ?_
  obtain ⟨g1, h⟩ := gd_s h
  refine aw_getfield (pc' := 12) (v := (.inr (.inr (M v0 16)))) hC dX9_changeOf_9 rfl fl_X9_60 g1 rfl ?_
  refine aw_aload_n (pc' := 13) (i := 0) hC dX9_changeOf_12 rfl rfl rfl ?_
  refine aw_getfield (pc' := 16) (v := (.inl (M v0 13))) hC dX9_changeOf_13 rfl fl_X9_51 g1 rfl ?_
  obtain ⟨g2, h⟩ := gd_s h
  refine aw_iaload (pc' := 17) hC dX9_changeOf_16 rfl g2 ?_
  refine aw_ishl (pc' := 18) hC dX9_changeOf_17 rfl  ?_
  refine aw_icmp_ge (tgt := 69) (pc' := 21) hC dX9_changeOf_18 (by decide) rfl (fun c3 => ?_) (fun c3 => ?_)
  · replace h := it_n c3 h
    refine aw_sub hC [none, none, none, some (.inl v3), none] ⟨rfl, trivial⟩ (Nat.le_of_ble_eq_true rfl) ?_
    cases h
    exact hX _ rfl
  · replace h := it_p c3 h
    refine aw_iload (pc' := 23) hC dX9_changeOf_21 rfl rfl ?_
    refine aw_iload_n (pc' := 24) (i := 1) hC dX9_changeOf_23 rfl rfl rfl ?_
    refine aw_iconst (pc' := 25) hC dX9_changeOf_24 rfl (by decide) ?_
    refine aw_ixor (pc' := 26) hC dX9_changeOf_25 rfl  ?_
    refine aw_iand (pc' := 27) hC dX9_changeOf_26 rfl  ?_
    refine aw_if_ne (tgt := 63) (pc' := 30) hC dX9_changeOf_27 (by decide) rfl (fun c4 => ?_) (fun c4 => ?_)
    · replace h := it_n c4 h
      refine aw_sub hC [some (.inr (.inr v0)), some (.inl v1), some (.inl v2), some (.inl v3), some (.inl v4)] ⟨rfl, ⟨rfl, ⟨rfl, ⟨rfl, ⟨rfl, trivial⟩⟩⟩⟩⟩ (Nat.le_of_ble_eq_true rfl) ?_
      exact w_X9_changeOf_J63_5 hC h hL hX
    · replace h := it_p c4 h
      refine aw_aload_n (pc' := 31) (i := 0) hC dX9_changeOf_30 rfl rfl rfl ?_
      refine aw_iload (pc' := 33) hC dX9_changeOf_31 rfl rfl ?_
      obtain ⟨x6, q5, h⟩ := pb_s h
      replace h := u1_s h
      refine aw_cV (pc' := 36) (k2 := 0) (n2 := 0) (st := []) (stN := [.inl x6]) hC [.inl v4] (mX9_worthAll q5) lk_X9_474 g1 dX9_changeOf_33 rfl rfl (Nat.le_of_ble_eq_true rfl) (Nat.le_of_ble_eq_true rfl) (Nat.le_of_ble_eq_true rfl) rfl (Nat.le_of_ble_eq_true rfl) rfl rfl rfl ?_
      refine aw_iload_n (pc' := 37) (i := 2) hC dX9_changeOf_36 rfl rfl rfl ?_
      refine aw_icmp_ne (tgt := 63) (pc' := 40) hC dX9_changeOf_37 (by decide) rfl (fun c7 => ?_) (fun c7 => ?_)
      · replace h := it_n c7 h
        refine aw_sub hC [some (.inr (.inr v0)), some (.inl v1), some (.inl v2), some (.inl v3), some (.inl v4)] ⟨rfl, ⟨rfl, ⟨rfl, ⟨rfl, ⟨rfl, trivial⟩⟩⟩⟩⟩ (Nat.le_of_ble_eq_true rfl) ?_
        exact w_X9_changeOf_J63_5 hC h hL hX
      · replace h := it_p c7 h
        refine aw_iload_n (pc' := 41) (i := 3) hC dX9_changeOf_40 rfl rfl rfl ?_
        refine aw_iconst (pc' := 42) hC dX9_changeOf_41 rfl (by decide) ?_
        refine aw_icmp_eq (tgt := 60) (pc' := 45) hC dX9_changeOf_42 (by decide) rfl (fun c8 => ?_) (fun c8 => ?_)
        · replace h := it_p c8 h
          refine aw_iload (pc' := 62) hC dX9_changeOf_60 rfl rfl ?_
          refine aw_istore_n (pc' := 63) (i := 3) (ls' := [some (.inr (.inr v0)), some (.inl v1), some (.inl v2), some (.inl v4), some (.inl v4)]) hC dX9_changeOf_62 rfl rfl (Nat.le_of_ble_eq_true rfl) rfl rfl ?_
          refine aw_sub hC [some (.inr (.inr v0)), some (.inl v1), some (.inl v2), some (.inl v4), some (.inl v4)] ⟨rfl, ⟨rfl, ⟨rfl, ⟨rfl, ⟨rfl, trivial⟩⟩⟩⟩⟩ (Nat.le_of_ble_eq_true rfl) ?_
          exact w_X9_changeOf_J63_5 hC h hL hX
        · replace h := it_n c8 h
          refine aw_iload (pc' := 47) hC dX9_changeOf_45 rfl rfl ?_
          obtain ⟨x10, q9, h⟩ := pb_s h
          replace h := u1_s h
          refine aw_cS (pc' := 50) (k2 := 0) (n2 := 0) (st := []) (stN := [.inl x10]) hC [.inl v4] (mX9_bits q9) lk_X9_448 dX9_changeOf_47 rfl rfl (Nat.le_of_ble_eq_true rfl) (Nat.le_of_ble_eq_true rfl) (Nat.le_of_ble_eq_true rfl) rfl (Nat.le_of_ble_eq_true rfl) rfl rfl rfl ?_
          refine aw_iload_n (pc' := 51) (i := 3) hC dX9_changeOf_50 rfl rfl rfl ?_
          obtain ⟨x12, q11, h⟩ := pb_s h
          replace h := u1_s h
          refine aw_cS (pc' := 54) (k2 := 0) (n2 := 0) (st := [.inl x10]) (stN := [.inl x12, .inl x10]) hC [.inl v3] (mX9_bits q11) lk_X9_448 dX9_changeOf_51 rfl rfl (Nat.le_of_ble_eq_true rfl) (Nat.le_of_ble_eq_true rfl) (Nat.le_of_ble_eq_true rfl) rfl (Nat.le_of_ble_eq_true rfl) rfl rfl rfl ?_
          refine aw_icmp_lt (tgt := 60) (pc' := 57) hC dX9_changeOf_54 (by decide) rfl (fun c13 => ?_) (fun c13 => ?_)
          · replace h := it_p c13 h
            refine aw_iload (pc' := 62) hC dX9_changeOf_60 rfl rfl ?_
            refine aw_istore_n (pc' := 63) (i := 3) (ls' := [some (.inr (.inr v0)), some (.inl v1), some (.inl v2), some (.inl v4), some (.inl v4)]) hC dX9_changeOf_62 rfl rfl (Nat.le_of_ble_eq_true rfl) rfl rfl ?_
            refine aw_sub hC [some (.inr (.inr v0)), some (.inl v1), some (.inl v2), some (.inl v4), some (.inl v4)] ⟨rfl, ⟨rfl, ⟨rfl, ⟨rfl, ⟨rfl, trivial⟩⟩⟩⟩⟩ (Nat.le_of_ble_eq_true rfl) ?_
            exact w_X9_changeOf_J63_5 hC h hL hX
          · replace h := it_n c13 h
            refine aw_goto (tgt := 63) hC dX9_changeOf_57 (by decide) ?_
            refine aw_sub hC [some (.inr (.inr v0)), some (.inl v1), some (.inl v2), some (.inl v3), some (.inl v4)] ⟨rfl, ⟨rfl, ⟨rfl, ⟨rfl, ⟨rfl, trivial⟩⟩⟩⟩⟩ (Nat.le_of_ble_eq_true rfl) ?_
            exact w_X9_changeOf_J63_5 hC h hL hX
set_option maxRecDepth 100000 in
set_option maxHeartbeats 4000000 in
theorem mX9_changeOf {sh : AwS} {M : AwM} {v0 : Int} {v1 : Int} {v2 : Int} {r : Int} (h : fX9_changeOf sh M v0 v1 v2 = some r) : AMet yX9_changeOf cX9_changeOf 5 (some .int) 3 0 0 [.inr (.inr v0), .inl v1, .inl v2] sh M (some (.inl r)) sh M := by
  refine amet_of (by decide +kernel) (Nat.le_of_ble_eq_true rfl) (fun Γ hC => ?_)
  replace hC : AOK Γ RX9 cX9_changeOf 5 3 0 0 "changeOf" (some .int) := hC
  unfold fX9_changeOf at h
  refine aw_sub hC [some (.inr (.inr v0)), some (.inl v1), some (.inl v2), none, none] ⟨rfl, ⟨rfl, ⟨rfl, trivial⟩⟩⟩ (Nat.le_of_ble_eq_true rfl) ?_
  refine aw_iconst (pc' := 1) hC dX9_changeOf_0 rfl (by decide) ?_
  refine aw_istore_n (pc' := 2) (i := 3) (ls' := [some (.inr (.inr v0)), some (.inl v1), some (.inl v2), some (.inl (-1)), none]) hC dX9_changeOf_1 rfl rfl (Nat.le_of_ble_eq_true rfl) rfl rfl ?_
  refine aw_iconst (pc' := 3) hC dX9_changeOf_2 rfl (by decide) ?_
  refine aw_istore (pc' := 5) (ls' := [some (.inr (.inr v0)), some (.inl v1), some (.inl v2), some (.inl (-1)), some (.inl 0)]) hC dX9_changeOf_3 rfl (Nat.le_of_ble_eq_true rfl) rfl rfl ?_
  obtain ⟨tq14, q14, h⟩ := pb_s h
  refine aw_sub hC [some (.inr (.inr v0)), some (.inl v1), some (.inl v2), some (.inl (-1)), some (.inl 0)] ⟨rfl, ⟨rfl, ⟨rfl, ⟨rfl, ⟨rfl, trivial⟩⟩⟩⟩⟩ (Nat.le_of_ble_eq_true rfl) ?_
  refine (lp_aw (p_X9_changeOf_L5 Γ sh M v0 v1 v2 (fin_ Γ 0 0 (some (.inl r)) sh M)) (x_X9_changeOf_L5 Γ sh M v0 v1 v2 (fin_ Γ 0 0 (some (.inl r)) sh M)) (w_X9_changeOf_L5 hC ) FU _ _ q14 ?_ : p_X9_changeOf_L5 Γ sh M v0 v1 v2 (fin_ Γ 0 0 (some (.inl r)) sh M) ((-1), 0))
  replace h := u1_s h
  show AW Γ sh M 0 0 69 [none, none, none, some (.inl tq14), none] [] _
  refine aw_iload_n (pc' := 70) (i := 3) hC dX9_changeOf_69 rfl rfl rfl ?_
  cases h
  exact aw_iret hC dX9_changeOf_70 (Nat.le_of_ble_eq_true rfl) (Nat.le_of_ble_eq_true rfl)
-- CoinCircleModel.buy(III)I
def fX9_buy_J196_165 (sh : AwS) (M : AwM) (v0 : Int) (v1 : Int) (v3 : Int) (v4 : Int) (v6 : Int) (v7 : Int) : Option ((Int × AwM) ⊕ (AwM)) :=
  pb (fX9_has2 sh M v6 v7) <| u1 fun (x36 : Int) => ((if x36 = 0 then some (.inl ((w32 (v7 + 1)), M)) else gd_ (kd_ sh v0 = (0, 9)) (pb (fX9_pays sh M v0 v7 v1) <| u1 fun (M40 : AwM) => (some (.inl ((w32 (v7 + 1)), M40))))))
def fX9_buy_L165 (sh : AwS) (v0 : Int) (v1 : Int) (v3 : Int) (v4 : Int) (v6 : Int) (v7 : Int) (M : AwM) : Option ((Int × AwM) ⊕ (AwM)) :=
  gd_ (kd_ sh v0 = (0, 9)) (gd_ ((kd_ sh (M v0 16)).1 = 1 ∧ (0 : Int) ≤ (M v0 13) ∧ (M v0 13) < ((kd_ sh (M v0 16)).2 : Int)) ((if v7 < (M (M v0 16) (M v0 13)) then pb (fX9_has2 sh M v3 v7) <| u1 fun (x33 : Int) => ((if x33 = 0 then fX9_buy_J196_165 sh M v0 v1 v3 v4 v6 v7 else pb (fX9_pays sh M v0 v7 v4) <| u1 fun (M42 : AwM) => (fX9_buy_J196_165 sh M42 v0 v1 v3 v4 v6 v7))) else some (.inr M))))
def p_X9_buy_L165 (Γ : AwC) (sh : AwS) (v0 : Int) (v1 : Int) (v3 : Int) (v4 : Int) (v6 : Int) (Q : State → Prop) (s : Int × AwM) : Prop := AW Γ sh (s.2) 0 0 165 [some (.inr (.inr v0)), some (.inl v1), none, some (.inl v3), some (.inl v4), none, some (.inl v6), some (.inl (s.1))] [] Q
def x_X9_buy_L165 (Γ : AwC) (sh : AwS) (v0 : Int) (v1 : Int) (v3 : Int) (v4 : Int) (v6 : Int) (Q : State → Prop) : (AwM) → Prop := (fun (t : AwM) => AW Γ sh (t) 0 0 219 [none, none, none, none, none, none, some (.inl v6), none] [] Q)
def fX9_buy_J144 (sh : AwS) (M : AwM) (v0 : Int) (v1 : Int) (v3 : Int) (v4 : Int) (s0 : Int) : Option (Int × AwM) :=
  (if s0 = (-1) then gd_ (kd_ sh v0 = (0, 9)) (pb (fX9_refuses sh M v0 3) <| u2 fun (x46 : Int) (M47 : AwM) => (some (x46, M47))) else gd_ (kd_ sh v0 = (0, 9)) (pb (fX9_keeps sh M v0) <| u1 fun (M28 : AwM) => (pb (lp (u2 (fX9_buy_L165 sh v0 v1 v3 v4 s0)) FU (0, M28)) (u1 (fun (tq43 : AwM) => some (s0, tq43))))))
def fX9_buy_J103 (sh : AwS) (M : AwM) (v0 : Int) (v1 : Int) (v2 : Int) (v3 : Int) (v4 : Int) (s0 : Int) : Option (Int × AwM) :=
  (if s0 = 0 then fX9_buy_J144 sh M v0 v1 v3 v4 (-1) else gd_ (kd_ sh v0 = (0, 9)) (pb (fX9_heldBy sh M v0 0 v4) <| u1 fun (x50 : Int) => (pb (fX9_knowing sh M v0 0 v1) <| u1 fun (x52 : Int) => (pb (fX9_worthAll sh M v0 v3) <| u1 fun (x54 : Int) => (pb (fX9_priceFor sh M v0 v2 v1) <| u2 fun (x56 : Int) (M57 : AwM) => (pb (fX9_changeOf sh M57 v0 (an_ x50 x52) (w32 (x54 - x56))) <| u1 fun (x59 : Int) => (fX9_buy_J144 sh M57 v0 v1 v3 v4 x59)))))))
def fX9_buy_J102 (sh : AwS) (M : AwM) (v0 : Int) (v1 : Int) (v2 : Int) (v3 : Int) (v4 : Int) : Option (Int × AwM) :=
  fX9_buy_J103 sh M v0 v1 v2 v3 v4 0
def fX9_buy (sh : AwS) (M : AwM) (v0 : Int) (v1 : Int) (v2 : Int) (v3 : Int) : Option (Int × AwM) :=
  gd_ (kd_ sh v0 = (0, 9)) (pb (fX9_isPerson sh M v0 v1) <| u1 fun (x3 : Int) => ((if x3 = 0 then pb (fX9_refuses sh M v0 3) <| u2 fun (x6 : Int) (M7 : AwM) => (some (x6, M7)) else pb (fX9_isWare sh M v0 v2) <| u1 fun (x9 : Int) => ((if x9 = 0 then pb (fX9_refuses sh M v0 3) <| u2 fun (x12 : Int) (M13 : AwM) => (some (x12, M13)) else (if v3 < 0 then pb (fX9_refuses sh M v0 3) <| u2 fun (x16 : Int) (M17 : AwM) => (some (x16, M17)) else gd_ ((kd_ sh (M v0 16)).1 = 1 ∧ (0 : Int) ≤ (M v0 13) ∧ (M v0 13) < ((kd_ sh (M v0 16)).2 : Int)) ((if v3 < (sl_ 1 (M (M v0 16) (M v0 13))) then gd_ ((kd_ sh (M v0 23)).1 = 1 ∧ (0 : Int) ≤ (w32 ((w32 (10 * (M v0 13))) + v2)) ∧ (w32 ((w32 (10 * (M v0 13))) + v2)) < ((kd_ sh (M v0 23)).2 : Int)) (bd_ ((M (M v0 23) (w32 ((w32 (10 * (M v0 13))) + v2)))) fun (x21 : Int) => ((if x21 = v1 then fX9_buy_J102 sh M v0 v1 v2 v3 x21 else pb (fX9_heldBy sh M v0 0 v1) <| u1 fun (x61 : Int) => (pb (fX9_knowing sh M v0 0 x21) <| u1 fun (x63 : Int) => ((if (an_ v3 (xo_ (an_ x61 x63) (-1))) = 0 then pb (fX9_worthAll sh M v0 v3) <| u1 fun (x66 : Int) => (pb (fX9_priceFor sh M v0 v2 v1) <| u2 fun (x68 : Int) (M69 : AwM) => ((if x66 < x68 then fX9_buy_J102 sh M69 v0 v1 v2 v3 x21 else fX9_buy_J103 sh M69 v0 v1 v2 v3 x21 1))) else fX9_buy_J102 sh M v0 v1 v2 v3 x21)))))) else pb (fX9_refuses sh M v0 3) <| u2 fun (x72 : Int) (M73 : AwM) => (some (x72, M73))))))))))
set_option maxRecDepth 100000 in
set_option maxHeartbeats 4000000 in
theorem w_X9_buy_J196_165 {Γ : AwC} (hC : AOK Γ RX9 cX9_buy 8 5 0 0 "buy" (some .int)) {sh : AwS} {M : AwM} {v0 : Int} {v1 : Int} {v3 : Int} {v4 : Int} {v6 : Int} {v7 : Int} {Q : State → Prop} {r : (Int × AwM) ⊕ (AwM)} (h : fX9_buy_J196_165 sh M v0 v1 v3 v4 v6 v7 = some r) (hL : ∀ s', r = .inl s' → p_X9_buy_L165 Γ sh v0 v1 v3 v4 v6 Q s') (hX : ∀ t, r = .inr t → x_X9_buy_L165 Γ sh v0 v1 v3 v4 v6 Q t) : AW Γ sh M 0 0 196 [some (.inr (.inr v0)), some (.inl v1), none, some (.inl v3), some (.inl v4), none, some (.inl v6), some (.inl v7)] [] Q := by
  unfold fX9_buy_J196_165 at h
  refine aw_iload (pc' := 198) hC dX9_buy_196 rfl rfl ?_
  refine aw_iload (pc' := 200) hC dX9_buy_198 rfl rfl ?_
  obtain ⟨x36, q35, h⟩ := pb_s h
  replace h := u1_s h
  refine aw_cS (pc' := 203) (k2 := 0) (n2 := 0) (st := []) (stN := [.inl x36]) hC [.inl v6, .inl v7] (mX9_has2 q35) lk_X9_373 dX9_buy_200 rfl rfl (Nat.le_of_ble_eq_true rfl) (Nat.le_of_ble_eq_true rfl) (Nat.le_of_ble_eq_true rfl) rfl (Nat.le_of_ble_eq_true rfl) rfl rfl rfl ?_
  refine aw_if_eq (tgt := 213) (pc' := 206) hC dX9_buy_203 (by decide) rfl (fun c37 => ?_) (fun c37 => ?_)
  · replace h := it_p c37 h
    refine aw_iinc (pc' := 216) (ls' := [some (.inr (.inr v0)), some (.inl v1), none, some (.inl v3), some (.inl v4), none, some (.inl v6), some (.inl (w32 (v7 + 1)))]) hC dX9_buy_213 rfl rfl rfl rfl ?_
    refine aw_goto (tgt := 165) hC dX9_buy_216 (by decide) ?_
    refine aw_sub hC [some (.inr (.inr v0)), some (.inl v1), none, some (.inl v3), some (.inl v4), none, some (.inl v6), some (.inl (w32 (v7 + 1)))] ⟨rfl, ⟨rfl, ⟨rfl, ⟨rfl, ⟨rfl, ⟨rfl, trivial⟩⟩⟩⟩⟩⟩ (Nat.le_of_ble_eq_true rfl) ?_
    cases h
    exact hL _ rfl
  · replace h := it_n c37 h
    refine aw_aload_n (pc' := 207) (i := 0) hC dX9_buy_206 rfl rfl rfl ?_
    refine aw_iload (pc' := 209) hC dX9_buy_207 rfl rfl ?_
    refine aw_iload_n (pc' := 210) (i := 1) hC dX9_buy_209 rfl rfl rfl ?_
    obtain ⟨g39, h⟩ := gd_s h
    obtain ⟨M40, q38, h⟩ := pb_s h
    replace h := u1_s h
    refine aw_cV (pc' := 213) (k2 := 0) (n2 := 0) (st := []) (stN := []) hC [.inl v7, .inl v1] (mX9_pays q38) lk_X9_508 g39 dX9_buy_210 rfl rfl (Nat.le_of_ble_eq_true rfl) (Nat.le_of_ble_eq_true rfl) (Nat.le_of_ble_eq_true rfl) rfl (Nat.le_of_ble_eq_true rfl) rfl rfl rfl ?_
    refine aw_iinc (pc' := 216) (ls' := [some (.inr (.inr v0)), some (.inl v1), none, some (.inl v3), some (.inl v4), none, some (.inl v6), some (.inl (w32 (v7 + 1)))]) hC dX9_buy_213 rfl rfl rfl rfl ?_
    refine aw_goto (tgt := 165) hC dX9_buy_216 (by decide) ?_
    refine aw_sub hC [some (.inr (.inr v0)), some (.inl v1), none, some (.inl v3), some (.inl v4), none, some (.inl v6), some (.inl (w32 (v7 + 1)))] ⟨rfl, ⟨rfl, ⟨rfl, ⟨rfl, ⟨rfl, ⟨rfl, trivial⟩⟩⟩⟩⟩⟩ (Nat.le_of_ble_eq_true rfl) ?_
    cases h
    exact hL _ rfl
set_option maxRecDepth 100000 in
set_option maxHeartbeats 4000000 in
theorem w_X9_buy_L165 {Γ : AwC} (hC : AOK Γ RX9 cX9_buy 8 5 0 0 "buy" (some .int)) {sh : AwS} {v0 : Int} {v1 : Int} {v3 : Int} {v4 : Int} {v6 : Int} {Q : State → Prop} : ∀ s r, u2 (fX9_buy_L165 sh v0 v1 v3 v4 v6) s = some r → (∀ s', r = .inl s' → p_X9_buy_L165 Γ sh v0 v1 v3 v4 v6 Q s') → (∀ t, r = .inr t → x_X9_buy_L165 Γ sh v0 v1 v3 v4 v6 Q t) → p_X9_buy_L165 Γ sh v0 v1 v3 v4 v6 Q s := by
  intro s r h hL hX
  obtain ⟨v7, M⟩ := s
  replace h := u2_s h
  unfold fX9_buy_L165 at h
  show AW Γ sh M 0 0 165 [some (.inr (.inr v0)), some (.inl v1), none, some (.inl v3), some (.inl v4), none, some (.inl v6), some (.inl v7)] [] Q
  refine aw_iload (pc' := 167) hC dX9_buy_165 rfl rfl ?_
  refine aw_aload_n (pc' := 168) (i := 0) hC dX9_buy_167 rfl rfl rfl ?_
  obtain ⟨g29, h⟩ := gd_s h
  refine aw_getfield (pc' := 171) (v := (.inr (.inr (M v0 16)))) hC dX9_buy_168 rfl fl_X9_60 g29 rfl ?_
  refine aw_aload_n (pc' := 172) (i := 0) hC dX9_buy_171 rfl rfl rfl ?_
  refine aw_getfield (pc' := 175) (v := (.inl (M v0 13))) hC dX9_buy_172 rfl fl_X9_51 g29 rfl ?_
  obtain ⟨g30, h⟩ := gd_s h
  refine aw_iaload (pc' := 176) hC dX9_buy_175 rfl g30 ?_
  refine aw_icmp_ge (tgt := 219) (pc' := 179) hC dX9_buy_176 (by decide) rfl (fun c31 => ?_) (fun c31 => ?_)
  · replace h := it_n c31 h
    refine aw_sub hC [none, none, none, none, none, none, some (.inl v6), none] ⟨rfl, trivial⟩ (Nat.le_of_ble_eq_true rfl) ?_
    cases h
    exact hX _ rfl
  · replace h := it_p c31 h
    refine aw_iload_n (pc' := 180) (i := 3) hC dX9_buy_179 rfl rfl rfl ?_
    refine aw_iload (pc' := 182) hC dX9_buy_180 rfl rfl ?_
    obtain ⟨x33, q32, h⟩ := pb_s h
    replace h := u1_s h
    refine aw_cS (pc' := 185) (k2 := 0) (n2 := 0) (st := []) (stN := [.inl x33]) hC [.inl v3, .inl v7] (mX9_has2 q32) lk_X9_373 dX9_buy_182 rfl rfl (Nat.le_of_ble_eq_true rfl) (Nat.le_of_ble_eq_true rfl) (Nat.le_of_ble_eq_true rfl) rfl (Nat.le_of_ble_eq_true rfl) rfl rfl rfl ?_
    refine aw_if_eq (tgt := 196) (pc' := 188) hC dX9_buy_185 (by decide) rfl (fun c34 => ?_) (fun c34 => ?_)
    · replace h := it_p c34 h
      refine aw_sub hC [some (.inr (.inr v0)), some (.inl v1), none, some (.inl v3), some (.inl v4), none, some (.inl v6), some (.inl v7)] ⟨rfl, ⟨rfl, ⟨rfl, ⟨rfl, ⟨rfl, ⟨rfl, trivial⟩⟩⟩⟩⟩⟩ (Nat.le_of_ble_eq_true rfl) ?_
      exact w_X9_buy_J196_165 hC h hL hX
    · replace h := it_n c34 h
      refine aw_aload_n (pc' := 189) (i := 0) hC dX9_buy_188 rfl rfl rfl ?_
      refine aw_iload (pc' := 191) hC dX9_buy_189 rfl rfl ?_
      refine aw_iload (pc' := 193) hC dX9_buy_191 rfl rfl ?_
      obtain ⟨M42, q41, h⟩ := pb_s h
      replace h := u1_s h
      refine aw_cV (pc' := 196) (k2 := 0) (n2 := 0) (st := []) (stN := []) hC [.inl v7, .inl v4] (mX9_pays q41) lk_X9_508 g29 dX9_buy_193 rfl rfl (Nat.le_of_ble_eq_true rfl) (Nat.le_of_ble_eq_true rfl) (Nat.le_of_ble_eq_true rfl) rfl (Nat.le_of_ble_eq_true rfl) rfl rfl rfl ?_
      refine aw_sub hC [some (.inr (.inr v0)), some (.inl v1), none, some (.inl v3), some (.inl v4), none, some (.inl v6), some (.inl v7)] ⟨rfl, ⟨rfl, ⟨rfl, ⟨rfl, ⟨rfl, ⟨rfl, trivial⟩⟩⟩⟩⟩⟩ (Nat.le_of_ble_eq_true rfl) ?_
      exact w_X9_buy_J196_165 hC h hL hX
set_option maxRecDepth 100000 in
set_option maxHeartbeats 4000000 in
theorem w_X9_buy_J144 {Γ : AwC} (hC : AOK Γ RX9 cX9_buy 8 5 0 0 "buy" (some .int)) {sh : AwS} {M : AwM} {v0 : Int} {v1 : Int} {v3 : Int} {v4 : Int} {s0 : Int} {r : Int} {M' : AwM} (h : fX9_buy_J144 sh M v0 v1 v3 v4 s0 = some (r, M')) {Q : State → Prop} (hQ : Q = (fin_ Γ 0 0 (some (.inl r)) sh M')) : AW Γ sh M 0 0 144 [some (.inr (.inr v0)), some (.inl v1), none, some (.inl v3), some (.inl v4), none, none, none] [.inl s0] Q := by
  unfold fX9_buy_J144 at h
  refine aw_istore (pc' := 146) (ls' := [some (.inr (.inr v0)), some (.inl v1), none, some (.inl v3), some (.inl v4), none, some (.inl s0), none]) hC dX9_buy_144 rfl (Nat.le_of_ble_eq_true rfl) rfl rfl ?_
  refine aw_iload (pc' := 148) hC dX9_buy_146 rfl rfl ?_
  refine aw_iconst (pc' := 149) hC dX9_buy_148 rfl (by decide) ?_
  refine aw_icmp_ne (tgt := 158) (pc' := 152) hC dX9_buy_149 (by decide) rfl (fun c25 => ?_) (fun c25 => ?_)
  · replace h := it_n c25 h
    refine aw_aload_n (pc' := 159) (i := 0) hC dX9_buy_158 rfl rfl rfl ?_
    obtain ⟨g27, h⟩ := gd_s h
    obtain ⟨M28, q26, h⟩ := pb_s h
    replace h := u1_s h
    refine aw_cV (pc' := 162) (k2 := 0) (n2 := 0) (st := []) (stN := []) hC [] (mX9_keeps q26) lk_X9_502 g27 dX9_buy_159 rfl rfl (Nat.le_of_ble_eq_true rfl) (Nat.le_of_ble_eq_true rfl) (Nat.le_of_ble_eq_true rfl) rfl (Nat.le_of_ble_eq_true rfl) rfl rfl rfl ?_
    refine aw_iconst (pc' := 163) hC dX9_buy_162 rfl (by decide) ?_
    refine aw_istore (pc' := 165) (ls' := [some (.inr (.inr v0)), some (.inl v1), none, some (.inl v3), some (.inl v4), none, some (.inl s0), some (.inl 0)]) hC dX9_buy_163 rfl (Nat.le_of_ble_eq_true rfl) rfl rfl ?_
    obtain ⟨tq43, q43, h⟩ := pb_s h
    refine aw_sub hC [some (.inr (.inr v0)), some (.inl v1), none, some (.inl v3), some (.inl v4), none, some (.inl s0), some (.inl 0)] ⟨rfl, ⟨rfl, ⟨rfl, ⟨rfl, ⟨rfl, ⟨rfl, trivial⟩⟩⟩⟩⟩⟩ (Nat.le_of_ble_eq_true rfl) ?_
    refine (lp_aw (p_X9_buy_L165 Γ sh v0 v1 v3 v4 s0 Q) (x_X9_buy_L165 Γ sh v0 v1 v3 v4 s0 Q) (w_X9_buy_L165 hC ) FU _ _ q43 ?_ : p_X9_buy_L165 Γ sh v0 v1 v3 v4 s0 Q (0, M28))
    replace h := u1_s h
    show AW Γ sh tq43 0 0 219 [none, none, none, none, none, none, some (.inl s0), none] [] _
    refine aw_iload (pc' := 221) hC dX9_buy_219 rfl rfl ?_
    cases h
    subst hQ
    exact aw_iret hC dX9_buy_221 (Nat.le_of_ble_eq_true rfl) (Nat.le_of_ble_eq_true rfl)
  · replace h := it_p c25 h
    refine aw_aload_n (pc' := 153) (i := 0) hC dX9_buy_152 rfl rfl rfl ?_
    refine aw_iconst (pc' := 154) hC dX9_buy_153 rfl (by decide) ?_
    obtain ⟨g45, h⟩ := gd_s h
    obtain ⟨⟨x46, M47⟩, q44, h⟩ := pb_s h
    replace h := u2_s h
    refine aw_cV (pc' := 157) (k2 := 0) (n2 := 0) (st := []) (stN := [.inl x46]) hC [.inl 3] (mX9_refuses q44) lk_X9_228 g45 dX9_buy_154 rfl rfl (Nat.le_of_ble_eq_true rfl) (Nat.le_of_ble_eq_true rfl) (Nat.le_of_ble_eq_true rfl) rfl (Nat.le_of_ble_eq_true rfl) rfl rfl rfl ?_
    cases h
    subst hQ
    exact aw_iret hC dX9_buy_157 (Nat.le_of_ble_eq_true rfl) (Nat.le_of_ble_eq_true rfl)
set_option maxRecDepth 100000 in
set_option maxHeartbeats 4000000 in
theorem w_X9_buy_J103 {Γ : AwC} (hC : AOK Γ RX9 cX9_buy 8 5 0 0 "buy" (some .int)) {sh : AwS} {M : AwM} {v0 : Int} {v1 : Int} {v2 : Int} {v3 : Int} {v4 : Int} {s0 : Int} {r : Int} {M' : AwM} (h : fX9_buy_J103 sh M v0 v1 v2 v3 v4 s0 = some (r, M')) {Q : State → Prop} (hQ : Q = (fin_ Γ 0 0 (some (.inl r)) sh M')) : AW Γ sh M 0 0 103 [some (.inr (.inr v0)), some (.inl v1), some (.inl v2), some (.inl v3), some (.inl v4), none, none, none] [.inl s0] Q := by
  unfold fX9_buy_J103 at h
  refine aw_istore (pc' := 105) (ls' := [some (.inr (.inr v0)), some (.inl v1), some (.inl v2), some (.inl v3), some (.inl v4), some (.inl s0), none, none]) hC dX9_buy_103 rfl (Nat.le_of_ble_eq_true rfl) rfl rfl ?_
  refine aw_iload (pc' := 107) hC dX9_buy_105 rfl rfl ?_
  refine aw_if_eq (tgt := 143) (pc' := 110) hC dX9_buy_107 (by decide) rfl (fun c24 => ?_) (fun c24 => ?_)
  · replace h := it_p c24 h
    refine aw_iconst (pc' := 144) hC dX9_buy_143 rfl (by decide) ?_
    refine aw_sub hC [some (.inr (.inr v0)), some (.inl v1), none, some (.inl v3), some (.inl v4), none, none, none] ⟨rfl, ⟨rfl, ⟨rfl, ⟨rfl, trivial⟩⟩⟩⟩ (Nat.le_of_ble_eq_true rfl) ?_
    exact w_X9_buy_J144 hC h hQ
  · replace h := it_n c24 h
    refine aw_aload_n (pc' := 111) (i := 0) hC dX9_buy_110 rfl rfl rfl ?_
    refine aw_aload_n (pc' := 112) (i := 0) hC dX9_buy_111 rfl rfl rfl ?_
    refine aw_iconst (pc' := 113) hC dX9_buy_112 rfl (by decide) ?_
    refine aw_iload (pc' := 115) hC dX9_buy_113 rfl rfl ?_
    obtain ⟨g49, h⟩ := gd_s h
    obtain ⟨x50, q48, h⟩ := pb_s h
    replace h := u1_s h
    refine aw_cV (pc' := 118) (k2 := 0) (n2 := 0) (st := [.inr (.inr v0)]) (stN := [.inl x50, .inr (.inr v0)]) hC [.inl 0, .inl v4] (mX9_heldBy q48) lk_X9_451 g49 dX9_buy_115 rfl rfl (Nat.le_of_ble_eq_true rfl) (Nat.le_of_ble_eq_true rfl) (Nat.le_of_ble_eq_true rfl) rfl (Nat.le_of_ble_eq_true rfl) rfl rfl rfl ?_
    refine aw_aload_n (pc' := 119) (i := 0) hC dX9_buy_118 rfl rfl rfl ?_
    refine aw_iconst (pc' := 120) hC dX9_buy_119 rfl (by decide) ?_
    refine aw_iload_n (pc' := 121) (i := 1) hC dX9_buy_120 rfl rfl rfl ?_
    obtain ⟨x52, q51, h⟩ := pb_s h
    replace h := u1_s h
    refine aw_cV (pc' := 124) (k2 := 0) (n2 := 0) (st := [.inl x50, .inr (.inr v0)]) (stN := [.inl x52, .inl x50, .inr (.inr v0)]) hC [.inl 0, .inl v1] (mX9_knowing q51) lk_X9_458 g49 dX9_buy_121 rfl rfl (Nat.le_of_ble_eq_true rfl) (Nat.le_of_ble_eq_true rfl) (Nat.le_of_ble_eq_true rfl) rfl (Nat.le_of_ble_eq_true rfl) rfl rfl rfl ?_
    refine aw_iand (pc' := 125) hC dX9_buy_124 rfl  ?_
    refine aw_aload_n (pc' := 126) (i := 0) hC dX9_buy_125 rfl rfl rfl ?_
    refine aw_iload_n (pc' := 127) (i := 3) hC dX9_buy_126 rfl rfl rfl ?_
    obtain ⟨x54, q53, h⟩ := pb_s h
    replace h := u1_s h
    refine aw_cV (pc' := 130) (k2 := 0) (n2 := 0) (st := [.inl (an_ x50 x52), .inr (.inr v0)]) (stN := [.inl x54, .inl (an_ x50 x52), .inr (.inr v0)]) hC [.inl v3] (mX9_worthAll q53) lk_X9_474 g49 dX9_buy_127 rfl rfl (Nat.le_of_ble_eq_true rfl) (Nat.le_of_ble_eq_true rfl) (Nat.le_of_ble_eq_true rfl) rfl (Nat.le_of_ble_eq_true rfl) rfl rfl rfl ?_
    refine aw_aload_n (pc' := 131) (i := 0) hC dX9_buy_130 rfl rfl rfl ?_
    refine aw_iload_n (pc' := 132) (i := 2) hC dX9_buy_131 rfl rfl rfl ?_
    refine aw_iload_n (pc' := 133) (i := 1) hC dX9_buy_132 rfl rfl rfl ?_
    obtain ⟨⟨x56, M57⟩, q55, h⟩ := pb_s h
    replace h := u2_s h
    refine aw_cV (pc' := 136) (k2 := 0) (n2 := 0) (st := [.inl x54, .inl (an_ x50 x52), .inr (.inr v0)]) (stN := [.inl x56, .inl x54, .inl (an_ x50 x52), .inr (.inr v0)]) hC [.inl v2, .inl v1] (mX9_priceFor q55) lk_X9_489 g49 dX9_buy_133 rfl rfl (Nat.le_of_ble_eq_true rfl) (Nat.le_of_ble_eq_true rfl) (Nat.le_of_ble_eq_true rfl) rfl (Nat.le_of_ble_eq_true rfl) rfl rfl rfl ?_
    refine aw_isub (pc' := 137) hC dX9_buy_136 rfl  ?_
    obtain ⟨x59, q58, h⟩ := pb_s h
    replace h := u1_s h
    refine aw_cV (pc' := 140) (k2 := 0) (n2 := 0) (st := []) (stN := [.inl x59]) hC [.inl (an_ x50 x52), .inl (w32 (x54 - x56))] (mX9_changeOf q58) lk_X9_511 g49 dX9_buy_137 rfl rfl (Nat.le_of_ble_eq_true rfl) (Nat.le_of_ble_eq_true rfl) (Nat.le_of_ble_eq_true rfl) rfl (Nat.le_of_ble_eq_true rfl) rfl rfl rfl ?_
    refine aw_goto (tgt := 144) hC dX9_buy_140 (by decide) ?_
    refine aw_sub hC [some (.inr (.inr v0)), some (.inl v1), none, some (.inl v3), some (.inl v4), none, none, none] ⟨rfl, ⟨rfl, ⟨rfl, ⟨rfl, trivial⟩⟩⟩⟩ (Nat.le_of_ble_eq_true rfl) ?_
    exact w_X9_buy_J144 hC h hQ
set_option maxRecDepth 100000 in
set_option maxHeartbeats 4000000 in
theorem w_X9_buy_J102 {Γ : AwC} (hC : AOK Γ RX9 cX9_buy 8 5 0 0 "buy" (some .int)) {sh : AwS} {M : AwM} {v0 : Int} {v1 : Int} {v2 : Int} {v3 : Int} {v4 : Int} {r : Int} {M' : AwM} (h : fX9_buy_J102 sh M v0 v1 v2 v3 v4 = some (r, M')) {Q : State → Prop} (hQ : Q = (fin_ Γ 0 0 (some (.inl r)) sh M')) : AW Γ sh M 0 0 102 [some (.inr (.inr v0)), some (.inl v1), some (.inl v2), some (.inl v3), some (.inl v4), none, none, none] [] Q := by
  unfold fX9_buy_J102 at h
  refine aw_iconst (pc' := 103) hC dX9_buy_102 rfl (by decide) ?_
  refine aw_sub hC [some (.inr (.inr v0)), some (.inl v1), some (.inl v2), some (.inl v3), some (.inl v4), none, none, none] ⟨rfl, ⟨rfl, ⟨rfl, ⟨rfl, ⟨rfl, trivial⟩⟩⟩⟩⟩ (Nat.le_of_ble_eq_true rfl) ?_
  exact w_X9_buy_J103 hC h hQ
set_option maxRecDepth 100000 in
set_option maxHeartbeats 4000000 in
theorem mX9_buy {sh : AwS} {M : AwM} {v0 : Int} {v1 : Int} {v2 : Int} {v3 : Int} {r : Int} {M' : AwM} (h : fX9_buy sh M v0 v1 v2 v3 = some (r, M')) : AMet yX9_buy cX9_buy 8 (some .int) 5 0 0 [.inr (.inr v0), .inl v1, .inl v2, .inl v3] sh M (some (.inl r)) sh M' := by
  refine amet_of (by decide +kernel) (Nat.le_of_ble_eq_true rfl) (fun Γ hC => ?_)
  replace hC : AOK Γ RX9 cX9_buy 8 5 0 0 "buy" (some .int) := hC
  unfold fX9_buy at h
  refine aw_sub hC [some (.inr (.inr v0)), some (.inl v1), some (.inl v2), some (.inl v3), none, none, none, none] ⟨rfl, ⟨rfl, ⟨rfl, ⟨rfl, trivial⟩⟩⟩⟩ (Nat.le_of_ble_eq_true rfl) ?_
  refine aw_aload_n (pc' := 1) (i := 0) hC dX9_buy_0 rfl rfl rfl ?_
  refine aw_iload_n (pc' := 2) (i := 1) hC dX9_buy_1 rfl rfl rfl ?_
  obtain ⟨g2, h⟩ := gd_s h
  obtain ⟨x3, q1, h⟩ := pb_s h
  replace h := u1_s h
  refine aw_cV (pc' := 5) (k2 := 0) (n2 := 0) (st := []) (stN := [.inl x3]) hC [.inl v1] (mX9_isPerson q1) lk_X9_471 g2 dX9_buy_2 rfl rfl (Nat.le_of_ble_eq_true rfl) (Nat.le_of_ble_eq_true rfl) (Nat.le_of_ble_eq_true rfl) rfl (Nat.le_of_ble_eq_true rfl) rfl rfl rfl ?_
  refine aw_if_eq (tgt := 35) (pc' := 8) hC dX9_buy_5 (by decide) rfl (fun c4 => ?_) (fun c4 => ?_)
  · replace h := it_p c4 h
    refine aw_aload_n (pc' := 36) (i := 0) hC dX9_buy_35 rfl rfl rfl ?_
    refine aw_iconst (pc' := 37) hC dX9_buy_36 rfl (by decide) ?_
    obtain ⟨⟨x6, M7⟩, q5, h⟩ := pb_s h
    replace h := u2_s h
    refine aw_cV (pc' := 40) (k2 := 0) (n2 := 0) (st := []) (stN := [.inl x6]) hC [.inl 3] (mX9_refuses q5) lk_X9_228 g2 dX9_buy_37 rfl rfl (Nat.le_of_ble_eq_true rfl) (Nat.le_of_ble_eq_true rfl) (Nat.le_of_ble_eq_true rfl) rfl (Nat.le_of_ble_eq_true rfl) rfl rfl rfl ?_
    cases h
    exact aw_iret hC dX9_buy_40 (Nat.le_of_ble_eq_true rfl) (Nat.le_of_ble_eq_true rfl)
  · replace h := it_n c4 h
    refine aw_aload_n (pc' := 9) (i := 0) hC dX9_buy_8 rfl rfl rfl ?_
    refine aw_iload_n (pc' := 10) (i := 2) hC dX9_buy_9 rfl rfl rfl ?_
    obtain ⟨x9, q8, h⟩ := pb_s h
    replace h := u1_s h
    refine aw_cV (pc' := 13) (k2 := 0) (n2 := 0) (st := []) (stN := [.inl x9]) hC [.inl v2] (mX9_isWare q8) lk_X9_486 g2 dX9_buy_10 rfl rfl (Nat.le_of_ble_eq_true rfl) (Nat.le_of_ble_eq_true rfl) (Nat.le_of_ble_eq_true rfl) rfl (Nat.le_of_ble_eq_true rfl) rfl rfl rfl ?_
    refine aw_if_eq (tgt := 35) (pc' := 16) hC dX9_buy_13 (by decide) rfl (fun c10 => ?_) (fun c10 => ?_)
    · replace h := it_p c10 h
      refine aw_aload_n (pc' := 36) (i := 0) hC dX9_buy_35 rfl rfl rfl ?_
      refine aw_iconst (pc' := 37) hC dX9_buy_36 rfl (by decide) ?_
      obtain ⟨⟨x12, M13⟩, q11, h⟩ := pb_s h
      replace h := u2_s h
      refine aw_cV (pc' := 40) (k2 := 0) (n2 := 0) (st := []) (stN := [.inl x12]) hC [.inl 3] (mX9_refuses q11) lk_X9_228 g2 dX9_buy_37 rfl rfl (Nat.le_of_ble_eq_true rfl) (Nat.le_of_ble_eq_true rfl) (Nat.le_of_ble_eq_true rfl) rfl (Nat.le_of_ble_eq_true rfl) rfl rfl rfl ?_
      cases h
      exact aw_iret hC dX9_buy_40 (Nat.le_of_ble_eq_true rfl) (Nat.le_of_ble_eq_true rfl)
    · replace h := it_n c10 h
      refine aw_iload_n (pc' := 17) (i := 3) hC dX9_buy_16 rfl rfl rfl ?_
      refine aw_if_lt (tgt := 35) (pc' := 20) hC dX9_buy_17 (by decide) rfl (fun c14 => ?_) (fun c14 => ?_)
      · replace h := it_p c14 h
        refine aw_aload_n (pc' := 36) (i := 0) hC dX9_buy_35 rfl rfl rfl ?_
        refine aw_iconst (pc' := 37) hC dX9_buy_36 rfl (by decide) ?_
        obtain ⟨⟨x16, M17⟩, q15, h⟩ := pb_s h
        replace h := u2_s h
        refine aw_cV (pc' := 40) (k2 := 0) (n2 := 0) (st := []) (stN := [.inl x16]) hC [.inl 3] (mX9_refuses q15) lk_X9_228 g2 dX9_buy_37 rfl rfl (Nat.le_of_ble_eq_true rfl) (Nat.le_of_ble_eq_true rfl) (Nat.le_of_ble_eq_true rfl) rfl (Nat.le_of_ble_eq_true rfl) rfl rfl rfl ?_
        cases h
        exact aw_iret hC dX9_buy_40 (Nat.le_of_ble_eq_true rfl) (Nat.le_of_ble_eq_true rfl)
      · replace h := it_n c14 h
        refine aw_iload_n (pc' := 21) (i := 3) hC dX9_buy_20 rfl rfl rfl ?_
        refine aw_iconst (pc' := 22) hC dX9_buy_21 rfl (by decide) ?_
        refine aw_aload_n (pc' := 23) (i := 0) hC dX9_buy_22 rfl rfl rfl ?_
        refine aw_getfield (pc' := 26) (v := (.inr (.inr (M v0 16)))) hC dX9_buy_23 rfl fl_X9_60 g2 rfl ?_
        refine aw_aload_n (pc' := 27) (i := 0) hC dX9_buy_26 rfl rfl rfl ?_
        refine aw_getfield (pc' := 30) (v := (.inl (M v0 13))) hC dX9_buy_27 rfl fl_X9_51 g2 rfl ?_
        obtain ⟨g18, h⟩ := gd_s h
        refine aw_iaload (pc' := 31) hC dX9_buy_30 rfl g18 ?_
        refine aw_ishl (pc' := 32) hC dX9_buy_31 rfl  ?_
        refine aw_icmp_lt (tgt := 41) (pc' := 35) hC dX9_buy_32 (by decide) rfl (fun c19 => ?_) (fun c19 => ?_)
        · replace h := it_p c19 h
          refine aw_aload_n (pc' := 42) (i := 0) hC dX9_buy_41 rfl rfl rfl ?_
          refine aw_getfield (pc' := 45) (v := (.inr (.inr (M v0 23)))) hC dX9_buy_42 rfl fl_X9_81 g2 rfl ?_
          refine aw_bipush (pc' := 47) hC dX9_buy_45 rfl (by decide) ?_
          refine aw_aload_n (pc' := 48) (i := 0) hC dX9_buy_47 rfl rfl rfl ?_
          refine aw_getfield (pc' := 51) (v := (.inl (M v0 13))) hC dX9_buy_48 rfl fl_X9_51 g2 rfl ?_
          refine aw_imul (pc' := 52) hC dX9_buy_51 rfl  ?_
          refine aw_iload_n (pc' := 53) (i := 2) hC dX9_buy_52 rfl rfl rfl ?_
          refine aw_iadd (pc' := 54) hC dX9_buy_53 rfl  ?_
          obtain ⟨g20, h⟩ := gd_s h
          refine aw_iaload (pc' := 55) hC dX9_buy_54 rfl g20 ?_
          obtain ⟨x21, e22, h⟩ := bd_s h
          refine aw_reni e22 ?_
          refine aw_istore (pc' := 57) (ls' := [some (.inr (.inr v0)), some (.inl v1), some (.inl v2), some (.inl v3), some (.inl x21), none, none, none]) hC dX9_buy_55 rfl (Nat.le_of_ble_eq_true rfl) rfl rfl ?_
          refine aw_iload (pc' := 59) hC dX9_buy_57 rfl rfl ?_
          refine aw_iload_n (pc' := 60) (i := 1) hC dX9_buy_59 rfl rfl rfl ?_
          refine aw_icmp_eq (tgt := 102) (pc' := 63) hC dX9_buy_60 (by decide) rfl (fun c23 => ?_) (fun c23 => ?_)
          · replace h := it_p c23 h
            refine aw_sub hC [some (.inr (.inr v0)), some (.inl v1), some (.inl v2), some (.inl v3), some (.inl x21), none, none, none] ⟨rfl, ⟨rfl, ⟨rfl, ⟨rfl, ⟨rfl, trivial⟩⟩⟩⟩⟩ (Nat.le_of_ble_eq_true rfl) ?_
            exact w_X9_buy_J102 hC h rfl
          · replace h := it_n c23 h
            refine aw_iload_n (pc' := 64) (i := 3) hC dX9_buy_63 rfl rfl rfl ?_
            refine aw_aload_n (pc' := 65) (i := 0) hC dX9_buy_64 rfl rfl rfl ?_
            refine aw_iconst (pc' := 66) hC dX9_buy_65 rfl (by decide) ?_
            refine aw_iload_n (pc' := 67) (i := 1) hC dX9_buy_66 rfl rfl rfl ?_
            obtain ⟨x61, q60, h⟩ := pb_s h
            replace h := u1_s h
            refine aw_cV (pc' := 70) (k2 := 0) (n2 := 0) (st := [.inl v3]) (stN := [.inl x61, .inl v3]) hC [.inl 0, .inl v1] (mX9_heldBy q60) lk_X9_451 g2 dX9_buy_67 rfl rfl (Nat.le_of_ble_eq_true rfl) (Nat.le_of_ble_eq_true rfl) (Nat.le_of_ble_eq_true rfl) rfl (Nat.le_of_ble_eq_true rfl) rfl rfl rfl ?_
            refine aw_aload_n (pc' := 71) (i := 0) hC dX9_buy_70 rfl rfl rfl ?_
            refine aw_iconst (pc' := 72) hC dX9_buy_71 rfl (by decide) ?_
            refine aw_iload (pc' := 74) hC dX9_buy_72 rfl rfl ?_
            obtain ⟨x63, q62, h⟩ := pb_s h
            replace h := u1_s h
            refine aw_cV (pc' := 77) (k2 := 0) (n2 := 0) (st := [.inl x61, .inl v3]) (stN := [.inl x63, .inl x61, .inl v3]) hC [.inl 0, .inl x21] (mX9_knowing q62) lk_X9_458 g2 dX9_buy_74 rfl rfl (Nat.le_of_ble_eq_true rfl) (Nat.le_of_ble_eq_true rfl) (Nat.le_of_ble_eq_true rfl) rfl (Nat.le_of_ble_eq_true rfl) rfl rfl rfl ?_
            refine aw_iand (pc' := 78) hC dX9_buy_77 rfl  ?_
            refine aw_iconst (pc' := 79) hC dX9_buy_78 rfl (by decide) ?_
            refine aw_ixor (pc' := 80) hC dX9_buy_79 rfl  ?_
            refine aw_iand (pc' := 81) hC dX9_buy_80 rfl  ?_
            refine aw_if_ne (tgt := 102) (pc' := 84) hC dX9_buy_81 (by decide) rfl (fun c64 => ?_) (fun c64 => ?_)
            · replace h := it_n c64 h
              refine aw_sub hC [some (.inr (.inr v0)), some (.inl v1), some (.inl v2), some (.inl v3), some (.inl x21), none, none, none] ⟨rfl, ⟨rfl, ⟨rfl, ⟨rfl, ⟨rfl, trivial⟩⟩⟩⟩⟩ (Nat.le_of_ble_eq_true rfl) ?_
              exact w_X9_buy_J102 hC h rfl
            · replace h := it_p c64 h
              refine aw_aload_n (pc' := 85) (i := 0) hC dX9_buy_84 rfl rfl rfl ?_
              refine aw_iload_n (pc' := 86) (i := 3) hC dX9_buy_85 rfl rfl rfl ?_
              obtain ⟨x66, q65, h⟩ := pb_s h
              replace h := u1_s h
              refine aw_cV (pc' := 89) (k2 := 0) (n2 := 0) (st := []) (stN := [.inl x66]) hC [.inl v3] (mX9_worthAll q65) lk_X9_474 g2 dX9_buy_86 rfl rfl (Nat.le_of_ble_eq_true rfl) (Nat.le_of_ble_eq_true rfl) (Nat.le_of_ble_eq_true rfl) rfl (Nat.le_of_ble_eq_true rfl) rfl rfl rfl ?_
              refine aw_aload_n (pc' := 90) (i := 0) hC dX9_buy_89 rfl rfl rfl ?_
              refine aw_iload_n (pc' := 91) (i := 2) hC dX9_buy_90 rfl rfl rfl ?_
              refine aw_iload_n (pc' := 92) (i := 1) hC dX9_buy_91 rfl rfl rfl ?_
              obtain ⟨⟨x68, M69⟩, q67, h⟩ := pb_s h
              replace h := u2_s h
              refine aw_cV (pc' := 95) (k2 := 0) (n2 := 0) (st := [.inl x66]) (stN := [.inl x68, .inl x66]) hC [.inl v2, .inl v1] (mX9_priceFor q67) lk_X9_489 g2 dX9_buy_92 rfl rfl (Nat.le_of_ble_eq_true rfl) (Nat.le_of_ble_eq_true rfl) (Nat.le_of_ble_eq_true rfl) rfl (Nat.le_of_ble_eq_true rfl) rfl rfl rfl ?_
              refine aw_icmp_lt (tgt := 102) (pc' := 98) hC dX9_buy_95 (by decide) rfl (fun c70 => ?_) (fun c70 => ?_)
              · replace h := it_p c70 h
                refine aw_sub hC [some (.inr (.inr v0)), some (.inl v1), some (.inl v2), some (.inl v3), some (.inl x21), none, none, none] ⟨rfl, ⟨rfl, ⟨rfl, ⟨rfl, ⟨rfl, trivial⟩⟩⟩⟩⟩ (Nat.le_of_ble_eq_true rfl) ?_
                exact w_X9_buy_J102 hC h rfl
              · replace h := it_n c70 h
                refine aw_iconst (pc' := 99) hC dX9_buy_98 rfl (by decide) ?_
                refine aw_goto (tgt := 103) hC dX9_buy_99 (by decide) ?_
                refine aw_sub hC [some (.inr (.inr v0)), some (.inl v1), some (.inl v2), some (.inl v3), some (.inl x21), none, none, none] ⟨rfl, ⟨rfl, ⟨rfl, ⟨rfl, ⟨rfl, trivial⟩⟩⟩⟩⟩ (Nat.le_of_ble_eq_true rfl) ?_
                exact w_X9_buy_J103 hC h rfl
        · replace h := it_n c19 h
          refine aw_aload_n (pc' := 36) (i := 0) hC dX9_buy_35 rfl rfl rfl ?_
          refine aw_iconst (pc' := 37) hC dX9_buy_36 rfl (by decide) ?_
          obtain ⟨⟨x72, M73⟩, q71, h⟩ := pb_s h
          replace h := u2_s h
          refine aw_cV (pc' := 40) (k2 := 0) (n2 := 0) (st := []) (stN := [.inl x72]) hC [.inl 3] (mX9_refuses q71) lk_X9_228 g2 dX9_buy_37 rfl rfl (Nat.le_of_ble_eq_true rfl) (Nat.le_of_ble_eq_true rfl) (Nat.le_of_ble_eq_true rfl) rfl (Nat.le_of_ble_eq_true rfl) rfl rfl rfl ?_
          cases h
          exact aw_iret hC dX9_buy_40 (Nat.le_of_ble_eq_true rfl) (Nat.le_of_ble_eq_true rfl)
-- CoinCircleModel.teaOf(II)I
def fX9_teaOf_J106_44 (sh : AwS) (M : AwM) (v0 : Int) (v1 : Int) (v2 : Int) (v3 : Int) (v4 : Int) (v5 : Int) : Option ((Int × Int × AwM) ⊕ (Int × AwM)) :=
  some (.inl (v3, (w32 (v5 + 1)), M))
def fX9_teaOf_L44 (sh : AwS) (v0 : Int) (v1 : Int) (v2 : Int) (v4 : Int) (v3 : Int) (v5 : Int) (M : AwM) : Option ((Int × Int × AwM) ⊕ (Int × AwM)) :=
  gd_ (kd_ sh v0 = (0, 9)) (gd_ ((kd_ sh (M v0 14)).1 = 1 ∧ (0 : Int) ≤ (M v0 13) ∧ (M v0 13) < ((kd_ sh (M v0 14)).2 : Int)) ((if v5 < (M (M v0 14) (M v0 13)) then pb (fX9_has2 sh M v2 v5) <| u1 fun (x12 : Int) => ((if x12 = 0 then fX9_teaOf_J106_44 sh M v0 v1 v2 v3 v4 v5 else pb (fX9_canPresent sh M v0 v1 v4 v5) <| u1 fun (x15 : Int) => ((if x15 = 0 then fX9_teaOf_J106_44 sh M v0 v1 v2 v3 v4 v5 else pb (fX9_wouldKnow sh M v0 v1 v4 v5) <| u2 fun (x18 : Int) (M19 : AwM) => ((if x18 = 0 then fX9_teaOf_J106_44 sh M19 v0 v1 v2 v3 v4 v5 else pb (fX9_learns sh M19 v0 v1 v4 v5) <| u1 fun (M22 : AwM) => (fX9_teaOf_J106_44 sh M22 v0 v1 v2 (w32 (v3 + 1)) v4 v5))))))) else some (.inr (v3, M)))))
def p_X9_teaOf_L44 (Γ : AwC) (sh : AwS) (v0 : Int) (v1 : Int) (v2 : Int) (v4 : Int) (Q : State → Prop) (s : Int × Int × AwM) : Prop := AW Γ sh (s.2.2) 0 0 44 [some (.inr (.inr v0)), some (.inl v1), some (.inl v2), some (.inl (s.1)), some (.inl v4), some (.inl (s.2.1))] [] Q
def x_X9_teaOf_L44 (Γ : AwC) (sh : AwS) (v0 : Int) (v1 : Int) (v2 : Int) (v4 : Int) (Q : State → Prop) : (Int × AwM) → Prop := (fun (t : Int × AwM) => AW Γ sh (t.2) 0 0 112 [some (.inr (.inr v0)), some (.inl v1), some (.inl v2), some (.inl (t.1)), some (.inl v4), none] [] Q)
def fX9_teaOf_L5 (sh : AwS) (v0 : Int) (v1 : Int) (v2 : Int) (v3 : Int) (v4 : Int) (M : AwM) : Option ((Int × Int × AwM) ⊕ (Int × AwM)) :=
  gd_ (kd_ sh v0 = (0, 9)) (gd_ ((kd_ sh (M v0 16)).1 = 1 ∧ (0 : Int) ≤ (M v0 13) ∧ (M v0 13) < ((kd_ sh (M v0 16)).2 : Int)) ((if v4 < (M (M v0 16) (M v0 13)) then gd_ ((kd_ sh (M v0 49)).1 = 1 ∧ (0 : Int) ≤ (w32 ((w32 (12 * v1)) + v4)) ∧ (w32 ((w32 (12 * v1)) + v4)) < ((kd_ sh (M v0 49)).2 : Int)) (pb (fX9_has2 sh M v2 (M (M v0 49) (w32 ((w32 (12 * v1)) + v4)))) <| u1 fun (x6 : Int) => ((if x6 = 0 then some (.inl (v3, (w32 (v4 + 1)), M)) else pb (lp (u3 (fX9_teaOf_L44 sh v0 v1 v2 v4)) FU (v3, 0, M)) (u2 (fun (x24 : Int) (M25 : AwM) => some (.inl (x24, (w32 (v4 + 1)), M25))))))) else some (.inr (v3, M)))))
def p_X9_teaOf_L5 (Γ : AwC) (sh : AwS) (v0 : Int) (v1 : Int) (v2 : Int) (Q : State → Prop) (s : Int × Int × AwM) : Prop := AW Γ sh (s.2.2) 0 0 5 [some (.inr (.inr v0)), some (.inl v1), some (.inl v2), some (.inl (s.1)), some (.inl (s.2.1)), none] [] Q
def x_X9_teaOf_L5 (Γ : AwC) (sh : AwS) (v0 : Int) (v1 : Int) (v2 : Int) (Q : State → Prop) : (Int × AwM) → Prop := (fun (t : Int × AwM) => AW Γ sh (t.2) 0 0 118 [none, none, none, some (.inl (t.1)), none, none] [] Q)
def fX9_teaOf (sh : AwS) (M : AwM) (v0 : Int) (v1 : Int) (v2 : Int) : Option (Int × AwM) :=
  pb (lp (u3 (fX9_teaOf_L5 sh v0 v1 v2)) FU (0, 0, M)) (u2 (fun (x27 : Int) (M28 : AwM) => some (x27, M28)))
set_option maxRecDepth 100000 in
set_option maxHeartbeats 4000000 in
theorem w_X9_teaOf_J106_44 {Γ : AwC} (hC : AOK Γ RX9 cX9_teaOf 6 6 0 0 "teaOf" (some .int)) {sh : AwS} {M : AwM} {v0 : Int} {v1 : Int} {v2 : Int} {v3 : Int} {v4 : Int} {v5 : Int} {Q : State → Prop} {r : (Int × Int × AwM) ⊕ (Int × AwM)} (h : fX9_teaOf_J106_44 sh M v0 v1 v2 v3 v4 v5 = some r) (hL : ∀ s', r = .inl s' → p_X9_teaOf_L44 Γ sh v0 v1 v2 v4 Q s') (hX : ∀ t, r = .inr t → x_X9_teaOf_L44 Γ sh v0 v1 v2 v4 Q t) : AW Γ sh M 0 0 106 [some (.inr (.inr v0)), some (.inl v1), some (.inl v2), some (.inl v3), some (.inl v4), some (.inl v5)] [] Q := by
  unfold fX9_teaOf_J106_44 at h
  refine aw_iinc (pc' := 109) (ls' := [some (.inr (.inr v0)), some (.inl v1), some (.inl v2), some (.inl v3), some (.inl v4), some (.inl (w32 (v5 + 1)))]) hC dX9_teaOf_106 rfl rfl rfl rfl ?_
  refine aw_goto (tgt := 44) hC dX9_teaOf_109 (by decide) ?_
  refine aw_sub hC [some (.inr (.inr v0)), some (.inl v1), some (.inl v2), some (.inl v3), some (.inl v4), some (.inl (w32 (v5 + 1)))] ⟨rfl, ⟨rfl, ⟨rfl, ⟨rfl, ⟨rfl, ⟨rfl, trivial⟩⟩⟩⟩⟩⟩ (Nat.le_of_ble_eq_true rfl) ?_
  cases h
  exact hL _ rfl
set_option maxRecDepth 100000 in
set_option maxHeartbeats 4000000 in
theorem w_X9_teaOf_L44 {Γ : AwC} (hC : AOK Γ RX9 cX9_teaOf 6 6 0 0 "teaOf" (some .int)) {sh : AwS} {v0 : Int} {v1 : Int} {v2 : Int} {v4 : Int} {Q : State → Prop} : ∀ s r, u3 (fX9_teaOf_L44 sh v0 v1 v2 v4) s = some r → (∀ s', r = .inl s' → p_X9_teaOf_L44 Γ sh v0 v1 v2 v4 Q s') → (∀ t, r = .inr t → x_X9_teaOf_L44 Γ sh v0 v1 v2 v4 Q t) → p_X9_teaOf_L44 Γ sh v0 v1 v2 v4 Q s := by
  intro s r h hL hX
  obtain ⟨v3, v5, M⟩ := s
  replace h := u3_s h
  unfold fX9_teaOf_L44 at h
  show AW Γ sh M 0 0 44 [some (.inr (.inr v0)), some (.inl v1), some (.inl v2), some (.inl v3), some (.inl v4), some (.inl v5)] [] Q
  refine aw_iload (pc' := 46) hC dX9_teaOf_44 rfl rfl ?_
  refine aw_aload_n (pc' := 47) (i := 0) hC dX9_teaOf_46 rfl rfl rfl ?_
  obtain ⟨g8, h⟩ := gd_s h
  refine aw_getfield (pc' := 50) (v := (.inr (.inr (M v0 14)))) hC dX9_teaOf_47 rfl fl_X9_54 g8 rfl ?_
  refine aw_aload_n (pc' := 51) (i := 0) hC dX9_teaOf_50 rfl rfl rfl ?_
  refine aw_getfield (pc' := 54) (v := (.inl (M v0 13))) hC dX9_teaOf_51 rfl fl_X9_51 g8 rfl ?_
  obtain ⟨g9, h⟩ := gd_s h
  refine aw_iaload (pc' := 55) hC dX9_teaOf_54 rfl g9 ?_
  refine aw_icmp_ge (tgt := 112) (pc' := 58) hC dX9_teaOf_55 (by decide) rfl (fun c10 => ?_) (fun c10 => ?_)
  · replace h := it_n c10 h
    refine aw_sub hC [some (.inr (.inr v0)), some (.inl v1), some (.inl v2), some (.inl v3), some (.inl v4), none] ⟨rfl, ⟨rfl, ⟨rfl, ⟨rfl, ⟨rfl, trivial⟩⟩⟩⟩⟩ (Nat.le_of_ble_eq_true rfl) ?_
    cases h
    exact hX _ rfl
  · replace h := it_p c10 h
    refine aw_iload_n (pc' := 59) (i := 2) hC dX9_teaOf_58 rfl rfl rfl ?_
    refine aw_iload (pc' := 61) hC dX9_teaOf_59 rfl rfl ?_
    obtain ⟨x12, q11, h⟩ := pb_s h
    replace h := u1_s h
    refine aw_cS (pc' := 64) (k2 := 0) (n2 := 0) (st := []) (stN := [.inl x12]) hC [.inl v2, .inl v5] (mX9_has2 q11) lk_X9_373 dX9_teaOf_61 rfl rfl (Nat.le_of_ble_eq_true rfl) (Nat.le_of_ble_eq_true rfl) (Nat.le_of_ble_eq_true rfl) rfl (Nat.le_of_ble_eq_true rfl) rfl rfl rfl ?_
    refine aw_if_eq (tgt := 106) (pc' := 67) hC dX9_teaOf_64 (by decide) rfl (fun c13 => ?_) (fun c13 => ?_)
    · replace h := it_p c13 h
      refine aw_sub hC [some (.inr (.inr v0)), some (.inl v1), some (.inl v2), some (.inl v3), some (.inl v4), some (.inl v5)] ⟨rfl, ⟨rfl, ⟨rfl, ⟨rfl, ⟨rfl, ⟨rfl, trivial⟩⟩⟩⟩⟩⟩ (Nat.le_of_ble_eq_true rfl) ?_
      exact w_X9_teaOf_J106_44 hC h hL hX
    · replace h := it_n c13 h
      refine aw_aload_n (pc' := 68) (i := 0) hC dX9_teaOf_67 rfl rfl rfl ?_
      refine aw_iload_n (pc' := 69) (i := 1) hC dX9_teaOf_68 rfl rfl rfl ?_
      refine aw_iload (pc' := 71) hC dX9_teaOf_69 rfl rfl ?_
      refine aw_iload (pc' := 73) hC dX9_teaOf_71 rfl rfl ?_
      obtain ⟨x15, q14, h⟩ := pb_s h
      replace h := u1_s h
      refine aw_cV (pc' := 76) (k2 := 0) (n2 := 0) (st := []) (stN := [.inl x15]) hC [.inl v1, .inl v4, .inl v5] (mX9_canPresent q14) lk_X9_480 g8 dX9_teaOf_73 rfl rfl (Nat.le_of_ble_eq_true rfl) (Nat.le_of_ble_eq_true rfl) (Nat.le_of_ble_eq_true rfl) rfl (Nat.le_of_ble_eq_true rfl) rfl rfl rfl ?_
      refine aw_if_eq (tgt := 106) (pc' := 79) hC dX9_teaOf_76 (by decide) rfl (fun c16 => ?_) (fun c16 => ?_)
      · replace h := it_p c16 h
        refine aw_sub hC [some (.inr (.inr v0)), some (.inl v1), some (.inl v2), some (.inl v3), some (.inl v4), some (.inl v5)] ⟨rfl, ⟨rfl, ⟨rfl, ⟨rfl, ⟨rfl, ⟨rfl, trivial⟩⟩⟩⟩⟩⟩ (Nat.le_of_ble_eq_true rfl) ?_
        exact w_X9_teaOf_J106_44 hC h hL hX
      · replace h := it_n c16 h
        refine aw_aload_n (pc' := 80) (i := 0) hC dX9_teaOf_79 rfl rfl rfl ?_
        refine aw_iload_n (pc' := 81) (i := 1) hC dX9_teaOf_80 rfl rfl rfl ?_
        refine aw_iload (pc' := 83) hC dX9_teaOf_81 rfl rfl ?_
        refine aw_iload (pc' := 85) hC dX9_teaOf_83 rfl rfl ?_
        obtain ⟨⟨x18, M19⟩, q17, h⟩ := pb_s h
        replace h := u2_s h
        refine aw_cV (pc' := 88) (k2 := 0) (n2 := 0) (st := []) (stN := [.inl x18]) hC [.inl v1, .inl v4, .inl v5] (mX9_wouldKnow q17) lk_X9_483 g8 dX9_teaOf_85 rfl rfl (Nat.le_of_ble_eq_true rfl) (Nat.le_of_ble_eq_true rfl) (Nat.le_of_ble_eq_true rfl) rfl (Nat.le_of_ble_eq_true rfl) rfl rfl rfl ?_
        refine aw_if_ne (tgt := 94) (pc' := 91) hC dX9_teaOf_88 (by decide) rfl (fun c20 => ?_) (fun c20 => ?_)
        · replace h := it_n c20 h
          refine aw_aload_n (pc' := 95) (i := 0) hC dX9_teaOf_94 rfl rfl rfl ?_
          refine aw_iload_n (pc' := 96) (i := 1) hC dX9_teaOf_95 rfl rfl rfl ?_
          refine aw_iload (pc' := 98) hC dX9_teaOf_96 rfl rfl ?_
          refine aw_iload (pc' := 100) hC dX9_teaOf_98 rfl rfl ?_
          obtain ⟨M22, q21, h⟩ := pb_s h
          replace h := u1_s h
          refine aw_cV (pc' := 103) (k2 := 0) (n2 := 0) (st := []) (stN := []) hC [.inl v1, .inl v4, .inl v5] (mX9_learns q21) lk_X9_499 g8 dX9_teaOf_100 rfl rfl (Nat.le_of_ble_eq_true rfl) (Nat.le_of_ble_eq_true rfl) (Nat.le_of_ble_eq_true rfl) rfl (Nat.le_of_ble_eq_true rfl) rfl rfl rfl ?_
          refine aw_iinc (pc' := 106) (ls' := [some (.inr (.inr v0)), some (.inl v1), some (.inl v2), some (.inl (w32 (v3 + 1))), some (.inl v4), some (.inl v5)]) hC dX9_teaOf_103 rfl rfl rfl rfl ?_
          refine aw_sub hC [some (.inr (.inr v0)), some (.inl v1), some (.inl v2), some (.inl (w32 (v3 + 1))), some (.inl v4), some (.inl v5)] ⟨rfl, ⟨rfl, ⟨rfl, ⟨rfl, ⟨rfl, ⟨rfl, trivial⟩⟩⟩⟩⟩⟩ (Nat.le_of_ble_eq_true rfl) ?_
          exact w_X9_teaOf_J106_44 hC h hL hX
        · replace h := it_p c20 h
          refine aw_goto (tgt := 106) hC dX9_teaOf_91 (by decide) ?_
          refine aw_sub hC [some (.inr (.inr v0)), some (.inl v1), some (.inl v2), some (.inl v3), some (.inl v4), some (.inl v5)] ⟨rfl, ⟨rfl, ⟨rfl, ⟨rfl, ⟨rfl, ⟨rfl, trivial⟩⟩⟩⟩⟩⟩ (Nat.le_of_ble_eq_true rfl) ?_
          exact w_X9_teaOf_J106_44 hC h hL hX
set_option maxRecDepth 100000 in
set_option maxHeartbeats 4000000 in
theorem w_X9_teaOf_L5 {Γ : AwC} (hC : AOK Γ RX9 cX9_teaOf 6 6 0 0 "teaOf" (some .int)) {sh : AwS} {v0 : Int} {v1 : Int} {v2 : Int} {Q : State → Prop} : ∀ s r, u3 (fX9_teaOf_L5 sh v0 v1 v2) s = some r → (∀ s', r = .inl s' → p_X9_teaOf_L5 Γ sh v0 v1 v2 Q s') → (∀ t, r = .inr t → x_X9_teaOf_L5 Γ sh v0 v1 v2 Q t) → p_X9_teaOf_L5 Γ sh v0 v1 v2 Q s := by
  intro s r h hL hX
  obtain ⟨v3, v4, M⟩ := s
  replace h := u3_s h
  unfold fX9_teaOf_L5 at h
  show AW Γ sh M 0 0 5 [some (.inr (.inr v0)), some (.inl v1), some (.inl v2), some (.inl v3), some (.inl v4), none] [] Q
  refine aw_iload (pc' := 7) hC dX9_teaOf_5 rfl rfl ?_
  refine aw_aload_n (pc' := 8) (i := 0) hC dX9_teaOf_7 rfl rfl rfl ?_
  obtain ⟨g1, h⟩ := gd_s h
  refine aw_getfield (pc' := 11) (v := (.inr (.inr (M v0 16)))) hC dX9_teaOf_8 rfl fl_X9_60 g1 rfl ?_
  refine aw_aload_n (pc' := 12) (i := 0) hC dX9_teaOf_11 rfl rfl rfl ?_
  refine aw_getfield (pc' := 15) (v := (.inl (M v0 13))) hC dX9_teaOf_12 rfl fl_X9_51 g1 rfl ?_
  obtain ⟨g2, h⟩ := gd_s h
  refine aw_iaload (pc' := 16) hC dX9_teaOf_15 rfl g2 ?_
  refine aw_icmp_ge (tgt := 118) (pc' := 19) hC dX9_teaOf_16 (by decide) rfl (fun c3 => ?_) (fun c3 => ?_)
  · replace h := it_n c3 h
    refine aw_sub hC [none, none, none, some (.inl v3), none, none] ⟨rfl, trivial⟩ (Nat.le_of_ble_eq_true rfl) ?_
    cases h
    exact hX _ rfl
  · replace h := it_p c3 h
    refine aw_iload_n (pc' := 20) (i := 2) hC dX9_teaOf_19 rfl rfl rfl ?_
    refine aw_aload_n (pc' := 21) (i := 0) hC dX9_teaOf_20 rfl rfl rfl ?_
    refine aw_getfield (pc' := 24) (v := (.inr (.inr (M v0 49)))) hC dX9_teaOf_21 rfl fl_X9_162 g1 rfl ?_
    refine aw_bipush (pc' := 26) hC dX9_teaOf_24 rfl (by decide) ?_
    refine aw_iload_n (pc' := 27) (i := 1) hC dX9_teaOf_26 rfl rfl rfl ?_
    refine aw_imul (pc' := 28) hC dX9_teaOf_27 rfl  ?_
    refine aw_iload (pc' := 30) hC dX9_teaOf_28 rfl rfl ?_
    refine aw_iadd (pc' := 31) hC dX9_teaOf_30 rfl  ?_
    obtain ⟨g4, h⟩ := gd_s h
    refine aw_iaload (pc' := 32) hC dX9_teaOf_31 rfl g4 ?_
    obtain ⟨x6, q5, h⟩ := pb_s h
    replace h := u1_s h
    refine aw_cS (pc' := 35) (k2 := 0) (n2 := 0) (st := []) (stN := [.inl x6]) hC [.inl v2, .inl (M (M v0 49) (w32 ((w32 (12 * v1)) + v4)))] (mX9_has2 q5) lk_X9_373 dX9_teaOf_32 rfl rfl (Nat.le_of_ble_eq_true rfl) (Nat.le_of_ble_eq_true rfl) (Nat.le_of_ble_eq_true rfl) rfl (Nat.le_of_ble_eq_true rfl) rfl rfl rfl ?_
    refine aw_if_ne (tgt := 41) (pc' := 38) hC dX9_teaOf_35 (by decide) rfl (fun c7 => ?_) (fun c7 => ?_)
    · replace h := it_n c7 h
      refine aw_iconst (pc' := 42) hC dX9_teaOf_41 rfl (by decide) ?_
      refine aw_istore (pc' := 44) (ls' := [some (.inr (.inr v0)), some (.inl v1), some (.inl v2), some (.inl v3), some (.inl v4), some (.inl 0)]) hC dX9_teaOf_42 rfl (Nat.le_of_ble_eq_true rfl) rfl rfl ?_
      obtain ⟨tq23, q23, h⟩ := pb_s h
      refine aw_sub hC [some (.inr (.inr v0)), some (.inl v1), some (.inl v2), some (.inl v3), some (.inl v4), some (.inl 0)] ⟨rfl, ⟨rfl, ⟨rfl, ⟨rfl, ⟨rfl, ⟨rfl, trivial⟩⟩⟩⟩⟩⟩ (Nat.le_of_ble_eq_true rfl) ?_
      refine (lp_aw (p_X9_teaOf_L44 Γ sh v0 v1 v2 v4 Q) (x_X9_teaOf_L44 Γ sh v0 v1 v2 v4 Q) (w_X9_teaOf_L44 hC ) FU _ _ q23 ?_ : p_X9_teaOf_L44 Γ sh v0 v1 v2 v4 Q (v3, 0, M))
      obtain ⟨x24, M25⟩ := tq23
      replace h := u2_s h
      show AW Γ sh M25 0 0 112 [some (.inr (.inr v0)), some (.inl v1), some (.inl v2), some (.inl x24), some (.inl v4), none] [] _
      refine aw_iinc (pc' := 115) (ls' := [some (.inr (.inr v0)), some (.inl v1), some (.inl v2), some (.inl x24), some (.inl (w32 (v4 + 1))), none]) hC dX9_teaOf_112 rfl rfl rfl rfl ?_
      refine aw_goto (tgt := 5) hC dX9_teaOf_115 (by decide) ?_
      refine aw_sub hC [some (.inr (.inr v0)), some (.inl v1), some (.inl v2), some (.inl x24), some (.inl (w32 (v4 + 1))), none] ⟨rfl, ⟨rfl, ⟨rfl, ⟨rfl, ⟨rfl, trivial⟩⟩⟩⟩⟩ (Nat.le_of_ble_eq_true rfl) ?_
      cases h
      exact hL _ rfl
    · replace h := it_p c7 h
      refine aw_goto (tgt := 112) hC dX9_teaOf_38 (by decide) ?_
      refine aw_iinc (pc' := 115) (ls' := [some (.inr (.inr v0)), some (.inl v1), some (.inl v2), some (.inl v3), some (.inl (w32 (v4 + 1))), none]) hC dX9_teaOf_112 rfl rfl rfl rfl ?_
      refine aw_goto (tgt := 5) hC dX9_teaOf_115 (by decide) ?_
      refine aw_sub hC [some (.inr (.inr v0)), some (.inl v1), some (.inl v2), some (.inl v3), some (.inl (w32 (v4 + 1))), none] ⟨rfl, ⟨rfl, ⟨rfl, ⟨rfl, ⟨rfl, trivial⟩⟩⟩⟩⟩ (Nat.le_of_ble_eq_true rfl) ?_
      cases h
      exact hL _ rfl
set_option maxRecDepth 100000 in
set_option maxHeartbeats 4000000 in
theorem mX9_teaOf {sh : AwS} {M : AwM} {v0 : Int} {v1 : Int} {v2 : Int} {r : Int} {M' : AwM} (h : fX9_teaOf sh M v0 v1 v2 = some (r, M')) : AMet yX9_teaOf cX9_teaOf 6 (some .int) 6 0 0 [.inr (.inr v0), .inl v1, .inl v2] sh M (some (.inl r)) sh M' := by
  refine amet_of (by decide +kernel) (Nat.le_of_ble_eq_true rfl) (fun Γ hC => ?_)
  replace hC : AOK Γ RX9 cX9_teaOf 6 6 0 0 "teaOf" (some .int) := hC
  unfold fX9_teaOf at h
  refine aw_sub hC [some (.inr (.inr v0)), some (.inl v1), some (.inl v2), none, none, none] ⟨rfl, ⟨rfl, ⟨rfl, trivial⟩⟩⟩ (Nat.le_of_ble_eq_true rfl) ?_
  refine aw_iconst (pc' := 1) hC dX9_teaOf_0 rfl (by decide) ?_
  refine aw_istore_n (pc' := 2) (i := 3) (ls' := [some (.inr (.inr v0)), some (.inl v1), some (.inl v2), some (.inl 0), none, none]) hC dX9_teaOf_1 rfl rfl (Nat.le_of_ble_eq_true rfl) rfl rfl ?_
  refine aw_iconst (pc' := 3) hC dX9_teaOf_2 rfl (by decide) ?_
  refine aw_istore (pc' := 5) (ls' := [some (.inr (.inr v0)), some (.inl v1), some (.inl v2), some (.inl 0), some (.inl 0), none]) hC dX9_teaOf_3 rfl (Nat.le_of_ble_eq_true rfl) rfl rfl ?_
  obtain ⟨tq26, q26, h⟩ := pb_s h
  refine aw_sub hC [some (.inr (.inr v0)), some (.inl v1), some (.inl v2), some (.inl 0), some (.inl 0), none] ⟨rfl, ⟨rfl, ⟨rfl, ⟨rfl, ⟨rfl, trivial⟩⟩⟩⟩⟩ (Nat.le_of_ble_eq_true rfl) ?_
  refine (lp_aw (p_X9_teaOf_L5 Γ sh v0 v1 v2 (fin_ Γ 0 0 (some (.inl r)) sh M')) (x_X9_teaOf_L5 Γ sh v0 v1 v2 (fin_ Γ 0 0 (some (.inl r)) sh M')) (w_X9_teaOf_L5 hC ) FU _ _ q26 ?_ : p_X9_teaOf_L5 Γ sh v0 v1 v2 (fin_ Γ 0 0 (some (.inl r)) sh M') (0, 0, M))
  obtain ⟨x27, M28⟩ := tq26
  replace h := u2_s h
  show AW Γ sh M28 0 0 118 [none, none, none, some (.inl x27), none, none] [] _
  refine aw_iload_n (pc' := 119) (i := 3) hC dX9_teaOf_118 rfl rfl rfl ?_
  cases h
  exact aw_iret hC dX9_teaOf_119 (Nat.le_of_ble_eq_true rfl) (Nat.le_of_ble_eq_true rfl)
-- CoinCircleModel.tea(I)I
def fX9_tea (sh : AwS) (M : AwM) (v0 : Int) (v1 : Int) : Option (Int × AwM) :=
  gd_ (kd_ sh v0 = (0, 9)) (gd_ ((kd_ sh (M v0 14)).1 = 1 ∧ (0 : Int) ≤ (M v0 13) ∧ (M v0 13) < ((kd_ sh (M v0 14)).2 : Int)) (pb (fX9_is sh M v1 0 (w32 ((sl_ 1 (M (M v0 14) (M v0 13))) - 1))) <| u1 fun (x4 : Int) => ((if x4 = 0 then pb (fX9_refuses sh M v0 3) <| u2 fun (x7 : Int) (M8 : AwM) => (some (x7, M8)) else pb (fX9_bits sh M v1) <| u1 fun (x10 : Int) => (pb (fX9_is sh M x10 2 4) <| u1 fun (x12 : Int) => ((if x12 = 0 then pb (fX9_refuses sh M v0 3) <| u2 fun (x20 : Int) (M21 : AwM) => (some (x20, M21)) else pb (fX9_keeps sh M v0) <| u1 fun (M15 : AwM) => (pb (fX9_teaOf sh M15 v0 0 v1) <| u2 fun (x17 : Int) (M18 : AwM) => (some (x17, M18))))))))))
set_option maxRecDepth 100000 in
set_option maxHeartbeats 4000000 in
theorem mX9_tea {sh : AwS} {M : AwM} {v0 : Int} {v1 : Int} {r : Int} {M' : AwM} (h : fX9_tea sh M v0 v1 = some (r, M')) : AMet yX9_tea cX9_tea 2 (some .int) 7 0 0 [.inr (.inr v0), .inl v1] sh M (some (.inl r)) sh M' := by
  refine amet_of (by decide +kernel) (Nat.le_of_ble_eq_true rfl) (fun Γ hC => ?_)
  replace hC : AOK Γ RX9 cX9_tea 2 7 0 0 "tea" (some .int) := hC
  unfold fX9_tea at h
  refine aw_sub hC [some (.inr (.inr v0)), some (.inl v1)] ⟨rfl, ⟨rfl, trivial⟩⟩ (Nat.le_of_ble_eq_true rfl) ?_
  refine aw_iload_n (pc' := 1) (i := 1) hC dX9_tea_0 rfl rfl rfl ?_
  refine aw_iconst (pc' := 2) hC dX9_tea_1 rfl (by decide) ?_
  refine aw_iconst (pc' := 3) hC dX9_tea_2 rfl (by decide) ?_
  refine aw_aload_n (pc' := 4) (i := 0) hC dX9_tea_3 rfl rfl rfl ?_
  obtain ⟨g1, h⟩ := gd_s h
  refine aw_getfield (pc' := 7) (v := (.inr (.inr (M v0 14)))) hC dX9_tea_4 rfl fl_X9_54 g1 rfl ?_
  refine aw_aload_n (pc' := 8) (i := 0) hC dX9_tea_7 rfl rfl rfl ?_
  refine aw_getfield (pc' := 11) (v := (.inl (M v0 13))) hC dX9_tea_8 rfl fl_X9_51 g1 rfl ?_
  obtain ⟨g2, h⟩ := gd_s h
  refine aw_iaload (pc' := 12) hC dX9_tea_11 rfl g2 ?_
  refine aw_ishl (pc' := 13) hC dX9_tea_12 rfl  ?_
  refine aw_iconst (pc' := 14) hC dX9_tea_13 rfl (by decide) ?_
  refine aw_isub (pc' := 15) hC dX9_tea_14 rfl  ?_
  obtain ⟨x4, q3, h⟩ := pb_s h
  replace h := u1_s h
  refine aw_cS (pc' := 18) (k2 := 0) (n2 := 0) (st := []) (stN := [.inl x4]) hC [.inl v1, .inl 0, .inl (w32 ((sl_ 1 (M (M v0 14) (M v0 13))) - 1))] (mX9_is q3) lk_X9_314 dX9_tea_15 rfl rfl (Nat.le_of_ble_eq_true rfl) (Nat.le_of_ble_eq_true rfl) (Nat.le_of_ble_eq_true rfl) rfl (Nat.le_of_ble_eq_true rfl) rfl rfl rfl ?_
  refine aw_if_eq (tgt := 33) (pc' := 21) hC dX9_tea_18 (by decide) rfl (fun c5 => ?_) (fun c5 => ?_)
  · replace h := it_p c5 h
    refine aw_aload_n (pc' := 34) (i := 0) hC dX9_tea_33 rfl rfl rfl ?_
    refine aw_iconst (pc' := 35) hC dX9_tea_34 rfl (by decide) ?_
    obtain ⟨⟨x7, M8⟩, q6, h⟩ := pb_s h
    replace h := u2_s h
    refine aw_cV (pc' := 38) (k2 := 0) (n2 := 0) (st := []) (stN := [.inl x7]) hC [.inl 3] (mX9_refuses q6) lk_X9_228 g1 dX9_tea_35 rfl rfl (Nat.le_of_ble_eq_true rfl) (Nat.le_of_ble_eq_true rfl) (Nat.le_of_ble_eq_true rfl) rfl (Nat.le_of_ble_eq_true rfl) rfl rfl rfl ?_
    cases h
    exact aw_iret hC dX9_tea_38 (Nat.le_of_ble_eq_true rfl) (Nat.le_of_ble_eq_true rfl)
  · replace h := it_n c5 h
    refine aw_iload_n (pc' := 22) (i := 1) hC dX9_tea_21 rfl rfl rfl ?_
    obtain ⟨x10, q9, h⟩ := pb_s h
    replace h := u1_s h
    refine aw_cS (pc' := 25) (k2 := 0) (n2 := 0) (st := []) (stN := [.inl x10]) hC [.inl v1] (mX9_bits q9) lk_X9_448 dX9_tea_22 rfl rfl (Nat.le_of_ble_eq_true rfl) (Nat.le_of_ble_eq_true rfl) (Nat.le_of_ble_eq_true rfl) rfl (Nat.le_of_ble_eq_true rfl) rfl rfl rfl ?_
    refine aw_iconst (pc' := 26) hC dX9_tea_25 rfl (by decide) ?_
    refine aw_iconst (pc' := 27) hC dX9_tea_26 rfl (by decide) ?_
    obtain ⟨x12, q11, h⟩ := pb_s h
    replace h := u1_s h
    refine aw_cS (pc' := 30) (k2 := 0) (n2 := 0) (st := []) (stN := [.inl x12]) hC [.inl x10, .inl 2, .inl 4] (mX9_is q11) lk_X9_314 dX9_tea_27 rfl rfl (Nat.le_of_ble_eq_true rfl) (Nat.le_of_ble_eq_true rfl) (Nat.le_of_ble_eq_true rfl) rfl (Nat.le_of_ble_eq_true rfl) rfl rfl rfl ?_
    refine aw_if_ne (tgt := 39) (pc' := 33) hC dX9_tea_30 (by decide) rfl (fun c13 => ?_) (fun c13 => ?_)
    · replace h := it_n c13 h
      refine aw_aload_n (pc' := 40) (i := 0) hC dX9_tea_39 rfl rfl rfl ?_
      obtain ⟨M15, q14, h⟩ := pb_s h
      replace h := u1_s h
      refine aw_cV (pc' := 43) (k2 := 0) (n2 := 0) (st := []) (stN := []) hC [] (mX9_keeps q14) lk_X9_502 g1 dX9_tea_40 rfl rfl (Nat.le_of_ble_eq_true rfl) (Nat.le_of_ble_eq_true rfl) (Nat.le_of_ble_eq_true rfl) rfl (Nat.le_of_ble_eq_true rfl) rfl rfl rfl ?_
      refine aw_aload_n (pc' := 44) (i := 0) hC dX9_tea_43 rfl rfl rfl ?_
      refine aw_iconst (pc' := 45) hC dX9_tea_44 rfl (by decide) ?_
      refine aw_iload_n (pc' := 46) (i := 1) hC dX9_tea_45 rfl rfl rfl ?_
      obtain ⟨⟨x17, M18⟩, q16, h⟩ := pb_s h
      replace h := u2_s h
      refine aw_cV (pc' := 49) (k2 := 0) (n2 := 0) (st := []) (stN := [.inl x17]) hC [.inl 0, .inl v1] (mX9_teaOf q16) lk_X9_514 g1 dX9_tea_46 rfl rfl (Nat.le_of_ble_eq_true rfl) (Nat.le_of_ble_eq_true rfl) (Nat.le_of_ble_eq_true rfl) rfl (Nat.le_of_ble_eq_true rfl) rfl rfl rfl ?_
      cases h
      exact aw_iret hC dX9_tea_49 (Nat.le_of_ble_eq_true rfl) (Nat.le_of_ble_eq_true rfl)
    · replace h := it_p c13 h
      refine aw_aload_n (pc' := 34) (i := 0) hC dX9_tea_33 rfl rfl rfl ?_
      refine aw_iconst (pc' := 35) hC dX9_tea_34 rfl (by decide) ?_
      obtain ⟨⟨x20, M21⟩, q19, h⟩ := pb_s h
      replace h := u2_s h
      refine aw_cV (pc' := 38) (k2 := 0) (n2 := 0) (st := []) (stN := [.inl x20]) hC [.inl 3] (mX9_refuses q19) lk_X9_228 g1 dX9_tea_35 rfl rfl (Nat.le_of_ble_eq_true rfl) (Nat.le_of_ble_eq_true rfl) (Nat.le_of_ble_eq_true rfl) rfl (Nat.le_of_ble_eq_true rfl) rfl rfl rfl ?_
      cases h
      exact aw_iret hC dX9_tea_38 (Nat.le_of_ble_eq_true rfl) (Nat.le_of_ble_eq_true rfl)
-- CoinCircleModel.dayGoes(I)I
def fX9_dayGoes_J151_52 (sh : AwS) (M : AwM) (v0 : Int) (v1 : Int) (v2 : Int) (v3 : Int) (v4 : Int) (v5 : Int) : Option ((Int × Int × AwM) ⊕ (Int × AwM)) :=
  some (.inl (v2, (w32 (v5 + 1)), M))
def fX9_dayGoes_L52 (sh : AwS) (v0 : Int) (v1 : Int) (v3 : Int) (v4 : Int) (v2 : Int) (v5 : Int) (M : AwM) : Option ((Int × Int × AwM) ⊕ (Int × AwM)) :=
  gd_ (kd_ sh v0 = (0, 9)) (gd_ ((kd_ sh (M v0 14)).1 = 1 ∧ (0 : Int) ≤ (M v0 13) ∧ (M v0 13) < ((kd_ sh (M v0 14)).2 : Int)) ((if v5 < (M (M v0 14) (M v0 13)) then gd_ ((kd_ sh (M v0 49)).1 = 1 ∧ (0 : Int) ≤ v4 ∧ v4 < ((kd_ sh (M v0 49)).2 : Int)) ((if (M (M v0 49) v4) = v5 then fX9_dayGoes_J151_52 sh M v0 v1 v2 v3 v4 v5 else gd_ ((kd_ sh (M v0 50)).1 = 1 ∧ (0 : Int) ≤ v4 ∧ v4 < ((kd_ sh (M v0 50)).2 : Int)) (pb (fX9_has2 sh M (M (M v0 50) v4) v5) <| u1 fun (x17 : Int) => ((if x17 = 0 then fX9_dayGoes_J151_52 sh M v0 v1 v2 v3 v4 v5 else gd_ ((kd_ sh (M v0 48)).1 = 1 ∧ (0 : Int) ≤ v1 ∧ v1 < ((kd_ sh (M v0 48)).2 : Int)) (gd_ ((kd_ sh (M v0 52)).1 = 1 ∧ (0 : Int) ≤ (w32 ((w32 ((w32 (120 * v1)) + (w32 (10 * v3)))) + v5)) ∧ (w32 ((w32 ((w32 (120 * v1)) + (w32 (10 * v3)))) + v5)) < ((kd_ sh (M v0 52)).2 : Int)) (gd_ ((kd_ sh (M v0 24)).1 = 1 ∧ (0 : Int) ≤ (M v0 13) ∧ (M v0 13) < ((kd_ sh (M v0 24)).2 : Int)) ((if (w32 ((M (M v0 48) v1) - (M (M v0 52) (w32 ((w32 ((w32 (120 * v1)) + (w32 (10 * v3)))) + v5))))) < (M (M v0 24) (M v0 13)) then fX9_dayGoes_J151_52 sh M v0 v1 v2 v3 v4 v5 else bd_ (up_ M (M v0 50) v4 (an_ (M (M v0 50) v4) (xo_ (sl_ 1 v5) (-1)))) fun (M23 : AwM) => (fX9_dayGoes_J151_52 sh M23 v0 v1 (w32 (v2 + 1)) v3 v4 v5)))))))))) else some (.inr (v2, M)))))
def p_X9_dayGoes_L52 (Γ : AwC) (sh : AwS) (v0 : Int) (v1 : Int) (v3 : Int) (v4 : Int) (Q : State → Prop) (s : Int × Int × AwM) : Prop := AW Γ sh (s.2.2) 0 0 52 [some (.inr (.inr v0)), some (.inl v1), some (.inl (s.1)), some (.inl v3), some (.inl v4), some (.inl (s.2.1))] [] Q
def x_X9_dayGoes_L52 (Γ : AwC) (sh : AwS) (v0 : Int) (v1 : Int) (v3 : Int) (v4 : Int) (Q : State → Prop) : (Int × AwM) → Prop := (fun (t : Int × AwM) => AW Γ sh (t.2) 0 0 157 [some (.inr (.inr v0)), some (.inl v1), some (.inl (t.1)), some (.inl v3), none, none] [] Q)
def fX9_dayGoes_L28 (sh : AwS) (v0 : Int) (v1 : Int) (v2 : Int) (v3 : Int) (M : AwM) : Option ((Int × Int × AwM) ⊕ (Int × AwM)) :=
  gd_ (kd_ sh v0 = (0, 9)) (gd_ ((kd_ sh (M v0 16)).1 = 1 ∧ (0 : Int) ≤ (M v0 13) ∧ (M v0 13) < ((kd_ sh (M v0 16)).2 : Int)) ((if v3 < (M (M v0 16) (M v0 13)) then pb (lp (u3 (fX9_dayGoes_L52 sh v0 v1 v3 (w32 ((w32 (12 * v1)) + v3)))) FU (v2, 0, M)) (u2 (fun (x26 : Int) (M27 : AwM) => some (.inl (x26, (w32 (v3 + 1)), M27)))) else some (.inr (v2, M)))))
def p_X9_dayGoes_L28 (Γ : AwC) (sh : AwS) (v0 : Int) (v1 : Int) (Q : State → Prop) (s : Int × Int × AwM) : Prop := AW Γ sh (s.2.2) 0 0 28 [some (.inr (.inr v0)), some (.inl v1), some (.inl (s.1)), some (.inl (s.2.1)), none, none] [] Q
def x_X9_dayGoes_L28 (Γ : AwC) (sh : AwS) (v0 : Int) (v1 : Int) (Q : State → Prop) : (Int × AwM) → Prop := (fun (t : Int × AwM) => AW Γ sh (t.2) 0 0 163 [none, none, some (.inl (t.1)), none, none, none] [] Q)
def fX9_dayGoes (sh : AwS) (M : AwM) (v0 : Int) (v1 : Int) : Option (Int × AwM) :=
  gd_ (kd_ sh v0 = (0, 9)) (gd_ ((kd_ sh (M v0 48)).1 = 1 ∧ (0 : Int) ≤ v1 ∧ v1 < ((kd_ sh (M v0 48)).2 : Int)) (bd_ (up_ M (M v0 48) v1 (w32 ((M (M v0 48) v1) + 1))) fun (M3 : AwM) => (gd_ ((kd_ sh (M3 v0 24)).1 = 1 ∧ (0 : Int) ≤ (M3 v0 13) ∧ (M3 v0 13) < ((kd_ sh (M3 v0 24)).2 : Int)) ((if (M3 (M3 v0 24) (M3 v0 13)) = 0 then some (0, M3) else pb (lp (u3 (fX9_dayGoes_L28 sh v0 v1)) FU (0, 0, M3)) (u2 (fun (x29 : Int) (M30 : AwM) => some (x29, M30))))))))
set_option maxRecDepth 100000 in
set_option maxHeartbeats 4000000 in
theorem w_X9_dayGoes_J151_52 {Γ : AwC} (hC : AOK Γ RX9 cX9_dayGoes 6 2 0 0 "dayGoes" (some .int)) {sh : AwS} {M : AwM} {v0 : Int} {v1 : Int} {v2 : Int} {v3 : Int} {v4 : Int} {v5 : Int} {Q : State → Prop} {r : (Int × Int × AwM) ⊕ (Int × AwM)} (h : fX9_dayGoes_J151_52 sh M v0 v1 v2 v3 v4 v5 = some r) (hL : ∀ s', r = .inl s' → p_X9_dayGoes_L52 Γ sh v0 v1 v3 v4 Q s') (hX : ∀ t, r = .inr t → x_X9_dayGoes_L52 Γ sh v0 v1 v3 v4 Q t) : AW Γ sh M 0 0 151 [some (.inr (.inr v0)), some (.inl v1), some (.inl v2), some (.inl v3), some (.inl v4), some (.inl v5)] [] Q := by
  unfold fX9_dayGoes_J151_52 at h
  refine aw_iinc (pc' := 154) (ls' := [some (.inr (.inr v0)), some (.inl v1), some (.inl v2), some (.inl v3), some (.inl v4), some (.inl (w32 (v5 + 1)))]) hC dX9_dayGoes_151 rfl rfl rfl rfl ?_
  refine aw_goto (tgt := 52) hC dX9_dayGoes_154 (by decide) ?_
  refine aw_sub hC [some (.inr (.inr v0)), some (.inl v1), some (.inl v2), some (.inl v3), some (.inl v4), some (.inl (w32 (v5 + 1)))] ⟨rfl, ⟨rfl, ⟨rfl, ⟨rfl, ⟨rfl, ⟨rfl, trivial⟩⟩⟩⟩⟩⟩ (Nat.le_of_ble_eq_true rfl) ?_
  cases h
  exact hL _ rfl
set_option maxRecDepth 100000 in
set_option maxHeartbeats 4000000 in
theorem w_X9_dayGoes_L52 {Γ : AwC} (hC : AOK Γ RX9 cX9_dayGoes 6 2 0 0 "dayGoes" (some .int)) {sh : AwS} {v0 : Int} {v1 : Int} {v3 : Int} {v4 : Int} {Q : State → Prop} : ∀ s r, u3 (fX9_dayGoes_L52 sh v0 v1 v3 v4) s = some r → (∀ s', r = .inl s' → p_X9_dayGoes_L52 Γ sh v0 v1 v3 v4 Q s') → (∀ t, r = .inr t → x_X9_dayGoes_L52 Γ sh v0 v1 v3 v4 Q t) → p_X9_dayGoes_L52 Γ sh v0 v1 v3 v4 Q s := by
  intro s r h hL hX
  obtain ⟨v2, v5, M⟩ := s
  replace h := u3_s h
  unfold fX9_dayGoes_L52 at h
  show AW Γ sh M 0 0 52 [some (.inr (.inr v0)), some (.inl v1), some (.inl v2), some (.inl v3), some (.inl v4), some (.inl v5)] [] Q
  refine aw_iload (pc' := 54) hC dX9_dayGoes_52 rfl rfl ?_
  refine aw_aload_n (pc' := 55) (i := 0) hC dX9_dayGoes_54 rfl rfl rfl ?_
  obtain ⟨g10, h⟩ := gd_s h
  refine aw_getfield (pc' := 58) (v := (.inr (.inr (M v0 14)))) hC dX9_dayGoes_55 rfl fl_X9_54 g10 rfl ?_
  refine aw_aload_n (pc' := 59) (i := 0) hC dX9_dayGoes_58 rfl rfl rfl ?_
  refine aw_getfield (pc' := 62) (v := (.inl (M v0 13))) hC dX9_dayGoes_59 rfl fl_X9_51 g10 rfl ?_
  obtain ⟨g11, h⟩ := gd_s h
  refine aw_iaload (pc' := 63) hC dX9_dayGoes_62 rfl g11 ?_
  refine aw_icmp_ge (tgt := 157) (pc' := 66) hC dX9_dayGoes_63 (by decide) rfl (fun c12 => ?_) (fun c12 => ?_)
  · replace h := it_n c12 h
    refine aw_sub hC [some (.inr (.inr v0)), some (.inl v1), some (.inl v2), some (.inl v3), none, none] ⟨rfl, ⟨rfl, ⟨rfl, ⟨rfl, trivial⟩⟩⟩⟩ (Nat.le_of_ble_eq_true rfl) ?_
    cases h
    exact hX _ rfl
  · replace h := it_p c12 h
    refine aw_aload_n (pc' := 67) (i := 0) hC dX9_dayGoes_66 rfl rfl rfl ?_
    refine aw_getfield (pc' := 70) (v := (.inr (.inr (M v0 49)))) hC dX9_dayGoes_67 rfl fl_X9_162 g10 rfl ?_
    refine aw_iload (pc' := 72) hC dX9_dayGoes_70 rfl rfl ?_
    obtain ⟨g13, h⟩ := gd_s h
    refine aw_iaload (pc' := 73) hC dX9_dayGoes_72 rfl g13 ?_
    refine aw_iload (pc' := 75) hC dX9_dayGoes_73 rfl rfl ?_
    refine aw_icmp_eq (tgt := 151) (pc' := 78) hC dX9_dayGoes_75 (by decide) rfl (fun c14 => ?_) (fun c14 => ?_)
    · replace h := it_p c14 h
      refine aw_sub hC [some (.inr (.inr v0)), some (.inl v1), some (.inl v2), some (.inl v3), some (.inl v4), some (.inl v5)] ⟨rfl, ⟨rfl, ⟨rfl, ⟨rfl, ⟨rfl, ⟨rfl, trivial⟩⟩⟩⟩⟩⟩ (Nat.le_of_ble_eq_true rfl) ?_
      exact w_X9_dayGoes_J151_52 hC h hL hX
    · replace h := it_n c14 h
      refine aw_aload_n (pc' := 79) (i := 0) hC dX9_dayGoes_78 rfl rfl rfl ?_
      refine aw_getfield (pc' := 82) (v := (.inr (.inr (M v0 50)))) hC dX9_dayGoes_79 rfl fl_X9_165 g10 rfl ?_
      refine aw_iload (pc' := 84) hC dX9_dayGoes_82 rfl rfl ?_
      obtain ⟨g15, h⟩ := gd_s h
      refine aw_iaload (pc' := 85) hC dX9_dayGoes_84 rfl g15 ?_
      refine aw_iload (pc' := 87) hC dX9_dayGoes_85 rfl rfl ?_
      obtain ⟨x17, q16, h⟩ := pb_s h
      replace h := u1_s h
      refine aw_cS (pc' := 90) (k2 := 0) (n2 := 0) (st := []) (stN := [.inl x17]) hC [.inl (M (M v0 50) v4), .inl v5] (mX9_has2 q16) lk_X9_373 dX9_dayGoes_87 rfl rfl (Nat.le_of_ble_eq_true rfl) (Nat.le_of_ble_eq_true rfl) (Nat.le_of_ble_eq_true rfl) rfl (Nat.le_of_ble_eq_true rfl) rfl rfl rfl ?_
      refine aw_if_eq (tgt := 151) (pc' := 93) hC dX9_dayGoes_90 (by decide) rfl (fun c18 => ?_) (fun c18 => ?_)
      · replace h := it_p c18 h
        refine aw_sub hC [some (.inr (.inr v0)), some (.inl v1), some (.inl v2), some (.inl v3), some (.inl v4), some (.inl v5)] ⟨rfl, ⟨rfl, ⟨rfl, ⟨rfl, ⟨rfl, ⟨rfl, trivial⟩⟩⟩⟩⟩⟩ (Nat.le_of_ble_eq_true rfl) ?_
        exact w_X9_dayGoes_J151_52 hC h hL hX
      · replace h := it_n c18 h
        refine aw_aload_n (pc' := 94) (i := 0) hC dX9_dayGoes_93 rfl rfl rfl ?_
        refine aw_getfield (pc' := 97) (v := (.inr (.inr (M v0 48)))) hC dX9_dayGoes_94 rfl fl_X9_159 g10 rfl ?_
        refine aw_iload_n (pc' := 98) (i := 1) hC dX9_dayGoes_97 rfl rfl rfl ?_
        obtain ⟨g19, h⟩ := gd_s h
        refine aw_iaload (pc' := 99) hC dX9_dayGoes_98 rfl g19 ?_
        refine aw_aload_n (pc' := 100) (i := 0) hC dX9_dayGoes_99 rfl rfl rfl ?_
        refine aw_getfield (pc' := 103) (v := (.inr (.inr (M v0 52)))) hC dX9_dayGoes_100 rfl fl_X9_171 g10 rfl ?_
        refine aw_bipush (pc' := 105) hC dX9_dayGoes_103 rfl (by decide) ?_
        refine aw_iload_n (pc' := 106) (i := 1) hC dX9_dayGoes_105 rfl rfl rfl ?_
        refine aw_imul (pc' := 107) hC dX9_dayGoes_106 rfl  ?_
        refine aw_bipush (pc' := 109) hC dX9_dayGoes_107 rfl (by decide) ?_
        refine aw_iload_n (pc' := 110) (i := 3) hC dX9_dayGoes_109 rfl rfl rfl ?_
        refine aw_imul (pc' := 111) hC dX9_dayGoes_110 rfl  ?_
        refine aw_iadd (pc' := 112) hC dX9_dayGoes_111 rfl  ?_
        refine aw_iload (pc' := 114) hC dX9_dayGoes_112 rfl rfl ?_
        refine aw_iadd (pc' := 115) hC dX9_dayGoes_114 rfl  ?_
        obtain ⟨g20, h⟩ := gd_s h
        refine aw_iaload (pc' := 116) hC dX9_dayGoes_115 rfl g20 ?_
        refine aw_isub (pc' := 117) hC dX9_dayGoes_116 rfl  ?_
        refine aw_aload_n (pc' := 118) (i := 0) hC dX9_dayGoes_117 rfl rfl rfl ?_
        refine aw_getfield (pc' := 121) (v := (.inr (.inr (M v0 24)))) hC dX9_dayGoes_118 rfl fl_X9_84 g10 rfl ?_
        refine aw_aload_n (pc' := 122) (i := 0) hC dX9_dayGoes_121 rfl rfl rfl ?_
        refine aw_getfield (pc' := 125) (v := (.inl (M v0 13))) hC dX9_dayGoes_122 rfl fl_X9_51 g10 rfl ?_
        obtain ⟨g21, h⟩ := gd_s h
        refine aw_iaload (pc' := 126) hC dX9_dayGoes_125 rfl g21 ?_
        refine aw_icmp_ge (tgt := 132) (pc' := 129) hC dX9_dayGoes_126 (by decide) rfl (fun c22 => ?_) (fun c22 => ?_)
        · replace h := it_n c22 h
          refine aw_aload_n (pc' := 133) (i := 0) hC dX9_dayGoes_132 rfl rfl rfl ?_
          refine aw_getfield (pc' := 136) (v := (.inr (.inr (M v0 50)))) hC dX9_dayGoes_133 rfl fl_X9_165 g10 rfl ?_
          refine aw_iload (pc' := 138) hC dX9_dayGoes_136 rfl rfl ?_
          refine aw_dup2 (pc' := 139) hC dX9_dayGoes_138 rfl rfl rfl ?_
          refine aw_iaload (pc' := 140) hC dX9_dayGoes_139 rfl g15 ?_
          refine aw_iconst (pc' := 141) hC dX9_dayGoes_140 rfl (by decide) ?_
          refine aw_iload (pc' := 143) hC dX9_dayGoes_141 rfl rfl ?_
          refine aw_ishl (pc' := 144) hC dX9_dayGoes_143 rfl  ?_
          refine aw_iconst (pc' := 145) hC dX9_dayGoes_144 rfl (by decide) ?_
          refine aw_ixor (pc' := 146) hC dX9_dayGoes_145 rfl  ?_
          refine aw_iand (pc' := 147) hC dX9_dayGoes_146 rfl  ?_
          obtain ⟨M23, e24, h⟩ := bd_s h
          refine aw_ias (pc' := 148) hC dX9_dayGoes_147 rfl g15 e24 ?_
          refine aw_iinc (pc' := 151) (ls' := [some (.inr (.inr v0)), some (.inl v1), some (.inl (w32 (v2 + 1))), some (.inl v3), some (.inl v4), some (.inl v5)]) hC dX9_dayGoes_148 rfl rfl rfl rfl ?_
          refine aw_sub hC [some (.inr (.inr v0)), some (.inl v1), some (.inl (w32 (v2 + 1))), some (.inl v3), some (.inl v4), some (.inl v5)] ⟨rfl, ⟨rfl, ⟨rfl, ⟨rfl, ⟨rfl, ⟨rfl, trivial⟩⟩⟩⟩⟩⟩ (Nat.le_of_ble_eq_true rfl) ?_
          exact w_X9_dayGoes_J151_52 hC h hL hX
        · replace h := it_p c22 h
          refine aw_goto (tgt := 151) hC dX9_dayGoes_129 (by decide) ?_
          refine aw_sub hC [some (.inr (.inr v0)), some (.inl v1), some (.inl v2), some (.inl v3), some (.inl v4), some (.inl v5)] ⟨rfl, ⟨rfl, ⟨rfl, ⟨rfl, ⟨rfl, ⟨rfl, trivial⟩⟩⟩⟩⟩⟩ (Nat.le_of_ble_eq_true rfl) ?_
          exact w_X9_dayGoes_J151_52 hC h hL hX
set_option maxRecDepth 100000 in
set_option maxHeartbeats 4000000 in
theorem w_X9_dayGoes_L28 {Γ : AwC} (hC : AOK Γ RX9 cX9_dayGoes 6 2 0 0 "dayGoes" (some .int)) {sh : AwS} {v0 : Int} {v1 : Int} {Q : State → Prop} : ∀ s r, u3 (fX9_dayGoes_L28 sh v0 v1) s = some r → (∀ s', r = .inl s' → p_X9_dayGoes_L28 Γ sh v0 v1 Q s') → (∀ t, r = .inr t → x_X9_dayGoes_L28 Γ sh v0 v1 Q t) → p_X9_dayGoes_L28 Γ sh v0 v1 Q s := by
  intro s r h hL hX
  obtain ⟨v2, v3, M⟩ := s
  replace h := u3_s h
  unfold fX9_dayGoes_L28 at h
  show AW Γ sh M 0 0 28 [some (.inr (.inr v0)), some (.inl v1), some (.inl v2), some (.inl v3), none, none] [] Q
  refine aw_iload_n (pc' := 29) (i := 3) hC dX9_dayGoes_28 rfl rfl rfl ?_
  refine aw_aload_n (pc' := 30) (i := 0) hC dX9_dayGoes_29 rfl rfl rfl ?_
  obtain ⟨g7, h⟩ := gd_s h
  refine aw_getfield (pc' := 33) (v := (.inr (.inr (M v0 16)))) hC dX9_dayGoes_30 rfl fl_X9_60 g7 rfl ?_
  refine aw_aload_n (pc' := 34) (i := 0) hC dX9_dayGoes_33 rfl rfl rfl ?_
  refine aw_getfield (pc' := 37) (v := (.inl (M v0 13))) hC dX9_dayGoes_34 rfl fl_X9_51 g7 rfl ?_
  obtain ⟨g8, h⟩ := gd_s h
  refine aw_iaload (pc' := 38) hC dX9_dayGoes_37 rfl g8 ?_
  refine aw_icmp_ge (tgt := 163) (pc' := 41) hC dX9_dayGoes_38 (by decide) rfl (fun c9 => ?_) (fun c9 => ?_)
  · replace h := it_n c9 h
    refine aw_sub hC [none, none, some (.inl v2), none, none, none] ⟨rfl, trivial⟩ (Nat.le_of_ble_eq_true rfl) ?_
    cases h
    exact hX _ rfl
  · replace h := it_p c9 h
    refine aw_bipush (pc' := 43) hC dX9_dayGoes_41 rfl (by decide) ?_
    refine aw_iload_n (pc' := 44) (i := 1) hC dX9_dayGoes_43 rfl rfl rfl ?_
    refine aw_imul (pc' := 45) hC dX9_dayGoes_44 rfl  ?_
    refine aw_iload_n (pc' := 46) (i := 3) hC dX9_dayGoes_45 rfl rfl rfl ?_
    refine aw_iadd (pc' := 47) hC dX9_dayGoes_46 rfl  ?_
    refine aw_istore (pc' := 49) (ls' := [some (.inr (.inr v0)), some (.inl v1), some (.inl v2), some (.inl v3), some (.inl (w32 ((w32 (12 * v1)) + v3))), none]) hC dX9_dayGoes_47 rfl (Nat.le_of_ble_eq_true rfl) rfl rfl ?_
    refine aw_iconst (pc' := 50) hC dX9_dayGoes_49 rfl (by decide) ?_
    refine aw_istore (pc' := 52) (ls' := [some (.inr (.inr v0)), some (.inl v1), some (.inl v2), some (.inl v3), some (.inl (w32 ((w32 (12 * v1)) + v3))), some (.inl 0)]) hC dX9_dayGoes_50 rfl (Nat.le_of_ble_eq_true rfl) rfl rfl ?_
    obtain ⟨tq25, q25, h⟩ := pb_s h
    refine aw_sub hC [some (.inr (.inr v0)), some (.inl v1), some (.inl v2), some (.inl v3), some (.inl (w32 ((w32 (12 * v1)) + v3))), some (.inl 0)] ⟨rfl, ⟨rfl, ⟨rfl, ⟨rfl, ⟨rfl, ⟨rfl, trivial⟩⟩⟩⟩⟩⟩ (Nat.le_of_ble_eq_true rfl) ?_
    refine (lp_aw (p_X9_dayGoes_L52 Γ sh v0 v1 v3 (w32 ((w32 (12 * v1)) + v3)) Q) (x_X9_dayGoes_L52 Γ sh v0 v1 v3 (w32 ((w32 (12 * v1)) + v3)) Q) (w_X9_dayGoes_L52 hC ) FU _ _ q25 ?_ : p_X9_dayGoes_L52 Γ sh v0 v1 v3 (w32 ((w32 (12 * v1)) + v3)) Q (v2, 0, M))
    obtain ⟨x26, M27⟩ := tq25
    replace h := u2_s h
    show AW Γ sh M27 0 0 157 [some (.inr (.inr v0)), some (.inl v1), some (.inl x26), some (.inl v3), none, none] [] _
    refine aw_iinc (pc' := 160) (ls' := [some (.inr (.inr v0)), some (.inl v1), some (.inl x26), some (.inl (w32 (v3 + 1))), none, none]) hC dX9_dayGoes_157 rfl rfl rfl rfl ?_
    refine aw_goto (tgt := 28) hC dX9_dayGoes_160 (by decide) ?_
    refine aw_sub hC [some (.inr (.inr v0)), some (.inl v1), some (.inl x26), some (.inl (w32 (v3 + 1))), none, none] ⟨rfl, ⟨rfl, ⟨rfl, ⟨rfl, trivial⟩⟩⟩⟩ (Nat.le_of_ble_eq_true rfl) ?_
    cases h
    exact hL _ rfl
set_option maxRecDepth 100000 in
set_option maxHeartbeats 4000000 in
theorem mX9_dayGoes {sh : AwS} {M : AwM} {v0 : Int} {v1 : Int} {r : Int} {M' : AwM} (h : fX9_dayGoes sh M v0 v1 = some (r, M')) : AMet yX9_dayGoes cX9_dayGoes 6 (some .int) 2 0 0 [.inr (.inr v0), .inl v1] sh M (some (.inl r)) sh M' := by
  refine amet_of (by decide +kernel) (Nat.le_of_ble_eq_true rfl) (fun Γ hC => ?_)
  replace hC : AOK Γ RX9 cX9_dayGoes 6 2 0 0 "dayGoes" (some .int) := hC
  unfold fX9_dayGoes at h
  refine aw_sub hC [some (.inr (.inr v0)), some (.inl v1), none, none, none, none] ⟨rfl, ⟨rfl, trivial⟩⟩ (Nat.le_of_ble_eq_true rfl) ?_
  refine aw_iconst (pc' := 1) hC dX9_dayGoes_0 rfl (by decide) ?_
  refine aw_istore_n (pc' := 2) (i := 2) (ls' := [some (.inr (.inr v0)), some (.inl v1), some (.inl 0), none, none, none]) hC dX9_dayGoes_1 rfl rfl (Nat.le_of_ble_eq_true rfl) rfl rfl ?_
  refine aw_aload_n (pc' := 3) (i := 0) hC dX9_dayGoes_2 rfl rfl rfl ?_
  obtain ⟨g1, h⟩ := gd_s h
  refine aw_getfield (pc' := 6) (v := (.inr (.inr (M v0 48)))) hC dX9_dayGoes_3 rfl fl_X9_159 g1 rfl ?_
  refine aw_iload_n (pc' := 7) (i := 1) hC dX9_dayGoes_6 rfl rfl rfl ?_
  refine aw_dup2 (pc' := 8) hC dX9_dayGoes_7 rfl rfl rfl ?_
  obtain ⟨g2, h⟩ := gd_s h
  refine aw_iaload (pc' := 9) hC dX9_dayGoes_8 rfl g2 ?_
  refine aw_iconst (pc' := 10) hC dX9_dayGoes_9 rfl (by decide) ?_
  refine aw_iadd (pc' := 11) hC dX9_dayGoes_10 rfl  ?_
  obtain ⟨M3, e4, h⟩ := bd_s h
  refine aw_ias (pc' := 12) hC dX9_dayGoes_11 rfl g2 e4 ?_
  refine aw_aload_n (pc' := 13) (i := 0) hC dX9_dayGoes_12 rfl rfl rfl ?_
  refine aw_getfield (pc' := 16) (v := (.inr (.inr (M3 v0 24)))) hC dX9_dayGoes_13 rfl fl_X9_84 g1 rfl ?_
  refine aw_aload_n (pc' := 17) (i := 0) hC dX9_dayGoes_16 rfl rfl rfl ?_
  refine aw_getfield (pc' := 20) (v := (.inl (M3 v0 13))) hC dX9_dayGoes_17 rfl fl_X9_51 g1 rfl ?_
  obtain ⟨g5, h⟩ := gd_s h
  refine aw_iaload (pc' := 21) hC dX9_dayGoes_20 rfl g5 ?_
  refine aw_if_ne (tgt := 26) (pc' := 24) hC dX9_dayGoes_21 (by decide) rfl (fun c6 => ?_) (fun c6 => ?_)
  · replace h := it_n c6 h
    refine aw_iconst (pc' := 27) hC dX9_dayGoes_26 rfl (by decide) ?_
    refine aw_istore_n (pc' := 28) (i := 3) (ls' := [some (.inr (.inr v0)), some (.inl v1), some (.inl 0), some (.inl 0), none, none]) hC dX9_dayGoes_27 rfl rfl (Nat.le_of_ble_eq_true rfl) rfl rfl ?_
    obtain ⟨tq28, q28, h⟩ := pb_s h
    refine aw_sub hC [some (.inr (.inr v0)), some (.inl v1), some (.inl 0), some (.inl 0), none, none] ⟨rfl, ⟨rfl, ⟨rfl, ⟨rfl, trivial⟩⟩⟩⟩ (Nat.le_of_ble_eq_true rfl) ?_
    refine (lp_aw (p_X9_dayGoes_L28 Γ sh v0 v1 (fin_ Γ 0 0 (some (.inl r)) sh M')) (x_X9_dayGoes_L28 Γ sh v0 v1 (fin_ Γ 0 0 (some (.inl r)) sh M')) (w_X9_dayGoes_L28 hC ) FU _ _ q28 ?_ : p_X9_dayGoes_L28 Γ sh v0 v1 (fin_ Γ 0 0 (some (.inl r)) sh M') (0, 0, M3))
    obtain ⟨x29, M30⟩ := tq28
    replace h := u2_s h
    show AW Γ sh M30 0 0 163 [none, none, some (.inl x29), none, none, none] [] _
    refine aw_iload_n (pc' := 164) (i := 2) hC dX9_dayGoes_163 rfl rfl rfl ?_
    cases h
    exact aw_iret hC dX9_dayGoes_164 (Nat.le_of_ble_eq_true rfl) (Nat.le_of_ble_eq_true rfl)
  · replace h := it_p c6 h
    refine aw_iconst (pc' := 25) hC dX9_dayGoes_24 rfl (by decide) ?_
    cases h
    exact aw_iret hC dX9_dayGoes_25 (Nat.le_of_ble_eq_true rfl) (Nat.le_of_ble_eq_true rfl)
-- CoinCircleModel.days(I)I
def fX9_days_L38 (sh : AwS) (v0 : Int) (v1 : Int) (v2 : Int) (v3 : Int) (M : AwM) : Option ((Int × Int × AwM) ⊕ (Int × AwM)) :=
  (if v3 < v1 then gd_ (kd_ sh v0 = (0, 9)) (pb (fX9_dayGoes sh M v0 0) <| u2 fun (x16 : Int) (M17 : AwM) => (some (.inl ((w32 (v2 + x16)), (w32 (v3 + 1)), M17)))) else some (.inr (v2, M)))
def p_X9_days_L38 (Γ : AwC) (sh : AwS) (v0 : Int) (v1 : Int) (Q : State → Prop) (s : Int × Int × AwM) : Prop := AW Γ sh (s.2.2) 0 0 38 [some (.inr (.inr v0)), some (.inl v1), some (.inl (s.1)), some (.inl (s.2.1))] [] Q
def x_X9_days_L38 (Γ : AwC) (sh : AwS) (v0 : Int) (v1 : Int) (Q : State → Prop) : (Int × AwM) → Prop := (fun (t : Int × AwM) => AW Γ sh (t.2) 0 0 57 [none, none, some (.inl (t.1)), none] [] Q)
def fX9_days (sh : AwS) (M : AwM) (v0 : Int) (v1 : Int) : Option (Int × AwM) :=
  pb (fX9_is sh M v1 1 100) <| u1 fun (x2 : Int) => ((if x2 = 0 then gd_ (kd_ sh v0 = (0, 9)) (pb (fX9_refuses sh M v0 4) <| u2 fun (x6 : Int) (M7 : AwM) => (some (x6, M7))) else gd_ (kd_ sh v0 = (0, 9)) (gd_ ((kd_ sh (M v0 48)).1 = 1 ∧ (0 : Int) ≤ 0 ∧ 0 < ((kd_ sh (M v0 48)).2 : Int)) ((if 999 < (w32 ((M (M v0 48) 0) + v1)) then pb (fX9_refuses sh M v0 4) <| u2 fun (x22 : Int) (M23 : AwM) => (some (x22, M23)) else pb (fX9_keeps sh M v0) <| u1 fun (M12 : AwM) => (pb (lp (u3 (fX9_days_L38 sh v0 v1)) FU (0, 0, M12)) (u2 (fun (x19 : Int) (M20 : AwM) => some (x19, M20)))))))))
set_option maxRecDepth 100000 in
set_option maxHeartbeats 4000000 in
theorem w_X9_days_L38 {Γ : AwC} (hC : AOK Γ RX9 cX9_days 4 3 0 0 "days" (some .int)) {sh : AwS} {v0 : Int} {v1 : Int} {Q : State → Prop} : ∀ s r, u3 (fX9_days_L38 sh v0 v1) s = some r → (∀ s', r = .inl s' → p_X9_days_L38 Γ sh v0 v1 Q s') → (∀ t, r = .inr t → x_X9_days_L38 Γ sh v0 v1 Q t) → p_X9_days_L38 Γ sh v0 v1 Q s := by
  intro s r h hL hX
  obtain ⟨v2, v3, M⟩ := s
  replace h := u3_s h
  unfold fX9_days_L38 at h
  show AW Γ sh M 0 0 38 [some (.inr (.inr v0)), some (.inl v1), some (.inl v2), some (.inl v3)] [] Q
  refine aw_iload_n (pc' := 39) (i := 3) hC dX9_days_38 rfl rfl rfl ?_
  refine aw_iload_n (pc' := 40) (i := 1) hC dX9_days_39 rfl rfl rfl ?_
  refine aw_icmp_ge (tgt := 57) (pc' := 43) hC dX9_days_40 (by decide) rfl (fun c13 => ?_) (fun c13 => ?_)
  · replace h := it_n c13 h
    refine aw_sub hC [none, none, some (.inl v2), none] ⟨rfl, trivial⟩ (Nat.le_of_ble_eq_true rfl) ?_
    cases h
    exact hX _ rfl
  · replace h := it_p c13 h
    refine aw_iload_n (pc' := 44) (i := 2) hC dX9_days_43 rfl rfl rfl ?_
    refine aw_aload_n (pc' := 45) (i := 0) hC dX9_days_44 rfl rfl rfl ?_
    refine aw_iconst (pc' := 46) hC dX9_days_45 rfl (by decide) ?_
    obtain ⟨g15, h⟩ := gd_s h
    obtain ⟨⟨x16, M17⟩, q14, h⟩ := pb_s h
    replace h := u2_s h
    refine aw_cV (pc' := 49) (k2 := 0) (n2 := 0) (st := [.inl v2]) (stN := [.inl x16, .inl v2]) hC [.inl 0] (mX9_dayGoes q14) lk_X9_517 g15 dX9_days_46 rfl rfl (Nat.le_of_ble_eq_true rfl) (Nat.le_of_ble_eq_true rfl) (Nat.le_of_ble_eq_true rfl) rfl (Nat.le_of_ble_eq_true rfl) rfl rfl rfl ?_
    refine aw_iadd (pc' := 50) hC dX9_days_49 rfl  ?_
    refine aw_istore_n (pc' := 51) (i := 2) (ls' := [some (.inr (.inr v0)), some (.inl v1), some (.inl (w32 (v2 + x16))), some (.inl v3)]) hC dX9_days_50 rfl rfl (Nat.le_of_ble_eq_true rfl) rfl rfl ?_
    refine aw_iinc (pc' := 54) (ls' := [some (.inr (.inr v0)), some (.inl v1), some (.inl (w32 (v2 + x16))), some (.inl (w32 (v3 + 1)))]) hC dX9_days_51 rfl rfl rfl rfl ?_
    refine aw_goto (tgt := 38) hC dX9_days_54 (by decide) ?_
    refine aw_sub hC [some (.inr (.inr v0)), some (.inl v1), some (.inl (w32 (v2 + x16))), some (.inl (w32 (v3 + 1)))] ⟨rfl, ⟨rfl, ⟨rfl, ⟨rfl, trivial⟩⟩⟩⟩ (Nat.le_of_ble_eq_true rfl) ?_
    cases h
    exact hL _ rfl
set_option maxRecDepth 100000 in
set_option maxHeartbeats 4000000 in
theorem mX9_days {sh : AwS} {M : AwM} {v0 : Int} {v1 : Int} {r : Int} {M' : AwM} (h : fX9_days sh M v0 v1 = some (r, M')) : AMet yX9_days cX9_days 4 (some .int) 3 0 0 [.inr (.inr v0), .inl v1] sh M (some (.inl r)) sh M' := by
  refine amet_of (by decide +kernel) (Nat.le_of_ble_eq_true rfl) (fun Γ hC => ?_)
  replace hC : AOK Γ RX9 cX9_days 4 3 0 0 "days" (some .int) := hC
  unfold fX9_days at h
  refine aw_sub hC [some (.inr (.inr v0)), some (.inl v1), none, none] ⟨rfl, ⟨rfl, trivial⟩⟩ (Nat.le_of_ble_eq_true rfl) ?_
  refine aw_iload_n (pc' := 1) (i := 1) hC dX9_days_0 rfl rfl rfl ?_
  refine aw_iconst (pc' := 2) hC dX9_days_1 rfl (by decide) ?_
  refine aw_bipush (pc' := 4) hC dX9_days_2 rfl (by decide) ?_
  obtain ⟨x2, q1, h⟩ := pb_s h
  replace h := u1_s h
  refine aw_cS (pc' := 7) (k2 := 0) (n2 := 0) (st := []) (stN := [.inl x2]) hC [.inl v1, .inl 1, .inl 100] (mX9_is q1) lk_X9_314 dX9_days_4 rfl rfl (Nat.le_of_ble_eq_true rfl) (Nat.le_of_ble_eq_true rfl) (Nat.le_of_ble_eq_true rfl) rfl (Nat.le_of_ble_eq_true rfl) rfl rfl rfl ?_
  refine aw_if_eq (tgt := 24) (pc' := 10) hC dX9_days_7 (by decide) rfl (fun c3 => ?_) (fun c3 => ?_)
  · replace h := it_p c3 h
    refine aw_aload_n (pc' := 25) (i := 0) hC dX9_days_24 rfl rfl rfl ?_
    refine aw_iconst (pc' := 26) hC dX9_days_25 rfl (by decide) ?_
    obtain ⟨g5, h⟩ := gd_s h
    obtain ⟨⟨x6, M7⟩, q4, h⟩ := pb_s h
    replace h := u2_s h
    refine aw_cV (pc' := 29) (k2 := 0) (n2 := 0) (st := []) (stN := [.inl x6]) hC [.inl 4] (mX9_refuses q4) lk_X9_228 g5 dX9_days_26 rfl rfl (Nat.le_of_ble_eq_true rfl) (Nat.le_of_ble_eq_true rfl) (Nat.le_of_ble_eq_true rfl) rfl (Nat.le_of_ble_eq_true rfl) rfl rfl rfl ?_
    cases h
    exact aw_iret hC dX9_days_29 (Nat.le_of_ble_eq_true rfl) (Nat.le_of_ble_eq_true rfl)
  · replace h := it_n c3 h
    refine aw_aload_n (pc' := 11) (i := 0) hC dX9_days_10 rfl rfl rfl ?_
    obtain ⟨g8, h⟩ := gd_s h
    refine aw_getfield (pc' := 14) (v := (.inr (.inr (M v0 48)))) hC dX9_days_11 rfl fl_X9_159 g8 rfl ?_
    refine aw_iconst (pc' := 15) hC dX9_days_14 rfl (by decide) ?_
    obtain ⟨g9, h⟩ := gd_s h
    refine aw_iaload (pc' := 16) hC dX9_days_15 rfl g9 ?_
    refine aw_iload_n (pc' := 17) (i := 1) hC dX9_days_16 rfl rfl rfl ?_
    refine aw_iadd (pc' := 18) hC dX9_days_17 rfl  ?_
    refine aw_sipush (pc' := 21) hC dX9_days_18 rfl (by decide) ?_
    refine aw_icmp_le (tgt := 30) (pc' := 24) hC dX9_days_21 (by decide) rfl (fun c10 => ?_) (fun c10 => ?_)
    · replace h := it_n c10 h
      refine aw_aload_n (pc' := 31) (i := 0) hC dX9_days_30 rfl rfl rfl ?_
      obtain ⟨M12, q11, h⟩ := pb_s h
      replace h := u1_s h
      refine aw_cV (pc' := 34) (k2 := 0) (n2 := 0) (st := []) (stN := []) hC [] (mX9_keeps q11) lk_X9_502 g8 dX9_days_31 rfl rfl (Nat.le_of_ble_eq_true rfl) (Nat.le_of_ble_eq_true rfl) (Nat.le_of_ble_eq_true rfl) rfl (Nat.le_of_ble_eq_true rfl) rfl rfl rfl ?_
      refine aw_iconst (pc' := 35) hC dX9_days_34 rfl (by decide) ?_
      refine aw_istore_n (pc' := 36) (i := 2) (ls' := [some (.inr (.inr v0)), some (.inl v1), some (.inl 0), none]) hC dX9_days_35 rfl rfl (Nat.le_of_ble_eq_true rfl) rfl rfl ?_
      refine aw_iconst (pc' := 37) hC dX9_days_36 rfl (by decide) ?_
      refine aw_istore_n (pc' := 38) (i := 3) (ls' := [some (.inr (.inr v0)), some (.inl v1), some (.inl 0), some (.inl 0)]) hC dX9_days_37 rfl rfl (Nat.le_of_ble_eq_true rfl) rfl rfl ?_
      obtain ⟨tq18, q18, h⟩ := pb_s h
      refine aw_sub hC [some (.inr (.inr v0)), some (.inl v1), some (.inl 0), some (.inl 0)] ⟨rfl, ⟨rfl, ⟨rfl, ⟨rfl, trivial⟩⟩⟩⟩ (Nat.le_of_ble_eq_true rfl) ?_
      refine (lp_aw (p_X9_days_L38 Γ sh v0 v1 (fin_ Γ 0 0 (some (.inl r)) sh M')) (x_X9_days_L38 Γ sh v0 v1 (fin_ Γ 0 0 (some (.inl r)) sh M')) (w_X9_days_L38 hC ) FU _ _ q18 ?_ : p_X9_days_L38 Γ sh v0 v1 (fin_ Γ 0 0 (some (.inl r)) sh M') (0, 0, M12))
      obtain ⟨x19, M20⟩ := tq18
      replace h := u2_s h
      show AW Γ sh M20 0 0 57 [none, none, some (.inl x19), none] [] _
      refine aw_iload_n (pc' := 58) (i := 2) hC dX9_days_57 rfl rfl rfl ?_
      cases h
      exact aw_iret hC dX9_days_58 (Nat.le_of_ble_eq_true rfl) (Nat.le_of_ble_eq_true rfl)
    · replace h := it_p c10 h
      refine aw_aload_n (pc' := 25) (i := 0) hC dX9_days_24 rfl rfl rfl ?_
      refine aw_iconst (pc' := 26) hC dX9_days_25 rfl (by decide) ?_
      obtain ⟨⟨x22, M23⟩, q21, h⟩ := pb_s h
      replace h := u2_s h
      refine aw_cV (pc' := 29) (k2 := 0) (n2 := 0) (st := []) (stN := [.inl x22]) hC [.inl 4] (mX9_refuses q21) lk_X9_228 g8 dX9_days_26 rfl rfl (Nat.le_of_ble_eq_true rfl) (Nat.le_of_ble_eq_true rfl) (Nat.le_of_ble_eq_true rfl) rfl (Nat.le_of_ble_eq_true rfl) rfl rfl rfl ?_
      cases h
      exact aw_iret hC dX9_days_29 (Nat.le_of_ble_eq_true rfl) (Nat.le_of_ble_eq_true rfl)
-- CoinCircleModel.draw(I)I
def fX9_draw (sh : AwS) (M : AwM) (v0 : Int) (v1 : Int) : Option (Int × AwM) :=
  gd_ (kd_ sh v0 = (0, 9)) (bd_ (up_ M v0 55 (((w64 ((w64 (1103515245 * (M v0 55))) + 12345)) : Int).tmod 2147483648)) fun (M2 : AwM) => (gd_ (v1 ≠ 0) (some ((w32 (((w64 (((M2 v0 55) : Int).tdiv 64)) : Int).tmod v1)), M2))))
set_option maxRecDepth 100000 in
set_option maxHeartbeats 4000000 in
theorem mX9_draw {sh : AwS} {M : AwM} {v0 : Int} {v1 : Int} {r : Int} {M' : AwM} (h : fX9_draw sh M v0 v1 = some (r, M')) : AMet yX9_draw cX9_draw 2 (some .int) 1 0 0 [.inr (.inr v0), .inl v1] sh M (some (.inl r)) sh M' := by
  refine amet_of (by decide +kernel) (Nat.le_of_ble_eq_true rfl) (fun Γ hC => ?_)
  replace hC : AOK Γ RX9 cX9_draw 2 1 0 0 "draw" (some .int) := hC
  unfold fX9_draw at h
  refine aw_sub hC [some (.inr (.inr v0)), some (.inl v1)] ⟨rfl, ⟨rfl, trivial⟩⟩ (Nat.le_of_ble_eq_true rfl) ?_
  refine aw_aload_n (pc' := 1) (i := 0) hC dX9_draw_0 rfl rfl rfl ?_
  refine aw_ldc2 (pc' := 4) (v := 1103515245) hC dX9_draw_1 rfl ck_X9_520 (by unfold I64; omega) ?_
  refine aw_aload_n (pc' := 5) (i := 0) hC dX9_draw_4 rfl rfl rfl ?_
  obtain ⟨g1, h⟩ := gd_s h
  refine aw_getfield (pc' := 8) (v := (.inr (.inl (M v0 55)))) hC dX9_draw_5 rfl fl_X9_180 g1 rfl ?_
  refine aw_lmul (pc' := 9) hC dX9_draw_8 rfl  ?_
  refine aw_ldc2 (pc' := 12) (v := 12345) hC dX9_draw_9 rfl ck_X9_522 (by unfold I64; omega) ?_
  refine aw_ladd (pc' := 13) hC dX9_draw_12 rfl  ?_
  refine aw_ldc2 (pc' := 16) (v := 2147483648) hC dX9_draw_13 rfl ck_X9_524 (by unfold I64; omega) ?_
  refine aw_lrem (pc' := 17) hC dX9_draw_16 rfl (by decide) ?_
  obtain ⟨M2, e3, h⟩ := bd_s h
  refine aw_pf (pc' := 20) hC dX9_draw_17 rfl fp_X9_180 g1 rfl trivial e3 ?_
  refine aw_aload_n (pc' := 21) (i := 0) hC dX9_draw_20 rfl rfl rfl ?_
  refine aw_getfield (pc' := 24) (v := (.inr (.inl (M2 v0 55)))) hC dX9_draw_21 rfl fl_X9_180 g1 rfl ?_
  refine aw_ldc2 (pc' := 27) (v := 64) hC dX9_draw_24 rfl ck_X9_526 (by unfold I64; omega) ?_
  refine aw_ldiv (pc' := 28) hC dX9_draw_27 rfl (by decide) ?_
  refine aw_iload_n (pc' := 29) (i := 1) hC dX9_draw_28 rfl rfl rfl ?_
  refine aw_i2l (pc' := 30) hC dX9_draw_29 rfl  ?_
  obtain ⟨g4, h⟩ := gd_s h
  refine aw_lrem (pc' := 31) hC dX9_draw_30 rfl g4 ?_
  refine aw_l2i (pc' := 32) hC dX9_draw_31 rfl  ?_
  cases h
  exact aw_iret hC dX9_draw_32 (Nat.le_of_ble_eq_true rfl) (Nat.le_of_ble_eq_true rfl)
-- CoinCircleModel.calls(I)I
def fX9_calls_J140_38 (sh : AwS) (M : AwM) (v0 : Int) (v1 : Int) (v2 : Int) (v3 : Int) : Option ((Int × Int × AwM) ⊕ (Int × AwM)) :=
  some (.inl (v2, (w32 (v3 + 1)), M))
def fX9_calls_L38 (sh : AwS) (v0 : Int) (v1 : Int) (v2 : Int) (v3 : Int) (M : AwM) : Option ((Int × Int × AwM) ⊕ (Int × AwM)) :=
  (if v3 < v1 then gd_ (kd_ sh v0 = (0, 9)) (pb (fX9_dayGoes sh M v0 0) <| u2 fun (x16 : Int) (M17 : AwM) => (pb (fX9_draw sh M17 v0 100) <| u2 fun (x19 : Int) (M20 : AwM) => (gd_ ((kd_ sh (M20 v0 25)).1 = 1 ∧ (0 : Int) ≤ (M20 v0 13) ∧ (M20 v0 13) < ((kd_ sh (M20 v0 25)).2 : Int)) ((if x19 < (M20 (M20 v0 25) (M20 v0 13)) then gd_ ((kd_ sh (M20 v0 16)).1 = 1 ∧ (0 : Int) ≤ (M20 v0 13) ∧ (M20 v0 13) < ((kd_ sh (M20 v0 16)).2 : Int)) ((if (M20 (M20 v0 16) (M20 v0 13)) = 0 then fX9_calls_J140_38 sh M20 v0 v1 v2 v3 else pb (fX9_draw sh M20 v0 (M20 (M20 v0 16) (M20 v0 13))) <| u2 fun (x26 : Int) (M27 : AwM) => (gd_ ((kd_ sh (M27 v0 14)).1 = 1 ∧ (0 : Int) ≤ (M27 v0 13) ∧ (M27 v0 13) < ((kd_ sh (M27 v0 14)).2 : Int)) (pb (fX9_draw sh M27 v0 (M27 (M27 v0 14) (M27 v0 13))) <| u2 fun (x30 : Int) (M31 : AwM) => (pb (fX9_canPresent sh M31 v0 0 x26 x30) <| u1 fun (x33 : Int) => ((if x33 = 0 then fX9_calls_J140_38 sh M31 v0 v1 v2 v3 else pb (fX9_presents sh M31 v0 0 x26 x30) <| u2 fun (x36 : Int) (M37 : AwM) => (fX9_calls_J140_38 sh M37 v0 v1 (w32 (v2 + 1)) v3)))))))) else fX9_calls_J140_38 sh M20 v0 v1 v2 v3))))) else some (.inr (v2, M)))
def p_X9_calls_L38 (Γ : AwC) (sh : AwS) (v0 : Int) (v1 : Int) (Q : State → Prop) (s : Int × Int × AwM) : Prop := AW Γ sh (s.2.2) 0 0 38 [some (.inr (.inr v0)), some (.inl v1), some (.inl (s.1)), some (.inl (s.2.1)), none, none] [] Q
def x_X9_calls_L38 (Γ : AwC) (sh : AwS) (v0 : Int) (v1 : Int) (Q : State → Prop) : (Int × AwM) → Prop := (fun (t : Int × AwM) => AW Γ sh (t.2) 0 0 146 [none, none, some (.inl (t.1)), none, none, none] [] Q)
def fX9_calls (sh : AwS) (M : AwM) (v0 : Int) (v1 : Int) : Option (Int × AwM) :=
  pb (fX9_is sh M v1 1 50) <| u1 fun (x2 : Int) => ((if x2 = 0 then gd_ (kd_ sh v0 = (0, 9)) (pb (fX9_refuses sh M v0 4) <| u2 fun (x6 : Int) (M7 : AwM) => (some (x6, M7))) else gd_ (kd_ sh v0 = (0, 9)) (gd_ ((kd_ sh (M v0 48)).1 = 1 ∧ (0 : Int) ≤ 0 ∧ 0 < ((kd_ sh (M v0 48)).2 : Int)) ((if 999 < (w32 ((M (M v0 48) 0) + v1)) then pb (fX9_refuses sh M v0 4) <| u2 fun (x42 : Int) (M43 : AwM) => (some (x42, M43)) else pb (fX9_keeps sh M v0) <| u1 fun (M12 : AwM) => (pb (lp (u3 (fX9_calls_L38 sh v0 v1)) FU (0, 0, M12)) (u2 (fun (x39 : Int) (M40 : AwM) => some (x39, M40)))))))))
set_option maxRecDepth 100000 in
set_option maxHeartbeats 4000000 in
theorem w_X9_calls_J140_38 {Γ : AwC} (hC : AOK Γ RX9 cX9_calls 6 7 0 0 "calls" (some .int)) {sh : AwS} {M : AwM} {v0 : Int} {v1 : Int} {v2 : Int} {v3 : Int} {Q : State → Prop} {r : (Int × Int × AwM) ⊕ (Int × AwM)} (h : fX9_calls_J140_38 sh M v0 v1 v2 v3 = some r) (hL : ∀ s', r = .inl s' → p_X9_calls_L38 Γ sh v0 v1 Q s') (hX : ∀ t, r = .inr t → x_X9_calls_L38 Γ sh v0 v1 Q t) : AW Γ sh M 0 0 140 [some (.inr (.inr v0)), some (.inl v1), some (.inl v2), some (.inl v3), none, none] [] Q := by
  unfold fX9_calls_J140_38 at h
  refine aw_iinc (pc' := 143) (ls' := [some (.inr (.inr v0)), some (.inl v1), some (.inl v2), some (.inl (w32 (v3 + 1))), none, none]) hC dX9_calls_140 rfl rfl rfl rfl ?_
  refine aw_goto (tgt := 38) hC dX9_calls_143 (by decide) ?_
  refine aw_sub hC [some (.inr (.inr v0)), some (.inl v1), some (.inl v2), some (.inl (w32 (v3 + 1))), none, none] ⟨rfl, ⟨rfl, ⟨rfl, ⟨rfl, trivial⟩⟩⟩⟩ (Nat.le_of_ble_eq_true rfl) ?_
  cases h
  exact hL _ rfl
set_option maxRecDepth 100000 in
set_option maxHeartbeats 4000000 in
theorem w_X9_calls_L38 {Γ : AwC} (hC : AOK Γ RX9 cX9_calls 6 7 0 0 "calls" (some .int)) {sh : AwS} {v0 : Int} {v1 : Int} {Q : State → Prop} : ∀ s r, u3 (fX9_calls_L38 sh v0 v1) s = some r → (∀ s', r = .inl s' → p_X9_calls_L38 Γ sh v0 v1 Q s') → (∀ t, r = .inr t → x_X9_calls_L38 Γ sh v0 v1 Q t) → p_X9_calls_L38 Γ sh v0 v1 Q s := by
  intro s r h hL hX
  obtain ⟨v2, v3, M⟩ := s
  replace h := u3_s h
  unfold fX9_calls_L38 at h
  show AW Γ sh M 0 0 38 [some (.inr (.inr v0)), some (.inl v1), some (.inl v2), some (.inl v3), none, none] [] Q
  refine aw_iload_n (pc' := 39) (i := 3) hC dX9_calls_38 rfl rfl rfl ?_
  refine aw_iload_n (pc' := 40) (i := 1) hC dX9_calls_39 rfl rfl rfl ?_
  refine aw_icmp_ge (tgt := 146) (pc' := 43) hC dX9_calls_40 (by decide) rfl (fun c13 => ?_) (fun c13 => ?_)
  · replace h := it_n c13 h
    refine aw_sub hC [none, none, some (.inl v2), none, none, none] ⟨rfl, trivial⟩ (Nat.le_of_ble_eq_true rfl) ?_
    cases h
    exact hX _ rfl
  · replace h := it_p c13 h
    refine aw_aload_n (pc' := 44) (i := 0) hC dX9_calls_43 rfl rfl rfl ?_
    refine aw_iconst (pc' := 45) hC dX9_calls_44 rfl (by decide) ?_
    obtain ⟨g15, h⟩ := gd_s h
    obtain ⟨⟨x16, M17⟩, q14, h⟩ := pb_s h
    replace h := u2_s h
    refine aw_cV (pc' := 48) (k2 := 0) (n2 := 0) (st := []) (stN := [.inl x16]) hC [.inl 0] (mX9_dayGoes q14) lk_X9_517 g15 dX9_calls_45 rfl rfl (Nat.le_of_ble_eq_true rfl) (Nat.le_of_ble_eq_true rfl) (Nat.le_of_ble_eq_true rfl) rfl (Nat.le_of_ble_eq_true rfl) rfl rfl rfl ?_
    refine aw_pop (pc' := 49) hC dX9_calls_48 rfl rfl ?_
    refine aw_aload_n (pc' := 50) (i := 0) hC dX9_calls_49 rfl rfl rfl ?_
    refine aw_bipush (pc' := 52) hC dX9_calls_50 rfl (by decide) ?_
    obtain ⟨⟨x19, M20⟩, q18, h⟩ := pb_s h
    replace h := u2_s h
    refine aw_cV (pc' := 55) (k2 := 0) (n2 := 0) (st := []) (stN := [.inl x19]) hC [.inl 100] (mX9_draw q18) lk_X9_528 g15 dX9_calls_52 rfl rfl (Nat.le_of_ble_eq_true rfl) (Nat.le_of_ble_eq_true rfl) (Nat.le_of_ble_eq_true rfl) rfl (Nat.le_of_ble_eq_true rfl) rfl rfl rfl ?_
    refine aw_aload_n (pc' := 56) (i := 0) hC dX9_calls_55 rfl rfl rfl ?_
    refine aw_getfield (pc' := 59) (v := (.inr (.inr (M20 v0 25)))) hC dX9_calls_56 rfl fl_X9_87 g15 rfl ?_
    refine aw_aload_n (pc' := 60) (i := 0) hC dX9_calls_59 rfl rfl rfl ?_
    refine aw_getfield (pc' := 63) (v := (.inl (M20 v0 13))) hC dX9_calls_60 rfl fl_X9_51 g15 rfl ?_
    obtain ⟨g21, h⟩ := gd_s h
    refine aw_iaload (pc' := 64) hC dX9_calls_63 rfl g21 ?_
    refine aw_icmp_ge (tgt := 140) (pc' := 67) hC dX9_calls_64 (by decide) rfl (fun c22 => ?_) (fun c22 => ?_)
    · replace h := it_n c22 h
      refine aw_sub hC [some (.inr (.inr v0)), some (.inl v1), some (.inl v2), some (.inl v3), none, none] ⟨rfl, ⟨rfl, ⟨rfl, ⟨rfl, trivial⟩⟩⟩⟩ (Nat.le_of_ble_eq_true rfl) ?_
      exact w_X9_calls_J140_38 hC h hL hX
    · replace h := it_p c22 h
      refine aw_aload_n (pc' := 68) (i := 0) hC dX9_calls_67 rfl rfl rfl ?_
      refine aw_getfield (pc' := 71) (v := (.inr (.inr (M20 v0 16)))) hC dX9_calls_68 rfl fl_X9_60 g15 rfl ?_
      refine aw_aload_n (pc' := 72) (i := 0) hC dX9_calls_71 rfl rfl rfl ?_
      refine aw_getfield (pc' := 75) (v := (.inl (M20 v0 13))) hC dX9_calls_72 rfl fl_X9_51 g15 rfl ?_
      obtain ⟨g23, h⟩ := gd_s h
      refine aw_iaload (pc' := 76) hC dX9_calls_75 rfl g23 ?_
      refine aw_if_ne (tgt := 82) (pc' := 79) hC dX9_calls_76 (by decide) rfl (fun c24 => ?_) (fun c24 => ?_)
      · replace h := it_n c24 h
        refine aw_aload_n (pc' := 83) (i := 0) hC dX9_calls_82 rfl rfl rfl ?_
        refine aw_aload_n (pc' := 84) (i := 0) hC dX9_calls_83 rfl rfl rfl ?_
        refine aw_getfield (pc' := 87) (v := (.inr (.inr (M20 v0 16)))) hC dX9_calls_84 rfl fl_X9_60 g15 rfl ?_
        refine aw_aload_n (pc' := 88) (i := 0) hC dX9_calls_87 rfl rfl rfl ?_
        refine aw_getfield (pc' := 91) (v := (.inl (M20 v0 13))) hC dX9_calls_88 rfl fl_X9_51 g15 rfl ?_
        refine aw_iaload (pc' := 92) hC dX9_calls_91 rfl g23 ?_
        obtain ⟨⟨x26, M27⟩, q25, h⟩ := pb_s h
        replace h := u2_s h
        refine aw_cV (pc' := 95) (k2 := 0) (n2 := 0) (st := []) (stN := [.inl x26]) hC [.inl (M20 (M20 v0 16) (M20 v0 13))] (mX9_draw q25) lk_X9_528 g15 dX9_calls_92 rfl rfl (Nat.le_of_ble_eq_true rfl) (Nat.le_of_ble_eq_true rfl) (Nat.le_of_ble_eq_true rfl) rfl (Nat.le_of_ble_eq_true rfl) rfl rfl rfl ?_
        refine aw_istore (pc' := 97) (ls' := [some (.inr (.inr v0)), some (.inl v1), some (.inl v2), some (.inl v3), some (.inl x26), none]) hC dX9_calls_95 rfl (Nat.le_of_ble_eq_true rfl) rfl rfl ?_
        refine aw_aload_n (pc' := 98) (i := 0) hC dX9_calls_97 rfl rfl rfl ?_
        refine aw_aload_n (pc' := 99) (i := 0) hC dX9_calls_98 rfl rfl rfl ?_
        refine aw_getfield (pc' := 102) (v := (.inr (.inr (M27 v0 14)))) hC dX9_calls_99 rfl fl_X9_54 g15 rfl ?_
        refine aw_aload_n (pc' := 103) (i := 0) hC dX9_calls_102 rfl rfl rfl ?_
        refine aw_getfield (pc' := 106) (v := (.inl (M27 v0 13))) hC dX9_calls_103 rfl fl_X9_51 g15 rfl ?_
        obtain ⟨g28, h⟩ := gd_s h
        refine aw_iaload (pc' := 107) hC dX9_calls_106 rfl g28 ?_
        obtain ⟨⟨x30, M31⟩, q29, h⟩ := pb_s h
        replace h := u2_s h
        refine aw_cV (pc' := 110) (k2 := 0) (n2 := 0) (st := []) (stN := [.inl x30]) hC [.inl (M27 (M27 v0 14) (M27 v0 13))] (mX9_draw q29) lk_X9_528 g15 dX9_calls_107 rfl rfl (Nat.le_of_ble_eq_true rfl) (Nat.le_of_ble_eq_true rfl) (Nat.le_of_ble_eq_true rfl) rfl (Nat.le_of_ble_eq_true rfl) rfl rfl rfl ?_
        refine aw_istore (pc' := 112) (ls' := [some (.inr (.inr v0)), some (.inl v1), some (.inl v2), some (.inl v3), some (.inl x26), some (.inl x30)]) hC dX9_calls_110 rfl (Nat.le_of_ble_eq_true rfl) rfl rfl ?_
        refine aw_aload_n (pc' := 113) (i := 0) hC dX9_calls_112 rfl rfl rfl ?_
        refine aw_iconst (pc' := 114) hC dX9_calls_113 rfl (by decide) ?_
        refine aw_iload (pc' := 116) hC dX9_calls_114 rfl rfl ?_
        refine aw_iload (pc' := 118) hC dX9_calls_116 rfl rfl ?_
        obtain ⟨x33, q32, h⟩ := pb_s h
        replace h := u1_s h
        refine aw_cV (pc' := 121) (k2 := 0) (n2 := 0) (st := []) (stN := [.inl x33]) hC [.inl 0, .inl x26, .inl x30] (mX9_canPresent q32) lk_X9_480 g15 dX9_calls_118 rfl rfl (Nat.le_of_ble_eq_true rfl) (Nat.le_of_ble_eq_true rfl) (Nat.le_of_ble_eq_true rfl) rfl (Nat.le_of_ble_eq_true rfl) rfl rfl rfl ?_
        refine aw_if_ne (tgt := 127) (pc' := 124) hC dX9_calls_121 (by decide) rfl (fun c34 => ?_) (fun c34 => ?_)
        · replace h := it_n c34 h
          refine aw_aload_n (pc' := 128) (i := 0) hC dX9_calls_127 rfl rfl rfl ?_
          refine aw_iconst (pc' := 129) hC dX9_calls_128 rfl (by decide) ?_
          refine aw_iload (pc' := 131) hC dX9_calls_129 rfl rfl ?_
          refine aw_iload (pc' := 133) hC dX9_calls_131 rfl rfl ?_
          obtain ⟨⟨x36, M37⟩, q35, h⟩ := pb_s h
          replace h := u2_s h
          refine aw_cV (pc' := 136) (k2 := 0) (n2 := 0) (st := []) (stN := [.inl x36]) hC [.inl 0, .inl x26, .inl x30] (mX9_presents q35) lk_X9_505 g15 dX9_calls_133 rfl rfl (Nat.le_of_ble_eq_true rfl) (Nat.le_of_ble_eq_true rfl) (Nat.le_of_ble_eq_true rfl) rfl (Nat.le_of_ble_eq_true rfl) rfl rfl rfl ?_
          refine aw_pop (pc' := 137) hC dX9_calls_136 rfl rfl ?_
          refine aw_iinc (pc' := 140) (ls' := [some (.inr (.inr v0)), some (.inl v1), some (.inl (w32 (v2 + 1))), some (.inl v3), some (.inl x26), some (.inl x30)]) hC dX9_calls_137 rfl rfl rfl rfl ?_
          refine aw_sub hC [some (.inr (.inr v0)), some (.inl v1), some (.inl (w32 (v2 + 1))), some (.inl v3), none, none] ⟨rfl, ⟨rfl, ⟨rfl, ⟨rfl, trivial⟩⟩⟩⟩ (Nat.le_of_ble_eq_true rfl) ?_
          exact w_X9_calls_J140_38 hC h hL hX
        · replace h := it_p c34 h
          refine aw_goto (tgt := 140) hC dX9_calls_124 (by decide) ?_
          refine aw_sub hC [some (.inr (.inr v0)), some (.inl v1), some (.inl v2), some (.inl v3), none, none] ⟨rfl, ⟨rfl, ⟨rfl, ⟨rfl, trivial⟩⟩⟩⟩ (Nat.le_of_ble_eq_true rfl) ?_
          exact w_X9_calls_J140_38 hC h hL hX
      · replace h := it_p c24 h
        refine aw_goto (tgt := 140) hC dX9_calls_79 (by decide) ?_
        refine aw_sub hC [some (.inr (.inr v0)), some (.inl v1), some (.inl v2), some (.inl v3), none, none] ⟨rfl, ⟨rfl, ⟨rfl, ⟨rfl, trivial⟩⟩⟩⟩ (Nat.le_of_ble_eq_true rfl) ?_
        exact w_X9_calls_J140_38 hC h hL hX
set_option maxRecDepth 100000 in
set_option maxHeartbeats 4000000 in
theorem mX9_calls {sh : AwS} {M : AwM} {v0 : Int} {v1 : Int} {r : Int} {M' : AwM} (h : fX9_calls sh M v0 v1 = some (r, M')) : AMet yX9_calls cX9_calls 6 (some .int) 7 0 0 [.inr (.inr v0), .inl v1] sh M (some (.inl r)) sh M' := by
  refine amet_of (by decide +kernel) (Nat.le_of_ble_eq_true rfl) (fun Γ hC => ?_)
  replace hC : AOK Γ RX9 cX9_calls 6 7 0 0 "calls" (some .int) := hC
  unfold fX9_calls at h
  refine aw_sub hC [some (.inr (.inr v0)), some (.inl v1), none, none, none, none] ⟨rfl, ⟨rfl, trivial⟩⟩ (Nat.le_of_ble_eq_true rfl) ?_
  refine aw_iload_n (pc' := 1) (i := 1) hC dX9_calls_0 rfl rfl rfl ?_
  refine aw_iconst (pc' := 2) hC dX9_calls_1 rfl (by decide) ?_
  refine aw_bipush (pc' := 4) hC dX9_calls_2 rfl (by decide) ?_
  obtain ⟨x2, q1, h⟩ := pb_s h
  replace h := u1_s h
  refine aw_cS (pc' := 7) (k2 := 0) (n2 := 0) (st := []) (stN := [.inl x2]) hC [.inl v1, .inl 1, .inl 50] (mX9_is q1) lk_X9_314 dX9_calls_4 rfl rfl (Nat.le_of_ble_eq_true rfl) (Nat.le_of_ble_eq_true rfl) (Nat.le_of_ble_eq_true rfl) rfl (Nat.le_of_ble_eq_true rfl) rfl rfl rfl ?_
  refine aw_if_eq (tgt := 24) (pc' := 10) hC dX9_calls_7 (by decide) rfl (fun c3 => ?_) (fun c3 => ?_)
  · replace h := it_p c3 h
    refine aw_aload_n (pc' := 25) (i := 0) hC dX9_calls_24 rfl rfl rfl ?_
    refine aw_iconst (pc' := 26) hC dX9_calls_25 rfl (by decide) ?_
    obtain ⟨g5, h⟩ := gd_s h
    obtain ⟨⟨x6, M7⟩, q4, h⟩ := pb_s h
    replace h := u2_s h
    refine aw_cV (pc' := 29) (k2 := 0) (n2 := 0) (st := []) (stN := [.inl x6]) hC [.inl 4] (mX9_refuses q4) lk_X9_228 g5 dX9_calls_26 rfl rfl (Nat.le_of_ble_eq_true rfl) (Nat.le_of_ble_eq_true rfl) (Nat.le_of_ble_eq_true rfl) rfl (Nat.le_of_ble_eq_true rfl) rfl rfl rfl ?_
    cases h
    exact aw_iret hC dX9_calls_29 (Nat.le_of_ble_eq_true rfl) (Nat.le_of_ble_eq_true rfl)
  · replace h := it_n c3 h
    refine aw_aload_n (pc' := 11) (i := 0) hC dX9_calls_10 rfl rfl rfl ?_
    obtain ⟨g8, h⟩ := gd_s h
    refine aw_getfield (pc' := 14) (v := (.inr (.inr (M v0 48)))) hC dX9_calls_11 rfl fl_X9_159 g8 rfl ?_
    refine aw_iconst (pc' := 15) hC dX9_calls_14 rfl (by decide) ?_
    obtain ⟨g9, h⟩ := gd_s h
    refine aw_iaload (pc' := 16) hC dX9_calls_15 rfl g9 ?_
    refine aw_iload_n (pc' := 17) (i := 1) hC dX9_calls_16 rfl rfl rfl ?_
    refine aw_iadd (pc' := 18) hC dX9_calls_17 rfl  ?_
    refine aw_sipush (pc' := 21) hC dX9_calls_18 rfl (by decide) ?_
    refine aw_icmp_le (tgt := 30) (pc' := 24) hC dX9_calls_21 (by decide) rfl (fun c10 => ?_) (fun c10 => ?_)
    · replace h := it_n c10 h
      refine aw_aload_n (pc' := 31) (i := 0) hC dX9_calls_30 rfl rfl rfl ?_
      obtain ⟨M12, q11, h⟩ := pb_s h
      replace h := u1_s h
      refine aw_cV (pc' := 34) (k2 := 0) (n2 := 0) (st := []) (stN := []) hC [] (mX9_keeps q11) lk_X9_502 g8 dX9_calls_31 rfl rfl (Nat.le_of_ble_eq_true rfl) (Nat.le_of_ble_eq_true rfl) (Nat.le_of_ble_eq_true rfl) rfl (Nat.le_of_ble_eq_true rfl) rfl rfl rfl ?_
      refine aw_iconst (pc' := 35) hC dX9_calls_34 rfl (by decide) ?_
      refine aw_istore_n (pc' := 36) (i := 2) (ls' := [some (.inr (.inr v0)), some (.inl v1), some (.inl 0), none, none, none]) hC dX9_calls_35 rfl rfl (Nat.le_of_ble_eq_true rfl) rfl rfl ?_
      refine aw_iconst (pc' := 37) hC dX9_calls_36 rfl (by decide) ?_
      refine aw_istore_n (pc' := 38) (i := 3) (ls' := [some (.inr (.inr v0)), some (.inl v1), some (.inl 0), some (.inl 0), none, none]) hC dX9_calls_37 rfl rfl (Nat.le_of_ble_eq_true rfl) rfl rfl ?_
      obtain ⟨tq38, q38, h⟩ := pb_s h
      refine aw_sub hC [some (.inr (.inr v0)), some (.inl v1), some (.inl 0), some (.inl 0), none, none] ⟨rfl, ⟨rfl, ⟨rfl, ⟨rfl, trivial⟩⟩⟩⟩ (Nat.le_of_ble_eq_true rfl) ?_
      refine (lp_aw (p_X9_calls_L38 Γ sh v0 v1 (fin_ Γ 0 0 (some (.inl r)) sh M')) (x_X9_calls_L38 Γ sh v0 v1 (fin_ Γ 0 0 (some (.inl r)) sh M')) (w_X9_calls_L38 hC ) FU _ _ q38 ?_ : p_X9_calls_L38 Γ sh v0 v1 (fin_ Γ 0 0 (some (.inl r)) sh M') (0, 0, M12))
      obtain ⟨x39, M40⟩ := tq38
      replace h := u2_s h
      show AW Γ sh M40 0 0 146 [none, none, some (.inl x39), none, none, none] [] _
      refine aw_iload_n (pc' := 147) (i := 2) hC dX9_calls_146 rfl rfl rfl ?_
      cases h
      exact aw_iret hC dX9_calls_147 (Nat.le_of_ble_eq_true rfl) (Nat.le_of_ble_eq_true rfl)
    · replace h := it_p c10 h
      refine aw_aload_n (pc' := 25) (i := 0) hC dX9_calls_24 rfl rfl rfl ?_
      refine aw_iconst (pc' := 26) hC dX9_calls_25 rfl (by decide) ?_
      obtain ⟨⟨x42, M43⟩, q41, h⟩ := pb_s h
      replace h := u2_s h
      refine aw_cV (pc' := 29) (k2 := 0) (n2 := 0) (st := []) (stN := [.inl x42]) hC [.inl 4] (mX9_refuses q41) lk_X9_228 g8 dX9_calls_26 rfl rfl (Nat.le_of_ble_eq_true rfl) (Nat.le_of_ble_eq_true rfl) (Nat.le_of_ble_eq_true rfl) rfl (Nat.le_of_ble_eq_true rfl) rfl rfl rfl ?_
      cases h
      exact aw_iret hC dX9_calls_29 (Nat.le_of_ble_eq_true rfl) (Nat.le_of_ble_eq_true rfl)
-- CoinCircleModel.seed(I)Z
def fX9_seed (sh : AwS) (M : AwM) (v0 : Int) (v1 : Int) : Option (Int × AwM) :=
  (if v1 < 0 then gd_ (kd_ sh v0 = (0, 9)) (pb (fX9_refuses sh M v0 5) <| u2 fun (x7 : Int) (M8 : AwM) => ((if x7 < 0 then some (0, M8) else some (1, M8)))) else gd_ (kd_ sh v0 = (0, 9)) (bd_ (up_ M v0 55 v1) fun (M3 : AwM) => (some (1, M3))))
set_option maxRecDepth 100000 in
set_option maxHeartbeats 4000000 in
theorem mX9_seed {sh : AwS} {M : AwM} {v0 : Int} {v1 : Int} {r : Int} {M' : AwM} (h : fX9_seed sh M v0 v1 = some (r, M')) : AMet yX9_seed cX9_seed 2 (some .boolean) 2 0 0 [.inr (.inr v0), .inl v1] sh M (some (.inl r)) sh M' := by
  refine amet_of (by decide +kernel) (Nat.le_of_ble_eq_true rfl) (fun Γ hC => ?_)
  replace hC : AOK Γ RX9 cX9_seed 2 2 0 0 "seed" (some .boolean) := hC
  unfold fX9_seed at h
  refine aw_sub hC [some (.inr (.inr v0)), some (.inl v1)] ⟨rfl, ⟨rfl, trivial⟩⟩ (Nat.le_of_ble_eq_true rfl) ?_
  refine aw_iload_n (pc' := 1) (i := 1) hC dX9_seed_0 rfl rfl rfl ?_
  refine aw_if_ge (tgt := 18) (pc' := 4) hC dX9_seed_1 (by decide) rfl (fun c1 => ?_) (fun c1 => ?_)
  · replace h := it_n c1 h
    refine aw_aload_n (pc' := 19) (i := 0) hC dX9_seed_18 rfl rfl rfl ?_
    refine aw_iload_n (pc' := 20) (i := 1) hC dX9_seed_19 rfl rfl rfl ?_
    refine aw_i2l (pc' := 21) hC dX9_seed_20 rfl  ?_
    obtain ⟨g2, h⟩ := gd_s h
    obtain ⟨M3, e4, h⟩ := bd_s h
    refine aw_pf (pc' := 24) hC dX9_seed_21 rfl fp_X9_180 g2 rfl trivial e4 ?_
    refine aw_iconst (pc' := 25) hC dX9_seed_24 rfl (by decide) ?_
    cases h
    exact aw_zret hC (Or.inr rfl) dX9_seed_25 (Nat.le_of_ble_eq_true rfl) (Nat.le_of_ble_eq_true rfl)
  · replace h := it_p c1 h
    refine aw_aload_n (pc' := 5) (i := 0) hC dX9_seed_4 rfl rfl rfl ?_
    refine aw_iconst (pc' := 6) hC dX9_seed_5 rfl (by decide) ?_
    obtain ⟨g6, h⟩ := gd_s h
    obtain ⟨⟨x7, M8⟩, q5, h⟩ := pb_s h
    replace h := u2_s h
    refine aw_cV (pc' := 9) (k2 := 0) (n2 := 0) (st := []) (stN := [.inl x7]) hC [.inl 5] (mX9_refuses q5) lk_X9_228 g6 dX9_seed_6 rfl rfl (Nat.le_of_ble_eq_true rfl) (Nat.le_of_ble_eq_true rfl) (Nat.le_of_ble_eq_true rfl) rfl (Nat.le_of_ble_eq_true rfl) rfl rfl rfl ?_
    refine aw_if_lt (tgt := 16) (pc' := 12) hC dX9_seed_9 (by decide) rfl (fun c9 => ?_) (fun c9 => ?_)
    · replace h := it_p c9 h
      refine aw_iconst (pc' := 17) hC dX9_seed_16 rfl (by decide) ?_
      cases h
      exact aw_zret hC (Or.inl rfl) dX9_seed_17 (Nat.le_of_ble_eq_true rfl) (Nat.le_of_ble_eq_true rfl)
    · replace h := it_n c9 h
      refine aw_iconst (pc' := 13) hC dX9_seed_12 rfl (by decide) ?_
      refine aw_goto (tgt := 17) hC dX9_seed_13 (by decide) ?_
      cases h
      exact aw_zret hC (Or.inr rfl) dX9_seed_17 (Nat.le_of_ble_eq_true rfl) (Nat.le_of_ble_eq_true rfl)
-- CoinCircleModel.introduce(IIII)I
def fX9_introduce_J106_51 (sh : AwS) (M : AwM) (v0 : Int) (v1 : Int) (v2 : Int) (v3 : Int) (v4 : Int) (v5 : Int) (v7 : Int) (s0 : Int) : Option ((Int × Int × AwM) ⊕ (Int × AwM)) :=
  some (.inl ((or_ s0 0), (w32 (v7 + 1)), M))
def fX9_introduce_L51 (sh : AwS) (v0 : Int) (v1 : Int) (v2 : Int) (v3 : Int) (v4 : Int) (v5 : Int) (v6 : Int) (v7 : Int) (M : AwM) : Option ((Int × Int × AwM) ⊕ (Int × AwM)) :=
  gd_ (kd_ sh v0 = (0, 9)) (gd_ ((kd_ sh (M v0 16)).1 = 1 ∧ (0 : Int) ≤ (M v0 13) ∧ (M v0 13) < ((kd_ sh (M v0 16)).2 : Int)) ((if v7 < (M (M v0 16) (M v0 13)) then pb (fX9_has2 sh M v5 v7) <| u1 fun (x19 : Int) => ((if x19 = 0 then fX9_introduce_J106_51 sh M v0 v1 v2 v3 v4 v5 v7 v6 else pb (fX9_canPresent sh M v0 0 v7 v2) <| u1 fun (x22 : Int) => ((if x22 = 0 then fX9_introduce_J106_51 sh M v0 v1 v2 v3 v4 v5 v7 v6 else pb (fX9_wouldKnow sh M v0 0 v7 v2) <| u2 fun (x25 : Int) (M26 : AwM) => ((if x25 = 0 then fX9_introduce_J106_51 sh M26 v0 v1 v2 v3 v4 v5 v7 v6 else some (.inl ((or_ v6 (sl_ 1 v7)), (w32 (v7 + 1)), M26)))))))) else some (.inr (v6, M)))))
def p_X9_introduce_L51 (Γ : AwC) (sh : AwS) (v0 : Int) (v1 : Int) (v2 : Int) (v3 : Int) (v4 : Int) (v5 : Int) (Q : State → Prop) (s : Int × Int × AwM) : Prop := AW Γ sh (s.2.2) 0 0 51 [some (.inr (.inr v0)), some (.inl v1), some (.inl v2), some (.inl v3), some (.inl v4), some (.inl v5), some (.inl (s.1)), some (.inl (s.2.1)), none, none, none] [] Q
def x_X9_introduce_L51 (Γ : AwC) (sh : AwS) (v0 : Int) (v1 : Int) (v2 : Int) (v3 : Int) (v4 : Int) (v5 : Int) (Q : State → Prop) : (Int × AwM) → Prop := (fun (t : Int × AwM) => AW Γ sh (t.2) 0 0 116 [some (.inr (.inr v0)), some (.inl v1), some (.inl v2), some (.inl v3), some (.inl v4), none, some (.inl (t.1)), none, none, none, none] [] Q)
def fX9_introduce_J224_130 (sh : AwS) (M : AwM) (v0 : Int) (v3 : Int) (v4 : Int) (v6 : Int) (v7 : Int) (v8 : Int) (v9 : Int) (s0 : Int) : Option ((Int × Int) ⊕ (Int)) :=
  (if s0 = 0 then some (.inl (v8, (w32 (v9 + 1)))) else some (.inl (v9, (w32 (v9 + 1)))))
def fX9_introduce_J219_130 (sh : AwS) (M : AwM) (v0 : Int) (v3 : Int) (v4 : Int) (v6 : Int) (v7 : Int) (v8 : Int) (v9 : Int) : Option ((Int × Int) ⊕ (Int)) :=
  fX9_introduce_J224_130 sh M v0 v3 v4 v6 v7 v8 v9 1
def fX9_introduce_J223_130 (sh : AwS) (M : AwM) (v0 : Int) (v3 : Int) (v4 : Int) (v6 : Int) (v7 : Int) (v8 : Int) (v9 : Int) : Option ((Int × Int) ⊕ (Int)) :=
  fX9_introduce_J224_130 sh M v0 v3 v4 v6 v7 v8 v9 0
def fX9_introduce_L130 (sh : AwS) (M : AwM) (v0 : Int) (v3 : Int) (v4 : Int) (v6 : Int) (v7 : Int) (v8 : Int) (v9 : Int) : Option ((Int × Int) ⊕ (Int)) :=
  gd_ (kd_ sh v0 = (0, 9)) (gd_ ((kd_ sh (M v0 16)).1 = 1 ∧ (0 : Int) ≤ (M v0 13) ∧ (M v0 13) < ((kd_ sh (M v0 16)).2 : Int)) ((if v9 < (sl_ 1 (M (M v0 16) (M v0 13))) then (if (an_ v9 (xo_ v6 (-1))) = 0 then pb (fX9_worthAll sh M v0 v9) <| u1 fun (x38 : Int) => ((if (w32 (v7 + x38)) < v3 then some (.inl (v8, (w32 (v9 + 1)))) else (if v8 = (-1) then fX9_introduce_J219_130 sh M v0 v3 v4 v6 v7 v8 v9 else pb (fX9_bits sh M v9) <| u1 fun (x43 : Int) => (pb (fX9_bits sh M v8) <| u1 fun (x45 : Int) => ((if x43 < x45 then fX9_introduce_J219_130 sh M v0 v3 v4 v6 v7 v8 v9 else pb (fX9_bits sh M v9) <| u1 fun (x48 : Int) => (pb (fX9_bits sh M v8) <| u1 fun (x50 : Int) => ((if x48 = x50 then pb (fX9_worthAll sh M v0 v9) <| u1 fun (x53 : Int) => (pb (fX9_worthAll sh M v0 v8) <| u1 fun (x55 : Int) => ((if x55 < x53 then fX9_introduce_J219_130 sh M v0 v3 v4 v6 v7 v8 v9 else fX9_introduce_J223_130 sh M v0 v3 v4 v6 v7 v8 v9))) else fX9_introduce_J223_130 sh M v0 v3 v4 v6 v7 v8 v9))))))))) else some (.inl (v8, (w32 (v9 + 1))))) else some (.inr v8))))
def p_X9_introduce_L130 (Γ : AwC) (sh : AwS) (M : AwM) (v0 : Int) (v3 : Int) (v4 : Int) (v6 : Int) (v7 : Int) (Q : State → Prop) (s : Int × Int) : Prop := AW Γ sh M 0 0 130 [some (.inr (.inr v0)), none, none, some (.inl v3), some (.inl v4), none, some (.inl v6), some (.inl v7), some (.inl (s.1)), some (.inl (s.2)), none] [] Q
def x_X9_introduce_L130 (Γ : AwC) (sh : AwS) (M : AwM) (v0 : Int) (v3 : Int) (v4 : Int) (v6 : Int) (v7 : Int) (Q : State → Prop) : (Int) → Prop := (fun (t : Int) => AW Γ sh M 0 0 246 [some (.inr (.inr v0)), none, none, none, some (.inl v4), none, none, some (.inl v7), some (.inl (t)), none, none] [] Q)
def fX9_introduce (sh : AwS) (M : AwM) (v0 : Int) (v1 : Int) (v2 : Int) (v3 : Int) (v4 : Int) : Option (Int × AwM) :=
  gd_ (kd_ sh v0 = (0, 9)) (pb (fX9_isPerson sh M v0 v1) <| u1 fun (x3 : Int) => ((if x3 = 0 then some ((-1), M) else pb (fX9_isPerson sh M v0 v2) <| u1 fun (x6 : Int) => ((if x6 = 0 then some ((-1), M) else (if v1 = v2 then some ((-1), M) else (if v3 < 0 then some ((-1), M) else pb (fX9_is sh M v4 0 2) <| u1 fun (x11 : Int) => ((if x11 = 0 then some ((-1), M) else pb (fX9_heldBy sh M v0 0 v1) <| u1 fun (x14 : Int) => (pb (lp (u3 (fX9_introduce_L51 sh v0 v1 v2 v3 v4 x14)) FU (0, 0, M)) (u2 (fun (x29 : Int) (M30 : AwM) => pb (fX9_spends sh M30 v0 v1 v2) <| u1 fun (x32 : Int) => (pb (lp (u2 (fX9_introduce_L130 sh M30 v0 v3 v4 x29 x32)) FU ((-1), 0)) (u1 (fun (tq57 : Int) => (if tq57 = (-1) then some ((-1), M30) else (if v4 = 0 then pb (fX9_bits sh M30 tq57) <| u1 fun (x64 : Int) => (some (x64, M30)) else (if v4 = 1 then some (tq57, M30) else pb (fX9_worthAll sh M30 v0 tq57) <| u1 fun (x62 : Int) => (some ((w32 (x32 + x62)), M30))))))))))))))))))))
set_option maxRecDepth 100000 in
set_option maxHeartbeats 4000000 in
theorem w_X9_introduce_J106_51 {Γ : AwC} (hC : AOK Γ RX9 cX9_introduce 11 6 0 0 "introduce" (some .int)) {sh : AwS} {M : AwM} {v0 : Int} {v1 : Int} {v2 : Int} {v3 : Int} {v4 : Int} {v5 : Int} {v7 : Int} {s0 : Int} {Q : State → Prop} {r : (Int × Int × AwM) ⊕ (Int × AwM)} (h : fX9_introduce_J106_51 sh M v0 v1 v2 v3 v4 v5 v7 s0 = some r) (hL : ∀ s', r = .inl s' → p_X9_introduce_L51 Γ sh v0 v1 v2 v3 v4 v5 Q s') (hX : ∀ t, r = .inr t → x_X9_introduce_L51 Γ sh v0 v1 v2 v3 v4 v5 Q t) : AW Γ sh M 0 0 106 [some (.inr (.inr v0)), some (.inl v1), some (.inl v2), some (.inl v3), some (.inl v4), some (.inl v5), none, some (.inl v7), none, none, none] [.inl s0] Q := by
  unfold fX9_introduce_J106_51 at h
  refine aw_iconst (pc' := 107) hC dX9_introduce_106 rfl (by decide) ?_
  refine aw_ior (pc' := 108) hC dX9_introduce_107 rfl  ?_
  refine aw_istore (pc' := 110) (ls' := [some (.inr (.inr v0)), some (.inl v1), some (.inl v2), some (.inl v3), some (.inl v4), some (.inl v5), some (.inl (or_ s0 0)), some (.inl v7), none, none, none]) hC dX9_introduce_108 rfl (Nat.le_of_ble_eq_true rfl) rfl rfl ?_
  refine aw_iinc (pc' := 113) (ls' := [some (.inr (.inr v0)), some (.inl v1), some (.inl v2), some (.inl v3), some (.inl v4), some (.inl v5), some (.inl (or_ s0 0)), some (.inl (w32 (v7 + 1))), none, none, none]) hC dX9_introduce_110 rfl rfl rfl rfl ?_
  refine aw_goto (tgt := 51) hC dX9_introduce_113 (by decide) ?_
  refine aw_sub hC [some (.inr (.inr v0)), some (.inl v1), some (.inl v2), some (.inl v3), some (.inl v4), some (.inl v5), some (.inl (or_ s0 0)), some (.inl (w32 (v7 + 1))), none, none, none] ⟨rfl, ⟨rfl, ⟨rfl, ⟨rfl, ⟨rfl, ⟨rfl, ⟨rfl, ⟨rfl, trivial⟩⟩⟩⟩⟩⟩⟩⟩ (Nat.le_of_ble_eq_true rfl) ?_
  cases h
  exact hL _ rfl
set_option maxRecDepth 100000 in
set_option maxHeartbeats 4000000 in
theorem w_X9_introduce_L51 {Γ : AwC} (hC : AOK Γ RX9 cX9_introduce 11 6 0 0 "introduce" (some .int)) {sh : AwS} {v0 : Int} {v1 : Int} {v2 : Int} {v3 : Int} {v4 : Int} {v5 : Int} {Q : State → Prop} : ∀ s r, u3 (fX9_introduce_L51 sh v0 v1 v2 v3 v4 v5) s = some r → (∀ s', r = .inl s' → p_X9_introduce_L51 Γ sh v0 v1 v2 v3 v4 v5 Q s') → (∀ t, r = .inr t → x_X9_introduce_L51 Γ sh v0 v1 v2 v3 v4 v5 Q t) → p_X9_introduce_L51 Γ sh v0 v1 v2 v3 v4 v5 Q s := by
  intro s r h hL hX
  obtain ⟨v6, v7, M⟩ := s
  replace h := u3_s h
  unfold fX9_introduce_L51 at h
  show AW Γ sh M 0 0 51 [some (.inr (.inr v0)), some (.inl v1), some (.inl v2), some (.inl v3), some (.inl v4), some (.inl v5), some (.inl v6), some (.inl v7), none, none, none] [] Q
  refine aw_iload (pc' := 53) hC dX9_introduce_51 rfl rfl ?_
  refine aw_aload_n (pc' := 54) (i := 0) hC dX9_introduce_53 rfl rfl rfl ?_
  obtain ⟨g15, h⟩ := gd_s h
  refine aw_getfield (pc' := 57) (v := (.inr (.inr (M v0 16)))) hC dX9_introduce_54 rfl fl_X9_60 g15 rfl ?_
  refine aw_aload_n (pc' := 58) (i := 0) hC dX9_introduce_57 rfl rfl rfl ?_
  refine aw_getfield (pc' := 61) (v := (.inl (M v0 13))) hC dX9_introduce_58 rfl fl_X9_51 g15 rfl ?_
  obtain ⟨g16, h⟩ := gd_s h
  refine aw_iaload (pc' := 62) hC dX9_introduce_61 rfl g16 ?_
  refine aw_icmp_ge (tgt := 116) (pc' := 65) hC dX9_introduce_62 (by decide) rfl (fun c17 => ?_) (fun c17 => ?_)
  · replace h := it_n c17 h
    refine aw_sub hC [some (.inr (.inr v0)), some (.inl v1), some (.inl v2), some (.inl v3), some (.inl v4), none, some (.inl v6), none, none, none, none] ⟨rfl, ⟨rfl, ⟨rfl, ⟨rfl, ⟨rfl, ⟨rfl, trivial⟩⟩⟩⟩⟩⟩ (Nat.le_of_ble_eq_true rfl) ?_
    cases h
    exact hX _ rfl
  · replace h := it_p c17 h
    refine aw_iload (pc' := 67) hC dX9_introduce_65 rfl rfl ?_
    refine aw_iload (pc' := 69) hC dX9_introduce_67 rfl rfl ?_
    refine aw_iload (pc' := 71) hC dX9_introduce_69 rfl rfl ?_
    obtain ⟨x19, q18, h⟩ := pb_s h
    replace h := u1_s h
    refine aw_cS (pc' := 74) (k2 := 0) (n2 := 0) (st := [.inl v6]) (stN := [.inl x19, .inl v6]) hC [.inl v5, .inl v7] (mX9_has2 q18) lk_X9_373 dX9_introduce_71 rfl rfl (Nat.le_of_ble_eq_true rfl) (Nat.le_of_ble_eq_true rfl) (Nat.le_of_ble_eq_true rfl) rfl (Nat.le_of_ble_eq_true rfl) rfl rfl rfl ?_
    refine aw_if_eq (tgt := 106) (pc' := 77) hC dX9_introduce_74 (by decide) rfl (fun c20 => ?_) (fun c20 => ?_)
    · replace h := it_p c20 h
      refine aw_sub hC [some (.inr (.inr v0)), some (.inl v1), some (.inl v2), some (.inl v3), some (.inl v4), some (.inl v5), none, some (.inl v7), none, none, none] ⟨rfl, ⟨rfl, ⟨rfl, ⟨rfl, ⟨rfl, ⟨rfl, ⟨rfl, trivial⟩⟩⟩⟩⟩⟩⟩ (Nat.le_of_ble_eq_true rfl) ?_
      exact w_X9_introduce_J106_51 hC h hL hX
    · replace h := it_n c20 h
      refine aw_aload_n (pc' := 78) (i := 0) hC dX9_introduce_77 rfl rfl rfl ?_
      refine aw_iconst (pc' := 79) hC dX9_introduce_78 rfl (by decide) ?_
      refine aw_iload (pc' := 81) hC dX9_introduce_79 rfl rfl ?_
      refine aw_iload_n (pc' := 82) (i := 2) hC dX9_introduce_81 rfl rfl rfl ?_
      obtain ⟨x22, q21, h⟩ := pb_s h
      replace h := u1_s h
      refine aw_cV (pc' := 85) (k2 := 0) (n2 := 0) (st := [.inl v6]) (stN := [.inl x22, .inl v6]) hC [.inl 0, .inl v7, .inl v2] (mX9_canPresent q21) lk_X9_480 g15 dX9_introduce_82 rfl rfl (Nat.le_of_ble_eq_true rfl) (Nat.le_of_ble_eq_true rfl) (Nat.le_of_ble_eq_true rfl) rfl (Nat.le_of_ble_eq_true rfl) rfl rfl rfl ?_
      refine aw_if_eq (tgt := 106) (pc' := 88) hC dX9_introduce_85 (by decide) rfl (fun c23 => ?_) (fun c23 => ?_)
      · replace h := it_p c23 h
        refine aw_sub hC [some (.inr (.inr v0)), some (.inl v1), some (.inl v2), some (.inl v3), some (.inl v4), some (.inl v5), none, some (.inl v7), none, none, none] ⟨rfl, ⟨rfl, ⟨rfl, ⟨rfl, ⟨rfl, ⟨rfl, ⟨rfl, trivial⟩⟩⟩⟩⟩⟩⟩ (Nat.le_of_ble_eq_true rfl) ?_
        exact w_X9_introduce_J106_51 hC h hL hX
      · replace h := it_n c23 h
        refine aw_aload_n (pc' := 89) (i := 0) hC dX9_introduce_88 rfl rfl rfl ?_
        refine aw_iconst (pc' := 90) hC dX9_introduce_89 rfl (by decide) ?_
        refine aw_iload (pc' := 92) hC dX9_introduce_90 rfl rfl ?_
        refine aw_iload_n (pc' := 93) (i := 2) hC dX9_introduce_92 rfl rfl rfl ?_
        obtain ⟨⟨x25, M26⟩, q24, h⟩ := pb_s h
        replace h := u2_s h
        refine aw_cV (pc' := 96) (k2 := 0) (n2 := 0) (st := [.inl v6]) (stN := [.inl x25, .inl v6]) hC [.inl 0, .inl v7, .inl v2] (mX9_wouldKnow q24) lk_X9_483 g15 dX9_introduce_93 rfl rfl (Nat.le_of_ble_eq_true rfl) (Nat.le_of_ble_eq_true rfl) (Nat.le_of_ble_eq_true rfl) rfl (Nat.le_of_ble_eq_true rfl) rfl rfl rfl ?_
        refine aw_if_eq (tgt := 106) (pc' := 99) hC dX9_introduce_96 (by decide) rfl (fun c27 => ?_) (fun c27 => ?_)
        · replace h := it_p c27 h
          refine aw_sub hC [some (.inr (.inr v0)), some (.inl v1), some (.inl v2), some (.inl v3), some (.inl v4), some (.inl v5), none, some (.inl v7), none, none, none] ⟨rfl, ⟨rfl, ⟨rfl, ⟨rfl, ⟨rfl, ⟨rfl, ⟨rfl, trivial⟩⟩⟩⟩⟩⟩⟩ (Nat.le_of_ble_eq_true rfl) ?_
          exact w_X9_introduce_J106_51 hC h hL hX
        · replace h := it_n c27 h
          refine aw_iconst (pc' := 100) hC dX9_introduce_99 rfl (by decide) ?_
          refine aw_iload (pc' := 102) hC dX9_introduce_100 rfl rfl ?_
          refine aw_ishl (pc' := 103) hC dX9_introduce_102 rfl  ?_
          refine aw_goto (tgt := 107) hC dX9_introduce_103 (by decide) ?_
          refine aw_ior (pc' := 108) hC dX9_introduce_107 rfl  ?_
          refine aw_istore (pc' := 110) (ls' := [some (.inr (.inr v0)), some (.inl v1), some (.inl v2), some (.inl v3), some (.inl v4), some (.inl v5), some (.inl (or_ v6 (sl_ 1 v7))), some (.inl v7), none, none, none]) hC dX9_introduce_108 rfl (Nat.le_of_ble_eq_true rfl) rfl rfl ?_
          refine aw_iinc (pc' := 113) (ls' := [some (.inr (.inr v0)), some (.inl v1), some (.inl v2), some (.inl v3), some (.inl v4), some (.inl v5), some (.inl (or_ v6 (sl_ 1 v7))), some (.inl (w32 (v7 + 1))), none, none, none]) hC dX9_introduce_110 rfl rfl rfl rfl ?_
          refine aw_goto (tgt := 51) hC dX9_introduce_113 (by decide) ?_
          refine aw_sub hC [some (.inr (.inr v0)), some (.inl v1), some (.inl v2), some (.inl v3), some (.inl v4), some (.inl v5), some (.inl (or_ v6 (sl_ 1 v7))), some (.inl (w32 (v7 + 1))), none, none, none] ⟨rfl, ⟨rfl, ⟨rfl, ⟨rfl, ⟨rfl, ⟨rfl, ⟨rfl, ⟨rfl, trivial⟩⟩⟩⟩⟩⟩⟩⟩ (Nat.le_of_ble_eq_true rfl) ?_
          cases h
          exact hL _ rfl
set_option maxRecDepth 100000 in
set_option maxHeartbeats 4000000 in
theorem w_X9_introduce_J224_130 {Γ : AwC} (hC : AOK Γ RX9 cX9_introduce 11 6 0 0 "introduce" (some .int)) {sh : AwS} {M : AwM} {v0 : Int} {v3 : Int} {v4 : Int} {v6 : Int} {v7 : Int} {v8 : Int} {v9 : Int} {s0 : Int} {Q : State → Prop} {r : (Int × Int) ⊕ (Int)} (h : fX9_introduce_J224_130 sh M v0 v3 v4 v6 v7 v8 v9 s0 = some r) (hL : ∀ s', r = .inl s' → p_X9_introduce_L130 Γ sh M v0 v3 v4 v6 v7 Q s') (hX : ∀ t, r = .inr t → x_X9_introduce_L130 Γ sh M v0 v3 v4 v6 v7 Q t) : AW Γ sh M 0 0 224 [some (.inr (.inr v0)), none, none, some (.inl v3), some (.inl v4), none, some (.inl v6), some (.inl v7), some (.inl v8), some (.inl v9), none] [.inl s0] Q := by
  unfold fX9_introduce_J224_130 at h
  refine aw_istore (pc' := 226) (ls' := [some (.inr (.inr v0)), none, none, some (.inl v3), some (.inl v4), none, some (.inl v6), some (.inl v7), some (.inl v8), some (.inl v9), some (.inl s0)]) hC dX9_introduce_224 rfl (Nat.le_of_ble_eq_true rfl) rfl rfl ?_
  refine aw_iload (pc' := 228) hC dX9_introduce_226 rfl rfl ?_
  refine aw_if_eq (tgt := 236) (pc' := 231) hC dX9_introduce_228 (by decide) rfl (fun c41 => ?_) (fun c41 => ?_)
  · replace h := it_p c41 h
    refine aw_iload (pc' := 238) hC dX9_introduce_236 rfl rfl ?_
    refine aw_istore (pc' := 240) (ls' := [some (.inr (.inr v0)), none, none, some (.inl v3), some (.inl v4), none, some (.inl v6), some (.inl v7), some (.inl v8), some (.inl v9), some (.inl s0)]) hC dX9_introduce_238 rfl (Nat.le_of_ble_eq_true rfl) rfl rfl ?_
    refine aw_iinc (pc' := 243) (ls' := [some (.inr (.inr v0)), none, none, some (.inl v3), some (.inl v4), none, some (.inl v6), some (.inl v7), some (.inl v8), some (.inl (w32 (v9 + 1))), some (.inl s0)]) hC dX9_introduce_240 rfl rfl rfl rfl ?_
    refine aw_goto (tgt := 130) hC dX9_introduce_243 (by decide) ?_
    refine aw_sub hC [some (.inr (.inr v0)), none, none, some (.inl v3), some (.inl v4), none, some (.inl v6), some (.inl v7), some (.inl v8), some (.inl (w32 (v9 + 1))), none] ⟨rfl, ⟨rfl, ⟨rfl, ⟨rfl, ⟨rfl, ⟨rfl, ⟨rfl, trivial⟩⟩⟩⟩⟩⟩⟩ (Nat.le_of_ble_eq_true rfl) ?_
    cases h
    exact hL _ rfl
  · replace h := it_n c41 h
    refine aw_iload (pc' := 233) hC dX9_introduce_231 rfl rfl ?_
    refine aw_goto (tgt := 238) hC dX9_introduce_233 (by decide) ?_
    refine aw_istore (pc' := 240) (ls' := [some (.inr (.inr v0)), none, none, some (.inl v3), some (.inl v4), none, some (.inl v6), some (.inl v7), some (.inl v9), some (.inl v9), some (.inl s0)]) hC dX9_introduce_238 rfl (Nat.le_of_ble_eq_true rfl) rfl rfl ?_
    refine aw_iinc (pc' := 243) (ls' := [some (.inr (.inr v0)), none, none, some (.inl v3), some (.inl v4), none, some (.inl v6), some (.inl v7), some (.inl v9), some (.inl (w32 (v9 + 1))), some (.inl s0)]) hC dX9_introduce_240 rfl rfl rfl rfl ?_
    refine aw_goto (tgt := 130) hC dX9_introduce_243 (by decide) ?_
    refine aw_sub hC [some (.inr (.inr v0)), none, none, some (.inl v3), some (.inl v4), none, some (.inl v6), some (.inl v7), some (.inl v9), some (.inl (w32 (v9 + 1))), none] ⟨rfl, ⟨rfl, ⟨rfl, ⟨rfl, ⟨rfl, ⟨rfl, ⟨rfl, trivial⟩⟩⟩⟩⟩⟩⟩ (Nat.le_of_ble_eq_true rfl) ?_
    cases h
    exact hL _ rfl
set_option maxRecDepth 100000 in
set_option maxHeartbeats 4000000 in
theorem w_X9_introduce_J219_130 {Γ : AwC} (hC : AOK Γ RX9 cX9_introduce 11 6 0 0 "introduce" (some .int)) {sh : AwS} {M : AwM} {v0 : Int} {v3 : Int} {v4 : Int} {v6 : Int} {v7 : Int} {v8 : Int} {v9 : Int} {Q : State → Prop} {r : (Int × Int) ⊕ (Int)} (h : fX9_introduce_J219_130 sh M v0 v3 v4 v6 v7 v8 v9 = some r) (hL : ∀ s', r = .inl s' → p_X9_introduce_L130 Γ sh M v0 v3 v4 v6 v7 Q s') (hX : ∀ t, r = .inr t → x_X9_introduce_L130 Γ sh M v0 v3 v4 v6 v7 Q t) : AW Γ sh M 0 0 219 [some (.inr (.inr v0)), none, none, some (.inl v3), some (.inl v4), none, some (.inl v6), some (.inl v7), some (.inl v8), some (.inl v9), none] [] Q := by
  unfold fX9_introduce_J219_130 at h
  refine aw_iconst (pc' := 220) hC dX9_introduce_219 rfl (by decide) ?_
  refine aw_goto (tgt := 224) hC dX9_introduce_220 (by decide) ?_
  refine aw_sub hC [some (.inr (.inr v0)), none, none, some (.inl v3), some (.inl v4), none, some (.inl v6), some (.inl v7), some (.inl v8), some (.inl v9), none] ⟨rfl, ⟨rfl, ⟨rfl, ⟨rfl, ⟨rfl, ⟨rfl, ⟨rfl, trivial⟩⟩⟩⟩⟩⟩⟩ (Nat.le_of_ble_eq_true rfl) ?_
  exact w_X9_introduce_J224_130 hC h hL hX
set_option maxRecDepth 100000 in
set_option maxHeartbeats 4000000 in
theorem w_X9_introduce_J223_130 {Γ : AwC} (hC : AOK Γ RX9 cX9_introduce 11 6 0 0 "introduce" (some .int)) {sh : AwS} {M : AwM} {v0 : Int} {v3 : Int} {v4 : Int} {v6 : Int} {v7 : Int} {v8 : Int} {v9 : Int} {Q : State → Prop} {r : (Int × Int) ⊕ (Int)} (h : fX9_introduce_J223_130 sh M v0 v3 v4 v6 v7 v8 v9 = some r) (hL : ∀ s', r = .inl s' → p_X9_introduce_L130 Γ sh M v0 v3 v4 v6 v7 Q s') (hX : ∀ t, r = .inr t → x_X9_introduce_L130 Γ sh M v0 v3 v4 v6 v7 Q t) : AW Γ sh M 0 0 223 [some (.inr (.inr v0)), none, none, some (.inl v3), some (.inl v4), none, some (.inl v6), some (.inl v7), some (.inl v8), some (.inl v9), none] [] Q := by
  unfold fX9_introduce_J223_130 at h
  refine aw_iconst (pc' := 224) hC dX9_introduce_223 rfl (by decide) ?_
  refine aw_sub hC [some (.inr (.inr v0)), none, none, some (.inl v3), some (.inl v4), none, some (.inl v6), some (.inl v7), some (.inl v8), some (.inl v9), none] ⟨rfl, ⟨rfl, ⟨rfl, ⟨rfl, ⟨rfl, ⟨rfl, ⟨rfl, trivial⟩⟩⟩⟩⟩⟩⟩ (Nat.le_of_ble_eq_true rfl) ?_
  exact w_X9_introduce_J224_130 hC h hL hX
set_option maxRecDepth 100000 in
set_option maxHeartbeats 4000000 in
theorem w_X9_introduce_L130 {Γ : AwC} (hC : AOK Γ RX9 cX9_introduce 11 6 0 0 "introduce" (some .int)) {sh : AwS} {M : AwM} {v0 : Int} {v3 : Int} {v4 : Int} {v6 : Int} {v7 : Int} {Q : State → Prop} : ∀ s r, u2 (fX9_introduce_L130 sh M v0 v3 v4 v6 v7) s = some r → (∀ s', r = .inl s' → p_X9_introduce_L130 Γ sh M v0 v3 v4 v6 v7 Q s') → (∀ t, r = .inr t → x_X9_introduce_L130 Γ sh M v0 v3 v4 v6 v7 Q t) → p_X9_introduce_L130 Γ sh M v0 v3 v4 v6 v7 Q s := by
  intro s r h hL hX
  obtain ⟨v8, v9⟩ := s
  replace h := u2_s h
  unfold fX9_introduce_L130 at h
  show AW Γ sh M 0 0 130 [some (.inr (.inr v0)), none, none, some (.inl v3), some (.inl v4), none, some (.inl v6), some (.inl v7), some (.inl v8), some (.inl v9), none] [] Q
  refine aw_iload (pc' := 132) hC dX9_introduce_130 rfl rfl ?_
  refine aw_iconst (pc' := 133) hC dX9_introduce_132 rfl (by decide) ?_
  refine aw_aload_n (pc' := 134) (i := 0) hC dX9_introduce_133 rfl rfl rfl ?_
  obtain ⟨g33, h⟩ := gd_s h
  refine aw_getfield (pc' := 137) (v := (.inr (.inr (M v0 16)))) hC dX9_introduce_134 rfl fl_X9_60 g33 rfl ?_
  refine aw_aload_n (pc' := 138) (i := 0) hC dX9_introduce_137 rfl rfl rfl ?_
  refine aw_getfield (pc' := 141) (v := (.inl (M v0 13))) hC dX9_introduce_138 rfl fl_X9_51 g33 rfl ?_
  obtain ⟨g34, h⟩ := gd_s h
  refine aw_iaload (pc' := 142) hC dX9_introduce_141 rfl g34 ?_
  refine aw_ishl (pc' := 143) hC dX9_introduce_142 rfl  ?_
  refine aw_icmp_ge (tgt := 246) (pc' := 146) hC dX9_introduce_143 (by decide) rfl (fun c35 => ?_) (fun c35 => ?_)
  · replace h := it_n c35 h
    refine aw_sub hC [some (.inr (.inr v0)), none, none, none, some (.inl v4), none, none, some (.inl v7), some (.inl v8), none, none] ⟨rfl, ⟨rfl, ⟨rfl, ⟨rfl, trivial⟩⟩⟩⟩ (Nat.le_of_ble_eq_true rfl) ?_
    cases h
    exact hX _ rfl
  · replace h := it_p c35 h
    refine aw_iload (pc' := 148) hC dX9_introduce_146 rfl rfl ?_
    refine aw_iload (pc' := 150) hC dX9_introduce_148 rfl rfl ?_
    refine aw_iconst (pc' := 151) hC dX9_introduce_150 rfl (by decide) ?_
    refine aw_ixor (pc' := 152) hC dX9_introduce_151 rfl  ?_
    refine aw_iand (pc' := 153) hC dX9_introduce_152 rfl  ?_
    refine aw_if_ne (tgt := 240) (pc' := 156) hC dX9_introduce_153 (by decide) rfl (fun c36 => ?_) (fun c36 => ?_)
    · replace h := it_n c36 h
      refine aw_iinc (pc' := 243) (ls' := [some (.inr (.inr v0)), none, none, some (.inl v3), some (.inl v4), none, some (.inl v6), some (.inl v7), some (.inl v8), some (.inl (w32 (v9 + 1))), none]) hC dX9_introduce_240 rfl rfl rfl rfl ?_
      refine aw_goto (tgt := 130) hC dX9_introduce_243 (by decide) ?_
      refine aw_sub hC [some (.inr (.inr v0)), none, none, some (.inl v3), some (.inl v4), none, some (.inl v6), some (.inl v7), some (.inl v8), some (.inl (w32 (v9 + 1))), none] ⟨rfl, ⟨rfl, ⟨rfl, ⟨rfl, ⟨rfl, ⟨rfl, ⟨rfl, trivial⟩⟩⟩⟩⟩⟩⟩ (Nat.le_of_ble_eq_true rfl) ?_
      cases h
      exact hL _ rfl
    · replace h := it_p c36 h
      refine aw_iload (pc' := 158) hC dX9_introduce_156 rfl rfl ?_
      refine aw_aload_n (pc' := 159) (i := 0) hC dX9_introduce_158 rfl rfl rfl ?_
      refine aw_iload (pc' := 161) hC dX9_introduce_159 rfl rfl ?_
      obtain ⟨x38, q37, h⟩ := pb_s h
      replace h := u1_s h
      refine aw_cV (pc' := 164) (k2 := 0) (n2 := 0) (st := [.inl v7]) (stN := [.inl x38, .inl v7]) hC [.inl v9] (mX9_worthAll q37) lk_X9_474 g33 dX9_introduce_161 rfl rfl (Nat.le_of_ble_eq_true rfl) (Nat.le_of_ble_eq_true rfl) (Nat.le_of_ble_eq_true rfl) rfl (Nat.le_of_ble_eq_true rfl) rfl rfl rfl ?_
      refine aw_iadd (pc' := 165) hC dX9_introduce_164 rfl  ?_
      refine aw_iload_n (pc' := 166) (i := 3) hC dX9_introduce_165 rfl rfl rfl ?_
      refine aw_icmp_ge (tgt := 172) (pc' := 169) hC dX9_introduce_166 (by decide) rfl (fun c39 => ?_) (fun c39 => ?_)
      · replace h := it_n c39 h
        refine aw_iload (pc' := 174) hC dX9_introduce_172 rfl rfl ?_
        refine aw_iconst (pc' := 175) hC dX9_introduce_174 rfl (by decide) ?_
        refine aw_icmp_eq (tgt := 219) (pc' := 178) hC dX9_introduce_175 (by decide) rfl (fun c40 => ?_) (fun c40 => ?_)
        · replace h := it_p c40 h
          refine aw_sub hC [some (.inr (.inr v0)), none, none, some (.inl v3), some (.inl v4), none, some (.inl v6), some (.inl v7), some (.inl v8), some (.inl v9), none] ⟨rfl, ⟨rfl, ⟨rfl, ⟨rfl, ⟨rfl, ⟨rfl, ⟨rfl, trivial⟩⟩⟩⟩⟩⟩⟩ (Nat.le_of_ble_eq_true rfl) ?_
          exact w_X9_introduce_J219_130 hC h hL hX
        · replace h := it_n c40 h
          refine aw_iload (pc' := 180) hC dX9_introduce_178 rfl rfl ?_
          obtain ⟨x43, q42, h⟩ := pb_s h
          replace h := u1_s h
          refine aw_cS (pc' := 183) (k2 := 0) (n2 := 0) (st := []) (stN := [.inl x43]) hC [.inl v9] (mX9_bits q42) lk_X9_448 dX9_introduce_180 rfl rfl (Nat.le_of_ble_eq_true rfl) (Nat.le_of_ble_eq_true rfl) (Nat.le_of_ble_eq_true rfl) rfl (Nat.le_of_ble_eq_true rfl) rfl rfl rfl ?_
          refine aw_iload (pc' := 185) hC dX9_introduce_183 rfl rfl ?_
          obtain ⟨x45, q44, h⟩ := pb_s h
          replace h := u1_s h
          refine aw_cS (pc' := 188) (k2 := 0) (n2 := 0) (st := [.inl x43]) (stN := [.inl x45, .inl x43]) hC [.inl v8] (mX9_bits q44) lk_X9_448 dX9_introduce_185 rfl rfl (Nat.le_of_ble_eq_true rfl) (Nat.le_of_ble_eq_true rfl) (Nat.le_of_ble_eq_true rfl) rfl (Nat.le_of_ble_eq_true rfl) rfl rfl rfl ?_
          refine aw_icmp_lt (tgt := 219) (pc' := 191) hC dX9_introduce_188 (by decide) rfl (fun c46 => ?_) (fun c46 => ?_)
          · replace h := it_p c46 h
            refine aw_sub hC [some (.inr (.inr v0)), none, none, some (.inl v3), some (.inl v4), none, some (.inl v6), some (.inl v7), some (.inl v8), some (.inl v9), none] ⟨rfl, ⟨rfl, ⟨rfl, ⟨rfl, ⟨rfl, ⟨rfl, ⟨rfl, trivial⟩⟩⟩⟩⟩⟩⟩ (Nat.le_of_ble_eq_true rfl) ?_
            exact w_X9_introduce_J219_130 hC h hL hX
          · replace h := it_n c46 h
            refine aw_iload (pc' := 193) hC dX9_introduce_191 rfl rfl ?_
            obtain ⟨x48, q47, h⟩ := pb_s h
            replace h := u1_s h
            refine aw_cS (pc' := 196) (k2 := 0) (n2 := 0) (st := []) (stN := [.inl x48]) hC [.inl v9] (mX9_bits q47) lk_X9_448 dX9_introduce_193 rfl rfl (Nat.le_of_ble_eq_true rfl) (Nat.le_of_ble_eq_true rfl) (Nat.le_of_ble_eq_true rfl) rfl (Nat.le_of_ble_eq_true rfl) rfl rfl rfl ?_
            refine aw_iload (pc' := 198) hC dX9_introduce_196 rfl rfl ?_
            obtain ⟨x50, q49, h⟩ := pb_s h
            replace h := u1_s h
            refine aw_cS (pc' := 201) (k2 := 0) (n2 := 0) (st := [.inl x48]) (stN := [.inl x50, .inl x48]) hC [.inl v8] (mX9_bits q49) lk_X9_448 dX9_introduce_198 rfl rfl (Nat.le_of_ble_eq_true rfl) (Nat.le_of_ble_eq_true rfl) (Nat.le_of_ble_eq_true rfl) rfl (Nat.le_of_ble_eq_true rfl) rfl rfl rfl ?_
            refine aw_icmp_ne (tgt := 223) (pc' := 204) hC dX9_introduce_201 (by decide) rfl (fun c51 => ?_) (fun c51 => ?_)
            · replace h := it_n c51 h
              refine aw_sub hC [some (.inr (.inr v0)), none, none, some (.inl v3), some (.inl v4), none, some (.inl v6), some (.inl v7), some (.inl v8), some (.inl v9), none] ⟨rfl, ⟨rfl, ⟨rfl, ⟨rfl, ⟨rfl, ⟨rfl, ⟨rfl, trivial⟩⟩⟩⟩⟩⟩⟩ (Nat.le_of_ble_eq_true rfl) ?_
              exact w_X9_introduce_J223_130 hC h hL hX
            · replace h := it_p c51 h
              refine aw_aload_n (pc' := 205) (i := 0) hC dX9_introduce_204 rfl rfl rfl ?_
              refine aw_iload (pc' := 207) hC dX9_introduce_205 rfl rfl ?_
              obtain ⟨x53, q52, h⟩ := pb_s h
              replace h := u1_s h
              refine aw_cV (pc' := 210) (k2 := 0) (n2 := 0) (st := []) (stN := [.inl x53]) hC [.inl v9] (mX9_worthAll q52) lk_X9_474 g33 dX9_introduce_207 rfl rfl (Nat.le_of_ble_eq_true rfl) (Nat.le_of_ble_eq_true rfl) (Nat.le_of_ble_eq_true rfl) rfl (Nat.le_of_ble_eq_true rfl) rfl rfl rfl ?_
              refine aw_aload_n (pc' := 211) (i := 0) hC dX9_introduce_210 rfl rfl rfl ?_
              refine aw_iload (pc' := 213) hC dX9_introduce_211 rfl rfl ?_
              obtain ⟨x55, q54, h⟩ := pb_s h
              replace h := u1_s h
              refine aw_cV (pc' := 216) (k2 := 0) (n2 := 0) (st := [.inl x53]) (stN := [.inl x55, .inl x53]) hC [.inl v8] (mX9_worthAll q54) lk_X9_474 g33 dX9_introduce_213 rfl rfl (Nat.le_of_ble_eq_true rfl) (Nat.le_of_ble_eq_true rfl) (Nat.le_of_ble_eq_true rfl) rfl (Nat.le_of_ble_eq_true rfl) rfl rfl rfl ?_
              refine aw_icmp_le (tgt := 223) (pc' := 219) hC dX9_introduce_216 (by decide) rfl (fun c56 => ?_) (fun c56 => ?_)
              · replace h := it_n c56 h
                refine aw_sub hC [some (.inr (.inr v0)), none, none, some (.inl v3), some (.inl v4), none, some (.inl v6), some (.inl v7), some (.inl v8), some (.inl v9), none] ⟨rfl, ⟨rfl, ⟨rfl, ⟨rfl, ⟨rfl, ⟨rfl, ⟨rfl, trivial⟩⟩⟩⟩⟩⟩⟩ (Nat.le_of_ble_eq_true rfl) ?_
                exact w_X9_introduce_J223_130 hC h hL hX
              · replace h := it_p c56 h
                refine aw_sub hC [some (.inr (.inr v0)), none, none, some (.inl v3), some (.inl v4), none, some (.inl v6), some (.inl v7), some (.inl v8), some (.inl v9), none] ⟨rfl, ⟨rfl, ⟨rfl, ⟨rfl, ⟨rfl, ⟨rfl, ⟨rfl, trivial⟩⟩⟩⟩⟩⟩⟩ (Nat.le_of_ble_eq_true rfl) ?_
                exact w_X9_introduce_J219_130 hC h hL hX
      · replace h := it_p c39 h
        refine aw_goto (tgt := 240) hC dX9_introduce_169 (by decide) ?_
        refine aw_iinc (pc' := 243) (ls' := [some (.inr (.inr v0)), none, none, some (.inl v3), some (.inl v4), none, some (.inl v6), some (.inl v7), some (.inl v8), some (.inl (w32 (v9 + 1))), none]) hC dX9_introduce_240 rfl rfl rfl rfl ?_
        refine aw_goto (tgt := 130) hC dX9_introduce_243 (by decide) ?_
        refine aw_sub hC [some (.inr (.inr v0)), none, none, some (.inl v3), some (.inl v4), none, some (.inl v6), some (.inl v7), some (.inl v8), some (.inl (w32 (v9 + 1))), none] ⟨rfl, ⟨rfl, ⟨rfl, ⟨rfl, ⟨rfl, ⟨rfl, ⟨rfl, trivial⟩⟩⟩⟩⟩⟩⟩ (Nat.le_of_ble_eq_true rfl) ?_
        cases h
        exact hL _ rfl
set_option maxRecDepth 100000 in
set_option maxHeartbeats 4000000 in
theorem mX9_introduce {sh : AwS} {M : AwM} {v0 : Int} {v1 : Int} {v2 : Int} {v3 : Int} {v4 : Int} {r : Int} {M' : AwM} (h : fX9_introduce sh M v0 v1 v2 v3 v4 = some (r, M')) : AMet yX9_introduce cX9_introduce 11 (some .int) 6 0 0 [.inr (.inr v0), .inl v1, .inl v2, .inl v3, .inl v4] sh M (some (.inl r)) sh M' := by
  refine amet_of (by decide +kernel) (Nat.le_of_ble_eq_true rfl) (fun Γ hC => ?_)
  replace hC : AOK Γ RX9 cX9_introduce 11 6 0 0 "introduce" (some .int) := hC
  unfold fX9_introduce at h
  refine aw_sub hC [some (.inr (.inr v0)), some (.inl v1), some (.inl v2), some (.inl v3), some (.inl v4), none, none, none, none, none, none] ⟨rfl, ⟨rfl, ⟨rfl, ⟨rfl, ⟨rfl, trivial⟩⟩⟩⟩⟩ (Nat.le_of_ble_eq_true rfl) ?_
  refine aw_aload_n (pc' := 1) (i := 0) hC dX9_introduce_0 rfl rfl rfl ?_
  refine aw_iload_n (pc' := 2) (i := 1) hC dX9_introduce_1 rfl rfl rfl ?_
  obtain ⟨g2, h⟩ := gd_s h
  obtain ⟨x3, q1, h⟩ := pb_s h
  replace h := u1_s h
  refine aw_cV (pc' := 5) (k2 := 0) (n2 := 0) (st := []) (stN := [.inl x3]) hC [.inl v1] (mX9_isPerson q1) lk_X9_471 g2 dX9_introduce_2 rfl rfl (Nat.le_of_ble_eq_true rfl) (Nat.le_of_ble_eq_true rfl) (Nat.le_of_ble_eq_true rfl) rfl (Nat.le_of_ble_eq_true rfl) rfl rfl rfl ?_
  refine aw_if_eq (tgt := 35) (pc' := 8) hC dX9_introduce_5 (by decide) rfl (fun c4 => ?_) (fun c4 => ?_)
  · replace h := it_p c4 h
    refine aw_iconst (pc' := 36) hC dX9_introduce_35 rfl (by decide) ?_
    cases h
    exact aw_iret hC dX9_introduce_36 (Nat.le_of_ble_eq_true rfl) (Nat.le_of_ble_eq_true rfl)
  · replace h := it_n c4 h
    refine aw_aload_n (pc' := 9) (i := 0) hC dX9_introduce_8 rfl rfl rfl ?_
    refine aw_iload_n (pc' := 10) (i := 2) hC dX9_introduce_9 rfl rfl rfl ?_
    obtain ⟨x6, q5, h⟩ := pb_s h
    replace h := u1_s h
    refine aw_cV (pc' := 13) (k2 := 0) (n2 := 0) (st := []) (stN := [.inl x6]) hC [.inl v2] (mX9_isPerson q5) lk_X9_471 g2 dX9_introduce_10 rfl rfl (Nat.le_of_ble_eq_true rfl) (Nat.le_of_ble_eq_true rfl) (Nat.le_of_ble_eq_true rfl) rfl (Nat.le_of_ble_eq_true rfl) rfl rfl rfl ?_
    refine aw_if_eq (tgt := 35) (pc' := 16) hC dX9_introduce_13 (by decide) rfl (fun c7 => ?_) (fun c7 => ?_)
    · replace h := it_p c7 h
      refine aw_iconst (pc' := 36) hC dX9_introduce_35 rfl (by decide) ?_
      cases h
      exact aw_iret hC dX9_introduce_36 (Nat.le_of_ble_eq_true rfl) (Nat.le_of_ble_eq_true rfl)
    · replace h := it_n c7 h
      refine aw_iload_n (pc' := 17) (i := 1) hC dX9_introduce_16 rfl rfl rfl ?_
      refine aw_iload_n (pc' := 18) (i := 2) hC dX9_introduce_17 rfl rfl rfl ?_
      refine aw_icmp_eq (tgt := 35) (pc' := 21) hC dX9_introduce_18 (by decide) rfl (fun c8 => ?_) (fun c8 => ?_)
      · replace h := it_p c8 h
        refine aw_iconst (pc' := 36) hC dX9_introduce_35 rfl (by decide) ?_
        cases h
        exact aw_iret hC dX9_introduce_36 (Nat.le_of_ble_eq_true rfl) (Nat.le_of_ble_eq_true rfl)
      · replace h := it_n c8 h
        refine aw_iload_n (pc' := 22) (i := 3) hC dX9_introduce_21 rfl rfl rfl ?_
        refine aw_if_lt (tgt := 35) (pc' := 25) hC dX9_introduce_22 (by decide) rfl (fun c9 => ?_) (fun c9 => ?_)
        · replace h := it_p c9 h
          refine aw_iconst (pc' := 36) hC dX9_introduce_35 rfl (by decide) ?_
          cases h
          exact aw_iret hC dX9_introduce_36 (Nat.le_of_ble_eq_true rfl) (Nat.le_of_ble_eq_true rfl)
        · replace h := it_n c9 h
          refine aw_iload (pc' := 27) hC dX9_introduce_25 rfl rfl ?_
          refine aw_iconst (pc' := 28) hC dX9_introduce_27 rfl (by decide) ?_
          refine aw_iconst (pc' := 29) hC dX9_introduce_28 rfl (by decide) ?_
          obtain ⟨x11, q10, h⟩ := pb_s h
          replace h := u1_s h
          refine aw_cS (pc' := 32) (k2 := 0) (n2 := 0) (st := []) (stN := [.inl x11]) hC [.inl v4, .inl 0, .inl 2] (mX9_is q10) lk_X9_314 dX9_introduce_29 rfl rfl (Nat.le_of_ble_eq_true rfl) (Nat.le_of_ble_eq_true rfl) (Nat.le_of_ble_eq_true rfl) rfl (Nat.le_of_ble_eq_true rfl) rfl rfl rfl ?_
          refine aw_if_ne (tgt := 37) (pc' := 35) hC dX9_introduce_32 (by decide) rfl (fun c12 => ?_) (fun c12 => ?_)
          · replace h := it_n c12 h
            refine aw_aload_n (pc' := 38) (i := 0) hC dX9_introduce_37 rfl rfl rfl ?_
            refine aw_iconst (pc' := 39) hC dX9_introduce_38 rfl (by decide) ?_
            refine aw_iload_n (pc' := 40) (i := 1) hC dX9_introduce_39 rfl rfl rfl ?_
            obtain ⟨x14, q13, h⟩ := pb_s h
            replace h := u1_s h
            refine aw_cV (pc' := 43) (k2 := 0) (n2 := 0) (st := []) (stN := [.inl x14]) hC [.inl 0, .inl v1] (mX9_heldBy q13) lk_X9_451 g2 dX9_introduce_40 rfl rfl (Nat.le_of_ble_eq_true rfl) (Nat.le_of_ble_eq_true rfl) (Nat.le_of_ble_eq_true rfl) rfl (Nat.le_of_ble_eq_true rfl) rfl rfl rfl ?_
            refine aw_istore (pc' := 45) (ls' := [some (.inr (.inr v0)), some (.inl v1), some (.inl v2), some (.inl v3), some (.inl v4), some (.inl x14), none, none, none, none, none]) hC dX9_introduce_43 rfl (Nat.le_of_ble_eq_true rfl) rfl rfl ?_
            refine aw_iconst (pc' := 46) hC dX9_introduce_45 rfl (by decide) ?_
            refine aw_istore (pc' := 48) (ls' := [some (.inr (.inr v0)), some (.inl v1), some (.inl v2), some (.inl v3), some (.inl v4), some (.inl x14), some (.inl 0), none, none, none, none]) hC dX9_introduce_46 rfl (Nat.le_of_ble_eq_true rfl) rfl rfl ?_
            refine aw_iconst (pc' := 49) hC dX9_introduce_48 rfl (by decide) ?_
            refine aw_istore (pc' := 51) (ls' := [some (.inr (.inr v0)), some (.inl v1), some (.inl v2), some (.inl v3), some (.inl v4), some (.inl x14), some (.inl 0), some (.inl 0), none, none, none]) hC dX9_introduce_49 rfl (Nat.le_of_ble_eq_true rfl) rfl rfl ?_
            obtain ⟨tq28, q28, h⟩ := pb_s h
            refine aw_sub hC [some (.inr (.inr v0)), some (.inl v1), some (.inl v2), some (.inl v3), some (.inl v4), some (.inl x14), some (.inl 0), some (.inl 0), none, none, none] ⟨rfl, ⟨rfl, ⟨rfl, ⟨rfl, ⟨rfl, ⟨rfl, ⟨rfl, ⟨rfl, trivial⟩⟩⟩⟩⟩⟩⟩⟩ (Nat.le_of_ble_eq_true rfl) ?_
            refine (lp_aw (p_X9_introduce_L51 Γ sh v0 v1 v2 v3 v4 x14 (fin_ Γ 0 0 (some (.inl r)) sh M')) (x_X9_introduce_L51 Γ sh v0 v1 v2 v3 v4 x14 (fin_ Γ 0 0 (some (.inl r)) sh M')) (w_X9_introduce_L51 hC ) FU _ _ q28 ?_ : p_X9_introduce_L51 Γ sh v0 v1 v2 v3 v4 x14 (fin_ Γ 0 0 (some (.inl r)) sh M') (0, 0, M))
            obtain ⟨x29, M30⟩ := tq28
            replace h := u2_s h
            show AW Γ sh M30 0 0 116 [some (.inr (.inr v0)), some (.inl v1), some (.inl v2), some (.inl v3), some (.inl v4), none, some (.inl x29), none, none, none, none] [] _
            refine aw_aload_n (pc' := 117) (i := 0) hC dX9_introduce_116 rfl rfl rfl ?_
            refine aw_iload_n (pc' := 118) (i := 1) hC dX9_introduce_117 rfl rfl rfl ?_
            refine aw_iload_n (pc' := 119) (i := 2) hC dX9_introduce_118 rfl rfl rfl ?_
            obtain ⟨x32, q31, h⟩ := pb_s h
            replace h := u1_s h
            refine aw_cV (pc' := 122) (k2 := 0) (n2 := 0) (st := []) (stN := [.inl x32]) hC [.inl v1, .inl v2] (mX9_spends q31) lk_X9_492 g2 dX9_introduce_119 rfl rfl (Nat.le_of_ble_eq_true rfl) (Nat.le_of_ble_eq_true rfl) (Nat.le_of_ble_eq_true rfl) rfl (Nat.le_of_ble_eq_true rfl) rfl rfl rfl ?_
            refine aw_istore (pc' := 124) (ls' := [some (.inr (.inr v0)), some (.inl v1), some (.inl v2), some (.inl v3), some (.inl v4), none, some (.inl x29), some (.inl x32), none, none, none]) hC dX9_introduce_122 rfl (Nat.le_of_ble_eq_true rfl) rfl rfl ?_
            refine aw_iconst (pc' := 125) hC dX9_introduce_124 rfl (by decide) ?_
            refine aw_istore (pc' := 127) (ls' := [some (.inr (.inr v0)), some (.inl v1), some (.inl v2), some (.inl v3), some (.inl v4), none, some (.inl x29), some (.inl x32), some (.inl (-1)), none, none]) hC dX9_introduce_125 rfl (Nat.le_of_ble_eq_true rfl) rfl rfl ?_
            refine aw_iconst (pc' := 128) hC dX9_introduce_127 rfl (by decide) ?_
            refine aw_istore (pc' := 130) (ls' := [some (.inr (.inr v0)), some (.inl v1), some (.inl v2), some (.inl v3), some (.inl v4), none, some (.inl x29), some (.inl x32), some (.inl (-1)), some (.inl 0), none]) hC dX9_introduce_128 rfl (Nat.le_of_ble_eq_true rfl) rfl rfl ?_
            obtain ⟨tq57, q57, h⟩ := pb_s h
            refine aw_sub hC [some (.inr (.inr v0)), none, none, some (.inl v3), some (.inl v4), none, some (.inl x29), some (.inl x32), some (.inl (-1)), some (.inl 0), none] ⟨rfl, ⟨rfl, ⟨rfl, ⟨rfl, ⟨rfl, ⟨rfl, ⟨rfl, trivial⟩⟩⟩⟩⟩⟩⟩ (Nat.le_of_ble_eq_true rfl) ?_
            refine (lp_aw (p_X9_introduce_L130 Γ sh M30 v0 v3 v4 x29 x32 (fin_ Γ 0 0 (some (.inl r)) sh M')) (x_X9_introduce_L130 Γ sh M30 v0 v3 v4 x29 x32 (fin_ Γ 0 0 (some (.inl r)) sh M')) (w_X9_introduce_L130 hC ) FU _ _ q57 ?_ : p_X9_introduce_L130 Γ sh M30 v0 v3 v4 x29 x32 (fin_ Γ 0 0 (some (.inl r)) sh M') ((-1), 0))
            replace h := u1_s h
            show AW Γ sh M30 0 0 246 [some (.inr (.inr v0)), none, none, none, some (.inl v4), none, none, some (.inl x32), some (.inl tq57), none, none] [] _
            refine aw_iload (pc' := 248) hC dX9_introduce_246 rfl rfl ?_
            refine aw_iconst (pc' := 249) hC dX9_introduce_248 rfl (by decide) ?_
            refine aw_icmp_ne (tgt := 256) (pc' := 252) hC dX9_introduce_249 (by decide) rfl (fun c58 => ?_) (fun c58 => ?_)
            · replace h := it_n c58 h
              refine aw_iload (pc' := 258) hC dX9_introduce_256 rfl rfl ?_
              refine aw_if_ne (tgt := 269) (pc' := 261) hC dX9_introduce_258 (by decide) rfl (fun c59 => ?_) (fun c59 => ?_)
              · replace h := it_n c59 h
                refine aw_iload (pc' := 271) hC dX9_introduce_269 rfl rfl ?_
                refine aw_iconst (pc' := 272) hC dX9_introduce_271 rfl (by decide) ?_
                refine aw_icmp_ne (tgt := 280) (pc' := 275) hC dX9_introduce_272 (by decide) rfl (fun c60 => ?_) (fun c60 => ?_)
                · replace h := it_n c60 h
                  refine aw_iload (pc' := 282) hC dX9_introduce_280 rfl rfl ?_
                  refine aw_aload_n (pc' := 283) (i := 0) hC dX9_introduce_282 rfl rfl rfl ?_
                  refine aw_iload (pc' := 285) hC dX9_introduce_283 rfl rfl ?_
                  obtain ⟨x62, q61, h⟩ := pb_s h
                  replace h := u1_s h
                  refine aw_cV (pc' := 288) (k2 := 0) (n2 := 0) (st := [.inl x32]) (stN := [.inl x62, .inl x32]) hC [.inl tq57] (mX9_worthAll q61) lk_X9_474 g2 dX9_introduce_285 rfl rfl (Nat.le_of_ble_eq_true rfl) (Nat.le_of_ble_eq_true rfl) (Nat.le_of_ble_eq_true rfl) rfl (Nat.le_of_ble_eq_true rfl) rfl rfl rfl ?_
                  refine aw_iadd (pc' := 289) hC dX9_introduce_288 rfl  ?_
                  cases h
                  exact aw_iret hC dX9_introduce_289 (Nat.le_of_ble_eq_true rfl) (Nat.le_of_ble_eq_true rfl)
                · replace h := it_p c60 h
                  refine aw_iload (pc' := 277) hC dX9_introduce_275 rfl rfl ?_
                  refine aw_goto (tgt := 289) hC dX9_introduce_277 (by decide) ?_
                  cases h
                  exact aw_iret hC dX9_introduce_289 (Nat.le_of_ble_eq_true rfl) (Nat.le_of_ble_eq_true rfl)
              · replace h := it_p c59 h
                refine aw_iload (pc' := 263) hC dX9_introduce_261 rfl rfl ?_
                obtain ⟨x64, q63, h⟩ := pb_s h
                replace h := u1_s h
                refine aw_cS (pc' := 266) (k2 := 0) (n2 := 0) (st := []) (stN := [.inl x64]) hC [.inl tq57] (mX9_bits q63) lk_X9_448 dX9_introduce_263 rfl rfl (Nat.le_of_ble_eq_true rfl) (Nat.le_of_ble_eq_true rfl) (Nat.le_of_ble_eq_true rfl) rfl (Nat.le_of_ble_eq_true rfl) rfl rfl rfl ?_
                refine aw_goto (tgt := 289) hC dX9_introduce_266 (by decide) ?_
                cases h
                exact aw_iret hC dX9_introduce_289 (Nat.le_of_ble_eq_true rfl) (Nat.le_of_ble_eq_true rfl)
            · replace h := it_p c58 h
              refine aw_iconst (pc' := 253) hC dX9_introduce_252 rfl (by decide) ?_
              refine aw_goto (tgt := 289) hC dX9_introduce_253 (by decide) ?_
              cases h
              exact aw_iret hC dX9_introduce_289 (Nat.le_of_ble_eq_true rfl) (Nat.le_of_ble_eq_true rfl)
          · replace h := it_p c12 h
            refine aw_iconst (pc' := 36) hC dX9_introduce_35 rfl (by decide) ?_
            cases h
            exact aw_iret hC dX9_introduce_36 (Nat.le_of_ble_eq_true rfl) (Nat.le_of_ble_eq_true rfl)
