-- CoinCircleModel.holdsTest(IIIIII)Z
def fX9_holdsTest (sh : AwS) (M : AwM) (v0 : Int) (v1 : Int) (v2 : Int) (v3 : Int) (v4 : Int) (v5 : Int) (v6 : Int) : Option (Int × AwM) :=
  gd_ (kd_ sh v0 = (0, 9)) (gd_ ((kd_ sh (M v0 26)).1 = 1 ∧ (0 : Int) ≤ (M v0 13) ∧ (M v0 13) < ((kd_ sh (M v0 26)).2 : Int)) ((if (M (M v0 26) (M v0 13)) = (-1) then some (1, M) else pb (fX9_worthOf sh M v0 v1) <| u1 fun (x5 : Int) => (bd_ (up_ M v0 57 x5) fun (M6 : AwM) => (pb (fX9_rankOf sh M6 v0 v2) <| u1 fun (x9 : Int) => (bd_ (up_ M6 v0 58 x9) fun (M10 : AwM) => (pb (fX9_rankOf sh M10 v0 v3) <| u1 fun (x13 : Int) => (bd_ (up_ M10 v0 59 x13) fun (M14 : AwM) => (bd_ (up_ M14 v0 60 v4) fun (M16 : AwM) => (bd_ (up_ M16 v0 61 v6) fun (M18 : AwM) => (bd_ (up_ M18 v0 62 v5) fun (M20 : AwM) => (gd_ ((kd_ sh (M20 v0 26)).1 = 1 ∧ (0 : Int) ≤ (M20 v0 13) ∧ (M20 v0 13) < ((kd_ sh (M20 v0 26)).2 : Int)) (gd_ ((kd_ sh (M20 v0 27)).1 = 1 ∧ (0 : Int) ≤ (M20 v0 13) ∧ (M20 v0 13) < ((kd_ sh (M20 v0 27)).2 : Int)) (pb (fX9_reckons sh M20 v0 (M20 (M20 v0 26) (M20 v0 13)) (M20 (M20 v0 27) (M20 v0 13))) <| u2 fun (x25 : Int) (M26 : AwM) => ((if (cmp_ x25 1) = 0 then some (1, M26) else some (0, M26)))))))))))))))))
set_option maxRecDepth 100000 in
set_option maxHeartbeats 4000000 in
theorem mX9_holdsTest {sh : AwS} {M : AwM} {v0 : Int} {v1 : Int} {v2 : Int} {v3 : Int} {v4 : Int} {v5 : Int} {v6 : Int} {r : Int} {M' : AwM} (h : fX9_holdsTest sh M v0 v1 v2 v3 v4 v5 v6 = some (r, M')) : AMet yX9_holdsTest cX9_holdsTest 7 (some .boolean) 4 0 0 [.inr (.inr v0), .inl v1, .inl v2, .inl v3, .inl v4, .inl v5, .inl v6] sh M (some (.inl r)) sh M' := by
  refine amet_of (by decide +kernel) (Nat.le_of_ble_eq_true rfl) (fun Γ hC => ?_)
  replace hC : AOK Γ RX9 cX9_holdsTest 7 4 0 0 "holdsTest" (some .boolean) := hC
  unfold fX9_holdsTest at h
  refine aw_sub hC [some (.inr (.inr v0)), some (.inl v1), some (.inl v2), some (.inl v3), some (.inl v4), some (.inl v5), some (.inl v6)] ⟨rfl, ⟨rfl, ⟨rfl, ⟨rfl, ⟨rfl, ⟨rfl, ⟨rfl, trivial⟩⟩⟩⟩⟩⟩⟩ (Nat.le_of_ble_eq_true rfl) ?_
  refine aw_aload_n (pc' := 1) (i := 0) hC dX9_holdsTest_0 rfl rfl rfl ?_
  obtain ⟨g1, h⟩ := gd_s h
  refine aw_getfield (pc' := 4) (v := (.inr (.inr (M v0 26)))) hC dX9_holdsTest_1 rfl fl_X9_90 g1 rfl ?_
  refine aw_aload_n (pc' := 5) (i := 0) hC dX9_holdsTest_4 rfl rfl rfl ?_
  refine aw_getfield (pc' := 8) (v := (.inl (M v0 13))) hC dX9_holdsTest_5 rfl fl_X9_51 g1 rfl ?_
  obtain ⟨g2, h⟩ := gd_s h
  refine aw_iaload (pc' := 9) hC dX9_holdsTest_8 rfl g2 ?_
  refine aw_iconst (pc' := 10) hC dX9_holdsTest_9 rfl (by decide) ?_
  refine aw_icmp_ne (tgt := 15) (pc' := 13) hC dX9_holdsTest_10 (by decide) rfl (fun c3 => ?_) (fun c3 => ?_)
  · replace h := it_n c3 h
    refine aw_aload_n (pc' := 16) (i := 0) hC dX9_holdsTest_15 rfl rfl rfl ?_
    refine aw_aload_n (pc' := 17) (i := 0) hC dX9_holdsTest_16 rfl rfl rfl ?_
    refine aw_iload_n (pc' := 18) (i := 1) hC dX9_holdsTest_17 rfl rfl rfl ?_
    obtain ⟨x5, q4, h⟩ := pb_s h
    replace h := u1_s h
    refine aw_cV (pc' := 21) (k2 := 0) (n2 := 0) (st := [.inr (.inr v0)]) (stN := [.inl x5, .inr (.inr v0)]) hC [.inl v1] (mX9_worthOf q4) lk_X9_419 g1 dX9_holdsTest_18 rfl rfl (Nat.le_of_ble_eq_true rfl) (Nat.le_of_ble_eq_true rfl) (Nat.le_of_ble_eq_true rfl) rfl (Nat.le_of_ble_eq_true rfl) rfl rfl rfl ?_
    obtain ⟨M6, e7, h⟩ := bd_s h
    refine aw_pf (pc' := 24) hC dX9_holdsTest_21 rfl fp_X9_186 g1 rfl trivial e7 ?_
    refine aw_aload_n (pc' := 25) (i := 0) hC dX9_holdsTest_24 rfl rfl rfl ?_
    refine aw_aload_n (pc' := 26) (i := 0) hC dX9_holdsTest_25 rfl rfl rfl ?_
    refine aw_iload_n (pc' := 27) (i := 2) hC dX9_holdsTest_26 rfl rfl rfl ?_
    obtain ⟨x9, q8, h⟩ := pb_s h
    replace h := u1_s h
    refine aw_cV (pc' := 30) (k2 := 0) (n2 := 0) (st := [.inr (.inr v0)]) (stN := [.inl x9, .inr (.inr v0)]) hC [.inl v2] (mX9_rankOf q8) lk_X9_442 g1 dX9_holdsTest_27 rfl rfl (Nat.le_of_ble_eq_true rfl) (Nat.le_of_ble_eq_true rfl) (Nat.le_of_ble_eq_true rfl) rfl (Nat.le_of_ble_eq_true rfl) rfl rfl rfl ?_
    obtain ⟨M10, e11, h⟩ := bd_s h
    refine aw_pf (pc' := 33) hC dX9_holdsTest_30 rfl fp_X9_189 g1 rfl trivial e11 ?_
    refine aw_aload_n (pc' := 34) (i := 0) hC dX9_holdsTest_33 rfl rfl rfl ?_
    refine aw_aload_n (pc' := 35) (i := 0) hC dX9_holdsTest_34 rfl rfl rfl ?_
    refine aw_iload_n (pc' := 36) (i := 3) hC dX9_holdsTest_35 rfl rfl rfl ?_
    obtain ⟨x13, q12, h⟩ := pb_s h
    replace h := u1_s h
    refine aw_cV (pc' := 39) (k2 := 0) (n2 := 0) (st := [.inr (.inr v0)]) (stN := [.inl x13, .inr (.inr v0)]) hC [.inl v3] (mX9_rankOf q12) lk_X9_442 g1 dX9_holdsTest_36 rfl rfl (Nat.le_of_ble_eq_true rfl) (Nat.le_of_ble_eq_true rfl) (Nat.le_of_ble_eq_true rfl) rfl (Nat.le_of_ble_eq_true rfl) rfl rfl rfl ?_
    obtain ⟨M14, e15, h⟩ := bd_s h
    refine aw_pf (pc' := 42) hC dX9_holdsTest_39 rfl fp_X9_192 g1 rfl trivial e15 ?_
    refine aw_aload_n (pc' := 43) (i := 0) hC dX9_holdsTest_42 rfl rfl rfl ?_
    refine aw_iload (pc' := 45) hC dX9_holdsTest_43 rfl rfl ?_
    obtain ⟨M16, e17, h⟩ := bd_s h
    refine aw_pf (pc' := 48) hC dX9_holdsTest_45 rfl fp_X9_195 g1 rfl trivial e17 ?_
    refine aw_aload_n (pc' := 49) (i := 0) hC dX9_holdsTest_48 rfl rfl rfl ?_
    refine aw_iload (pc' := 51) hC dX9_holdsTest_49 rfl rfl ?_
    obtain ⟨M18, e19, h⟩ := bd_s h
    refine aw_pf (pc' := 54) hC dX9_holdsTest_51 rfl fp_X9_198 g1 rfl trivial e19 ?_
    refine aw_aload_n (pc' := 55) (i := 0) hC dX9_holdsTest_54 rfl rfl rfl ?_
    refine aw_iload (pc' := 57) hC dX9_holdsTest_55 rfl rfl ?_
    obtain ⟨M20, e21, h⟩ := bd_s h
    refine aw_pf (pc' := 60) hC dX9_holdsTest_57 rfl fp_X9_201 g1 rfl trivial e21 ?_
    refine aw_aload_n (pc' := 61) (i := 0) hC dX9_holdsTest_60 rfl rfl rfl ?_
    refine aw_aload_n (pc' := 62) (i := 0) hC dX9_holdsTest_61 rfl rfl rfl ?_
    refine aw_getfield (pc' := 65) (v := (.inr (.inr (M20 v0 26)))) hC dX9_holdsTest_62 rfl fl_X9_90 g1 rfl ?_
    refine aw_aload_n (pc' := 66) (i := 0) hC dX9_holdsTest_65 rfl rfl rfl ?_
    refine aw_getfield (pc' := 69) (v := (.inl (M20 v0 13))) hC dX9_holdsTest_66 rfl fl_X9_51 g1 rfl ?_
    obtain ⟨g22, h⟩ := gd_s h
    refine aw_iaload (pc' := 70) hC dX9_holdsTest_69 rfl g22 ?_
    refine aw_aload_n (pc' := 71) (i := 0) hC dX9_holdsTest_70 rfl rfl rfl ?_
    refine aw_getfield (pc' := 74) (v := (.inr (.inr (M20 v0 27)))) hC dX9_holdsTest_71 rfl fl_X9_93 g1 rfl ?_
    refine aw_aload_n (pc' := 75) (i := 0) hC dX9_holdsTest_74 rfl rfl rfl ?_
    refine aw_getfield (pc' := 78) (v := (.inl (M20 v0 13))) hC dX9_holdsTest_75 rfl fl_X9_51 g1 rfl ?_
    obtain ⟨g23, h⟩ := gd_s h
    refine aw_iaload (pc' := 79) hC dX9_holdsTest_78 rfl g23 ?_
    obtain ⟨⟨x25, M26⟩, q24, h⟩ := pb_s h
    replace h := u2_s h
    refine aw_cV (pc' := 82) (k2 := 0) (n2 := 0) (st := []) (stN := [.inr (.inl x25)]) hC [.inl (M20 (M20 v0 26) (M20 v0 13)), .inl (M20 (M20 v0 27) (M20 v0 13))] (mX9_reckons q24) lk_X9_445 g1 dX9_holdsTest_79 rfl rfl (Nat.le_of_ble_eq_true rfl) (Nat.le_of_ble_eq_true rfl) (Nat.le_of_ble_eq_true rfl) rfl (Nat.le_of_ble_eq_true rfl) rfl rfl rfl ?_
    refine aw_lconst (pc' := 83) (v := 1) hC dX9_holdsTest_82 rfl rfl (by decide) ?_
    refine aw_lcmp (pc' := 84) hC dX9_holdsTest_83 rfl  ?_
    refine aw_if_ne (tgt := 91) (pc' := 87) hC dX9_holdsTest_84 (by decide) rfl (fun c27 => ?_) (fun c27 => ?_)
    · replace h := it_n c27 h
      refine aw_iconst (pc' := 92) hC dX9_holdsTest_91 rfl (by decide) ?_
      cases h
      exact aw_zret hC (Or.inl rfl) dX9_holdsTest_92 (Nat.le_of_ble_eq_true rfl) (Nat.le_of_ble_eq_true rfl)
    · replace h := it_p c27 h
      refine aw_iconst (pc' := 88) hC dX9_holdsTest_87 rfl (by decide) ?_
      refine aw_goto (tgt := 92) hC dX9_holdsTest_88 (by decide) ?_
      cases h
      exact aw_zret hC (Or.inr rfl) dX9_holdsTest_92 (Nat.le_of_ble_eq_true rfl) (Nat.le_of_ble_eq_true rfl)
  · replace h := it_p c3 h
    refine aw_iconst (pc' := 14) hC dX9_holdsTest_13 rfl (by decide) ?_
    cases h
    exact aw_zret hC (Or.inr rfl) dX9_holdsTest_14 (Nat.le_of_ble_eq_true rfl) (Nat.le_of_ble_eq_true rfl)
-- CoinCircleModel.wouldKnow(III)Z
def fX9_wouldKnow (sh : AwS) (M : AwM) (v0 : Int) (v1 : Int) (v2 : Int) (v3 : Int) : Option (Int × AwM) :=
  gd_ (kd_ sh v0 = (0, 9)) (gd_ ((kd_ sh (M v0 49)).1 = 1 ∧ (0 : Int) ≤ (w32 ((w32 (12 * v1)) + v2)) ∧ (w32 ((w32 (12 * v1)) + v2)) < ((kd_ sh (M v0 49)).2 : Int)) (gd_ ((kd_ sh (M v0 50)).1 = 1 ∧ (0 : Int) ≤ (w32 ((w32 (12 * v1)) + v2)) ∧ (w32 ((w32 (12 * v1)) + v2)) < ((kd_ sh (M v0 50)).2 : Int)) (pb (fX9_bits sh M (M (M v0 50) (w32 ((w32 (12 * v1)) + v2)))) <| u1 fun (x5 : Int) => (pb (fX9_heldBy sh M v0 v1 (M (M v0 49) (w32 ((w32 (12 * v1)) + v2)))) <| u1 fun (x7 : Int) => (pb (fX9_bits sh M x7) <| u1 fun (x9 : Int) => (gd_ ((kd_ sh (M v0 48)).1 = 1 ∧ (0 : Int) ≤ v1 ∧ v1 < ((kd_ sh (M v0 48)).2 : Int)) (pb (fX9_holdsTest sh M v0 v2 (M (M v0 49) (w32 ((w32 (12 * v1)) + v2))) v3 x5 x9 (M (M v0 48) v1)) <| u2 fun (x12 : Int) (M13 : AwM) => (gd_ (x12 = 0 ∨ x12 = 1) (some (x12, M13))))))))))
set_option maxRecDepth 100000 in
set_option maxHeartbeats 4000000 in
theorem mX9_wouldKnow {sh : AwS} {M : AwM} {v0 : Int} {v1 : Int} {v2 : Int} {v3 : Int} {r : Int} {M' : AwM} (h : fX9_wouldKnow sh M v0 v1 v2 v3 = some (r, M')) : AMet yX9_wouldKnow cX9_wouldKnow 5 (some .boolean) 5 0 0 [.inr (.inr v0), .inl v1, .inl v2, .inl v3] sh M (some (.inl r)) sh M' := by
  refine amet_of (by decide +kernel) (Nat.le_of_ble_eq_true rfl) (fun Γ hC => ?_)
  replace hC : AOK Γ RX9 cX9_wouldKnow 5 5 0 0 "wouldKnow" (some .boolean) := hC
  unfold fX9_wouldKnow at h
  refine aw_sub hC [some (.inr (.inr v0)), some (.inl v1), some (.inl v2), some (.inl v3), none] ⟨rfl, ⟨rfl, ⟨rfl, ⟨rfl, trivial⟩⟩⟩⟩ (Nat.le_of_ble_eq_true rfl) ?_
  refine aw_aload_n (pc' := 1) (i := 0) hC dX9_wouldKnow_0 rfl rfl rfl ?_
  obtain ⟨g1, h⟩ := gd_s h
  refine aw_getfield (pc' := 4) (v := (.inr (.inr (M v0 49)))) hC dX9_wouldKnow_1 rfl fl_X9_162 g1 rfl ?_
  refine aw_bipush (pc' := 6) hC dX9_wouldKnow_4 rfl (by decide) ?_
  refine aw_iload_n (pc' := 7) (i := 1) hC dX9_wouldKnow_6 rfl rfl rfl ?_
  refine aw_imul (pc' := 8) hC dX9_wouldKnow_7 rfl  ?_
  refine aw_iload_n (pc' := 9) (i := 2) hC dX9_wouldKnow_8 rfl rfl rfl ?_
  refine aw_iadd (pc' := 10) hC dX9_wouldKnow_9 rfl  ?_
  obtain ⟨g2, h⟩ := gd_s h
  refine aw_iaload (pc' := 11) hC dX9_wouldKnow_10 rfl g2 ?_
  refine aw_istore (pc' := 13) (ls' := [some (.inr (.inr v0)), some (.inl v1), some (.inl v2), some (.inl v3), some (.inl (M (M v0 49) (w32 ((w32 (12 * v1)) + v2))))]) hC dX9_wouldKnow_11 rfl (Nat.le_of_ble_eq_true rfl) rfl rfl ?_
  refine aw_aload_n (pc' := 14) (i := 0) hC dX9_wouldKnow_13 rfl rfl rfl ?_
  refine aw_iload_n (pc' := 15) (i := 2) hC dX9_wouldKnow_14 rfl rfl rfl ?_
  refine aw_iload (pc' := 17) hC dX9_wouldKnow_15 rfl rfl ?_
  refine aw_iload_n (pc' := 18) (i := 3) hC dX9_wouldKnow_17 rfl rfl rfl ?_
  refine aw_aload_n (pc' := 19) (i := 0) hC dX9_wouldKnow_18 rfl rfl rfl ?_
  refine aw_getfield (pc' := 22) (v := (.inr (.inr (M v0 50)))) hC dX9_wouldKnow_19 rfl fl_X9_165 g1 rfl ?_
  refine aw_bipush (pc' := 24) hC dX9_wouldKnow_22 rfl (by decide) ?_
  refine aw_iload_n (pc' := 25) (i := 1) hC dX9_wouldKnow_24 rfl rfl rfl ?_
  refine aw_imul (pc' := 26) hC dX9_wouldKnow_25 rfl  ?_
  refine aw_iload_n (pc' := 27) (i := 2) hC dX9_wouldKnow_26 rfl rfl rfl ?_
  refine aw_iadd (pc' := 28) hC dX9_wouldKnow_27 rfl  ?_
  obtain ⟨g3, h⟩ := gd_s h
  refine aw_iaload (pc' := 29) hC dX9_wouldKnow_28 rfl g3 ?_
  obtain ⟨x5, q4, h⟩ := pb_s h
  replace h := u1_s h
  refine aw_cS (pc' := 32) (k2 := 0) (n2 := 0) (st := [.inl v3, .inl (M (M v0 49) (w32 ((w32 (12 * v1)) + v2))), .inl v2, .inr (.inr v0)]) (stN := [.inl x5, .inl v3, .inl (M (M v0 49) (w32 ((w32 (12 * v1)) + v2))), .inl v2, .inr (.inr v0)]) hC [.inl (M (M v0 50) (w32 ((w32 (12 * v1)) + v2)))] (mX9_bits q4) lk_X9_448 dX9_wouldKnow_29 rfl rfl (Nat.le_of_ble_eq_true rfl) (Nat.le_of_ble_eq_true rfl) (Nat.le_of_ble_eq_true rfl) rfl (Nat.le_of_ble_eq_true rfl) rfl rfl rfl ?_
  refine aw_aload_n (pc' := 33) (i := 0) hC dX9_wouldKnow_32 rfl rfl rfl ?_
  refine aw_iload_n (pc' := 34) (i := 1) hC dX9_wouldKnow_33 rfl rfl rfl ?_
  refine aw_iload (pc' := 36) hC dX9_wouldKnow_34 rfl rfl ?_
  obtain ⟨x7, q6, h⟩ := pb_s h
  replace h := u1_s h
  refine aw_cV (pc' := 39) (k2 := 0) (n2 := 0) (st := [.inl x5, .inl v3, .inl (M (M v0 49) (w32 ((w32 (12 * v1)) + v2))), .inl v2, .inr (.inr v0)]) (stN := [.inl x7, .inl x5, .inl v3, .inl (M (M v0 49) (w32 ((w32 (12 * v1)) + v2))), .inl v2, .inr (.inr v0)]) hC [.inl v1, .inl (M (M v0 49) (w32 ((w32 (12 * v1)) + v2)))] (mX9_heldBy q6) lk_X9_451 g1 dX9_wouldKnow_36 rfl rfl (Nat.le_of_ble_eq_true rfl) (Nat.le_of_ble_eq_true rfl) (Nat.le_of_ble_eq_true rfl) rfl (Nat.le_of_ble_eq_true rfl) rfl rfl rfl ?_
  obtain ⟨x9, q8, h⟩ := pb_s h
  replace h := u1_s h
  refine aw_cS (pc' := 42) (k2 := 0) (n2 := 0) (st := [.inl x5, .inl v3, .inl (M (M v0 49) (w32 ((w32 (12 * v1)) + v2))), .inl v2, .inr (.inr v0)]) (stN := [.inl x9, .inl x5, .inl v3, .inl (M (M v0 49) (w32 ((w32 (12 * v1)) + v2))), .inl v2, .inr (.inr v0)]) hC [.inl x7] (mX9_bits q8) lk_X9_448 dX9_wouldKnow_39 rfl rfl (Nat.le_of_ble_eq_true rfl) (Nat.le_of_ble_eq_true rfl) (Nat.le_of_ble_eq_true rfl) rfl (Nat.le_of_ble_eq_true rfl) rfl rfl rfl ?_
  refine aw_aload_n (pc' := 43) (i := 0) hC dX9_wouldKnow_42 rfl rfl rfl ?_
  refine aw_getfield (pc' := 46) (v := (.inr (.inr (M v0 48)))) hC dX9_wouldKnow_43 rfl fl_X9_159 g1 rfl ?_
  refine aw_iload_n (pc' := 47) (i := 1) hC dX9_wouldKnow_46 rfl rfl rfl ?_
  obtain ⟨g10, h⟩ := gd_s h
  refine aw_iaload (pc' := 48) hC dX9_wouldKnow_47 rfl g10 ?_
  obtain ⟨⟨x12, M13⟩, q11, h⟩ := pb_s h
  replace h := u2_s h
  refine aw_cV (pc' := 51) (k2 := 0) (n2 := 0) (st := []) (stN := [.inl x12]) hC [.inl v2, .inl (M (M v0 49) (w32 ((w32 (12 * v1)) + v2))), .inl v3, .inl x5, .inl x9, .inl (M (M v0 48) v1)] (mX9_holdsTest q11) lk_X9_454 g1 dX9_wouldKnow_48 rfl rfl (Nat.le_of_ble_eq_true rfl) (Nat.le_of_ble_eq_true rfl) (Nat.le_of_ble_eq_true rfl) rfl (Nat.le_of_ble_eq_true rfl) rfl rfl rfl ?_
  obtain ⟨g14, h⟩ := gd_s h
  cases h
  exact aw_zret hC g14 dX9_wouldKnow_51 (Nat.le_of_ble_eq_true rfl) (Nat.le_of_ble_eq_true rfl)
-- CoinCircleModel.canPresent(III)Z
def fX9_canPresent (sh : AwS) (M : AwM) (v0 : Int) (v1 : Int) (v2 : Int) (v3 : Int) : Option Int :=
  gd_ (kd_ sh v0 = (0, 9)) (gd_ ((kd_ sh (M v0 50)).1 = 1 ∧ (0 : Int) ≤ (w32 ((w32 (12 * v1)) + v2)) ∧ (w32 ((w32 (12 * v1)) + v2)) < ((kd_ sh (M v0 50)).2 : Int)) (gd_ ((kd_ sh (M v0 51)).1 = 1 ∧ (0 : Int) ≤ (w32 ((w32 (12 * v1)) + v2)) ∧ (w32 ((w32 (12 * v1)) + v2)) < ((kd_ sh (M v0 51)).2 : Int)) (pb (fX9_has2 sh M (or_ (M (M v0 50) (w32 ((w32 (12 * v1)) + v2))) (M (M v0 51) (w32 ((w32 (12 * v1)) + v2)))) v3) <| u1 fun (x5 : Int) => ((if x5 = 0 then some 1 else some 0)))))
set_option maxRecDepth 100000 in
set_option maxHeartbeats 4000000 in
theorem mX9_canPresent {sh : AwS} {M : AwM} {v0 : Int} {v1 : Int} {v2 : Int} {v3 : Int} {r : Int} (h : fX9_canPresent sh M v0 v1 v2 v3 = some r) : AMet yX9_canPresent cX9_canPresent 4 (some .boolean) 2 0 0 [.inr (.inr v0), .inl v1, .inl v2, .inl v3] sh M (some (.inl r)) sh M := by
  refine amet_of (by decide +kernel) (Nat.le_of_ble_eq_true rfl) (fun Γ hC => ?_)
  replace hC : AOK Γ RX9 cX9_canPresent 4 2 0 0 "canPresent" (some .boolean) := hC
  unfold fX9_canPresent at h
  refine aw_sub hC [some (.inr (.inr v0)), some (.inl v1), some (.inl v2), some (.inl v3)] ⟨rfl, ⟨rfl, ⟨rfl, ⟨rfl, trivial⟩⟩⟩⟩ (Nat.le_of_ble_eq_true rfl) ?_
  refine aw_aload_n (pc' := 1) (i := 0) hC dX9_canPresent_0 rfl rfl rfl ?_
  obtain ⟨g1, h⟩ := gd_s h
  refine aw_getfield (pc' := 4) (v := (.inr (.inr (M v0 50)))) hC dX9_canPresent_1 rfl fl_X9_165 g1 rfl ?_
  refine aw_bipush (pc' := 6) hC dX9_canPresent_4 rfl (by decide) ?_
  refine aw_iload_n (pc' := 7) (i := 1) hC dX9_canPresent_6 rfl rfl rfl ?_
  refine aw_imul (pc' := 8) hC dX9_canPresent_7 rfl  ?_
  refine aw_iload_n (pc' := 9) (i := 2) hC dX9_canPresent_8 rfl rfl rfl ?_
  refine aw_iadd (pc' := 10) hC dX9_canPresent_9 rfl  ?_
  obtain ⟨g2, h⟩ := gd_s h
  refine aw_iaload (pc' := 11) hC dX9_canPresent_10 rfl g2 ?_
  refine aw_aload_n (pc' := 12) (i := 0) hC dX9_canPresent_11 rfl rfl rfl ?_
  refine aw_getfield (pc' := 15) (v := (.inr (.inr (M v0 51)))) hC dX9_canPresent_12 rfl fl_X9_168 g1 rfl ?_
  refine aw_bipush (pc' := 17) hC dX9_canPresent_15 rfl (by decide) ?_
  refine aw_iload_n (pc' := 18) (i := 1) hC dX9_canPresent_17 rfl rfl rfl ?_
  refine aw_imul (pc' := 19) hC dX9_canPresent_18 rfl  ?_
  refine aw_iload_n (pc' := 20) (i := 2) hC dX9_canPresent_19 rfl rfl rfl ?_
  refine aw_iadd (pc' := 21) hC dX9_canPresent_20 rfl  ?_
  obtain ⟨g3, h⟩ := gd_s h
  refine aw_iaload (pc' := 22) hC dX9_canPresent_21 rfl g3 ?_
  refine aw_ior (pc' := 23) hC dX9_canPresent_22 rfl  ?_
  refine aw_iload_n (pc' := 24) (i := 3) hC dX9_canPresent_23 rfl rfl rfl ?_
  obtain ⟨x5, q4, h⟩ := pb_s h
  replace h := u1_s h
  refine aw_cS (pc' := 27) (k2 := 0) (n2 := 0) (st := []) (stN := [.inl x5]) hC [.inl (or_ (M (M v0 50) (w32 ((w32 (12 * v1)) + v2))) (M (M v0 51) (w32 ((w32 (12 * v1)) + v2)))), .inl v3] (mX9_has2 q4) lk_X9_373 dX9_canPresent_24 rfl rfl (Nat.le_of_ble_eq_true rfl) (Nat.le_of_ble_eq_true rfl) (Nat.le_of_ble_eq_true rfl) rfl (Nat.le_of_ble_eq_true rfl) rfl rfl rfl ?_
  refine aw_if_ne (tgt := 34) (pc' := 30) hC dX9_canPresent_27 (by decide) rfl (fun c6 => ?_) (fun c6 => ?_)
  · replace h := it_n c6 h
    refine aw_iconst (pc' := 35) hC dX9_canPresent_34 rfl (by decide) ?_
    cases h
    exact aw_zret hC (Or.inl rfl) dX9_canPresent_35 (Nat.le_of_ble_eq_true rfl) (Nat.le_of_ble_eq_true rfl)
  · replace h := it_p c6 h
    refine aw_iconst (pc' := 31) hC dX9_canPresent_30 rfl (by decide) ?_
    refine aw_goto (tgt := 35) hC dX9_canPresent_31 (by decide) ?_
    cases h
    exact aw_zret hC (Or.inr rfl) dX9_canPresent_35 (Nat.le_of_ble_eq_true rfl) (Nat.le_of_ble_eq_true rfl)
-- CoinCircleModel.priceFor(II)I
def fX9_priceFor (sh : AwS) (M : AwM) (v0 : Int) (v1 : Int) (v2 : Int) : Option (Int × AwM) :=
  gd_ (kd_ sh v0 = (0, 9)) (gd_ ((kd_ sh (M v0 22)).1 = 1 ∧ (0 : Int) ≤ (w32 ((w32 (10 * (M v0 13))) + v1)) ∧ (w32 ((w32 (10 * (M v0 13))) + v1)) < ((kd_ sh (M v0 22)).2 : Int)) (bd_ ((M (M v0 22) (w32 ((w32 (10 * (M v0 13))) + v1)))) fun (x3 : Int) => (gd_ ((kd_ sh (M v0 28)).1 = 1 ∧ (0 : Int) ≤ (M v0 13) ∧ (M v0 13) < ((kd_ sh (M v0 28)).2 : Int)) ((if (M (M v0 28) (M v0 13)) = (-1) then some (x3, M) else gd_ ((kd_ sh (M v0 23)).1 = 1 ∧ (0 : Int) ≤ (w32 ((w32 (10 * (M v0 13))) + v1)) ∧ (w32 ((w32 (10 * (M v0 13))) + v1)) < ((kd_ sh (M v0 23)).2 : Int)) (bd_ ((M (M v0 23) (w32 ((w32 (10 * (M v0 13))) + v1)))) fun (x8 : Int) => (bd_ (up_ M v0 57 x3) fun (M10 : AwM) => (pb (fX9_rankOf sh M10 v0 v2) <| u1 fun (x13 : Int) => (bd_ (up_ M10 v0 58 x13) fun (M14 : AwM) => (pb (fX9_rankOf sh M14 v0 x8) <| u1 fun (x17 : Int) => (bd_ (up_ M14 v0 59 x17) fun (M18 : AwM) => (pb (fX9_heldBy sh M18 v0 0 v2) <| u1 fun (x21 : Int) => (pb (fX9_knowing sh M18 v0 0 x8) <| u1 fun (x23 : Int) => (pb (fX9_bits sh M18 (an_ x21 x23)) <| u1 fun (x25 : Int) => (bd_ (up_ M18 v0 60 x25) fun (M26 : AwM) => (gd_ ((kd_ sh (M26 v0 48)).1 = 1 ∧ (0 : Int) ≤ 0 ∧ 0 < ((kd_ sh (M26 v0 48)).2 : Int)) (bd_ (up_ M26 v0 61 (M26 (M26 v0 48) 0)) fun (M29 : AwM) => (pb (fX9_heldBy sh M29 v0 0 v2) <| u1 fun (x32 : Int) => (pb (fX9_bits sh M29 x32) <| u1 fun (x34 : Int) => (bd_ (up_ M29 v0 62 x34) fun (M35 : AwM) => (gd_ ((kd_ sh (M35 v0 28)).1 = 1 ∧ (0 : Int) ≤ (M35 v0 13) ∧ (M35 v0 13) < ((kd_ sh (M35 v0 28)).2 : Int)) (gd_ ((kd_ sh (M35 v0 29)).1 = 1 ∧ (0 : Int) ≤ (M35 v0 13) ∧ (M35 v0 13) < ((kd_ sh (M35 v0 29)).2 : Int)) (pb (fX9_reckons sh M35 v0 (M35 (M35 v0 28) (M35 v0 13)) (M35 (M35 v0 29) (M35 v0 13))) <| u2 fun (x40 : Int) (M41 : AwM) => ((if (cmp_ x40 0) < 0 then some (0, M41) else (if 0 < (cmp_ x40 999) then some (999, M41) else some ((w32 x40), M41)))))))))))))))))))))))))))
set_option maxRecDepth 100000 in
set_option maxHeartbeats 4000000 in
theorem mX9_priceFor {sh : AwS} {M : AwM} {v0 : Int} {v1 : Int} {v2 : Int} {r : Int} {M' : AwM} (h : fX9_priceFor sh M v0 v1 v2 = some (r, M')) : AMet yX9_priceFor cX9_priceFor 7 (some .int) 4 0 0 [.inr (.inr v0), .inl v1, .inl v2] sh M (some (.inl r)) sh M' := by
  refine amet_of (by decide +kernel) (Nat.le_of_ble_eq_true rfl) (fun Γ hC => ?_)
  replace hC : AOK Γ RX9 cX9_priceFor 7 4 0 0 "priceFor" (some .int) := hC
  unfold fX9_priceFor at h
  refine aw_sub hC [some (.inr (.inr v0)), some (.inl v1), some (.inl v2), none, none, none, none] ⟨rfl, ⟨rfl, ⟨rfl, trivial⟩⟩⟩ (Nat.le_of_ble_eq_true rfl) ?_
  refine aw_aload_n (pc' := 1) (i := 0) hC dX9_priceFor_0 rfl rfl rfl ?_
  obtain ⟨g1, h⟩ := gd_s h
  refine aw_getfield (pc' := 4) (v := (.inr (.inr (M v0 22)))) hC dX9_priceFor_1 rfl fl_X9_78 g1 rfl ?_
  refine aw_bipush (pc' := 6) hC dX9_priceFor_4 rfl (by decide) ?_
  refine aw_aload_n (pc' := 7) (i := 0) hC dX9_priceFor_6 rfl rfl rfl ?_
  refine aw_getfield (pc' := 10) (v := (.inl (M v0 13))) hC dX9_priceFor_7 rfl fl_X9_51 g1 rfl ?_
  refine aw_imul (pc' := 11) hC dX9_priceFor_10 rfl  ?_
  refine aw_iload_n (pc' := 12) (i := 1) hC dX9_priceFor_11 rfl rfl rfl ?_
  refine aw_iadd (pc' := 13) hC dX9_priceFor_12 rfl  ?_
  obtain ⟨g2, h⟩ := gd_s h
  refine aw_iaload (pc' := 14) hC dX9_priceFor_13 rfl g2 ?_
  obtain ⟨x3, e4, h⟩ := bd_s h
  refine aw_reni e4 ?_
  refine aw_istore_n (pc' := 15) (i := 3) (ls' := [some (.inr (.inr v0)), some (.inl v1), some (.inl v2), some (.inl x3), none, none, none]) hC dX9_priceFor_14 rfl rfl (Nat.le_of_ble_eq_true rfl) rfl rfl ?_
  refine aw_aload_n (pc' := 16) (i := 0) hC dX9_priceFor_15 rfl rfl rfl ?_
  refine aw_getfield (pc' := 19) (v := (.inr (.inr (M v0 28)))) hC dX9_priceFor_16 rfl fl_X9_96 g1 rfl ?_
  refine aw_aload_n (pc' := 20) (i := 0) hC dX9_priceFor_19 rfl rfl rfl ?_
  refine aw_getfield (pc' := 23) (v := (.inl (M v0 13))) hC dX9_priceFor_20 rfl fl_X9_51 g1 rfl ?_
  obtain ⟨g5, h⟩ := gd_s h
  refine aw_iaload (pc' := 24) hC dX9_priceFor_23 rfl g5 ?_
  refine aw_iconst (pc' := 25) hC dX9_priceFor_24 rfl (by decide) ?_
  refine aw_icmp_ne (tgt := 30) (pc' := 28) hC dX9_priceFor_25 (by decide) rfl (fun c6 => ?_) (fun c6 => ?_)
  · replace h := it_n c6 h
    refine aw_aload_n (pc' := 31) (i := 0) hC dX9_priceFor_30 rfl rfl rfl ?_
    refine aw_getfield (pc' := 34) (v := (.inr (.inr (M v0 23)))) hC dX9_priceFor_31 rfl fl_X9_81 g1 rfl ?_
    refine aw_bipush (pc' := 36) hC dX9_priceFor_34 rfl (by decide) ?_
    refine aw_aload_n (pc' := 37) (i := 0) hC dX9_priceFor_36 rfl rfl rfl ?_
    refine aw_getfield (pc' := 40) (v := (.inl (M v0 13))) hC dX9_priceFor_37 rfl fl_X9_51 g1 rfl ?_
    refine aw_imul (pc' := 41) hC dX9_priceFor_40 rfl  ?_
    refine aw_iload_n (pc' := 42) (i := 1) hC dX9_priceFor_41 rfl rfl rfl ?_
    refine aw_iadd (pc' := 43) hC dX9_priceFor_42 rfl  ?_
    obtain ⟨g7, h⟩ := gd_s h
    refine aw_iaload (pc' := 44) hC dX9_priceFor_43 rfl g7 ?_
    obtain ⟨x8, e9, h⟩ := bd_s h
    refine aw_reni e9 ?_
    refine aw_istore (pc' := 46) (ls' := [some (.inr (.inr v0)), some (.inl v1), some (.inl v2), some (.inl x3), some (.inl x8), none, none]) hC dX9_priceFor_44 rfl (Nat.le_of_ble_eq_true rfl) rfl rfl ?_
    refine aw_aload_n (pc' := 47) (i := 0) hC dX9_priceFor_46 rfl rfl rfl ?_
    refine aw_iload_n (pc' := 48) (i := 3) hC dX9_priceFor_47 rfl rfl rfl ?_
    obtain ⟨M10, e11, h⟩ := bd_s h
    refine aw_pf (pc' := 51) hC dX9_priceFor_48 rfl fp_X9_186 g1 rfl trivial e11 ?_
    refine aw_aload_n (pc' := 52) (i := 0) hC dX9_priceFor_51 rfl rfl rfl ?_
    refine aw_aload_n (pc' := 53) (i := 0) hC dX9_priceFor_52 rfl rfl rfl ?_
    refine aw_iload_n (pc' := 54) (i := 2) hC dX9_priceFor_53 rfl rfl rfl ?_
    obtain ⟨x13, q12, h⟩ := pb_s h
    replace h := u1_s h
    refine aw_cV (pc' := 57) (k2 := 0) (n2 := 0) (st := [.inr (.inr v0)]) (stN := [.inl x13, .inr (.inr v0)]) hC [.inl v2] (mX9_rankOf q12) lk_X9_442 g1 dX9_priceFor_54 rfl rfl (Nat.le_of_ble_eq_true rfl) (Nat.le_of_ble_eq_true rfl) (Nat.le_of_ble_eq_true rfl) rfl (Nat.le_of_ble_eq_true rfl) rfl rfl rfl ?_
    obtain ⟨M14, e15, h⟩ := bd_s h
    refine aw_pf (pc' := 60) hC dX9_priceFor_57 rfl fp_X9_189 g1 rfl trivial e15 ?_
    refine aw_aload_n (pc' := 61) (i := 0) hC dX9_priceFor_60 rfl rfl rfl ?_
    refine aw_aload_n (pc' := 62) (i := 0) hC dX9_priceFor_61 rfl rfl rfl ?_
    refine aw_iload (pc' := 64) hC dX9_priceFor_62 rfl rfl ?_
    obtain ⟨x17, q16, h⟩ := pb_s h
    replace h := u1_s h
    refine aw_cV (pc' := 67) (k2 := 0) (n2 := 0) (st := [.inr (.inr v0)]) (stN := [.inl x17, .inr (.inr v0)]) hC [.inl x8] (mX9_rankOf q16) lk_X9_442 g1 dX9_priceFor_64 rfl rfl (Nat.le_of_ble_eq_true rfl) (Nat.le_of_ble_eq_true rfl) (Nat.le_of_ble_eq_true rfl) rfl (Nat.le_of_ble_eq_true rfl) rfl rfl rfl ?_
    obtain ⟨M18, e19, h⟩ := bd_s h
    refine aw_pf (pc' := 70) hC dX9_priceFor_67 rfl fp_X9_192 g1 rfl trivial e19 ?_
    refine aw_aload_n (pc' := 71) (i := 0) hC dX9_priceFor_70 rfl rfl rfl ?_
    refine aw_aload_n (pc' := 72) (i := 0) hC dX9_priceFor_71 rfl rfl rfl ?_
    refine aw_iconst (pc' := 73) hC dX9_priceFor_72 rfl (by decide) ?_
    refine aw_iload_n (pc' := 74) (i := 2) hC dX9_priceFor_73 rfl rfl rfl ?_
    obtain ⟨x21, q20, h⟩ := pb_s h
    replace h := u1_s h
    refine aw_cV (pc' := 77) (k2 := 0) (n2 := 0) (st := [.inr (.inr v0)]) (stN := [.inl x21, .inr (.inr v0)]) hC [.inl 0, .inl v2] (mX9_heldBy q20) lk_X9_451 g1 dX9_priceFor_74 rfl rfl (Nat.le_of_ble_eq_true rfl) (Nat.le_of_ble_eq_true rfl) (Nat.le_of_ble_eq_true rfl) rfl (Nat.le_of_ble_eq_true rfl) rfl rfl rfl ?_
    refine aw_aload_n (pc' := 78) (i := 0) hC dX9_priceFor_77 rfl rfl rfl ?_
    refine aw_iconst (pc' := 79) hC dX9_priceFor_78 rfl (by decide) ?_
    refine aw_iload (pc' := 81) hC dX9_priceFor_79 rfl rfl ?_
    obtain ⟨x23, q22, h⟩ := pb_s h
    replace h := u1_s h
    refine aw_cV (pc' := 84) (k2 := 0) (n2 := 0) (st := [.inl x21, .inr (.inr v0)]) (stN := [.inl x23, .inl x21, .inr (.inr v0)]) hC [.inl 0, .inl x8] (mX9_knowing q22) lk_X9_458 g1 dX9_priceFor_81 rfl rfl (Nat.le_of_ble_eq_true rfl) (Nat.le_of_ble_eq_true rfl) (Nat.le_of_ble_eq_true rfl) rfl (Nat.le_of_ble_eq_true rfl) rfl rfl rfl ?_
    refine aw_iand (pc' := 85) hC dX9_priceFor_84 rfl  ?_
    obtain ⟨x25, q24, h⟩ := pb_s h
    replace h := u1_s h
    refine aw_cS (pc' := 88) (k2 := 0) (n2 := 0) (st := [.inr (.inr v0)]) (stN := [.inl x25, .inr (.inr v0)]) hC [.inl (an_ x21 x23)] (mX9_bits q24) lk_X9_448 dX9_priceFor_85 rfl rfl (Nat.le_of_ble_eq_true rfl) (Nat.le_of_ble_eq_true rfl) (Nat.le_of_ble_eq_true rfl) rfl (Nat.le_of_ble_eq_true rfl) rfl rfl rfl ?_
    obtain ⟨M26, e27, h⟩ := bd_s h
    refine aw_pf (pc' := 91) hC dX9_priceFor_88 rfl fp_X9_195 g1 rfl trivial e27 ?_
    refine aw_aload_n (pc' := 92) (i := 0) hC dX9_priceFor_91 rfl rfl rfl ?_
    refine aw_aload_n (pc' := 93) (i := 0) hC dX9_priceFor_92 rfl rfl rfl ?_
    refine aw_getfield (pc' := 96) (v := (.inr (.inr (M26 v0 48)))) hC dX9_priceFor_93 rfl fl_X9_159 g1 rfl ?_
    refine aw_iconst (pc' := 97) hC dX9_priceFor_96 rfl (by decide) ?_
    obtain ⟨g28, h⟩ := gd_s h
    refine aw_iaload (pc' := 98) hC dX9_priceFor_97 rfl g28 ?_
    obtain ⟨M29, e30, h⟩ := bd_s h
    refine aw_pf (pc' := 101) hC dX9_priceFor_98 rfl fp_X9_198 g1 rfl trivial e30 ?_
    refine aw_aload_n (pc' := 102) (i := 0) hC dX9_priceFor_101 rfl rfl rfl ?_
    refine aw_aload_n (pc' := 103) (i := 0) hC dX9_priceFor_102 rfl rfl rfl ?_
    refine aw_iconst (pc' := 104) hC dX9_priceFor_103 rfl (by decide) ?_
    refine aw_iload_n (pc' := 105) (i := 2) hC dX9_priceFor_104 rfl rfl rfl ?_
    obtain ⟨x32, q31, h⟩ := pb_s h
    replace h := u1_s h
    refine aw_cV (pc' := 108) (k2 := 0) (n2 := 0) (st := [.inr (.inr v0)]) (stN := [.inl x32, .inr (.inr v0)]) hC [.inl 0, .inl v2] (mX9_heldBy q31) lk_X9_451 g1 dX9_priceFor_105 rfl rfl (Nat.le_of_ble_eq_true rfl) (Nat.le_of_ble_eq_true rfl) (Nat.le_of_ble_eq_true rfl) rfl (Nat.le_of_ble_eq_true rfl) rfl rfl rfl ?_
    obtain ⟨x34, q33, h⟩ := pb_s h
    replace h := u1_s h
    refine aw_cS (pc' := 111) (k2 := 0) (n2 := 0) (st := [.inr (.inr v0)]) (stN := [.inl x34, .inr (.inr v0)]) hC [.inl x32] (mX9_bits q33) lk_X9_448 dX9_priceFor_108 rfl rfl (Nat.le_of_ble_eq_true rfl) (Nat.le_of_ble_eq_true rfl) (Nat.le_of_ble_eq_true rfl) rfl (Nat.le_of_ble_eq_true rfl) rfl rfl rfl ?_
    obtain ⟨M35, e36, h⟩ := bd_s h
    refine aw_pf (pc' := 114) hC dX9_priceFor_111 rfl fp_X9_201 g1 rfl trivial e36 ?_
    refine aw_aload_n (pc' := 115) (i := 0) hC dX9_priceFor_114 rfl rfl rfl ?_
    refine aw_aload_n (pc' := 116) (i := 0) hC dX9_priceFor_115 rfl rfl rfl ?_
    refine aw_getfield (pc' := 119) (v := (.inr (.inr (M35 v0 28)))) hC dX9_priceFor_116 rfl fl_X9_96 g1 rfl ?_
    refine aw_aload_n (pc' := 120) (i := 0) hC dX9_priceFor_119 rfl rfl rfl ?_
    refine aw_getfield (pc' := 123) (v := (.inl (M35 v0 13))) hC dX9_priceFor_120 rfl fl_X9_51 g1 rfl ?_
    obtain ⟨g37, h⟩ := gd_s h
    refine aw_iaload (pc' := 124) hC dX9_priceFor_123 rfl g37 ?_
    refine aw_aload_n (pc' := 125) (i := 0) hC dX9_priceFor_124 rfl rfl rfl ?_
    refine aw_getfield (pc' := 128) (v := (.inr (.inr (M35 v0 29)))) hC dX9_priceFor_125 rfl fl_X9_99 g1 rfl ?_
    refine aw_aload_n (pc' := 129) (i := 0) hC dX9_priceFor_128 rfl rfl rfl ?_
    refine aw_getfield (pc' := 132) (v := (.inl (M35 v0 13))) hC dX9_priceFor_129 rfl fl_X9_51 g1 rfl ?_
    obtain ⟨g38, h⟩ := gd_s h
    refine aw_iaload (pc' := 133) hC dX9_priceFor_132 rfl g38 ?_
    obtain ⟨⟨x40, M41⟩, q39, h⟩ := pb_s h
    replace h := u2_s h
    refine aw_cV (pc' := 136) (k2 := 0) (n2 := 0) (st := []) (stN := [.inr (.inl x40)]) hC [.inl (M35 (M35 v0 28) (M35 v0 13)), .inl (M35 (M35 v0 29) (M35 v0 13))] (mX9_reckons q39) lk_X9_445 g1 dX9_priceFor_133 rfl rfl (Nat.le_of_ble_eq_true rfl) (Nat.le_of_ble_eq_true rfl) (Nat.le_of_ble_eq_true rfl) rfl (Nat.le_of_ble_eq_true rfl) rfl rfl rfl ?_
    refine aw_lstore (pc' := 138) (ls' := [some (.inr (.inr v0)), some (.inl v1), some (.inl v2), some (.inl x3), some (.inl x8), some (.inr (.inl x40)), none]) hC dX9_priceFor_136 rfl (Nat.le_of_ble_eq_true rfl) rfl rfl ?_
    refine aw_lload (pc' := 140) hC dX9_priceFor_138 rfl rfl ?_
    refine aw_lconst (pc' := 141) (v := 0) hC dX9_priceFor_140 rfl rfl (by decide) ?_
    refine aw_lcmp (pc' := 142) hC dX9_priceFor_141 rfl  ?_
    refine aw_if_ge (tgt := 149) (pc' := 145) hC dX9_priceFor_142 (by decide) rfl (fun c42 => ?_) (fun c42 => ?_)
    · replace h := it_n c42 h
      refine aw_lload (pc' := 151) hC dX9_priceFor_149 rfl rfl ?_
      refine aw_ldc2 (pc' := 154) (v := 999) hC dX9_priceFor_151 rfl ck_X9_461 (by unfold I64; omega) ?_
      refine aw_lcmp (pc' := 155) hC dX9_priceFor_154 rfl  ?_
      refine aw_if_le (tgt := 164) (pc' := 158) hC dX9_priceFor_155 (by decide) rfl (fun c43 => ?_) (fun c43 => ?_)
      · replace h := it_n c43 h
        refine aw_lload (pc' := 166) hC dX9_priceFor_164 rfl rfl ?_
        refine aw_l2i (pc' := 167) hC dX9_priceFor_166 rfl  ?_
        cases h
        exact aw_iret hC dX9_priceFor_167 (Nat.le_of_ble_eq_true rfl) (Nat.le_of_ble_eq_true rfl)
      · replace h := it_p c43 h
        refine aw_sipush (pc' := 161) hC dX9_priceFor_158 rfl (by decide) ?_
        refine aw_goto (tgt := 167) hC dX9_priceFor_161 (by decide) ?_
        cases h
        exact aw_iret hC dX9_priceFor_167 (Nat.le_of_ble_eq_true rfl) (Nat.le_of_ble_eq_true rfl)
    · replace h := it_p c42 h
      refine aw_iconst (pc' := 146) hC dX9_priceFor_145 rfl (by decide) ?_
      refine aw_goto (tgt := 167) hC dX9_priceFor_146 (by decide) ?_
      cases h
      exact aw_iret hC dX9_priceFor_167 (Nat.le_of_ble_eq_true rfl) (Nat.le_of_ble_eq_true rfl)
  · replace h := it_p c6 h
    refine aw_iload_n (pc' := 29) (i := 3) hC dX9_priceFor_28 rfl rfl rfl ?_
    cases h
    exact aw_iret hC dX9_priceFor_29 (Nat.le_of_ble_eq_true rfl) (Nat.le_of_ble_eq_true rfl)
-- CoinCircleModel.flowOf(I)I
def fX9_flowOf_L4 (sh : AwS) (M : AwM) (v0 : Int) (v1 : Int) (v2 : Int) (v3 : Int) : Option ((Int × Int) ⊕ (Int)) :=
  gd_ (kd_ sh v0 = (0, 9)) (gd_ ((kd_ sh (M v0 16)).1 = 1 ∧ (0 : Int) ≤ (M v0 13) ∧ (M v0 13) < ((kd_ sh (M v0 16)).2 : Int)) ((if v3 < (M (M v0 16) (M v0 13)) then pb (fX9_worthOf sh M v0 v3) <| u1 fun (x5 : Int) => (gd_ ((kd_ sh (M v0 50)).1 = 1 ∧ (0 : Int) ≤ (w32 ((w32 (12 * v1)) + v3)) ∧ (w32 ((w32 (12 * v1)) + v3)) < ((kd_ sh (M v0 50)).2 : Int)) (pb (fX9_bits sh M (M (M v0 50) (w32 ((w32 (12 * v1)) + v3)))) <| u1 fun (x8 : Int) => (some (.inl ((w32 (v2 + (w32 (x5 * (w32 (x8 - 1)))))), (w32 (v3 + 1))))))) else some (.inr v2))))
def p_X9_flowOf_L4 (Γ : AwC) (sh : AwS) (M : AwM) (v0 : Int) (v1 : Int) (Q : State → Prop) (s : Int × Int) : Prop := AW Γ sh M 0 0 4 [some (.inr (.inr v0)), some (.inl v1), some (.inl (s.1)), some (.inl (s.2))] [] Q
def x_X9_flowOf_L4 (Γ : AwC) (sh : AwS) (M : AwM) (v0 : Int) (v1 : Int) (Q : State → Prop) : (Int) → Prop := (fun (t : Int) => AW Γ sh M 0 0 48 [none, none, some (.inl (t)), none] [] Q)
def fX9_flowOf (sh : AwS) (M : AwM) (v0 : Int) (v1 : Int) : Option Int :=
  pb (lp (u2 (fX9_flowOf_L4 sh M v0 v1)) FU (0, 0)) (u1 (fun (tq9 : Int) => some tq9))
set_option maxRecDepth 100000 in
set_option maxHeartbeats 4000000 in
theorem w_X9_flowOf_L4 {Γ : AwC} (hC : AOK Γ RX9 cX9_flowOf 4 2 0 0 "flowOf" (some .int)) {sh : AwS} {M : AwM} {v0 : Int} {v1 : Int} {Q : State → Prop} : ∀ s r, u2 (fX9_flowOf_L4 sh M v0 v1) s = some r → (∀ s', r = .inl s' → p_X9_flowOf_L4 Γ sh M v0 v1 Q s') → (∀ t, r = .inr t → x_X9_flowOf_L4 Γ sh M v0 v1 Q t) → p_X9_flowOf_L4 Γ sh M v0 v1 Q s := by
  intro s r h hL hX
  obtain ⟨v2, v3⟩ := s
  replace h := u2_s h
  unfold fX9_flowOf_L4 at h
  show AW Γ sh M 0 0 4 [some (.inr (.inr v0)), some (.inl v1), some (.inl v2), some (.inl v3)] [] Q
  refine aw_iload_n (pc' := 5) (i := 3) hC dX9_flowOf_4 rfl rfl rfl ?_
  refine aw_aload_n (pc' := 6) (i := 0) hC dX9_flowOf_5 rfl rfl rfl ?_
  obtain ⟨g1, h⟩ := gd_s h
  refine aw_getfield (pc' := 9) (v := (.inr (.inr (M v0 16)))) hC dX9_flowOf_6 rfl fl_X9_60 g1 rfl ?_
  refine aw_aload_n (pc' := 10) (i := 0) hC dX9_flowOf_9 rfl rfl rfl ?_
  refine aw_getfield (pc' := 13) (v := (.inl (M v0 13))) hC dX9_flowOf_10 rfl fl_X9_51 g1 rfl ?_
  obtain ⟨g2, h⟩ := gd_s h
  refine aw_iaload (pc' := 14) hC dX9_flowOf_13 rfl g2 ?_
  refine aw_icmp_ge (tgt := 48) (pc' := 17) hC dX9_flowOf_14 (by decide) rfl (fun c3 => ?_) (fun c3 => ?_)
  · replace h := it_n c3 h
    refine aw_sub hC [none, none, some (.inl v2), none] ⟨rfl, trivial⟩ (Nat.le_of_ble_eq_true rfl) ?_
    cases h
    exact hX _ rfl
  · replace h := it_p c3 h
    refine aw_iload_n (pc' := 18) (i := 2) hC dX9_flowOf_17 rfl rfl rfl ?_
    refine aw_aload_n (pc' := 19) (i := 0) hC dX9_flowOf_18 rfl rfl rfl ?_
    refine aw_iload_n (pc' := 20) (i := 3) hC dX9_flowOf_19 rfl rfl rfl ?_
    obtain ⟨x5, q4, h⟩ := pb_s h
    replace h := u1_s h
    refine aw_cV (pc' := 23) (k2 := 0) (n2 := 0) (st := [.inl v2]) (stN := [.inl x5, .inl v2]) hC [.inl v3] (mX9_worthOf q4) lk_X9_419 g1 dX9_flowOf_20 rfl rfl (Nat.le_of_ble_eq_true rfl) (Nat.le_of_ble_eq_true rfl) (Nat.le_of_ble_eq_true rfl) rfl (Nat.le_of_ble_eq_true rfl) rfl rfl rfl ?_
    refine aw_aload_n (pc' := 24) (i := 0) hC dX9_flowOf_23 rfl rfl rfl ?_
    refine aw_getfield (pc' := 27) (v := (.inr (.inr (M v0 50)))) hC dX9_flowOf_24 rfl fl_X9_165 g1 rfl ?_
    refine aw_bipush (pc' := 29) hC dX9_flowOf_27 rfl (by decide) ?_
    refine aw_iload_n (pc' := 30) (i := 1) hC dX9_flowOf_29 rfl rfl rfl ?_
    refine aw_imul (pc' := 31) hC dX9_flowOf_30 rfl  ?_
    refine aw_iload_n (pc' := 32) (i := 3) hC dX9_flowOf_31 rfl rfl rfl ?_
    refine aw_iadd (pc' := 33) hC dX9_flowOf_32 rfl  ?_
    obtain ⟨g6, h⟩ := gd_s h
    refine aw_iaload (pc' := 34) hC dX9_flowOf_33 rfl g6 ?_
    obtain ⟨x8, q7, h⟩ := pb_s h
    replace h := u1_s h
    refine aw_cS (pc' := 37) (k2 := 0) (n2 := 0) (st := [.inl x5, .inl v2]) (stN := [.inl x8, .inl x5, .inl v2]) hC [.inl (M (M v0 50) (w32 ((w32 (12 * v1)) + v3)))] (mX9_bits q7) lk_X9_448 dX9_flowOf_34 rfl rfl (Nat.le_of_ble_eq_true rfl) (Nat.le_of_ble_eq_true rfl) (Nat.le_of_ble_eq_true rfl) rfl (Nat.le_of_ble_eq_true rfl) rfl rfl rfl ?_
    refine aw_iconst (pc' := 38) hC dX9_flowOf_37 rfl (by decide) ?_
    refine aw_isub (pc' := 39) hC dX9_flowOf_38 rfl  ?_
    refine aw_imul (pc' := 40) hC dX9_flowOf_39 rfl  ?_
    refine aw_iadd (pc' := 41) hC dX9_flowOf_40 rfl  ?_
    refine aw_istore_n (pc' := 42) (i := 2) (ls' := [some (.inr (.inr v0)), some (.inl v1), some (.inl (w32 (v2 + (w32 (x5 * (w32 (x8 - 1))))))), some (.inl v3)]) hC dX9_flowOf_41 rfl rfl (Nat.le_of_ble_eq_true rfl) rfl rfl ?_
    refine aw_iinc (pc' := 45) (ls' := [some (.inr (.inr v0)), some (.inl v1), some (.inl (w32 (v2 + (w32 (x5 * (w32 (x8 - 1))))))), some (.inl (w32 (v3 + 1)))]) hC dX9_flowOf_42 rfl rfl rfl rfl ?_
    refine aw_goto (tgt := 4) hC dX9_flowOf_45 (by decide) ?_
    refine aw_sub hC [some (.inr (.inr v0)), some (.inl v1), some (.inl (w32 (v2 + (w32 (x5 * (w32 (x8 - 1))))))), some (.inl (w32 (v3 + 1)))] ⟨rfl, ⟨rfl, ⟨rfl, ⟨rfl, trivial⟩⟩⟩⟩ (Nat.le_of_ble_eq_true rfl) ?_
    cases h
    exact hL _ rfl
set_option maxRecDepth 100000 in
set_option maxHeartbeats 4000000 in
theorem mX9_flowOf {sh : AwS} {M : AwM} {v0 : Int} {v1 : Int} {r : Int} (h : fX9_flowOf sh M v0 v1 = some r) : AMet yX9_flowOf cX9_flowOf 4 (some .int) 2 0 0 [.inr (.inr v0), .inl v1] sh M (some (.inl r)) sh M := by
  refine amet_of (by decide +kernel) (Nat.le_of_ble_eq_true rfl) (fun Γ hC => ?_)
  replace hC : AOK Γ RX9 cX9_flowOf 4 2 0 0 "flowOf" (some .int) := hC
  unfold fX9_flowOf at h
  refine aw_sub hC [some (.inr (.inr v0)), some (.inl v1), none, none] ⟨rfl, ⟨rfl, trivial⟩⟩ (Nat.le_of_ble_eq_true rfl) ?_
  refine aw_iconst (pc' := 1) hC dX9_flowOf_0 rfl (by decide) ?_
  refine aw_istore_n (pc' := 2) (i := 2) (ls' := [some (.inr (.inr v0)), some (.inl v1), some (.inl 0), none]) hC dX9_flowOf_1 rfl rfl (Nat.le_of_ble_eq_true rfl) rfl rfl ?_
  refine aw_iconst (pc' := 3) hC dX9_flowOf_2 rfl (by decide) ?_
  refine aw_istore_n (pc' := 4) (i := 3) (ls' := [some (.inr (.inr v0)), some (.inl v1), some (.inl 0), some (.inl 0)]) hC dX9_flowOf_3 rfl rfl (Nat.le_of_ble_eq_true rfl) rfl rfl ?_
  obtain ⟨tq9, q9, h⟩ := pb_s h
  refine aw_sub hC [some (.inr (.inr v0)), some (.inl v1), some (.inl 0), some (.inl 0)] ⟨rfl, ⟨rfl, ⟨rfl, ⟨rfl, trivial⟩⟩⟩⟩ (Nat.le_of_ble_eq_true rfl) ?_
  refine (lp_aw (p_X9_flowOf_L4 Γ sh M v0 v1 (fin_ Γ 0 0 (some (.inl r)) sh M)) (x_X9_flowOf_L4 Γ sh M v0 v1 (fin_ Γ 0 0 (some (.inl r)) sh M)) (w_X9_flowOf_L4 hC ) FU _ _ q9 ?_ : p_X9_flowOf_L4 Γ sh M v0 v1 (fin_ Γ 0 0 (some (.inl r)) sh M) (0, 0))
  replace h := u1_s h
  show AW Γ sh M 0 0 48 [none, none, some (.inl tq9), none] [] _
  refine aw_iload_n (pc' := 49) (i := 2) hC dX9_flowOf_48 rfl rfl rfl ?_
  cases h
  exact aw_iret hC dX9_flowOf_49 (Nat.le_of_ble_eq_true rfl) (Nat.le_of_ble_eq_true rfl)
-- CoinCircleModel.isUseless(II)Z
def fX9_isUseless_L10 (sh : AwS) (M : AwM) (v0 : Int) (v1 : Int) (v3 : Int) (v4 : Int) : Option ((Int) ⊕ ((Unit) ⊕ (Unit))) :=
  gd_ (kd_ sh v0 = (0, 9)) (gd_ ((kd_ sh (M v0 16)).1 = 1 ∧ (0 : Int) ≤ (M v0 13) ∧ (M v0 13) < ((kd_ sh (M v0 16)).2 : Int)) ((if v4 < (M (M v0 16) (M v0 13)) then pb (fX9_has2 sh M v3 v4) <| u1 fun (x8 : Int) => ((if x8 = 0 then some (.inl (w32 (v4 + 1))) else gd_ ((kd_ sh (M v0 50)).1 = 1 ∧ (0 : Int) ≤ (w32 ((w32 (12 * v1)) + v4)) ∧ (w32 ((w32 (12 * v1)) + v4)) < ((kd_ sh (M v0 50)).2 : Int)) (pb (fX9_bits sh M (M (M v0 50) (w32 ((w32 (12 * v1)) + v4)))) <| u1 fun (x12 : Int) => ((if 1 < x12 then some (.inr (.inr ())) else some (.inl (w32 (v4 + 1)))))))) else some (.inr (.inl ())))))
def p_X9_isUseless_L10 (Γ : AwC) (sh : AwS) (M : AwM) (v0 : Int) (v1 : Int) (v3 : Int) (Q : State → Prop) (s : Int) : Prop := AW Γ sh M 0 0 10 [some (.inr (.inr v0)), some (.inl v1), none, some (.inl v3), some (.inl (s))] [] Q
def x_X9_isUseless_L10 (Γ : AwC) (sh : AwS) (M : AwM) (v0 : Int) (v1 : Int) (v3 : Int) (Q : State → Prop) : ((Unit) ⊕ (Unit)) → Prop := (Sum.elim (fun (t : Unit) => AW Γ sh M 0 0 60 [none, none, none, some (.inl v3), none] [] Q) (fun (t : Unit) => AW Γ sh M 0 0 52 [none, none, none, none, none] [] Q))
def fX9_isUseless (sh : AwS) (M : AwM) (v0 : Int) (v1 : Int) (v2 : Int) : Option Int :=
  gd_ (kd_ sh v0 = (0, 9)) (pb (fX9_heldBy sh M v0 v1 v2) <| u1 fun (x3 : Int) => (pb (lp (u1 (fX9_isUseless_L10 sh M v0 v1 x3)) FU 0) (Sum.elim (u0 ((if x3 = 0 then some 0 else some 1))) (u0 (some 0)))))
set_option maxRecDepth 100000 in
set_option maxHeartbeats 4000000 in
theorem w_X9_isUseless_L10 {Γ : AwC} (hC : AOK Γ RX9 cX9_isUseless 5 2 0 0 "isUseless" (some .boolean)) {sh : AwS} {M : AwM} {v0 : Int} {v1 : Int} {v3 : Int} {Q : State → Prop} : ∀ s r, u1 (fX9_isUseless_L10 sh M v0 v1 v3) s = some r → (∀ s', r = .inl s' → p_X9_isUseless_L10 Γ sh M v0 v1 v3 Q s') → (∀ t, r = .inr t → x_X9_isUseless_L10 Γ sh M v0 v1 v3 Q t) → p_X9_isUseless_L10 Γ sh M v0 v1 v3 Q s := by
  intro v4 r h hL hX
  replace h := u1_s h
  unfold fX9_isUseless_L10 at h
  show AW Γ sh M 0 0 10 [some (.inr (.inr v0)), some (.inl v1), none, some (.inl v3), some (.inl v4)] [] Q
  refine aw_iload (pc' := 12) hC dX9_isUseless_10 rfl rfl ?_
  refine aw_aload_n (pc' := 13) (i := 0) hC dX9_isUseless_12 rfl rfl rfl ?_
  obtain ⟨g4, h⟩ := gd_s h
  refine aw_getfield (pc' := 16) (v := (.inr (.inr (M v0 16)))) hC dX9_isUseless_13 rfl fl_X9_60 g4 rfl ?_
  refine aw_aload_n (pc' := 17) (i := 0) hC dX9_isUseless_16 rfl rfl rfl ?_
  refine aw_getfield (pc' := 20) (v := (.inl (M v0 13))) hC dX9_isUseless_17 rfl fl_X9_51 g4 rfl ?_
  obtain ⟨g5, h⟩ := gd_s h
  refine aw_iaload (pc' := 21) hC dX9_isUseless_20 rfl g5 ?_
  refine aw_icmp_ge (tgt := 60) (pc' := 24) hC dX9_isUseless_21 (by decide) rfl (fun c6 => ?_) (fun c6 => ?_)
  · replace h := it_n c6 h
    refine aw_sub hC [none, none, none, some (.inl v3), none] ⟨rfl, trivial⟩ (Nat.le_of_ble_eq_true rfl) ?_
    cases h
    exact hX _ rfl
  · replace h := it_p c6 h
    refine aw_iload_n (pc' := 25) (i := 3) hC dX9_isUseless_24 rfl rfl rfl ?_
    refine aw_iload (pc' := 27) hC dX9_isUseless_25 rfl rfl ?_
    obtain ⟨x8, q7, h⟩ := pb_s h
    replace h := u1_s h
    refine aw_cS (pc' := 30) (k2 := 0) (n2 := 0) (st := []) (stN := [.inl x8]) hC [.inl v3, .inl v4] (mX9_has2 q7) lk_X9_373 dX9_isUseless_27 rfl rfl (Nat.le_of_ble_eq_true rfl) (Nat.le_of_ble_eq_true rfl) (Nat.le_of_ble_eq_true rfl) rfl (Nat.le_of_ble_eq_true rfl) rfl rfl rfl ?_
    refine aw_if_eq (tgt := 54) (pc' := 33) hC dX9_isUseless_30 (by decide) rfl (fun c9 => ?_) (fun c9 => ?_)
    · replace h := it_p c9 h
      refine aw_iinc (pc' := 57) (ls' := [some (.inr (.inr v0)), some (.inl v1), none, some (.inl v3), some (.inl (w32 (v4 + 1)))]) hC dX9_isUseless_54 rfl rfl rfl rfl ?_
      refine aw_goto (tgt := 10) hC dX9_isUseless_57 (by decide) ?_
      refine aw_sub hC [some (.inr (.inr v0)), some (.inl v1), none, some (.inl v3), some (.inl (w32 (v4 + 1)))] ⟨rfl, ⟨rfl, ⟨rfl, ⟨rfl, trivial⟩⟩⟩⟩ (Nat.le_of_ble_eq_true rfl) ?_
      cases h
      exact hL _ rfl
    · replace h := it_n c9 h
      refine aw_aload_n (pc' := 34) (i := 0) hC dX9_isUseless_33 rfl rfl rfl ?_
      refine aw_getfield (pc' := 37) (v := (.inr (.inr (M v0 50)))) hC dX9_isUseless_34 rfl fl_X9_165 g4 rfl ?_
      refine aw_bipush (pc' := 39) hC dX9_isUseless_37 rfl (by decide) ?_
      refine aw_iload_n (pc' := 40) (i := 1) hC dX9_isUseless_39 rfl rfl rfl ?_
      refine aw_imul (pc' := 41) hC dX9_isUseless_40 rfl  ?_
      refine aw_iload (pc' := 43) hC dX9_isUseless_41 rfl rfl ?_
      refine aw_iadd (pc' := 44) hC dX9_isUseless_43 rfl  ?_
      obtain ⟨g10, h⟩ := gd_s h
      refine aw_iaload (pc' := 45) hC dX9_isUseless_44 rfl g10 ?_
      obtain ⟨x12, q11, h⟩ := pb_s h
      replace h := u1_s h
      refine aw_cS (pc' := 48) (k2 := 0) (n2 := 0) (st := []) (stN := [.inl x12]) hC [.inl (M (M v0 50) (w32 ((w32 (12 * v1)) + v4)))] (mX9_bits q11) lk_X9_448 dX9_isUseless_45 rfl rfl (Nat.le_of_ble_eq_true rfl) (Nat.le_of_ble_eq_true rfl) (Nat.le_of_ble_eq_true rfl) rfl (Nat.le_of_ble_eq_true rfl) rfl rfl rfl ?_
      refine aw_iconst (pc' := 49) hC dX9_isUseless_48 rfl (by decide) ?_
      refine aw_icmp_le (tgt := 54) (pc' := 52) hC dX9_isUseless_49 (by decide) rfl (fun c13 => ?_) (fun c13 => ?_)
      · replace h := it_n c13 h
        refine aw_iinc (pc' := 57) (ls' := [some (.inr (.inr v0)), some (.inl v1), none, some (.inl v3), some (.inl (w32 (v4 + 1)))]) hC dX9_isUseless_54 rfl rfl rfl rfl ?_
        refine aw_goto (tgt := 10) hC dX9_isUseless_57 (by decide) ?_
        refine aw_sub hC [some (.inr (.inr v0)), some (.inl v1), none, some (.inl v3), some (.inl (w32 (v4 + 1)))] ⟨rfl, ⟨rfl, ⟨rfl, ⟨rfl, trivial⟩⟩⟩⟩ (Nat.le_of_ble_eq_true rfl) ?_
        cases h
        exact hL _ rfl
      · replace h := it_p c13 h
        refine aw_sub hC [none, none, none, none, none] trivial (Nat.le_of_ble_eq_true rfl) ?_
        cases h
        exact hX _ rfl
set_option maxRecDepth 100000 in
set_option maxHeartbeats 4000000 in
theorem mX9_isUseless {sh : AwS} {M : AwM} {v0 : Int} {v1 : Int} {v2 : Int} {r : Int} (h : fX9_isUseless sh M v0 v1 v2 = some r) : AMet yX9_isUseless cX9_isUseless 5 (some .boolean) 2 0 0 [.inr (.inr v0), .inl v1, .inl v2] sh M (some (.inl r)) sh M := by
  refine amet_of (by decide +kernel) (Nat.le_of_ble_eq_true rfl) (fun Γ hC => ?_)
  replace hC : AOK Γ RX9 cX9_isUseless 5 2 0 0 "isUseless" (some .boolean) := hC
  unfold fX9_isUseless at h
  refine aw_sub hC [some (.inr (.inr v0)), some (.inl v1), some (.inl v2), none, none] ⟨rfl, ⟨rfl, ⟨rfl, trivial⟩⟩⟩ (Nat.le_of_ble_eq_true rfl) ?_
  refine aw_aload_n (pc' := 1) (i := 0) hC dX9_isUseless_0 rfl rfl rfl ?_
  refine aw_iload_n (pc' := 2) (i := 1) hC dX9_isUseless_1 rfl rfl rfl ?_
  refine aw_iload_n (pc' := 3) (i := 2) hC dX9_isUseless_2 rfl rfl rfl ?_
  obtain ⟨g2, h⟩ := gd_s h
  obtain ⟨x3, q1, h⟩ := pb_s h
  replace h := u1_s h
  refine aw_cV (pc' := 6) (k2 := 0) (n2 := 0) (st := []) (stN := [.inl x3]) hC [.inl v1, .inl v2] (mX9_heldBy q1) lk_X9_451 g2 dX9_isUseless_3 rfl rfl (Nat.le_of_ble_eq_true rfl) (Nat.le_of_ble_eq_true rfl) (Nat.le_of_ble_eq_true rfl) rfl (Nat.le_of_ble_eq_true rfl) rfl rfl rfl ?_
  refine aw_istore_n (pc' := 7) (i := 3) (ls' := [some (.inr (.inr v0)), some (.inl v1), some (.inl v2), some (.inl x3), none]) hC dX9_isUseless_6 rfl rfl (Nat.le_of_ble_eq_true rfl) rfl rfl ?_
  refine aw_iconst (pc' := 8) hC dX9_isUseless_7 rfl (by decide) ?_
  refine aw_istore (pc' := 10) (ls' := [some (.inr (.inr v0)), some (.inl v1), some (.inl v2), some (.inl x3), some (.inl 0)]) hC dX9_isUseless_8 rfl (Nat.le_of_ble_eq_true rfl) rfl rfl ?_
  obtain ⟨tq14, q14, h⟩ := pb_s h
  refine aw_sub hC [some (.inr (.inr v0)), some (.inl v1), none, some (.inl x3), some (.inl 0)] ⟨rfl, ⟨rfl, ⟨rfl, ⟨rfl, trivial⟩⟩⟩⟩ (Nat.le_of_ble_eq_true rfl) ?_
  refine (lp_aw (p_X9_isUseless_L10 Γ sh M v0 v1 x3 (fin_ Γ 0 0 (some (.inl r)) sh M)) (x_X9_isUseless_L10 Γ sh M v0 v1 x3 (fin_ Γ 0 0 (some (.inl r)) sh M)) (w_X9_isUseless_L10 hC ) FU _ _ q14 ?_ : p_X9_isUseless_L10 Γ sh M v0 v1 x3 (fin_ Γ 0 0 (some (.inl r)) sh M) 0)
  rcases tq14 with tq14 | tq14
  · replace h := se_l h
    cases tq14
    replace h := u0_s h
    show AW Γ sh M 0 0 60 [none, none, none, some (.inl x3), none] [] _
    refine aw_iload_n (pc' := 61) (i := 3) hC dX9_isUseless_60 rfl rfl rfl ?_
    refine aw_if_eq (tgt := 68) (pc' := 64) hC dX9_isUseless_61 (by decide) rfl (fun c15 => ?_) (fun c15 => ?_)
    · replace h := it_p c15 h
      refine aw_iconst (pc' := 69) hC dX9_isUseless_68 rfl (by decide) ?_
      cases h
      exact aw_zret hC (Or.inl rfl) dX9_isUseless_69 (Nat.le_of_ble_eq_true rfl) (Nat.le_of_ble_eq_true rfl)
    · replace h := it_n c15 h
      refine aw_iconst (pc' := 65) hC dX9_isUseless_64 rfl (by decide) ?_
      refine aw_goto (tgt := 69) hC dX9_isUseless_65 (by decide) ?_
      cases h
      exact aw_zret hC (Or.inr rfl) dX9_isUseless_69 (Nat.le_of_ble_eq_true rfl) (Nat.le_of_ble_eq_true rfl)
  · replace h := se_r h
    cases tq14
    replace h := u0_s h
    show AW Γ sh M 0 0 52 [none, none, none, none, none] [] _
    refine aw_iconst (pc' := 53) hC dX9_isUseless_52 rfl (by decide) ?_
    cases h
    exact aw_zret hC (Or.inl rfl) dX9_isUseless_53 (Nat.le_of_ble_eq_true rfl) (Nat.le_of_ble_eq_true rfl)
-- CoinCircleModel.has(I)I
def fX9_has_L129 (sh : AwS) (M : AwM) (v0 : Int) (v2 : Int) (v3 : Int) : Option ((Int × Int) ⊕ (Int)) :=
  gd_ (kd_ sh v0 = (0, 9)) (gd_ ((kd_ sh (M v0 16)).1 = 1 ∧ (0 : Int) ≤ (M v0 13) ∧ (M v0 13) < ((kd_ sh (M v0 16)).2 : Int)) ((if v3 < (M (M v0 16) (M v0 13)) then gd_ ((kd_ sh (M v0 51)).1 = 1 ∧ (0 : Int) ≤ v3 ∧ v3 < ((kd_ sh (M v0 51)).2 : Int)) (pb (fX9_bits sh M (M (M v0 51) v3)) <| u1 fun (x33 : Int) => (some (.inl ((w32 (v2 + x33)), (w32 (v3 + 1)))))) else some (.inr v2))))
def p_X9_has_L129 (Γ : AwC) (sh : AwS) (M : AwM) (v0 : Int) (Q : State → Prop) (s : Int × Int) : Prop := AW Γ sh M 0 0 129 [some (.inr (.inr v0)), none, some (.inl (s.1)), some (.inl (s.2))] [] Q
def x_X9_has_L129 (Γ : AwC) (sh : AwS) (M : AwM) (v0 : Int) (Q : State → Prop) : (Int) → Prop := (fun (t : Int) => AW Γ sh M 0 0 160 [none, none, some (.inl (t)), none] [] Q)
def fX9_has_L164 (sh : AwS) (M : AwM) (v0 : Int) (v2 : Int) (v3 : Int) : Option ((Int × Int) ⊕ (Int)) :=
  gd_ (kd_ sh v0 = (0, 9)) (gd_ ((kd_ sh (M v0 16)).1 = 1 ∧ (0 : Int) ≤ (M v0 13) ∧ (M v0 13) < ((kd_ sh (M v0 16)).2 : Int)) ((if v3 < (M (M v0 16) (M v0 13)) then gd_ ((kd_ sh (M v0 50)).1 = 1 ∧ (0 : Int) ≤ v3 ∧ v3 < ((kd_ sh (M v0 50)).2 : Int)) (pb (fX9_bits sh M (M (M v0 50) v3)) <| u1 fun (x40 : Int) => (gd_ ((kd_ sh (M v0 14)).1 = 1 ∧ (0 : Int) ≤ (M v0 13) ∧ (M v0 13) < ((kd_ sh (M v0 14)).2 : Int)) ((if x40 = (M (M v0 14) (M v0 13)) then some (.inl ((w32 (v2 + 1)), (w32 (v3 + 1)))) else some (.inl ((w32 (v2 + 0)), (w32 (v3 + 1)))))))) else some (.inr v2))))
def p_X9_has_L164 (Γ : AwC) (sh : AwS) (M : AwM) (v0 : Int) (Q : State → Prop) (s : Int × Int) : Prop := AW Γ sh M 0 0 164 [some (.inr (.inr v0)), none, some (.inl (s.1)), some (.inl (s.2))] [] Q
def x_X9_has_L164 (Γ : AwC) (sh : AwS) (M : AwM) (v0 : Int) (Q : State → Prop) : (Int) → Prop := (fun (t : Int) => AW Γ sh M 0 0 212 [none, none, some (.inl (t)), none] [] Q)
def fX9_has_L216 (sh : AwS) (M : AwM) (v0 : Int) (v2 : Int) (v3 : Int) : Option ((Int × Int) ⊕ (Int)) :=
  gd_ (kd_ sh v0 = (0, 9)) (gd_ ((kd_ sh (M v0 14)).1 = 1 ∧ (0 : Int) ≤ (M v0 13) ∧ (M v0 13) < ((kd_ sh (M v0 14)).2 : Int)) ((if v3 < (M (M v0 14) (M v0 13)) then pb (fX9_isUseless sh M v0 0 v3) <| u1 fun (x48 : Int) => ((if x48 = 0 then some (.inl ((or_ v2 0), (w32 (v3 + 1)))) else some (.inl ((or_ v2 (sl_ 1 v3)), (w32 (v3 + 1)))))) else some (.inr v2))))
def p_X9_has_L216 (Γ : AwC) (sh : AwS) (M : AwM) (v0 : Int) (Q : State → Prop) (s : Int × Int) : Prop := AW Γ sh M 0 0 216 [some (.inr (.inr v0)), none, some (.inl (s.1)), some (.inl (s.2))] [] Q
def x_X9_has_L216 (Γ : AwC) (sh : AwS) (M : AwM) (v0 : Int) (Q : State → Prop) : (Int) → Prop := (fun (t : Int) => AW Γ sh M 0 0 254 [none, none, some (.inl (t)), none] [] Q)
def fX9_has (sh : AwS) (M : AwM) (v0 : Int) (v1 : Int) : Option Int :=
  (if v1 = 0 then gd_ (kd_ sh v0 = (0, 9)) (gd_ ((kd_ sh (M v0 14)).1 = 1 ∧ (0 : Int) ≤ (M v0 13) ∧ (M v0 13) < ((kd_ sh (M v0 14)).2 : Int)) (some (M (M v0 14) (M v0 13)))) else (if v1 = 1 then gd_ (kd_ sh v0 = (0, 9)) (gd_ ((kd_ sh (M v0 16)).1 = 1 ∧ (0 : Int) ≤ (M v0 13) ∧ (M v0 13) < ((kd_ sh (M v0 16)).2 : Int)) (some (M (M v0 16) (M v0 13)))) else (if v1 = 2 then gd_ (kd_ sh v0 = (0, 9)) (gd_ ((kd_ sh (M v0 21)).1 = 1 ∧ (0 : Int) ≤ (M v0 13) ∧ (M v0 13) < ((kd_ sh (M v0 21)).2 : Int)) (some (M (M v0 21) (M v0 13)))) else (if v1 = 3 then gd_ (kd_ sh v0 = (0, 9)) (gd_ ((kd_ sh (M v0 24)).1 = 1 ∧ (0 : Int) ≤ (M v0 13) ∧ (M v0 13) < ((kd_ sh (M v0 24)).2 : Int)) (some (M (M v0 24) (M v0 13)))) else (if v1 = 4 then gd_ (kd_ sh v0 = (0, 9)) (gd_ ((kd_ sh (M v0 25)).1 = 1 ∧ (0 : Int) ≤ (M v0 13) ∧ (M v0 13) < ((kd_ sh (M v0 25)).2 : Int)) (some (M (M v0 25) (M v0 13)))) else (if v1 = 5 then gd_ (kd_ sh v0 = (0, 9)) (gd_ ((kd_ sh (M v0 48)).1 = 1 ∧ (0 : Int) ≤ 0 ∧ 0 < ((kd_ sh (M v0 48)).2 : Int)) (some (M (M v0 48) 0))) else (if v1 = 6 then gd_ (kd_ sh v0 = (0, 9)) (pb (fX9_flowOf sh M v0 0) <| u1 fun (x27 : Int) => (some x27)) else (if v1 = 7 then pb (lp (u2 (fX9_has_L129 sh M v0)) FU (0, 0)) (u1 (fun (tq34 : Int) => some tq34)) else (if v1 = 8 then pb (lp (u2 (fX9_has_L164 sh M v0)) FU (0, 0)) (u1 (fun (tq43 : Int) => some tq43)) else (if v1 = 9 then pb (lp (u2 (fX9_has_L216 sh M v0)) FU (0, 0)) (u1 (fun (tq50 : Int) => some tq50)) else (if v1 = 10 then gd_ (kd_ sh v0 = (0, 9)) (some (M v0 54)) else (if v1 = 11 then gd_ (kd_ sh v0 = (0, 9)) (some (w32 (M v0 55))) else some (-1)))))))))))))
set_option maxRecDepth 100000 in
set_option maxHeartbeats 4000000 in
theorem w_X9_has_L129 {Γ : AwC} (hC : AOK Γ RX9 cX9_has 4 3 0 0 "has" (some .int)) {sh : AwS} {M : AwM} {v0 : Int} {Q : State → Prop} : ∀ s r, u2 (fX9_has_L129 sh M v0) s = some r → (∀ s', r = .inl s' → p_X9_has_L129 Γ sh M v0 Q s') → (∀ t, r = .inr t → x_X9_has_L129 Γ sh M v0 Q t) → p_X9_has_L129 Γ sh M v0 Q s := by
  intro s r h hL hX
  obtain ⟨v2, v3⟩ := s
  replace h := u2_s h
  unfold fX9_has_L129 at h
  show AW Γ sh M 0 0 129 [some (.inr (.inr v0)), none, some (.inl v2), some (.inl v3)] [] Q
  refine aw_iload_n (pc' := 130) (i := 3) hC dX9_has_129 rfl rfl rfl ?_
  refine aw_aload_n (pc' := 131) (i := 0) hC dX9_has_130 rfl rfl rfl ?_
  obtain ⟨g28, h⟩ := gd_s h
  refine aw_getfield (pc' := 134) (v := (.inr (.inr (M v0 16)))) hC dX9_has_131 rfl fl_X9_60 g28 rfl ?_
  refine aw_aload_n (pc' := 135) (i := 0) hC dX9_has_134 rfl rfl rfl ?_
  refine aw_getfield (pc' := 138) (v := (.inl (M v0 13))) hC dX9_has_135 rfl fl_X9_51 g28 rfl ?_
  obtain ⟨g29, h⟩ := gd_s h
  refine aw_iaload (pc' := 139) hC dX9_has_138 rfl g29 ?_
  refine aw_icmp_ge (tgt := 160) (pc' := 142) hC dX9_has_139 (by decide) rfl (fun c30 => ?_) (fun c30 => ?_)
  · replace h := it_n c30 h
    refine aw_sub hC [none, none, some (.inl v2), none] ⟨rfl, trivial⟩ (Nat.le_of_ble_eq_true rfl) ?_
    cases h
    exact hX _ rfl
  · replace h := it_p c30 h
    refine aw_iload_n (pc' := 143) (i := 2) hC dX9_has_142 rfl rfl rfl ?_
    refine aw_aload_n (pc' := 144) (i := 0) hC dX9_has_143 rfl rfl rfl ?_
    refine aw_getfield (pc' := 147) (v := (.inr (.inr (M v0 51)))) hC dX9_has_144 rfl fl_X9_168 g28 rfl ?_
    refine aw_iload_n (pc' := 148) (i := 3) hC dX9_has_147 rfl rfl rfl ?_
    obtain ⟨g31, h⟩ := gd_s h
    refine aw_iaload (pc' := 149) hC dX9_has_148 rfl g31 ?_
    obtain ⟨x33, q32, h⟩ := pb_s h
    replace h := u1_s h
    refine aw_cS (pc' := 152) (k2 := 0) (n2 := 0) (st := [.inl v2]) (stN := [.inl x33, .inl v2]) hC [.inl (M (M v0 51) v3)] (mX9_bits q32) lk_X9_448 dX9_has_149 rfl rfl (Nat.le_of_ble_eq_true rfl) (Nat.le_of_ble_eq_true rfl) (Nat.le_of_ble_eq_true rfl) rfl (Nat.le_of_ble_eq_true rfl) rfl rfl rfl ?_
    refine aw_iadd (pc' := 153) hC dX9_has_152 rfl  ?_
    refine aw_istore_n (pc' := 154) (i := 2) (ls' := [some (.inr (.inr v0)), none, some (.inl (w32 (v2 + x33))), some (.inl v3)]) hC dX9_has_153 rfl rfl (Nat.le_of_ble_eq_true rfl) rfl rfl ?_
    refine aw_iinc (pc' := 157) (ls' := [some (.inr (.inr v0)), none, some (.inl (w32 (v2 + x33))), some (.inl (w32 (v3 + 1)))]) hC dX9_has_154 rfl rfl rfl rfl ?_
    refine aw_goto (tgt := 129) hC dX9_has_157 (by decide) ?_
    refine aw_sub hC [some (.inr (.inr v0)), none, some (.inl (w32 (v2 + x33))), some (.inl (w32 (v3 + 1)))] ⟨rfl, ⟨rfl, ⟨rfl, trivial⟩⟩⟩ (Nat.le_of_ble_eq_true rfl) ?_
    cases h
    exact hL _ rfl
set_option maxRecDepth 100000 in
set_option maxHeartbeats 4000000 in
theorem w_X9_has_L164 {Γ : AwC} (hC : AOK Γ RX9 cX9_has 4 3 0 0 "has" (some .int)) {sh : AwS} {M : AwM} {v0 : Int} {Q : State → Prop} : ∀ s r, u2 (fX9_has_L164 sh M v0) s = some r → (∀ s', r = .inl s' → p_X9_has_L164 Γ sh M v0 Q s') → (∀ t, r = .inr t → x_X9_has_L164 Γ sh M v0 Q t) → p_X9_has_L164 Γ sh M v0 Q s := by
  intro s r h hL hX
  obtain ⟨v2, v3⟩ := s
  replace h := u2_s h
  unfold fX9_has_L164 at h
  show AW Γ sh M 0 0 164 [some (.inr (.inr v0)), none, some (.inl v2), some (.inl v3)] [] Q
  refine aw_iload_n (pc' := 165) (i := 3) hC dX9_has_164 rfl rfl rfl ?_
  refine aw_aload_n (pc' := 166) (i := 0) hC dX9_has_165 rfl rfl rfl ?_
  obtain ⟨g35, h⟩ := gd_s h
  refine aw_getfield (pc' := 169) (v := (.inr (.inr (M v0 16)))) hC dX9_has_166 rfl fl_X9_60 g35 rfl ?_
  refine aw_aload_n (pc' := 170) (i := 0) hC dX9_has_169 rfl rfl rfl ?_
  refine aw_getfield (pc' := 173) (v := (.inl (M v0 13))) hC dX9_has_170 rfl fl_X9_51 g35 rfl ?_
  obtain ⟨g36, h⟩ := gd_s h
  refine aw_iaload (pc' := 174) hC dX9_has_173 rfl g36 ?_
  refine aw_icmp_ge (tgt := 212) (pc' := 177) hC dX9_has_174 (by decide) rfl (fun c37 => ?_) (fun c37 => ?_)
  · replace h := it_n c37 h
    refine aw_sub hC [none, none, some (.inl v2), none] ⟨rfl, trivial⟩ (Nat.le_of_ble_eq_true rfl) ?_
    cases h
    exact hX _ rfl
  · replace h := it_p c37 h
    refine aw_iload_n (pc' := 178) (i := 2) hC dX9_has_177 rfl rfl rfl ?_
    refine aw_aload_n (pc' := 179) (i := 0) hC dX9_has_178 rfl rfl rfl ?_
    refine aw_getfield (pc' := 182) (v := (.inr (.inr (M v0 50)))) hC dX9_has_179 rfl fl_X9_165 g35 rfl ?_
    refine aw_iload_n (pc' := 183) (i := 3) hC dX9_has_182 rfl rfl rfl ?_
    obtain ⟨g38, h⟩ := gd_s h
    refine aw_iaload (pc' := 184) hC dX9_has_183 rfl g38 ?_
    obtain ⟨x40, q39, h⟩ := pb_s h
    replace h := u1_s h
    refine aw_cS (pc' := 187) (k2 := 0) (n2 := 0) (st := [.inl v2]) (stN := [.inl x40, .inl v2]) hC [.inl (M (M v0 50) v3)] (mX9_bits q39) lk_X9_448 dX9_has_184 rfl rfl (Nat.le_of_ble_eq_true rfl) (Nat.le_of_ble_eq_true rfl) (Nat.le_of_ble_eq_true rfl) rfl (Nat.le_of_ble_eq_true rfl) rfl rfl rfl ?_
    refine aw_aload_n (pc' := 188) (i := 0) hC dX9_has_187 rfl rfl rfl ?_
    refine aw_getfield (pc' := 191) (v := (.inr (.inr (M v0 14)))) hC dX9_has_188 rfl fl_X9_54 g35 rfl ?_
    refine aw_aload_n (pc' := 192) (i := 0) hC dX9_has_191 rfl rfl rfl ?_
    refine aw_getfield (pc' := 195) (v := (.inl (M v0 13))) hC dX9_has_192 rfl fl_X9_51 g35 rfl ?_
    obtain ⟨g41, h⟩ := gd_s h
    refine aw_iaload (pc' := 196) hC dX9_has_195 rfl g41 ?_
    refine aw_icmp_ne (tgt := 203) (pc' := 199) hC dX9_has_196 (by decide) rfl (fun c42 => ?_) (fun c42 => ?_)
    · replace h := it_n c42 h
      refine aw_iconst (pc' := 204) hC dX9_has_203 rfl (by decide) ?_
      refine aw_iadd (pc' := 205) hC dX9_has_204 rfl  ?_
      refine aw_istore_n (pc' := 206) (i := 2) (ls' := [some (.inr (.inr v0)), none, some (.inl (w32 (v2 + 0))), some (.inl v3)]) hC dX9_has_205 rfl rfl (Nat.le_of_ble_eq_true rfl) rfl rfl ?_
      refine aw_iinc (pc' := 209) (ls' := [some (.inr (.inr v0)), none, some (.inl (w32 (v2 + 0))), some (.inl (w32 (v3 + 1)))]) hC dX9_has_206 rfl rfl rfl rfl ?_
      refine aw_goto (tgt := 164) hC dX9_has_209 (by decide) ?_
      refine aw_sub hC [some (.inr (.inr v0)), none, some (.inl (w32 (v2 + 0))), some (.inl (w32 (v3 + 1)))] ⟨rfl, ⟨rfl, ⟨rfl, trivial⟩⟩⟩ (Nat.le_of_ble_eq_true rfl) ?_
      cases h
      exact hL _ rfl
    · replace h := it_p c42 h
      refine aw_iconst (pc' := 200) hC dX9_has_199 rfl (by decide) ?_
      refine aw_goto (tgt := 204) hC dX9_has_200 (by decide) ?_
      refine aw_iadd (pc' := 205) hC dX9_has_204 rfl  ?_
      refine aw_istore_n (pc' := 206) (i := 2) (ls' := [some (.inr (.inr v0)), none, some (.inl (w32 (v2 + 1))), some (.inl v3)]) hC dX9_has_205 rfl rfl (Nat.le_of_ble_eq_true rfl) rfl rfl ?_
      refine aw_iinc (pc' := 209) (ls' := [some (.inr (.inr v0)), none, some (.inl (w32 (v2 + 1))), some (.inl (w32 (v3 + 1)))]) hC dX9_has_206 rfl rfl rfl rfl ?_
      refine aw_goto (tgt := 164) hC dX9_has_209 (by decide) ?_
      refine aw_sub hC [some (.inr (.inr v0)), none, some (.inl (w32 (v2 + 1))), some (.inl (w32 (v3 + 1)))] ⟨rfl, ⟨rfl, ⟨rfl, trivial⟩⟩⟩ (Nat.le_of_ble_eq_true rfl) ?_
      cases h
      exact hL _ rfl
set_option maxRecDepth 100000 in
set_option maxHeartbeats 4000000 in
theorem w_X9_has_L216 {Γ : AwC} (hC : AOK Γ RX9 cX9_has 4 3 0 0 "has" (some .int)) {sh : AwS} {M : AwM} {v0 : Int} {Q : State → Prop} : ∀ s r, u2 (fX9_has_L216 sh M v0) s = some r → (∀ s', r = .inl s' → p_X9_has_L216 Γ sh M v0 Q s') → (∀ t, r = .inr t → x_X9_has_L216 Γ sh M v0 Q t) → p_X9_has_L216 Γ sh M v0 Q s := by
  intro s r h hL hX
  obtain ⟨v2, v3⟩ := s
  replace h := u2_s h
  unfold fX9_has_L216 at h
  show AW Γ sh M 0 0 216 [some (.inr (.inr v0)), none, some (.inl v2), some (.inl v3)] [] Q
  refine aw_iload_n (pc' := 217) (i := 3) hC dX9_has_216 rfl rfl rfl ?_
  refine aw_aload_n (pc' := 218) (i := 0) hC dX9_has_217 rfl rfl rfl ?_
  obtain ⟨g44, h⟩ := gd_s h
  refine aw_getfield (pc' := 221) (v := (.inr (.inr (M v0 14)))) hC dX9_has_218 rfl fl_X9_54 g44 rfl ?_
  refine aw_aload_n (pc' := 222) (i := 0) hC dX9_has_221 rfl rfl rfl ?_
  refine aw_getfield (pc' := 225) (v := (.inl (M v0 13))) hC dX9_has_222 rfl fl_X9_51 g44 rfl ?_
  obtain ⟨g45, h⟩ := gd_s h
  refine aw_iaload (pc' := 226) hC dX9_has_225 rfl g45 ?_
  refine aw_icmp_ge (tgt := 254) (pc' := 229) hC dX9_has_226 (by decide) rfl (fun c46 => ?_) (fun c46 => ?_)
  · replace h := it_n c46 h
    refine aw_sub hC [none, none, some (.inl v2), none] ⟨rfl, trivial⟩ (Nat.le_of_ble_eq_true rfl) ?_
    cases h
    exact hX _ rfl
  · replace h := it_p c46 h
    refine aw_iload_n (pc' := 230) (i := 2) hC dX9_has_229 rfl rfl rfl ?_
    refine aw_aload_n (pc' := 231) (i := 0) hC dX9_has_230 rfl rfl rfl ?_
    refine aw_iconst (pc' := 232) hC dX9_has_231 rfl (by decide) ?_
    refine aw_iload_n (pc' := 233) (i := 3) hC dX9_has_232 rfl rfl rfl ?_
    obtain ⟨x48, q47, h⟩ := pb_s h
    replace h := u1_s h
    refine aw_cV (pc' := 236) (k2 := 0) (n2 := 0) (st := [.inl v2]) (stN := [.inl x48, .inl v2]) hC [.inl 0, .inl v3] (mX9_isUseless q47) lk_X9_466 g44 dX9_has_233 rfl rfl (Nat.le_of_ble_eq_true rfl) (Nat.le_of_ble_eq_true rfl) (Nat.le_of_ble_eq_true rfl) rfl (Nat.le_of_ble_eq_true rfl) rfl rfl rfl ?_
    refine aw_if_eq (tgt := 245) (pc' := 239) hC dX9_has_236 (by decide) rfl (fun c49 => ?_) (fun c49 => ?_)
    · replace h := it_p c49 h
      refine aw_iconst (pc' := 246) hC dX9_has_245 rfl (by decide) ?_
      refine aw_ior (pc' := 247) hC dX9_has_246 rfl  ?_
      refine aw_istore_n (pc' := 248) (i := 2) (ls' := [some (.inr (.inr v0)), none, some (.inl (or_ v2 0)), some (.inl v3)]) hC dX9_has_247 rfl rfl (Nat.le_of_ble_eq_true rfl) rfl rfl ?_
      refine aw_iinc (pc' := 251) (ls' := [some (.inr (.inr v0)), none, some (.inl (or_ v2 0)), some (.inl (w32 (v3 + 1)))]) hC dX9_has_248 rfl rfl rfl rfl ?_
      refine aw_goto (tgt := 216) hC dX9_has_251 (by decide) ?_
      refine aw_sub hC [some (.inr (.inr v0)), none, some (.inl (or_ v2 0)), some (.inl (w32 (v3 + 1)))] ⟨rfl, ⟨rfl, ⟨rfl, trivial⟩⟩⟩ (Nat.le_of_ble_eq_true rfl) ?_
      cases h
      exact hL _ rfl
    · replace h := it_n c49 h
      refine aw_iconst (pc' := 240) hC dX9_has_239 rfl (by decide) ?_
      refine aw_iload_n (pc' := 241) (i := 3) hC dX9_has_240 rfl rfl rfl ?_
      refine aw_ishl (pc' := 242) hC dX9_has_241 rfl  ?_
      refine aw_goto (tgt := 246) hC dX9_has_242 (by decide) ?_
      refine aw_ior (pc' := 247) hC dX9_has_246 rfl  ?_
      refine aw_istore_n (pc' := 248) (i := 2) (ls' := [some (.inr (.inr v0)), none, some (.inl (or_ v2 (sl_ 1 v3))), some (.inl v3)]) hC dX9_has_247 rfl rfl (Nat.le_of_ble_eq_true rfl) rfl rfl ?_
      refine aw_iinc (pc' := 251) (ls' := [some (.inr (.inr v0)), none, some (.inl (or_ v2 (sl_ 1 v3))), some (.inl (w32 (v3 + 1)))]) hC dX9_has_248 rfl rfl rfl rfl ?_
      refine aw_goto (tgt := 216) hC dX9_has_251 (by decide) ?_
      refine aw_sub hC [some (.inr (.inr v0)), none, some (.inl (or_ v2 (sl_ 1 v3))), some (.inl (w32 (v3 + 1)))] ⟨rfl, ⟨rfl, ⟨rfl, trivial⟩⟩⟩ (Nat.le_of_ble_eq_true rfl) ?_
      cases h
      exact hL _ rfl
set_option maxRecDepth 100000 in
set_option maxHeartbeats 4000000 in
theorem mX9_has {sh : AwS} {M : AwM} {v0 : Int} {v1 : Int} {r : Int} (h : fX9_has sh M v0 v1 = some r) : AMet yX9_has cX9_has 4 (some .int) 3 0 0 [.inr (.inr v0), .inl v1] sh M (some (.inl r)) sh M := by
  refine amet_of (by decide +kernel) (Nat.le_of_ble_eq_true rfl) (fun Γ hC => ?_)
  replace hC : AOK Γ RX9 cX9_has 4 3 0 0 "has" (some .int) := hC
  unfold fX9_has at h
  refine aw_sub hC [some (.inr (.inr v0)), some (.inl v1), none, none] ⟨rfl, ⟨rfl, trivial⟩⟩ (Nat.le_of_ble_eq_true rfl) ?_
  refine aw_iconst (pc' := 1) hC dX9_has_0 rfl (by decide) ?_
  refine aw_istore_n (pc' := 2) (i := 2) (ls' := [some (.inr (.inr v0)), some (.inl v1), some (.inl 0), none]) hC dX9_has_1 rfl rfl (Nat.le_of_ble_eq_true rfl) rfl rfl ?_
  refine aw_iload_n (pc' := 3) (i := 1) hC dX9_has_2 rfl rfl rfl ?_
  by_cases c1 : v1 = 0
  · replace h := it_p c1 h
    refine aw_tsIn (tgt := 64) (off := 61) hC dX9_has_3 ⟨by omega, by omega, by rw [c1]; rfl⟩ (by decide) ?_
    refine aw_aload_n (pc' := 65) (i := 0) hC dX9_has_64 rfl rfl rfl ?_
    obtain ⟨g13, h⟩ := gd_s h
    refine aw_getfield (pc' := 68) (v := (.inr (.inr (M v0 14)))) hC dX9_has_65 rfl fl_X9_54 g13 rfl ?_
    refine aw_aload_n (pc' := 69) (i := 0) hC dX9_has_68 rfl rfl rfl ?_
    refine aw_getfield (pc' := 72) (v := (.inl (M v0 13))) hC dX9_has_69 rfl fl_X9_51 g13 rfl ?_
    obtain ⟨g14, h⟩ := gd_s h
    refine aw_iaload (pc' := 73) hC dX9_has_72 rfl g14 ?_
    cases h
    exact aw_iret hC dX9_has_73 (Nat.le_of_ble_eq_true rfl) (Nat.le_of_ble_eq_true rfl)
  · replace h := it_n c1 h
    by_cases c2 : v1 = 1
    · replace h := it_p c2 h
      refine aw_tsIn (tgt := 74) (off := 71) hC dX9_has_3 ⟨by omega, by omega, by rw [c2]; rfl⟩ (by decide) ?_
      refine aw_aload_n (pc' := 75) (i := 0) hC dX9_has_74 rfl rfl rfl ?_
      obtain ⟨g15, h⟩ := gd_s h
      refine aw_getfield (pc' := 78) (v := (.inr (.inr (M v0 16)))) hC dX9_has_75 rfl fl_X9_60 g15 rfl ?_
      refine aw_aload_n (pc' := 79) (i := 0) hC dX9_has_78 rfl rfl rfl ?_
      refine aw_getfield (pc' := 82) (v := (.inl (M v0 13))) hC dX9_has_79 rfl fl_X9_51 g15 rfl ?_
      obtain ⟨g16, h⟩ := gd_s h
      refine aw_iaload (pc' := 83) hC dX9_has_82 rfl g16 ?_
      cases h
      exact aw_iret hC dX9_has_83 (Nat.le_of_ble_eq_true rfl) (Nat.le_of_ble_eq_true rfl)
    · replace h := it_n c2 h
      by_cases c3 : v1 = 2
      · replace h := it_p c3 h
        refine aw_tsIn (tgt := 84) (off := 81) hC dX9_has_3 ⟨by omega, by omega, by rw [c3]; rfl⟩ (by decide) ?_
        refine aw_aload_n (pc' := 85) (i := 0) hC dX9_has_84 rfl rfl rfl ?_
        obtain ⟨g17, h⟩ := gd_s h
        refine aw_getfield (pc' := 88) (v := (.inr (.inr (M v0 21)))) hC dX9_has_85 rfl fl_X9_75 g17 rfl ?_
        refine aw_aload_n (pc' := 89) (i := 0) hC dX9_has_88 rfl rfl rfl ?_
        refine aw_getfield (pc' := 92) (v := (.inl (M v0 13))) hC dX9_has_89 rfl fl_X9_51 g17 rfl ?_
        obtain ⟨g18, h⟩ := gd_s h
        refine aw_iaload (pc' := 93) hC dX9_has_92 rfl g18 ?_
        cases h
        exact aw_iret hC dX9_has_93 (Nat.le_of_ble_eq_true rfl) (Nat.le_of_ble_eq_true rfl)
      · replace h := it_n c3 h
        by_cases c4 : v1 = 3
        · replace h := it_p c4 h
          refine aw_tsIn (tgt := 94) (off := 91) hC dX9_has_3 ⟨by omega, by omega, by rw [c4]; rfl⟩ (by decide) ?_
          refine aw_aload_n (pc' := 95) (i := 0) hC dX9_has_94 rfl rfl rfl ?_
          obtain ⟨g19, h⟩ := gd_s h
          refine aw_getfield (pc' := 98) (v := (.inr (.inr (M v0 24)))) hC dX9_has_95 rfl fl_X9_84 g19 rfl ?_
          refine aw_aload_n (pc' := 99) (i := 0) hC dX9_has_98 rfl rfl rfl ?_
          refine aw_getfield (pc' := 102) (v := (.inl (M v0 13))) hC dX9_has_99 rfl fl_X9_51 g19 rfl ?_
          obtain ⟨g20, h⟩ := gd_s h
          refine aw_iaload (pc' := 103) hC dX9_has_102 rfl g20 ?_
          cases h
          exact aw_iret hC dX9_has_103 (Nat.le_of_ble_eq_true rfl) (Nat.le_of_ble_eq_true rfl)
        · replace h := it_n c4 h
          by_cases c5 : v1 = 4
          · replace h := it_p c5 h
            refine aw_tsIn (tgt := 104) (off := 101) hC dX9_has_3 ⟨by omega, by omega, by rw [c5]; rfl⟩ (by decide) ?_
            refine aw_aload_n (pc' := 105) (i := 0) hC dX9_has_104 rfl rfl rfl ?_
            obtain ⟨g21, h⟩ := gd_s h
            refine aw_getfield (pc' := 108) (v := (.inr (.inr (M v0 25)))) hC dX9_has_105 rfl fl_X9_87 g21 rfl ?_
            refine aw_aload_n (pc' := 109) (i := 0) hC dX9_has_108 rfl rfl rfl ?_
            refine aw_getfield (pc' := 112) (v := (.inl (M v0 13))) hC dX9_has_109 rfl fl_X9_51 g21 rfl ?_
            obtain ⟨g22, h⟩ := gd_s h
            refine aw_iaload (pc' := 113) hC dX9_has_112 rfl g22 ?_
            cases h
            exact aw_iret hC dX9_has_113 (Nat.le_of_ble_eq_true rfl) (Nat.le_of_ble_eq_true rfl)
          · replace h := it_n c5 h
            by_cases c6 : v1 = 5
            · replace h := it_p c6 h
              refine aw_tsIn (tgt := 114) (off := 111) hC dX9_has_3 ⟨by omega, by omega, by rw [c6]; rfl⟩ (by decide) ?_
              refine aw_aload_n (pc' := 115) (i := 0) hC dX9_has_114 rfl rfl rfl ?_
              obtain ⟨g23, h⟩ := gd_s h
              refine aw_getfield (pc' := 118) (v := (.inr (.inr (M v0 48)))) hC dX9_has_115 rfl fl_X9_159 g23 rfl ?_
              refine aw_iconst (pc' := 119) hC dX9_has_118 rfl (by decide) ?_
              obtain ⟨g24, h⟩ := gd_s h
              refine aw_iaload (pc' := 120) hC dX9_has_119 rfl g24 ?_
              cases h
              exact aw_iret hC dX9_has_120 (Nat.le_of_ble_eq_true rfl) (Nat.le_of_ble_eq_true rfl)
            · replace h := it_n c6 h
              by_cases c7 : v1 = 6
              · replace h := it_p c7 h
                refine aw_tsIn (tgt := 121) (off := 118) hC dX9_has_3 ⟨by omega, by omega, by rw [c7]; rfl⟩ (by decide) ?_
                refine aw_aload_n (pc' := 122) (i := 0) hC dX9_has_121 rfl rfl rfl ?_
                refine aw_iconst (pc' := 123) hC dX9_has_122 rfl (by decide) ?_
                obtain ⟨g26, h⟩ := gd_s h
                obtain ⟨x27, q25, h⟩ := pb_s h
                replace h := u1_s h
                refine aw_cV (pc' := 126) (k2 := 0) (n2 := 0) (st := []) (stN := [.inl x27]) hC [.inl 0] (mX9_flowOf q25) lk_X9_463 g26 dX9_has_123 rfl rfl (Nat.le_of_ble_eq_true rfl) (Nat.le_of_ble_eq_true rfl) (Nat.le_of_ble_eq_true rfl) rfl (Nat.le_of_ble_eq_true rfl) rfl rfl rfl ?_
                cases h
                exact aw_iret hC dX9_has_126 (Nat.le_of_ble_eq_true rfl) (Nat.le_of_ble_eq_true rfl)
              · replace h := it_n c7 h
                by_cases c8 : v1 = 7
                · replace h := it_p c8 h
                  refine aw_tsIn (tgt := 127) (off := 124) hC dX9_has_3 ⟨by omega, by omega, by rw [c8]; rfl⟩ (by decide) ?_
                  refine aw_iconst (pc' := 128) hC dX9_has_127 rfl (by decide) ?_
                  refine aw_istore_n (pc' := 129) (i := 3) (ls' := [some (.inr (.inr v0)), some (.inl v1), some (.inl 0), some (.inl 0)]) hC dX9_has_128 rfl rfl (Nat.le_of_ble_eq_true rfl) rfl rfl ?_
                  obtain ⟨tq34, q34, h⟩ := pb_s h
                  refine aw_sub hC [some (.inr (.inr v0)), none, some (.inl 0), some (.inl 0)] ⟨rfl, ⟨rfl, ⟨rfl, trivial⟩⟩⟩ (Nat.le_of_ble_eq_true rfl) ?_
                  refine (lp_aw (p_X9_has_L129 Γ sh M v0 (fin_ Γ 0 0 (some (.inl r)) sh M)) (x_X9_has_L129 Γ sh M v0 (fin_ Γ 0 0 (some (.inl r)) sh M)) (w_X9_has_L129 hC ) FU _ _ q34 ?_ : p_X9_has_L129 Γ sh M v0 (fin_ Γ 0 0 (some (.inl r)) sh M) (0, 0))
                  replace h := u1_s h
                  show AW Γ sh M 0 0 160 [none, none, some (.inl tq34), none] [] _
                  refine aw_iload_n (pc' := 161) (i := 2) hC dX9_has_160 rfl rfl rfl ?_
                  cases h
                  exact aw_iret hC dX9_has_161 (Nat.le_of_ble_eq_true rfl) (Nat.le_of_ble_eq_true rfl)
                · replace h := it_n c8 h
                  by_cases c9 : v1 = 8
                  · replace h := it_p c9 h
                    refine aw_tsIn (tgt := 162) (off := 159) hC dX9_has_3 ⟨by omega, by omega, by rw [c9]; rfl⟩ (by decide) ?_
                    refine aw_iconst (pc' := 163) hC dX9_has_162 rfl (by decide) ?_
                    refine aw_istore_n (pc' := 164) (i := 3) (ls' := [some (.inr (.inr v0)), some (.inl v1), some (.inl 0), some (.inl 0)]) hC dX9_has_163 rfl rfl (Nat.le_of_ble_eq_true rfl) rfl rfl ?_
                    obtain ⟨tq43, q43, h⟩ := pb_s h
                    refine aw_sub hC [some (.inr (.inr v0)), none, some (.inl 0), some (.inl 0)] ⟨rfl, ⟨rfl, ⟨rfl, trivial⟩⟩⟩ (Nat.le_of_ble_eq_true rfl) ?_
                    refine (lp_aw (p_X9_has_L164 Γ sh M v0 (fin_ Γ 0 0 (some (.inl r)) sh M)) (x_X9_has_L164 Γ sh M v0 (fin_ Γ 0 0 (some (.inl r)) sh M)) (w_X9_has_L164 hC ) FU _ _ q43 ?_ : p_X9_has_L164 Γ sh M v0 (fin_ Γ 0 0 (some (.inl r)) sh M) (0, 0))
                    replace h := u1_s h
                    show AW Γ sh M 0 0 212 [none, none, some (.inl tq43), none] [] _
                    refine aw_iload_n (pc' := 213) (i := 2) hC dX9_has_212 rfl rfl rfl ?_
                    cases h
                    exact aw_iret hC dX9_has_213 (Nat.le_of_ble_eq_true rfl) (Nat.le_of_ble_eq_true rfl)
                  · replace h := it_n c9 h
                    by_cases c10 : v1 = 9
                    · replace h := it_p c10 h
                      refine aw_tsIn (tgt := 214) (off := 211) hC dX9_has_3 ⟨by omega, by omega, by rw [c10]; rfl⟩ (by decide) ?_
                      refine aw_iconst (pc' := 215) hC dX9_has_214 rfl (by decide) ?_
                      refine aw_istore_n (pc' := 216) (i := 3) (ls' := [some (.inr (.inr v0)), some (.inl v1), some (.inl 0), some (.inl 0)]) hC dX9_has_215 rfl rfl (Nat.le_of_ble_eq_true rfl) rfl rfl ?_
                      obtain ⟨tq50, q50, h⟩ := pb_s h
                      refine aw_sub hC [some (.inr (.inr v0)), none, some (.inl 0), some (.inl 0)] ⟨rfl, ⟨rfl, ⟨rfl, trivial⟩⟩⟩ (Nat.le_of_ble_eq_true rfl) ?_
                      refine (lp_aw (p_X9_has_L216 Γ sh M v0 (fin_ Γ 0 0 (some (.inl r)) sh M)) (x_X9_has_L216 Γ sh M v0 (fin_ Γ 0 0 (some (.inl r)) sh M)) (w_X9_has_L216 hC ) FU _ _ q50 ?_ : p_X9_has_L216 Γ sh M v0 (fin_ Γ 0 0 (some (.inl r)) sh M) (0, 0))
                      replace h := u1_s h
                      show AW Γ sh M 0 0 254 [none, none, some (.inl tq50), none] [] _
                      refine aw_iload_n (pc' := 255) (i := 2) hC dX9_has_254 rfl rfl rfl ?_
                      cases h
                      exact aw_iret hC dX9_has_255 (Nat.le_of_ble_eq_true rfl) (Nat.le_of_ble_eq_true rfl)
                    · replace h := it_n c10 h
                      by_cases c11 : v1 = 10
                      · replace h := it_p c11 h
                        refine aw_tsIn (tgt := 256) (off := 253) hC dX9_has_3 ⟨by omega, by omega, by rw [c11]; rfl⟩ (by decide) ?_
                        refine aw_aload_n (pc' := 257) (i := 0) hC dX9_has_256 rfl rfl rfl ?_
                        obtain ⟨g51, h⟩ := gd_s h
                        refine aw_getfield (pc' := 260) (v := (.inl (M v0 54))) hC dX9_has_257 rfl fl_X9_177 g51 rfl ?_
                        cases h
                        exact aw_iret hC dX9_has_260 (Nat.le_of_ble_eq_true rfl) (Nat.le_of_ble_eq_true rfl)
                      · replace h := it_n c11 h
                        by_cases c12 : v1 = 11
                        · replace h := it_p c12 h
                          refine aw_tsIn (tgt := 261) (off := 258) hC dX9_has_3 ⟨by omega, by omega, by rw [c12]; rfl⟩ (by decide) ?_
                          refine aw_aload_n (pc' := 262) (i := 0) hC dX9_has_261 rfl rfl rfl ?_
                          obtain ⟨g52, h⟩ := gd_s h
                          refine aw_getfield (pc' := 265) (v := (.inr (.inl (M v0 55)))) hC dX9_has_262 rfl fl_X9_180 g52 rfl ?_
                          refine aw_l2i (pc' := 266) hC dX9_has_265 rfl  ?_
                          cases h
                          exact aw_iret hC dX9_has_266 (Nat.le_of_ble_eq_true rfl) (Nat.le_of_ble_eq_true rfl)
                        · replace h := it_n c12 h
                          refine aw_tsOut (tgt := 267) hC dX9_has_3 (by omega) (by decide) ?_
                          refine aw_iconst (pc' := 268) hC dX9_has_267 rfl (by decide) ?_
                          cases h
                          exact aw_iret hC dX9_has_268 (Nat.le_of_ble_eq_true rfl) (Nat.le_of_ble_eq_true rfl)
-- CoinCircleModel.letter(III)I
def fX9_letter_L58 (sh : AwS) (M : AwM) (v3 : Int) (v4 : Int) (v6 : Int) (v7 : Int) : Option ((Int × Int) ⊕ (Int)) :=
  (if 0 < (cmp_ v7 0) then some (.inl ((w32 (v6 + 1)), (srl_ v7 8))) else some (.inr v6))
def p_X9_letter_L58 (Γ : AwC) (sh : AwS) (M : AwM) (v3 : Int) (v4 : Int) (Q : State → Prop) (s : Int × Int) : Prop := AW Γ sh M 0 0 58 [none, none, none, some (.inl v3), some (.inr (.inl v4)), none, some (.inl (s.1)), some (.inr (.inl (s.2))), none] [] Q
def x_X9_letter_L58 (Γ : AwC) (sh : AwS) (M : AwM) (v3 : Int) (v4 : Int) (Q : State → Prop) : (Int) → Prop := (fun (t : Int) => AW Γ sh M 0 0 78 [none, none, none, some (.inl v3), some (.inr (.inl v4)), none, some (.inl (t)), none, none] [] Q)
def fX9_letter (sh : AwS) (M : AwM) (v0 : Int) (v1 : Int) (v2 : Int) (v3 : Int) : Option Int :=
  pb (fX9_is sh M v1 0 2) <| u1 fun (x2 : Int) => ((if x2 = 0 then some (-1) else gd_ (kd_ sh v0 = (0, 9)) (pb (fX9_manyOf sh M v0 (M v0 13) v1) <| u1 fun (x6 : Int) => (pb (fX9_is sh M v2 0 (w32 (x6 - 1))) <| u1 fun (x8 : Int) => ((if x8 = 0 then some (-1) else pb (fX9_is sh M v3 0 5) <| u1 fun (x11 : Int) => ((if x11 = 0 then some (-1) else pb (fX9_nameOf sh M v0 (M v0 13) v1 v2) <| u1 fun (x14 : Int) => (pb (lp (u2 (fX9_letter_L58 sh M v3 x14)) FU (0, x14)) (u1 (fun (tq16 : Int) => (if v3 < tq16 then some (w32 ((w32 ((w32 (anl_ (srl_ x14 (w32 (8 * (w32 ((w32 (tq16 - 1)) - v3))))) 255)) - 97)) + 1)) else some 0))))))))))))
set_option maxRecDepth 100000 in
set_option maxHeartbeats 4000000 in
theorem w_X9_letter_L58 {Γ : AwC} (hC : AOK Γ RX9 cX9_letter 9 2 0 0 "letter" (some .int)) {sh : AwS} {M : AwM} {v3 : Int} {v4 : Int} {Q : State → Prop} : ∀ s r, u2 (fX9_letter_L58 sh M v3 v4) s = some r → (∀ s', r = .inl s' → p_X9_letter_L58 Γ sh M v3 v4 Q s') → (∀ t, r = .inr t → x_X9_letter_L58 Γ sh M v3 v4 Q t) → p_X9_letter_L58 Γ sh M v3 v4 Q s := by
  intro s r h hL hX
  obtain ⟨v6, v7⟩ := s
  replace h := u2_s h
  unfold fX9_letter_L58 at h
  show AW Γ sh M 0 0 58 [none, none, none, some (.inl v3), some (.inr (.inl v4)), none, some (.inl v6), some (.inr (.inl v7)), none] [] Q
  refine aw_lload (pc' := 60) hC dX9_letter_58 rfl rfl ?_
  refine aw_lconst (pc' := 61) (v := 0) hC dX9_letter_60 rfl rfl (by decide) ?_
  refine aw_lcmp (pc' := 62) hC dX9_letter_61 rfl  ?_
  refine aw_if_le (tgt := 78) (pc' := 65) hC dX9_letter_62 (by decide) rfl (fun c15 => ?_) (fun c15 => ?_)
  · replace h := it_n c15 h
    refine aw_sub hC [none, none, none, some (.inl v3), some (.inr (.inl v4)), none, some (.inl v6), none, none] ⟨rfl, ⟨rfl, ⟨rfl, trivial⟩⟩⟩ (Nat.le_of_ble_eq_true rfl) ?_
    cases h
    exact hX _ rfl
  · replace h := it_p c15 h
    refine aw_iinc (pc' := 68) (ls' := [none, none, none, some (.inl v3), some (.inr (.inl v4)), none, some (.inl (w32 (v6 + 1))), some (.inr (.inl v7)), none]) hC dX9_letter_65 rfl rfl rfl rfl ?_
    refine aw_lload (pc' := 70) hC dX9_letter_68 rfl rfl ?_
    refine aw_bipush (pc' := 72) hC dX9_letter_70 rfl (by decide) ?_
    refine aw_lshr (pc' := 73) hC dX9_letter_72 rfl  ?_
    refine aw_lstore (pc' := 75) (ls' := [none, none, none, some (.inl v3), some (.inr (.inl v4)), none, some (.inl (w32 (v6 + 1))), some (.inr (.inl (srl_ v7 8))), none]) hC dX9_letter_73 rfl (Nat.le_of_ble_eq_true rfl) rfl rfl ?_
    refine aw_goto (tgt := 58) hC dX9_letter_75 (by decide) ?_
    refine aw_sub hC [none, none, none, some (.inl v3), some (.inr (.inl v4)), none, some (.inl (w32 (v6 + 1))), some (.inr (.inl (srl_ v7 8))), none] ⟨rfl, ⟨rfl, ⟨rfl, ⟨rfl, trivial⟩⟩⟩⟩ (Nat.le_of_ble_eq_true rfl) ?_
    cases h
    exact hL _ rfl
set_option maxRecDepth 100000 in
set_option maxHeartbeats 4000000 in
theorem mX9_letter {sh : AwS} {M : AwM} {v0 : Int} {v1 : Int} {v2 : Int} {v3 : Int} {r : Int} (h : fX9_letter sh M v0 v1 v2 v3 = some r) : AMet yX9_letter cX9_letter 9 (some .int) 2 0 0 [.inr (.inr v0), .inl v1, .inl v2, .inl v3] sh M (some (.inl r)) sh M := by
  refine amet_of (by decide +kernel) (Nat.le_of_ble_eq_true rfl) (fun Γ hC => ?_)
  replace hC : AOK Γ RX9 cX9_letter 9 2 0 0 "letter" (some .int) := hC
  unfold fX9_letter at h
  refine aw_sub hC [some (.inr (.inr v0)), some (.inl v1), some (.inl v2), some (.inl v3), none, none, none, none, none] ⟨rfl, ⟨rfl, ⟨rfl, ⟨rfl, trivial⟩⟩⟩⟩ (Nat.le_of_ble_eq_true rfl) ?_
  refine aw_iload_n (pc' := 1) (i := 1) hC dX9_letter_0 rfl rfl rfl ?_
  refine aw_iconst (pc' := 2) hC dX9_letter_1 rfl (by decide) ?_
  refine aw_iconst (pc' := 3) hC dX9_letter_2 rfl (by decide) ?_
  obtain ⟨x2, q1, h⟩ := pb_s h
  replace h := u1_s h
  refine aw_cS (pc' := 6) (k2 := 0) (n2 := 0) (st := []) (stN := [.inl x2]) hC [.inl v1, .inl 0, .inl 2] (mX9_is q1) lk_X9_314 dX9_letter_3 rfl rfl (Nat.le_of_ble_eq_true rfl) (Nat.le_of_ble_eq_true rfl) (Nat.le_of_ble_eq_true rfl) rfl (Nat.le_of_ble_eq_true rfl) rfl rfl rfl ?_
  refine aw_if_eq (tgt := 37) (pc' := 9) hC dX9_letter_6 (by decide) rfl (fun c3 => ?_) (fun c3 => ?_)
  · replace h := it_p c3 h
    refine aw_iconst (pc' := 38) hC dX9_letter_37 rfl (by decide) ?_
    cases h
    exact aw_iret hC dX9_letter_38 (Nat.le_of_ble_eq_true rfl) (Nat.le_of_ble_eq_true rfl)
  · replace h := it_n c3 h
    refine aw_iload_n (pc' := 10) (i := 2) hC dX9_letter_9 rfl rfl rfl ?_
    refine aw_iconst (pc' := 11) hC dX9_letter_10 rfl (by decide) ?_
    refine aw_aload_n (pc' := 12) (i := 0) hC dX9_letter_11 rfl rfl rfl ?_
    refine aw_aload_n (pc' := 13) (i := 0) hC dX9_letter_12 rfl rfl rfl ?_
    obtain ⟨g4, h⟩ := gd_s h
    refine aw_getfield (pc' := 16) (v := (.inl (M v0 13))) hC dX9_letter_13 rfl fl_X9_51 g4 rfl ?_
    refine aw_iload_n (pc' := 17) (i := 1) hC dX9_letter_16 rfl rfl rfl ?_
    obtain ⟨x6, q5, h⟩ := pb_s h
    replace h := u1_s h
    refine aw_cV (pc' := 20) (k2 := 0) (n2 := 0) (st := [.inl 0, .inl v2]) (stN := [.inl x6, .inl 0, .inl v2]) hC [.inl (M v0 13), .inl v1] (mX9_manyOf q5) lk_X9_306 g4 dX9_letter_17 rfl rfl (Nat.le_of_ble_eq_true rfl) (Nat.le_of_ble_eq_true rfl) (Nat.le_of_ble_eq_true rfl) rfl (Nat.le_of_ble_eq_true rfl) rfl rfl rfl ?_
    refine aw_iconst (pc' := 21) hC dX9_letter_20 rfl (by decide) ?_
    refine aw_isub (pc' := 22) hC dX9_letter_21 rfl  ?_
    obtain ⟨x8, q7, h⟩ := pb_s h
    replace h := u1_s h
    refine aw_cS (pc' := 25) (k2 := 0) (n2 := 0) (st := []) (stN := [.inl x8]) hC [.inl v2, .inl 0, .inl (w32 (x6 - 1))] (mX9_is q7) lk_X9_314 dX9_letter_22 rfl rfl (Nat.le_of_ble_eq_true rfl) (Nat.le_of_ble_eq_true rfl) (Nat.le_of_ble_eq_true rfl) rfl (Nat.le_of_ble_eq_true rfl) rfl rfl rfl ?_
    refine aw_if_eq (tgt := 37) (pc' := 28) hC dX9_letter_25 (by decide) rfl (fun c9 => ?_) (fun c9 => ?_)
    · replace h := it_p c9 h
      refine aw_iconst (pc' := 38) hC dX9_letter_37 rfl (by decide) ?_
      cases h
      exact aw_iret hC dX9_letter_38 (Nat.le_of_ble_eq_true rfl) (Nat.le_of_ble_eq_true rfl)
    · replace h := it_n c9 h
      refine aw_iload_n (pc' := 29) (i := 3) hC dX9_letter_28 rfl rfl rfl ?_
      refine aw_iconst (pc' := 30) hC dX9_letter_29 rfl (by decide) ?_
      refine aw_iconst (pc' := 31) hC dX9_letter_30 rfl (by decide) ?_
      obtain ⟨x11, q10, h⟩ := pb_s h
      replace h := u1_s h
      refine aw_cS (pc' := 34) (k2 := 0) (n2 := 0) (st := []) (stN := [.inl x11]) hC [.inl v3, .inl 0, .inl 5] (mX9_is q10) lk_X9_314 dX9_letter_31 rfl rfl (Nat.le_of_ble_eq_true rfl) (Nat.le_of_ble_eq_true rfl) (Nat.le_of_ble_eq_true rfl) rfl (Nat.le_of_ble_eq_true rfl) rfl rfl rfl ?_
      refine aw_if_ne (tgt := 39) (pc' := 37) hC dX9_letter_34 (by decide) rfl (fun c12 => ?_) (fun c12 => ?_)
      · replace h := it_n c12 h
        refine aw_aload_n (pc' := 40) (i := 0) hC dX9_letter_39 rfl rfl rfl ?_
        refine aw_aload_n (pc' := 41) (i := 0) hC dX9_letter_40 rfl rfl rfl ?_
        refine aw_getfield (pc' := 44) (v := (.inl (M v0 13))) hC dX9_letter_41 rfl fl_X9_51 g4 rfl ?_
        refine aw_iload_n (pc' := 45) (i := 1) hC dX9_letter_44 rfl rfl rfl ?_
        refine aw_iload_n (pc' := 46) (i := 2) hC dX9_letter_45 rfl rfl rfl ?_
        obtain ⟨x14, q13, h⟩ := pb_s h
        replace h := u1_s h
        refine aw_cV (pc' := 49) (k2 := 0) (n2 := 0) (st := []) (stN := [.inr (.inl x14)]) hC [.inl (M v0 13), .inl v1, .inl v2] (mX9_nameOf q13) lk_X9_310 g4 dX9_letter_46 rfl rfl (Nat.le_of_ble_eq_true rfl) (Nat.le_of_ble_eq_true rfl) (Nat.le_of_ble_eq_true rfl) rfl (Nat.le_of_ble_eq_true rfl) rfl rfl rfl ?_
        refine aw_lstore (pc' := 51) (ls' := [some (.inr (.inr v0)), some (.inl v1), some (.inl v2), some (.inl v3), some (.inr (.inl x14)), none, none, none, none]) hC dX9_letter_49 rfl (Nat.le_of_ble_eq_true rfl) rfl rfl ?_
        refine aw_iconst (pc' := 52) hC dX9_letter_51 rfl (by decide) ?_
        refine aw_istore (pc' := 54) (ls' := [some (.inr (.inr v0)), some (.inl v1), some (.inl v2), some (.inl v3), some (.inr (.inl x14)), none, some (.inl 0), none, none]) hC dX9_letter_52 rfl (Nat.le_of_ble_eq_true rfl) rfl rfl ?_
        refine aw_lload (pc' := 56) hC dX9_letter_54 rfl rfl ?_
        refine aw_lstore (pc' := 58) (ls' := [some (.inr (.inr v0)), some (.inl v1), some (.inl v2), some (.inl v3), some (.inr (.inl x14)), none, some (.inl 0), some (.inr (.inl x14)), none]) hC dX9_letter_56 rfl (Nat.le_of_ble_eq_true rfl) rfl rfl ?_
        obtain ⟨tq16, q16, h⟩ := pb_s h
        refine aw_sub hC [none, none, none, some (.inl v3), some (.inr (.inl x14)), none, some (.inl 0), some (.inr (.inl x14)), none] ⟨rfl, ⟨rfl, ⟨rfl, ⟨rfl, trivial⟩⟩⟩⟩ (Nat.le_of_ble_eq_true rfl) ?_
        refine (lp_aw (p_X9_letter_L58 Γ sh M v3 x14 (fin_ Γ 0 0 (some (.inl r)) sh M)) (x_X9_letter_L58 Γ sh M v3 x14 (fin_ Γ 0 0 (some (.inl r)) sh M)) (w_X9_letter_L58 hC ) FU _ _ q16 ?_ : p_X9_letter_L58 Γ sh M v3 x14 (fin_ Γ 0 0 (some (.inl r)) sh M) (0, x14))
        replace h := u1_s h
        show AW Γ sh M 0 0 78 [none, none, none, some (.inl v3), some (.inr (.inl x14)), none, some (.inl tq16), none, none] [] _
        refine aw_iload_n (pc' := 79) (i := 3) hC dX9_letter_78 rfl rfl rfl ?_
        refine aw_iload (pc' := 81) hC dX9_letter_79 rfl rfl ?_
        refine aw_icmp_lt (tgt := 88) (pc' := 84) hC dX9_letter_81 (by decide) rfl (fun c17 => ?_) (fun c17 => ?_)
        · replace h := it_p c17 h
          refine aw_lload (pc' := 90) hC dX9_letter_88 rfl rfl ?_
          refine aw_bipush (pc' := 92) hC dX9_letter_90 rfl (by decide) ?_
          refine aw_iload (pc' := 94) hC dX9_letter_92 rfl rfl ?_
          refine aw_iconst (pc' := 95) hC dX9_letter_94 rfl (by decide) ?_
          refine aw_isub (pc' := 96) hC dX9_letter_95 rfl  ?_
          refine aw_iload_n (pc' := 97) (i := 3) hC dX9_letter_96 rfl rfl rfl ?_
          refine aw_isub (pc' := 98) hC dX9_letter_97 rfl  ?_
          refine aw_imul (pc' := 99) hC dX9_letter_98 rfl  ?_
          refine aw_lshr (pc' := 100) hC dX9_letter_99 rfl  ?_
          refine aw_ldc2 (pc' := 103) (v := 255) hC dX9_letter_100 rfl ck_X9_469 (by unfold I64; omega) ?_
          refine aw_land (pc' := 104) hC dX9_letter_103 rfl  ?_
          refine aw_l2i (pc' := 105) hC dX9_letter_104 rfl  ?_
          refine aw_bipush (pc' := 107) hC dX9_letter_105 rfl (by decide) ?_
          refine aw_isub (pc' := 108) hC dX9_letter_107 rfl  ?_
          refine aw_iconst (pc' := 109) hC dX9_letter_108 rfl (by decide) ?_
          refine aw_iadd (pc' := 110) hC dX9_letter_109 rfl  ?_
          cases h
          exact aw_iret hC dX9_letter_110 (Nat.le_of_ble_eq_true rfl) (Nat.le_of_ble_eq_true rfl)
        · replace h := it_n c17 h
          refine aw_iconst (pc' := 85) hC dX9_letter_84 rfl (by decide) ?_
          refine aw_goto (tgt := 110) hC dX9_letter_85 (by decide) ?_
          cases h
          exact aw_iret hC dX9_letter_110 (Nat.le_of_ble_eq_true rfl) (Nat.le_of_ble_eq_true rfl)
      · replace h := it_p c12 h
        refine aw_iconst (pc' := 38) hC dX9_letter_37 rfl (by decide) ?_
        cases h
        exact aw_iret hC dX9_letter_38 (Nat.le_of_ble_eq_true rfl) (Nat.le_of_ble_eq_true rfl)
-- CoinCircleModel.person(II)I
def fX9_person_L86 (sh : AwS) (M : AwM) (v0 : Int) (v1 : Int) (v3 : Int) (v4 : Int) : Option ((Int × Int) ⊕ (Int)) :=
  gd_ (kd_ sh v0 = (0, 9)) (gd_ ((kd_ sh (M v0 16)).1 = 1 ∧ (0 : Int) ≤ (M v0 13) ∧ (M v0 13) < ((kd_ sh (M v0 16)).2 : Int)) ((if v4 < (M (M v0 16) (M v0 13)) then gd_ ((kd_ sh (M v0 51)).1 = 1 ∧ (0 : Int) ≤ v4 ∧ v4 < ((kd_ sh (M v0 51)).2 : Int)) (pb (fX9_has2 sh M (M (M v0 51) v4) v1) <| u1 fun (x26 : Int) => ((if x26 = 0 then some (.inl ((or_ v3 0), (w32 (v4 + 1)))) else some (.inl ((or_ v3 (sl_ 1 v4)), (w32 (v4 + 1))))))) else some (.inr v3))))
def p_X9_person_L86 (Γ : AwC) (sh : AwS) (M : AwM) (v0 : Int) (v1 : Int) (Q : State → Prop) (s : Int × Int) : Prop := AW Γ sh M 0 0 86 [some (.inr (.inr v0)), some (.inl v1), none, some (.inl (s.1)), some (.inl (s.2))] [] Q
def x_X9_person_L86 (Γ : AwC) (sh : AwS) (M : AwM) (v0 : Int) (v1 : Int) (Q : State → Prop) : (Int) → Prop := (fun (t : Int) => AW Γ sh M 0 0 131 [none, none, none, some (.inl (t)), none] [] Q)
def fX9_person (sh : AwS) (M : AwM) (v0 : Int) (v1 : Int) (v2 : Int) : Option Int :=
  gd_ (kd_ sh v0 = (0, 9)) (pb (fX9_isPerson sh M v0 v1) <| u1 fun (x3 : Int) => ((if x3 = 0 then some (-1) else (if v2 = 0 then pb (fX9_rankOf sh M v0 v1) <| u1 fun (x12 : Int) => (some x12) else (if v2 = 1 then pb (fX9_heldBy sh M v0 0 v1) <| u1 fun (x14 : Int) => (some x14) else (if v2 = 2 then pb (fX9_heldBy sh M v0 0 v1) <| u1 fun (x16 : Int) => (pb (fX9_worthAll sh M v0 x16) <| u1 fun (x18 : Int) => (some x18)) else (if v2 = 3 then pb (fX9_knowing sh M v0 0 v1) <| u1 fun (x20 : Int) => (some x20) else (if v2 = 4 then pb (lp (u2 (fX9_person_L86 sh M v0 v1)) FU (0, 0)) (u1 (fun (tq28 : Int) => some tq28)) else (if v2 = 5 then pb (fX9_isUseless sh M v0 0 v1) <| u1 fun (x30 : Int) => ((if x30 = 0 then some 0 else some 1)) else some (-1))))))))))
set_option maxRecDepth 100000 in
set_option maxHeartbeats 4000000 in
theorem w_X9_person_L86 {Γ : AwC} (hC : AOK Γ RX9 cX9_person 5 3 0 0 "person" (some .int)) {sh : AwS} {M : AwM} {v0 : Int} {v1 : Int} {Q : State → Prop} : ∀ s r, u2 (fX9_person_L86 sh M v0 v1) s = some r → (∀ s', r = .inl s' → p_X9_person_L86 Γ sh M v0 v1 Q s') → (∀ t, r = .inr t → x_X9_person_L86 Γ sh M v0 v1 Q t) → p_X9_person_L86 Γ sh M v0 v1 Q s := by
  intro s r h hL hX
  obtain ⟨v3, v4⟩ := s
  replace h := u2_s h
  unfold fX9_person_L86 at h
  show AW Γ sh M 0 0 86 [some (.inr (.inr v0)), some (.inl v1), none, some (.inl v3), some (.inl v4)] [] Q
  refine aw_iload (pc' := 88) hC dX9_person_86 rfl rfl ?_
  refine aw_aload_n (pc' := 89) (i := 0) hC dX9_person_88 rfl rfl rfl ?_
  obtain ⟨g21, h⟩ := gd_s h
  refine aw_getfield (pc' := 92) (v := (.inr (.inr (M v0 16)))) hC dX9_person_89 rfl fl_X9_60 g21 rfl ?_
  refine aw_aload_n (pc' := 93) (i := 0) hC dX9_person_92 rfl rfl rfl ?_
  refine aw_getfield (pc' := 96) (v := (.inl (M v0 13))) hC dX9_person_93 rfl fl_X9_51 g21 rfl ?_
  obtain ⟨g22, h⟩ := gd_s h
  refine aw_iaload (pc' := 97) hC dX9_person_96 rfl g22 ?_
  refine aw_icmp_ge (tgt := 131) (pc' := 100) hC dX9_person_97 (by decide) rfl (fun c23 => ?_) (fun c23 => ?_)
  · replace h := it_n c23 h
    refine aw_sub hC [none, none, none, some (.inl v3), none] ⟨rfl, trivial⟩ (Nat.le_of_ble_eq_true rfl) ?_
    cases h
    exact hX _ rfl
  · replace h := it_p c23 h
    refine aw_iload_n (pc' := 101) (i := 3) hC dX9_person_100 rfl rfl rfl ?_
    refine aw_aload_n (pc' := 102) (i := 0) hC dX9_person_101 rfl rfl rfl ?_
    refine aw_getfield (pc' := 105) (v := (.inr (.inr (M v0 51)))) hC dX9_person_102 rfl fl_X9_168 g21 rfl ?_
    refine aw_iload (pc' := 107) hC dX9_person_105 rfl rfl ?_
    obtain ⟨g24, h⟩ := gd_s h
    refine aw_iaload (pc' := 108) hC dX9_person_107 rfl g24 ?_
    refine aw_iload_n (pc' := 109) (i := 1) hC dX9_person_108 rfl rfl rfl ?_
    obtain ⟨x26, q25, h⟩ := pb_s h
    replace h := u1_s h
    refine aw_cS (pc' := 112) (k2 := 0) (n2 := 0) (st := [.inl v3]) (stN := [.inl x26, .inl v3]) hC [.inl (M (M v0 51) v4), .inl v1] (mX9_has2 q25) lk_X9_373 dX9_person_109 rfl rfl (Nat.le_of_ble_eq_true rfl) (Nat.le_of_ble_eq_true rfl) (Nat.le_of_ble_eq_true rfl) rfl (Nat.le_of_ble_eq_true rfl) rfl rfl rfl ?_
    refine aw_if_eq (tgt := 122) (pc' := 115) hC dX9_person_112 (by decide) rfl (fun c27 => ?_) (fun c27 => ?_)
    · replace h := it_p c27 h
      refine aw_iconst (pc' := 123) hC dX9_person_122 rfl (by decide) ?_
      refine aw_ior (pc' := 124) hC dX9_person_123 rfl  ?_
      refine aw_istore_n (pc' := 125) (i := 3) (ls' := [some (.inr (.inr v0)), some (.inl v1), none, some (.inl (or_ v3 0)), some (.inl v4)]) hC dX9_person_124 rfl rfl (Nat.le_of_ble_eq_true rfl) rfl rfl ?_
      refine aw_iinc (pc' := 128) (ls' := [some (.inr (.inr v0)), some (.inl v1), none, some (.inl (or_ v3 0)), some (.inl (w32 (v4 + 1)))]) hC dX9_person_125 rfl rfl rfl rfl ?_
      refine aw_goto (tgt := 86) hC dX9_person_128 (by decide) ?_
      refine aw_sub hC [some (.inr (.inr v0)), some (.inl v1), none, some (.inl (or_ v3 0)), some (.inl (w32 (v4 + 1)))] ⟨rfl, ⟨rfl, ⟨rfl, ⟨rfl, trivial⟩⟩⟩⟩ (Nat.le_of_ble_eq_true rfl) ?_
      cases h
      exact hL _ rfl
    · replace h := it_n c27 h
      refine aw_iconst (pc' := 116) hC dX9_person_115 rfl (by decide) ?_
      refine aw_iload (pc' := 118) hC dX9_person_116 rfl rfl ?_
      refine aw_ishl (pc' := 119) hC dX9_person_118 rfl  ?_
      refine aw_goto (tgt := 123) hC dX9_person_119 (by decide) ?_
      refine aw_ior (pc' := 124) hC dX9_person_123 rfl  ?_
      refine aw_istore_n (pc' := 125) (i := 3) (ls' := [some (.inr (.inr v0)), some (.inl v1), none, some (.inl (or_ v3 (sl_ 1 v4))), some (.inl v4)]) hC dX9_person_124 rfl rfl (Nat.le_of_ble_eq_true rfl) rfl rfl ?_
      refine aw_iinc (pc' := 128) (ls' := [some (.inr (.inr v0)), some (.inl v1), none, some (.inl (or_ v3 (sl_ 1 v4))), some (.inl (w32 (v4 + 1)))]) hC dX9_person_125 rfl rfl rfl rfl ?_
      refine aw_goto (tgt := 86) hC dX9_person_128 (by decide) ?_
      refine aw_sub hC [some (.inr (.inr v0)), some (.inl v1), none, some (.inl (or_ v3 (sl_ 1 v4))), some (.inl (w32 (v4 + 1)))] ⟨rfl, ⟨rfl, ⟨rfl, ⟨rfl, trivial⟩⟩⟩⟩ (Nat.le_of_ble_eq_true rfl) ?_
      cases h
      exact hL _ rfl
set_option maxRecDepth 100000 in
set_option maxHeartbeats 4000000 in
theorem mX9_person {sh : AwS} {M : AwM} {v0 : Int} {v1 : Int} {v2 : Int} {r : Int} (h : fX9_person sh M v0 v1 v2 = some r) : AMet yX9_person cX9_person 5 (some .int) 3 0 0 [.inr (.inr v0), .inl v1, .inl v2] sh M (some (.inl r)) sh M := by
  refine amet_of (by decide +kernel) (Nat.le_of_ble_eq_true rfl) (fun Γ hC => ?_)
  replace hC : AOK Γ RX9 cX9_person 5 3 0 0 "person" (some .int) := hC
  unfold fX9_person at h
  refine aw_sub hC [some (.inr (.inr v0)), some (.inl v1), some (.inl v2), none, none] ⟨rfl, ⟨rfl, ⟨rfl, trivial⟩⟩⟩ (Nat.le_of_ble_eq_true rfl) ?_
  refine aw_aload_n (pc' := 1) (i := 0) hC dX9_person_0 rfl rfl rfl ?_
  refine aw_iload_n (pc' := 2) (i := 1) hC dX9_person_1 rfl rfl rfl ?_
  obtain ⟨g2, h⟩ := gd_s h
  obtain ⟨x3, q1, h⟩ := pb_s h
  replace h := u1_s h
  refine aw_cV (pc' := 5) (k2 := 0) (n2 := 0) (st := []) (stN := [.inl x3]) hC [.inl v1] (mX9_isPerson q1) lk_X9_471 g2 dX9_person_2 rfl rfl (Nat.le_of_ble_eq_true rfl) (Nat.le_of_ble_eq_true rfl) (Nat.le_of_ble_eq_true rfl) rfl (Nat.le_of_ble_eq_true rfl) rfl rfl rfl ?_
  refine aw_if_ne (tgt := 10) (pc' := 8) hC dX9_person_5 (by decide) rfl (fun c4 => ?_) (fun c4 => ?_)
  · replace h := it_n c4 h
    refine aw_iconst (pc' := 11) hC dX9_person_10 rfl (by decide) ?_
    refine aw_istore_n (pc' := 12) (i := 3) (ls' := [some (.inr (.inr v0)), some (.inl v1), some (.inl v2), some (.inl 0), none]) hC dX9_person_11 rfl rfl (Nat.le_of_ble_eq_true rfl) rfl rfl ?_
    refine aw_iload_n (pc' := 13) (i := 2) hC dX9_person_12 rfl rfl rfl ?_
    by_cases c5 : v2 = 0
    · replace h := it_p c5 h
      refine aw_tsIn (tgt := 52) (off := 39) hC dX9_person_13 ⟨by omega, by omega, by rw [c5]; rfl⟩ (by decide) ?_
      refine aw_aload_n (pc' := 53) (i := 0) hC dX9_person_52 rfl rfl rfl ?_
      refine aw_iload_n (pc' := 54) (i := 1) hC dX9_person_53 rfl rfl rfl ?_
      obtain ⟨x12, q11, h⟩ := pb_s h
      replace h := u1_s h
      refine aw_cV (pc' := 57) (k2 := 0) (n2 := 0) (st := []) (stN := [.inl x12]) hC [.inl v1] (mX9_rankOf q11) lk_X9_442 g2 dX9_person_54 rfl rfl (Nat.le_of_ble_eq_true rfl) (Nat.le_of_ble_eq_true rfl) (Nat.le_of_ble_eq_true rfl) rfl (Nat.le_of_ble_eq_true rfl) rfl rfl rfl ?_
      cases h
      exact aw_iret hC dX9_person_57 (Nat.le_of_ble_eq_true rfl) (Nat.le_of_ble_eq_true rfl)
    · replace h := it_n c5 h
      by_cases c6 : v2 = 1
      · replace h := it_p c6 h
        refine aw_tsIn (tgt := 58) (off := 45) hC dX9_person_13 ⟨by omega, by omega, by rw [c6]; rfl⟩ (by decide) ?_
        refine aw_aload_n (pc' := 59) (i := 0) hC dX9_person_58 rfl rfl rfl ?_
        refine aw_iconst (pc' := 60) hC dX9_person_59 rfl (by decide) ?_
        refine aw_iload_n (pc' := 61) (i := 1) hC dX9_person_60 rfl rfl rfl ?_
        obtain ⟨x14, q13, h⟩ := pb_s h
        replace h := u1_s h
        refine aw_cV (pc' := 64) (k2 := 0) (n2 := 0) (st := []) (stN := [.inl x14]) hC [.inl 0, .inl v1] (mX9_heldBy q13) lk_X9_451 g2 dX9_person_61 rfl rfl (Nat.le_of_ble_eq_true rfl) (Nat.le_of_ble_eq_true rfl) (Nat.le_of_ble_eq_true rfl) rfl (Nat.le_of_ble_eq_true rfl) rfl rfl rfl ?_
        cases h
        exact aw_iret hC dX9_person_64 (Nat.le_of_ble_eq_true rfl) (Nat.le_of_ble_eq_true rfl)
      · replace h := it_n c6 h
        by_cases c7 : v2 = 2
        · replace h := it_p c7 h
          refine aw_tsIn (tgt := 65) (off := 52) hC dX9_person_13 ⟨by omega, by omega, by rw [c7]; rfl⟩ (by decide) ?_
          refine aw_aload_n (pc' := 66) (i := 0) hC dX9_person_65 rfl rfl rfl ?_
          refine aw_aload_n (pc' := 67) (i := 0) hC dX9_person_66 rfl rfl rfl ?_
          refine aw_iconst (pc' := 68) hC dX9_person_67 rfl (by decide) ?_
          refine aw_iload_n (pc' := 69) (i := 1) hC dX9_person_68 rfl rfl rfl ?_
          obtain ⟨x16, q15, h⟩ := pb_s h
          replace h := u1_s h
          refine aw_cV (pc' := 72) (k2 := 0) (n2 := 0) (st := [.inr (.inr v0)]) (stN := [.inl x16, .inr (.inr v0)]) hC [.inl 0, .inl v1] (mX9_heldBy q15) lk_X9_451 g2 dX9_person_69 rfl rfl (Nat.le_of_ble_eq_true rfl) (Nat.le_of_ble_eq_true rfl) (Nat.le_of_ble_eq_true rfl) rfl (Nat.le_of_ble_eq_true rfl) rfl rfl rfl ?_
          obtain ⟨x18, q17, h⟩ := pb_s h
          replace h := u1_s h
          refine aw_cV (pc' := 75) (k2 := 0) (n2 := 0) (st := []) (stN := [.inl x18]) hC [.inl x16] (mX9_worthAll q17) lk_X9_474 g2 dX9_person_72 rfl rfl (Nat.le_of_ble_eq_true rfl) (Nat.le_of_ble_eq_true rfl) (Nat.le_of_ble_eq_true rfl) rfl (Nat.le_of_ble_eq_true rfl) rfl rfl rfl ?_
          cases h
          exact aw_iret hC dX9_person_75 (Nat.le_of_ble_eq_true rfl) (Nat.le_of_ble_eq_true rfl)
        · replace h := it_n c7 h
          by_cases c8 : v2 = 3
          · replace h := it_p c8 h
            refine aw_tsIn (tgt := 76) (off := 63) hC dX9_person_13 ⟨by omega, by omega, by rw [c8]; rfl⟩ (by decide) ?_
            refine aw_aload_n (pc' := 77) (i := 0) hC dX9_person_76 rfl rfl rfl ?_
            refine aw_iconst (pc' := 78) hC dX9_person_77 rfl (by decide) ?_
            refine aw_iload_n (pc' := 79) (i := 1) hC dX9_person_78 rfl rfl rfl ?_
            obtain ⟨x20, q19, h⟩ := pb_s h
            replace h := u1_s h
            refine aw_cV (pc' := 82) (k2 := 0) (n2 := 0) (st := []) (stN := [.inl x20]) hC [.inl 0, .inl v1] (mX9_knowing q19) lk_X9_458 g2 dX9_person_79 rfl rfl (Nat.le_of_ble_eq_true rfl) (Nat.le_of_ble_eq_true rfl) (Nat.le_of_ble_eq_true rfl) rfl (Nat.le_of_ble_eq_true rfl) rfl rfl rfl ?_
            cases h
            exact aw_iret hC dX9_person_82 (Nat.le_of_ble_eq_true rfl) (Nat.le_of_ble_eq_true rfl)
          · replace h := it_n c8 h
            by_cases c9 : v2 = 4
            · replace h := it_p c9 h
              refine aw_tsIn (tgt := 83) (off := 70) hC dX9_person_13 ⟨by omega, by omega, by rw [c9]; rfl⟩ (by decide) ?_
              refine aw_iconst (pc' := 84) hC dX9_person_83 rfl (by decide) ?_
              refine aw_istore (pc' := 86) (ls' := [some (.inr (.inr v0)), some (.inl v1), some (.inl v2), some (.inl 0), some (.inl 0)]) hC dX9_person_84 rfl (Nat.le_of_ble_eq_true rfl) rfl rfl ?_
              obtain ⟨tq28, q28, h⟩ := pb_s h
              refine aw_sub hC [some (.inr (.inr v0)), some (.inl v1), none, some (.inl 0), some (.inl 0)] ⟨rfl, ⟨rfl, ⟨rfl, ⟨rfl, trivial⟩⟩⟩⟩ (Nat.le_of_ble_eq_true rfl) ?_
              refine (lp_aw (p_X9_person_L86 Γ sh M v0 v1 (fin_ Γ 0 0 (some (.inl r)) sh M)) (x_X9_person_L86 Γ sh M v0 v1 (fin_ Γ 0 0 (some (.inl r)) sh M)) (w_X9_person_L86 hC ) FU _ _ q28 ?_ : p_X9_person_L86 Γ sh M v0 v1 (fin_ Γ 0 0 (some (.inl r)) sh M) (0, 0))
              replace h := u1_s h
              show AW Γ sh M 0 0 131 [none, none, none, some (.inl tq28), none] [] _
              refine aw_iload_n (pc' := 132) (i := 3) hC dX9_person_131 rfl rfl rfl ?_
              cases h
              exact aw_iret hC dX9_person_132 (Nat.le_of_ble_eq_true rfl) (Nat.le_of_ble_eq_true rfl)
            · replace h := it_n c9 h
              by_cases c10 : v2 = 5
              · replace h := it_p c10 h
                refine aw_tsIn (tgt := 133) (off := 120) hC dX9_person_13 ⟨by omega, by omega, by rw [c10]; rfl⟩ (by decide) ?_
                refine aw_aload_n (pc' := 134) (i := 0) hC dX9_person_133 rfl rfl rfl ?_
                refine aw_iconst (pc' := 135) hC dX9_person_134 rfl (by decide) ?_
                refine aw_iload_n (pc' := 136) (i := 1) hC dX9_person_135 rfl rfl rfl ?_
                obtain ⟨x30, q29, h⟩ := pb_s h
                replace h := u1_s h
                refine aw_cV (pc' := 139) (k2 := 0) (n2 := 0) (st := []) (stN := [.inl x30]) hC [.inl 0, .inl v1] (mX9_isUseless q29) lk_X9_466 g2 dX9_person_136 rfl rfl (Nat.le_of_ble_eq_true rfl) (Nat.le_of_ble_eq_true rfl) (Nat.le_of_ble_eq_true rfl) rfl (Nat.le_of_ble_eq_true rfl) rfl rfl rfl ?_
                refine aw_if_eq (tgt := 146) (pc' := 142) hC dX9_person_139 (by decide) rfl (fun c31 => ?_) (fun c31 => ?_)
                · replace h := it_p c31 h
                  refine aw_iconst (pc' := 147) hC dX9_person_146 rfl (by decide) ?_
                  cases h
                  exact aw_iret hC dX9_person_147 (Nat.le_of_ble_eq_true rfl) (Nat.le_of_ble_eq_true rfl)
                · replace h := it_n c31 h
                  refine aw_iconst (pc' := 143) hC dX9_person_142 rfl (by decide) ?_
                  refine aw_goto (tgt := 147) hC dX9_person_143 (by decide) ?_
                  cases h
                  exact aw_iret hC dX9_person_147 (Nat.le_of_ble_eq_true rfl) (Nat.le_of_ble_eq_true rfl)
              · replace h := it_n c10 h
                refine aw_tsOut (tgt := 148) hC dX9_person_13 (by omega) (by decide) ?_
                refine aw_iconst (pc' := 149) hC dX9_person_148 rfl (by decide) ?_
                cases h
                exact aw_iret hC dX9_person_149 (Nat.le_of_ble_eq_true rfl) (Nat.le_of_ble_eq_true rfl)
  · replace h := it_p c4 h
    refine aw_iconst (pc' := 9) hC dX9_person_8 rfl (by decide) ?_
    cases h
    exact aw_iret hC dX9_person_9 (Nat.le_of_ble_eq_true rfl) (Nat.le_of_ble_eq_true rfl)
-- CoinCircleModel.coin(II)I
def fX9_coin (sh : AwS) (M : AwM) (v0 : Int) (v1 : Int) (v2 : Int) : Option Int :=
  gd_ (kd_ sh v0 = (0, 9)) (pb (fX9_isCoin sh M v0 v1) <| u1 fun (x3 : Int) => ((if x3 = 0 then some (-1) else (if v2 = 0 then pb (fX9_worthOf sh M v0 v1) <| u1 fun (x11 : Int) => (some x11) else (if v2 = 1 then gd_ ((kd_ sh (M v0 49)).1 = 1 ∧ (0 : Int) ≤ v1 ∧ v1 < ((kd_ sh (M v0 49)).2 : Int)) (some (M (M v0 49) v1)) else (if v2 = 2 then gd_ ((kd_ sh (M v0 50)).1 = 1 ∧ (0 : Int) ≤ v1 ∧ v1 < ((kd_ sh (M v0 50)).2 : Int)) (some (M (M v0 50) v1)) else (if v2 = 3 then gd_ ((kd_ sh (M v0 51)).1 = 1 ∧ (0 : Int) ≤ v1 ∧ v1 < ((kd_ sh (M v0 51)).2 : Int)) (some (M (M v0 51) v1)) else (if v2 = 4 then gd_ ((kd_ sh (M v0 50)).1 = 1 ∧ (0 : Int) ≤ v1 ∧ v1 < ((kd_ sh (M v0 50)).2 : Int)) (pb (fX9_bits sh M (M (M v0 50) v1)) <| u1 fun (x17 : Int) => (some x17)) else some (-1)))))))))
set_option maxRecDepth 100000 in
set_option maxHeartbeats 4000000 in
theorem mX9_coin {sh : AwS} {M : AwM} {v0 : Int} {v1 : Int} {v2 : Int} {r : Int} (h : fX9_coin sh M v0 v1 v2 = some r) : AMet yX9_coin cX9_coin 3 (some .int) 2 0 0 [.inr (.inr v0), .inl v1, .inl v2] sh M (some (.inl r)) sh M := by
  refine amet_of (by decide +kernel) (Nat.le_of_ble_eq_true rfl) (fun Γ hC => ?_)
  replace hC : AOK Γ RX9 cX9_coin 3 2 0 0 "coin" (some .int) := hC
  unfold fX9_coin at h
  refine aw_sub hC [some (.inr (.inr v0)), some (.inl v1), some (.inl v2)] ⟨rfl, ⟨rfl, ⟨rfl, trivial⟩⟩⟩ (Nat.le_of_ble_eq_true rfl) ?_
  refine aw_aload_n (pc' := 1) (i := 0) hC dX9_coin_0 rfl rfl rfl ?_
  refine aw_iload_n (pc' := 2) (i := 1) hC dX9_coin_1 rfl rfl rfl ?_
  obtain ⟨g2, h⟩ := gd_s h
  obtain ⟨x3, q1, h⟩ := pb_s h
  replace h := u1_s h
  refine aw_cV (pc' := 5) (k2 := 0) (n2 := 0) (st := []) (stN := [.inl x3]) hC [.inl v1] (mX9_isCoin q1) lk_X9_477 g2 dX9_coin_2 rfl rfl (Nat.le_of_ble_eq_true rfl) (Nat.le_of_ble_eq_true rfl) (Nat.le_of_ble_eq_true rfl) rfl (Nat.le_of_ble_eq_true rfl) rfl rfl rfl ?_
  refine aw_if_ne (tgt := 10) (pc' := 8) hC dX9_coin_5 (by decide) rfl (fun c4 => ?_) (fun c4 => ?_)
  · replace h := it_n c4 h
    refine aw_iload_n (pc' := 11) (i := 2) hC dX9_coin_10 rfl rfl rfl ?_
    by_cases c5 : v2 = 0
    · replace h := it_p c5 h
      refine aw_tsIn (tgt := 44) (off := 33) hC dX9_coin_11 ⟨by omega, by omega, by rw [c5]; rfl⟩ (by decide) ?_
      refine aw_aload_n (pc' := 45) (i := 0) hC dX9_coin_44 rfl rfl rfl ?_
      refine aw_iload_n (pc' := 46) (i := 1) hC dX9_coin_45 rfl rfl rfl ?_
      obtain ⟨x11, q10, h⟩ := pb_s h
      replace h := u1_s h
      refine aw_cV (pc' := 49) (k2 := 0) (n2 := 0) (st := []) (stN := [.inl x11]) hC [.inl v1] (mX9_worthOf q10) lk_X9_419 g2 dX9_coin_46 rfl rfl (Nat.le_of_ble_eq_true rfl) (Nat.le_of_ble_eq_true rfl) (Nat.le_of_ble_eq_true rfl) rfl (Nat.le_of_ble_eq_true rfl) rfl rfl rfl ?_
      cases h
      exact aw_iret hC dX9_coin_49 (Nat.le_of_ble_eq_true rfl) (Nat.le_of_ble_eq_true rfl)
    · replace h := it_n c5 h
      by_cases c6 : v2 = 1
      · replace h := it_p c6 h
        refine aw_tsIn (tgt := 50) (off := 39) hC dX9_coin_11 ⟨by omega, by omega, by rw [c6]; rfl⟩ (by decide) ?_
        refine aw_aload_n (pc' := 51) (i := 0) hC dX9_coin_50 rfl rfl rfl ?_
        refine aw_getfield (pc' := 54) (v := (.inr (.inr (M v0 49)))) hC dX9_coin_51 rfl fl_X9_162 g2 rfl ?_
        refine aw_iload_n (pc' := 55) (i := 1) hC dX9_coin_54 rfl rfl rfl ?_
        obtain ⟨g12, h⟩ := gd_s h
        refine aw_iaload (pc' := 56) hC dX9_coin_55 rfl g12 ?_
        cases h
        exact aw_iret hC dX9_coin_56 (Nat.le_of_ble_eq_true rfl) (Nat.le_of_ble_eq_true rfl)
      · replace h := it_n c6 h
        by_cases c7 : v2 = 2
        · replace h := it_p c7 h
          refine aw_tsIn (tgt := 57) (off := 46) hC dX9_coin_11 ⟨by omega, by omega, by rw [c7]; rfl⟩ (by decide) ?_
          refine aw_aload_n (pc' := 58) (i := 0) hC dX9_coin_57 rfl rfl rfl ?_
          refine aw_getfield (pc' := 61) (v := (.inr (.inr (M v0 50)))) hC dX9_coin_58 rfl fl_X9_165 g2 rfl ?_
          refine aw_iload_n (pc' := 62) (i := 1) hC dX9_coin_61 rfl rfl rfl ?_
          obtain ⟨g13, h⟩ := gd_s h
          refine aw_iaload (pc' := 63) hC dX9_coin_62 rfl g13 ?_
          cases h
          exact aw_iret hC dX9_coin_63 (Nat.le_of_ble_eq_true rfl) (Nat.le_of_ble_eq_true rfl)
        · replace h := it_n c7 h
          by_cases c8 : v2 = 3
          · replace h := it_p c8 h
            refine aw_tsIn (tgt := 64) (off := 53) hC dX9_coin_11 ⟨by omega, by omega, by rw [c8]; rfl⟩ (by decide) ?_
            refine aw_aload_n (pc' := 65) (i := 0) hC dX9_coin_64 rfl rfl rfl ?_
            refine aw_getfield (pc' := 68) (v := (.inr (.inr (M v0 51)))) hC dX9_coin_65 rfl fl_X9_168 g2 rfl ?_
            refine aw_iload_n (pc' := 69) (i := 1) hC dX9_coin_68 rfl rfl rfl ?_
            obtain ⟨g14, h⟩ := gd_s h
            refine aw_iaload (pc' := 70) hC dX9_coin_69 rfl g14 ?_
            cases h
            exact aw_iret hC dX9_coin_70 (Nat.le_of_ble_eq_true rfl) (Nat.le_of_ble_eq_true rfl)
          · replace h := it_n c8 h
            by_cases c9 : v2 = 4
            · replace h := it_p c9 h
              refine aw_tsIn (tgt := 71) (off := 60) hC dX9_coin_11 ⟨by omega, by omega, by rw [c9]; rfl⟩ (by decide) ?_
              refine aw_aload_n (pc' := 72) (i := 0) hC dX9_coin_71 rfl rfl rfl ?_
              refine aw_getfield (pc' := 75) (v := (.inr (.inr (M v0 50)))) hC dX9_coin_72 rfl fl_X9_165 g2 rfl ?_
              refine aw_iload_n (pc' := 76) (i := 1) hC dX9_coin_75 rfl rfl rfl ?_
              obtain ⟨g15, h⟩ := gd_s h
              refine aw_iaload (pc' := 77) hC dX9_coin_76 rfl g15 ?_
              obtain ⟨x17, q16, h⟩ := pb_s h
              replace h := u1_s h
              refine aw_cS (pc' := 80) (k2 := 0) (n2 := 0) (st := []) (stN := [.inl x17]) hC [.inl (M (M v0 50) v1)] (mX9_bits q16) lk_X9_448 dX9_coin_77 rfl rfl (Nat.le_of_ble_eq_true rfl) (Nat.le_of_ble_eq_true rfl) (Nat.le_of_ble_eq_true rfl) rfl (Nat.le_of_ble_eq_true rfl) rfl rfl rfl ?_
              cases h
              exact aw_iret hC dX9_coin_80 (Nat.le_of_ble_eq_true rfl) (Nat.le_of_ble_eq_true rfl)
            · replace h := it_n c9 h
              refine aw_tsOut (tgt := 81) hC dX9_coin_11 (by omega) (by decide) ?_
              refine aw_iconst (pc' := 82) hC dX9_coin_81 rfl (by decide) ?_
              cases h
              exact aw_iret hC dX9_coin_82 (Nat.le_of_ble_eq_true rfl) (Nat.le_of_ble_eq_true rfl)
  · replace h := it_p c4 h
    refine aw_iconst (pc' := 9) hC dX9_coin_8 rfl (by decide) ?_
    cases h
    exact aw_iret hC dX9_coin_9 (Nat.le_of_ble_eq_true rfl) (Nat.le_of_ble_eq_true rfl)
-- CoinCircleModel.met(II)I
def fX9_met (sh : AwS) (M : AwM) (v0 : Int) (v1 : Int) (v2 : Int) : Option Int :=
  gd_ (kd_ sh v0 = (0, 9)) (pb (fX9_isCoin sh M v0 v1) <| u1 fun (x3 : Int) => ((if x3 = 0 then some (-1) else pb (fX9_isPerson sh M v0 v2) <| u1 fun (x6 : Int) => ((if x6 = 0 then some (-1) else gd_ ((kd_ sh (M v0 50)).1 = 1 ∧ (0 : Int) ≤ v1 ∧ v1 < ((kd_ sh (M v0 50)).2 : Int)) (pb (fX9_has2 sh M (M (M v0 50) v1) v2) <| u1 fun (x10 : Int) => ((if x10 = 0 then some (-1) else gd_ ((kd_ sh (M v0 52)).1 = 1 ∧ (0 : Int) ≤ (w32 ((w32 (10 * v1)) + v2)) ∧ (w32 ((w32 (10 * v1)) + v2)) < ((kd_ sh (M v0 52)).2 : Int)) (some (M (M v0 52) (w32 ((w32 (10 * v1)) + v2))))))))))))
set_option maxRecDepth 100000 in
set_option maxHeartbeats 4000000 in
theorem mX9_met {sh : AwS} {M : AwM} {v0 : Int} {v1 : Int} {v2 : Int} {r : Int} (h : fX9_met sh M v0 v1 v2 = some r) : AMet yX9_met cX9_met 3 (some .int) 2 0 0 [.inr (.inr v0), .inl v1, .inl v2] sh M (some (.inl r)) sh M := by
  refine amet_of (by decide +kernel) (Nat.le_of_ble_eq_true rfl) (fun Γ hC => ?_)
  replace hC : AOK Γ RX9 cX9_met 3 2 0 0 "met" (some .int) := hC
  unfold fX9_met at h
  refine aw_sub hC [some (.inr (.inr v0)), some (.inl v1), some (.inl v2)] ⟨rfl, ⟨rfl, ⟨rfl, trivial⟩⟩⟩ (Nat.le_of_ble_eq_true rfl) ?_
  refine aw_aload_n (pc' := 1) (i := 0) hC dX9_met_0 rfl rfl rfl ?_
  refine aw_iload_n (pc' := 2) (i := 1) hC dX9_met_1 rfl rfl rfl ?_
  obtain ⟨g2, h⟩ := gd_s h
  obtain ⟨x3, q1, h⟩ := pb_s h
  replace h := u1_s h
  refine aw_cV (pc' := 5) (k2 := 0) (n2 := 0) (st := []) (stN := [.inl x3]) hC [.inl v1] (mX9_isCoin q1) lk_X9_477 g2 dX9_met_2 rfl rfl (Nat.le_of_ble_eq_true rfl) (Nat.le_of_ble_eq_true rfl) (Nat.le_of_ble_eq_true rfl) rfl (Nat.le_of_ble_eq_true rfl) rfl rfl rfl ?_
  refine aw_if_eq (tgt := 43) (pc' := 8) hC dX9_met_5 (by decide) rfl (fun c4 => ?_) (fun c4 => ?_)
  · replace h := it_p c4 h
    refine aw_iconst (pc' := 44) hC dX9_met_43 rfl (by decide) ?_
    cases h
    exact aw_iret hC dX9_met_44 (Nat.le_of_ble_eq_true rfl) (Nat.le_of_ble_eq_true rfl)
  · replace h := it_n c4 h
    refine aw_aload_n (pc' := 9) (i := 0) hC dX9_met_8 rfl rfl rfl ?_
    refine aw_iload_n (pc' := 10) (i := 2) hC dX9_met_9 rfl rfl rfl ?_
    obtain ⟨x6, q5, h⟩ := pb_s h
    replace h := u1_s h
    refine aw_cV (pc' := 13) (k2 := 0) (n2 := 0) (st := []) (stN := [.inl x6]) hC [.inl v2] (mX9_isPerson q5) lk_X9_471 g2 dX9_met_10 rfl rfl (Nat.le_of_ble_eq_true rfl) (Nat.le_of_ble_eq_true rfl) (Nat.le_of_ble_eq_true rfl) rfl (Nat.le_of_ble_eq_true rfl) rfl rfl rfl ?_
    refine aw_if_eq (tgt := 43) (pc' := 16) hC dX9_met_13 (by decide) rfl (fun c7 => ?_) (fun c7 => ?_)
    · replace h := it_p c7 h
      refine aw_iconst (pc' := 44) hC dX9_met_43 rfl (by decide) ?_
      cases h
      exact aw_iret hC dX9_met_44 (Nat.le_of_ble_eq_true rfl) (Nat.le_of_ble_eq_true rfl)
    · replace h := it_n c7 h
      refine aw_aload_n (pc' := 17) (i := 0) hC dX9_met_16 rfl rfl rfl ?_
      refine aw_getfield (pc' := 20) (v := (.inr (.inr (M v0 50)))) hC dX9_met_17 rfl fl_X9_165 g2 rfl ?_
      refine aw_iload_n (pc' := 21) (i := 1) hC dX9_met_20 rfl rfl rfl ?_
      obtain ⟨g8, h⟩ := gd_s h
      refine aw_iaload (pc' := 22) hC dX9_met_21 rfl g8 ?_
      refine aw_iload_n (pc' := 23) (i := 2) hC dX9_met_22 rfl rfl rfl ?_
      obtain ⟨x10, q9, h⟩ := pb_s h
      replace h := u1_s h
      refine aw_cS (pc' := 26) (k2 := 0) (n2 := 0) (st := []) (stN := [.inl x10]) hC [.inl (M (M v0 50) v1), .inl v2] (mX9_has2 q9) lk_X9_373 dX9_met_23 rfl rfl (Nat.le_of_ble_eq_true rfl) (Nat.le_of_ble_eq_true rfl) (Nat.le_of_ble_eq_true rfl) rfl (Nat.le_of_ble_eq_true rfl) rfl rfl rfl ?_
      refine aw_if_eq (tgt := 43) (pc' := 29) hC dX9_met_26 (by decide) rfl (fun c11 => ?_) (fun c11 => ?_)
      · replace h := it_p c11 h
        refine aw_iconst (pc' := 44) hC dX9_met_43 rfl (by decide) ?_
        cases h
        exact aw_iret hC dX9_met_44 (Nat.le_of_ble_eq_true rfl) (Nat.le_of_ble_eq_true rfl)
      · replace h := it_n c11 h
        refine aw_aload_n (pc' := 30) (i := 0) hC dX9_met_29 rfl rfl rfl ?_
        refine aw_getfield (pc' := 33) (v := (.inr (.inr (M v0 52)))) hC dX9_met_30 rfl fl_X9_171 g2 rfl ?_
        refine aw_bipush (pc' := 35) hC dX9_met_33 rfl (by decide) ?_
        refine aw_iload_n (pc' := 36) (i := 1) hC dX9_met_35 rfl rfl rfl ?_
        refine aw_imul (pc' := 37) hC dX9_met_36 rfl  ?_
        refine aw_iload_n (pc' := 38) (i := 2) hC dX9_met_37 rfl rfl rfl ?_
        refine aw_iadd (pc' := 39) hC dX9_met_38 rfl  ?_
        obtain ⟨g12, h⟩ := gd_s h
        refine aw_iaload (pc' := 40) hC dX9_met_39 rfl g12 ?_
        refine aw_goto (tgt := 44) hC dX9_met_40 (by decide) ?_
        cases h
        exact aw_iret hC dX9_met_44 (Nat.le_of_ble_eq_true rfl) (Nat.le_of_ble_eq_true rfl)
-- CoinCircleModel.may(II)I
def fX9_may (sh : AwS) (M : AwM) (v0 : Int) (v1 : Int) (v2 : Int) : Option (Int × AwM) :=
  gd_ (kd_ sh v0 = (0, 9)) (pb (fX9_isCoin sh M v0 v1) <| u1 fun (x3 : Int) => ((if x3 = 0 then some ((-1), M) else pb (fX9_isPerson sh M v0 v2) <| u1 fun (x6 : Int) => ((if x6 = 0 then some ((-1), M) else pb (fX9_canPresent sh M v0 0 v1 v2) <| u1 fun (x9 : Int) => ((if x9 = 0 then some ((-1), M) else pb (fX9_wouldKnow sh M v0 0 v1 v2) <| u2 fun (x12 : Int) (M13 : AwM) => ((if x12 = 0 then some (0, M13) else some (1, M13))))))))))
set_option maxRecDepth 100000 in
set_option maxHeartbeats 4000000 in
theorem mX9_may {sh : AwS} {M : AwM} {v0 : Int} {v1 : Int} {v2 : Int} {r : Int} {M' : AwM} (h : fX9_may sh M v0 v1 v2 = some (r, M')) : AMet yX9_may cX9_may 3 (some .int) 6 0 0 [.inr (.inr v0), .inl v1, .inl v2] sh M (some (.inl r)) sh M' := by
  refine amet_of (by decide +kernel) (Nat.le_of_ble_eq_true rfl) (fun Γ hC => ?_)
  replace hC : AOK Γ RX9 cX9_may 3 6 0 0 "may" (some .int) := hC
  unfold fX9_may at h
  refine aw_sub hC [some (.inr (.inr v0)), some (.inl v1), some (.inl v2)] ⟨rfl, ⟨rfl, ⟨rfl, trivial⟩⟩⟩ (Nat.le_of_ble_eq_true rfl) ?_
  refine aw_aload_n (pc' := 1) (i := 0) hC dX9_may_0 rfl rfl rfl ?_
  refine aw_iload_n (pc' := 2) (i := 1) hC dX9_may_1 rfl rfl rfl ?_
  obtain ⟨g2, h⟩ := gd_s h
  obtain ⟨x3, q1, h⟩ := pb_s h
  replace h := u1_s h
  refine aw_cV (pc' := 5) (k2 := 0) (n2 := 0) (st := []) (stN := [.inl x3]) hC [.inl v1] (mX9_isCoin q1) lk_X9_477 g2 dX9_may_2 rfl rfl (Nat.le_of_ble_eq_true rfl) (Nat.le_of_ble_eq_true rfl) (Nat.le_of_ble_eq_true rfl) rfl (Nat.le_of_ble_eq_true rfl) rfl rfl rfl ?_
  refine aw_if_eq (tgt := 26) (pc' := 8) hC dX9_may_5 (by decide) rfl (fun c4 => ?_) (fun c4 => ?_)
  · replace h := it_p c4 h
    refine aw_iconst (pc' := 27) hC dX9_may_26 rfl (by decide) ?_
    refine aw_goto (tgt := 45) hC dX9_may_27 (by decide) ?_
    cases h
    exact aw_iret hC dX9_may_45 (Nat.le_of_ble_eq_true rfl) (Nat.le_of_ble_eq_true rfl)
  · replace h := it_n c4 h
    refine aw_aload_n (pc' := 9) (i := 0) hC dX9_may_8 rfl rfl rfl ?_
    refine aw_iload_n (pc' := 10) (i := 2) hC dX9_may_9 rfl rfl rfl ?_
    obtain ⟨x6, q5, h⟩ := pb_s h
    replace h := u1_s h
    refine aw_cV (pc' := 13) (k2 := 0) (n2 := 0) (st := []) (stN := [.inl x6]) hC [.inl v2] (mX9_isPerson q5) lk_X9_471 g2 dX9_may_10 rfl rfl (Nat.le_of_ble_eq_true rfl) (Nat.le_of_ble_eq_true rfl) (Nat.le_of_ble_eq_true rfl) rfl (Nat.le_of_ble_eq_true rfl) rfl rfl rfl ?_
    refine aw_if_eq (tgt := 26) (pc' := 16) hC dX9_may_13 (by decide) rfl (fun c7 => ?_) (fun c7 => ?_)
    · replace h := it_p c7 h
      refine aw_iconst (pc' := 27) hC dX9_may_26 rfl (by decide) ?_
      refine aw_goto (tgt := 45) hC dX9_may_27 (by decide) ?_
      cases h
      exact aw_iret hC dX9_may_45 (Nat.le_of_ble_eq_true rfl) (Nat.le_of_ble_eq_true rfl)
    · replace h := it_n c7 h
      refine aw_aload_n (pc' := 17) (i := 0) hC dX9_may_16 rfl rfl rfl ?_
      refine aw_iconst (pc' := 18) hC dX9_may_17 rfl (by decide) ?_
      refine aw_iload_n (pc' := 19) (i := 1) hC dX9_may_18 rfl rfl rfl ?_
      refine aw_iload_n (pc' := 20) (i := 2) hC dX9_may_19 rfl rfl rfl ?_
      obtain ⟨x9, q8, h⟩ := pb_s h
      replace h := u1_s h
      refine aw_cV (pc' := 23) (k2 := 0) (n2 := 0) (st := []) (stN := [.inl x9]) hC [.inl 0, .inl v1, .inl v2] (mX9_canPresent q8) lk_X9_480 g2 dX9_may_20 rfl rfl (Nat.le_of_ble_eq_true rfl) (Nat.le_of_ble_eq_true rfl) (Nat.le_of_ble_eq_true rfl) rfl (Nat.le_of_ble_eq_true rfl) rfl rfl rfl ?_
      refine aw_if_ne (tgt := 30) (pc' := 26) hC dX9_may_23 (by decide) rfl (fun c10 => ?_) (fun c10 => ?_)
      · replace h := it_n c10 h
        refine aw_aload_n (pc' := 31) (i := 0) hC dX9_may_30 rfl rfl rfl ?_
        refine aw_iconst (pc' := 32) hC dX9_may_31 rfl (by decide) ?_
        refine aw_iload_n (pc' := 33) (i := 1) hC dX9_may_32 rfl rfl rfl ?_
        refine aw_iload_n (pc' := 34) (i := 2) hC dX9_may_33 rfl rfl rfl ?_
        obtain ⟨⟨x12, M13⟩, q11, h⟩ := pb_s h
        replace h := u2_s h
        refine aw_cV (pc' := 37) (k2 := 0) (n2 := 0) (st := []) (stN := [.inl x12]) hC [.inl 0, .inl v1, .inl v2] (mX9_wouldKnow q11) lk_X9_483 g2 dX9_may_34 rfl rfl (Nat.le_of_ble_eq_true rfl) (Nat.le_of_ble_eq_true rfl) (Nat.le_of_ble_eq_true rfl) rfl (Nat.le_of_ble_eq_true rfl) rfl rfl rfl ?_
        refine aw_if_eq (tgt := 44) (pc' := 40) hC dX9_may_37 (by decide) rfl (fun c14 => ?_) (fun c14 => ?_)
        · replace h := it_p c14 h
          refine aw_iconst (pc' := 45) hC dX9_may_44 rfl (by decide) ?_
          cases h
          exact aw_iret hC dX9_may_45 (Nat.le_of_ble_eq_true rfl) (Nat.le_of_ble_eq_true rfl)
        · replace h := it_n c14 h
          refine aw_iconst (pc' := 41) hC dX9_may_40 rfl (by decide) ?_
          refine aw_goto (tgt := 45) hC dX9_may_41 (by decide) ?_
          cases h
          exact aw_iret hC dX9_may_45 (Nat.le_of_ble_eq_true rfl) (Nat.le_of_ble_eq_true rfl)
      · replace h := it_p c10 h
        refine aw_iconst (pc' := 27) hC dX9_may_26 rfl (by decide) ?_
        refine aw_goto (tgt := 45) hC dX9_may_27 (by decide) ?_
        cases h
        exact aw_iret hC dX9_may_45 (Nat.le_of_ble_eq_true rfl) (Nat.le_of_ble_eq_true rfl)
-- CoinCircleModel.goods(III)I
def fX9_goods (sh : AwS) (M : AwM) (v0 : Int) (v1 : Int) (v2 : Int) (v3 : Int) : Option (Int × AwM) :=
  gd_ (kd_ sh v0 = (0, 9)) (pb (fX9_isWare sh M v0 v1) <| u1 fun (x3 : Int) => ((if x3 = 0 then some ((-1), M) else pb (fX9_isPerson sh M v0 v2) <| u1 fun (x6 : Int) => ((if x6 = 0 then some ((-1), M) else (if v3 = 0 then gd_ ((kd_ sh (M v0 22)).1 = 1 ∧ (0 : Int) ≤ (w32 ((w32 (10 * (M v0 13))) + v1)) ∧ (w32 ((w32 (10 * (M v0 13))) + v1)) < ((kd_ sh (M v0 22)).2 : Int)) (some ((M (M v0 22) (w32 ((w32 (10 * (M v0 13))) + v1))), M)) else (if v3 = 1 then gd_ ((kd_ sh (M v0 23)).1 = 1 ∧ (0 : Int) ≤ (w32 ((w32 (10 * (M v0 13))) + v1)) ∧ (w32 ((w32 (10 * (M v0 13))) + v1)) < ((kd_ sh (M v0 23)).2 : Int)) (some ((M (M v0 23) (w32 ((w32 (10 * (M v0 13))) + v1))), M)) else (if v3 = 2 then pb (fX9_priceFor sh M v0 v1 v2) <| u2 fun (x12 : Int) (M13 : AwM) => (some (x12, M13)) else some ((-1), M)))))))))
set_option maxRecDepth 100000 in
set_option maxHeartbeats 4000000 in
theorem mX9_goods {sh : AwS} {M : AwM} {v0 : Int} {v1 : Int} {v2 : Int} {v3 : Int} {r : Int} {M' : AwM} (h : fX9_goods sh M v0 v1 v2 v3 = some (r, M')) : AMet yX9_goods cX9_goods 4 (some .int) 5 0 0 [.inr (.inr v0), .inl v1, .inl v2, .inl v3] sh M (some (.inl r)) sh M' := by
  refine amet_of (by decide +kernel) (Nat.le_of_ble_eq_true rfl) (fun Γ hC => ?_)
  replace hC : AOK Γ RX9 cX9_goods 4 5 0 0 "goods" (some .int) := hC
  unfold fX9_goods at h
  refine aw_sub hC [some (.inr (.inr v0)), some (.inl v1), some (.inl v2), some (.inl v3)] ⟨rfl, ⟨rfl, ⟨rfl, ⟨rfl, trivial⟩⟩⟩⟩ (Nat.le_of_ble_eq_true rfl) ?_
  refine aw_aload_n (pc' := 1) (i := 0) hC dX9_goods_0 rfl rfl rfl ?_
  refine aw_iload_n (pc' := 2) (i := 1) hC dX9_goods_1 rfl rfl rfl ?_
  obtain ⟨g2, h⟩ := gd_s h
  obtain ⟨x3, q1, h⟩ := pb_s h
  replace h := u1_s h
  refine aw_cV (pc' := 5) (k2 := 0) (n2 := 0) (st := []) (stN := [.inl x3]) hC [.inl v1] (mX9_isWare q1) lk_X9_486 g2 dX9_goods_2 rfl rfl (Nat.le_of_ble_eq_true rfl) (Nat.le_of_ble_eq_true rfl) (Nat.le_of_ble_eq_true rfl) rfl (Nat.le_of_ble_eq_true rfl) rfl rfl rfl ?_
  refine aw_if_eq (tgt := 16) (pc' := 8) hC dX9_goods_5 (by decide) rfl (fun c4 => ?_) (fun c4 => ?_)
  · replace h := it_p c4 h
    refine aw_iconst (pc' := 17) hC dX9_goods_16 rfl (by decide) ?_
    cases h
    exact aw_iret hC dX9_goods_17 (Nat.le_of_ble_eq_true rfl) (Nat.le_of_ble_eq_true rfl)
  · replace h := it_n c4 h
    refine aw_aload_n (pc' := 9) (i := 0) hC dX9_goods_8 rfl rfl rfl ?_
    refine aw_iload_n (pc' := 10) (i := 2) hC dX9_goods_9 rfl rfl rfl ?_
    obtain ⟨x6, q5, h⟩ := pb_s h
    replace h := u1_s h
    refine aw_cV (pc' := 13) (k2 := 0) (n2 := 0) (st := []) (stN := [.inl x6]) hC [.inl v2] (mX9_isPerson q5) lk_X9_471 g2 dX9_goods_10 rfl rfl (Nat.le_of_ble_eq_true rfl) (Nat.le_of_ble_eq_true rfl) (Nat.le_of_ble_eq_true rfl) rfl (Nat.le_of_ble_eq_true rfl) rfl rfl rfl ?_
    refine aw_if_ne (tgt := 18) (pc' := 16) hC dX9_goods_13 (by decide) rfl (fun c7 => ?_) (fun c7 => ?_)
    · replace h := it_n c7 h
      refine aw_iload_n (pc' := 19) (i := 3) hC dX9_goods_18 rfl rfl rfl ?_
      refine aw_if_ne (tgt := 39) (pc' := 22) hC dX9_goods_19 (by decide) rfl (fun c8 => ?_) (fun c8 => ?_)
      · replace h := it_n c8 h
        refine aw_iload_n (pc' := 40) (i := 3) hC dX9_goods_39 rfl rfl rfl ?_
        refine aw_iconst (pc' := 41) hC dX9_goods_40 rfl (by decide) ?_
        refine aw_icmp_ne (tgt := 61) (pc' := 44) hC dX9_goods_41 (by decide) rfl (fun c9 => ?_) (fun c9 => ?_)
        · replace h := it_n c9 h
          refine aw_iload_n (pc' := 62) (i := 3) hC dX9_goods_61 rfl rfl rfl ?_
          refine aw_iconst (pc' := 63) hC dX9_goods_62 rfl (by decide) ?_
          refine aw_icmp_ne (tgt := 75) (pc' := 66) hC dX9_goods_63 (by decide) rfl (fun c10 => ?_) (fun c10 => ?_)
          · replace h := it_n c10 h
            refine aw_iconst (pc' := 76) hC dX9_goods_75 rfl (by decide) ?_
            cases h
            exact aw_iret hC dX9_goods_76 (Nat.le_of_ble_eq_true rfl) (Nat.le_of_ble_eq_true rfl)
          · replace h := it_p c10 h
            refine aw_aload_n (pc' := 67) (i := 0) hC dX9_goods_66 rfl rfl rfl ?_
            refine aw_iload_n (pc' := 68) (i := 1) hC dX9_goods_67 rfl rfl rfl ?_
            refine aw_iload_n (pc' := 69) (i := 2) hC dX9_goods_68 rfl rfl rfl ?_
            obtain ⟨⟨x12, M13⟩, q11, h⟩ := pb_s h
            replace h := u2_s h
            refine aw_cV (pc' := 72) (k2 := 0) (n2 := 0) (st := []) (stN := [.inl x12]) hC [.inl v1, .inl v2] (mX9_priceFor q11) lk_X9_489 g2 dX9_goods_69 rfl rfl (Nat.le_of_ble_eq_true rfl) (Nat.le_of_ble_eq_true rfl) (Nat.le_of_ble_eq_true rfl) rfl (Nat.le_of_ble_eq_true rfl) rfl rfl rfl ?_
            refine aw_goto (tgt := 76) hC dX9_goods_72 (by decide) ?_
            cases h
            exact aw_iret hC dX9_goods_76 (Nat.le_of_ble_eq_true rfl) (Nat.le_of_ble_eq_true rfl)
        · replace h := it_p c9 h
          refine aw_aload_n (pc' := 45) (i := 0) hC dX9_goods_44 rfl rfl rfl ?_
          refine aw_getfield (pc' := 48) (v := (.inr (.inr (M v0 23)))) hC dX9_goods_45 rfl fl_X9_81 g2 rfl ?_
          refine aw_bipush (pc' := 50) hC dX9_goods_48 rfl (by decide) ?_
          refine aw_aload_n (pc' := 51) (i := 0) hC dX9_goods_50 rfl rfl rfl ?_
          refine aw_getfield (pc' := 54) (v := (.inl (M v0 13))) hC dX9_goods_51 rfl fl_X9_51 g2 rfl ?_
          refine aw_imul (pc' := 55) hC dX9_goods_54 rfl  ?_
          refine aw_iload_n (pc' := 56) (i := 1) hC dX9_goods_55 rfl rfl rfl ?_
          refine aw_iadd (pc' := 57) hC dX9_goods_56 rfl  ?_
          obtain ⟨g14, h⟩ := gd_s h
          refine aw_iaload (pc' := 58) hC dX9_goods_57 rfl g14 ?_
          refine aw_goto (tgt := 76) hC dX9_goods_58 (by decide) ?_
          cases h
          exact aw_iret hC dX9_goods_76 (Nat.le_of_ble_eq_true rfl) (Nat.le_of_ble_eq_true rfl)
      · replace h := it_p c8 h
        refine aw_aload_n (pc' := 23) (i := 0) hC dX9_goods_22 rfl rfl rfl ?_
        refine aw_getfield (pc' := 26) (v := (.inr (.inr (M v0 22)))) hC dX9_goods_23 rfl fl_X9_78 g2 rfl ?_
        refine aw_bipush (pc' := 28) hC dX9_goods_26 rfl (by decide) ?_
        refine aw_aload_n (pc' := 29) (i := 0) hC dX9_goods_28 rfl rfl rfl ?_
        refine aw_getfield (pc' := 32) (v := (.inl (M v0 13))) hC dX9_goods_29 rfl fl_X9_51 g2 rfl ?_
        refine aw_imul (pc' := 33) hC dX9_goods_32 rfl  ?_
        refine aw_iload_n (pc' := 34) (i := 1) hC dX9_goods_33 rfl rfl rfl ?_
        refine aw_iadd (pc' := 35) hC dX9_goods_34 rfl  ?_
        obtain ⟨g15, h⟩ := gd_s h
        refine aw_iaload (pc' := 36) hC dX9_goods_35 rfl g15 ?_
        refine aw_goto (tgt := 76) hC dX9_goods_36 (by decide) ?_
        cases h
        exact aw_iret hC dX9_goods_76 (Nat.le_of_ble_eq_true rfl) (Nat.le_of_ble_eq_true rfl)
    · replace h := it_p c7 h
      refine aw_iconst (pc' := 17) hC dX9_goods_16 rfl (by decide) ?_
      cases h
      exact aw_iret hC dX9_goods_17 (Nat.le_of_ble_eq_true rfl) (Nat.le_of_ble_eq_true rfl)
-- CoinCircleModel.spends(II)I
def fX9_spends (sh : AwS) (M : AwM) (v0 : Int) (v1 : Int) (v2 : Int) : Option Int :=
  gd_ (kd_ sh v0 = (0, 9)) (pb (fX9_heldBy sh M v0 0 v1) <| u1 fun (x3 : Int) => (pb (fX9_knowing sh M v0 0 v2) <| u1 fun (x5 : Int) => (pb (fX9_worthAll sh M v0 (an_ x3 x5)) <| u1 fun (x7 : Int) => (some x7))))
set_option maxRecDepth 100000 in
set_option maxHeartbeats 4000000 in
theorem mX9_spends {sh : AwS} {M : AwM} {v0 : Int} {v1 : Int} {v2 : Int} {r : Int} (h : fX9_spends sh M v0 v1 v2 = some r) : AMet yX9_spends cX9_spends 3 (some .int) 3 0 0 [.inr (.inr v0), .inl v1, .inl v2] sh M (some (.inl r)) sh M := by
  refine amet_of (by decide +kernel) (Nat.le_of_ble_eq_true rfl) (fun Γ hC => ?_)
  replace hC : AOK Γ RX9 cX9_spends 3 3 0 0 "spends" (some .int) := hC
  unfold fX9_spends at h
  refine aw_sub hC [some (.inr (.inr v0)), some (.inl v1), some (.inl v2)] ⟨rfl, ⟨rfl, ⟨rfl, trivial⟩⟩⟩ (Nat.le_of_ble_eq_true rfl) ?_
  refine aw_aload_n (pc' := 1) (i := 0) hC dX9_spends_0 rfl rfl rfl ?_
  refine aw_aload_n (pc' := 2) (i := 0) hC dX9_spends_1 rfl rfl rfl ?_
  refine aw_iconst (pc' := 3) hC dX9_spends_2 rfl (by decide) ?_
  refine aw_iload_n (pc' := 4) (i := 1) hC dX9_spends_3 rfl rfl rfl ?_
  obtain ⟨g2, h⟩ := gd_s h
  obtain ⟨x3, q1, h⟩ := pb_s h
  replace h := u1_s h
  refine aw_cV (pc' := 7) (k2 := 0) (n2 := 0) (st := [.inr (.inr v0)]) (stN := [.inl x3, .inr (.inr v0)]) hC [.inl 0, .inl v1] (mX9_heldBy q1) lk_X9_451 g2 dX9_spends_4 rfl rfl (Nat.le_of_ble_eq_true rfl) (Nat.le_of_ble_eq_true rfl) (Nat.le_of_ble_eq_true rfl) rfl (Nat.le_of_ble_eq_true rfl) rfl rfl rfl ?_
  refine aw_aload_n (pc' := 8) (i := 0) hC dX9_spends_7 rfl rfl rfl ?_
  refine aw_iconst (pc' := 9) hC dX9_spends_8 rfl (by decide) ?_
  refine aw_iload_n (pc' := 10) (i := 2) hC dX9_spends_9 rfl rfl rfl ?_
  obtain ⟨x5, q4, h⟩ := pb_s h
  replace h := u1_s h
  refine aw_cV (pc' := 13) (k2 := 0) (n2 := 0) (st := [.inl x3, .inr (.inr v0)]) (stN := [.inl x5, .inl x3, .inr (.inr v0)]) hC [.inl 0, .inl v2] (mX9_knowing q4) lk_X9_458 g2 dX9_spends_10 rfl rfl (Nat.le_of_ble_eq_true rfl) (Nat.le_of_ble_eq_true rfl) (Nat.le_of_ble_eq_true rfl) rfl (Nat.le_of_ble_eq_true rfl) rfl rfl rfl ?_
  refine aw_iand (pc' := 14) hC dX9_spends_13 rfl  ?_
  obtain ⟨x7, q6, h⟩ := pb_s h
  replace h := u1_s h
  refine aw_cV (pc' := 17) (k2 := 0) (n2 := 0) (st := []) (stN := [.inl x7]) hC [.inl (an_ x3 x5)] (mX9_worthAll q6) lk_X9_474 g2 dX9_spends_14 rfl rfl (Nat.le_of_ble_eq_true rfl) (Nat.le_of_ble_eq_true rfl) (Nat.le_of_ble_eq_true rfl) rfl (Nat.le_of_ble_eq_true rfl) rfl rfl rfl ?_
  cases h
  exact aw_iret hC dX9_spends_17 (Nat.le_of_ble_eq_true rfl) (Nat.le_of_ble_eq_true rfl)
-- CoinCircleModel.spend(II)I
def fX9_spend (sh : AwS) (M : AwM) (v0 : Int) (v1 : Int) (v2 : Int) : Option Int :=
  gd_ (kd_ sh v0 = (0, 9)) (pb (fX9_isPerson sh M v0 v1) <| u1 fun (x3 : Int) => ((if x3 = 0 then some (-1) else pb (fX9_isPerson sh M v0 v2) <| u1 fun (x6 : Int) => ((if x6 = 0 then some (-1) else (if v1 = v2 then some (-1) else pb (fX9_spends sh M v0 v1 v2) <| u1 fun (x10 : Int) => (some x10)))))))
set_option maxRecDepth 100000 in
set_option maxHeartbeats 4000000 in
theorem mX9_spend {sh : AwS} {M : AwM} {v0 : Int} {v1 : Int} {v2 : Int} {r : Int} (h : fX9_spend sh M v0 v1 v2 = some r) : AMet yX9_spend cX9_spend 3 (some .int) 4 0 0 [.inr (.inr v0), .inl v1, .inl v2] sh M (some (.inl r)) sh M := by
  refine amet_of (by decide +kernel) (Nat.le_of_ble_eq_true rfl) (fun Γ hC => ?_)
  replace hC : AOK Γ RX9 cX9_spend 3 4 0 0 "spend" (some .int) := hC
  unfold fX9_spend at h
  refine aw_sub hC [some (.inr (.inr v0)), some (.inl v1), some (.inl v2)] ⟨rfl, ⟨rfl, ⟨rfl, trivial⟩⟩⟩ (Nat.le_of_ble_eq_true rfl) ?_
  refine aw_aload_n (pc' := 1) (i := 0) hC dX9_spend_0 rfl rfl rfl ?_
  refine aw_iload_n (pc' := 2) (i := 1) hC dX9_spend_1 rfl rfl rfl ?_
  obtain ⟨g2, h⟩ := gd_s h
  obtain ⟨x3, q1, h⟩ := pb_s h
  replace h := u1_s h
  refine aw_cV (pc' := 5) (k2 := 0) (n2 := 0) (st := []) (stN := [.inl x3]) hC [.inl v1] (mX9_isPerson q1) lk_X9_471 g2 dX9_spend_2 rfl rfl (Nat.le_of_ble_eq_true rfl) (Nat.le_of_ble_eq_true rfl) (Nat.le_of_ble_eq_true rfl) rfl (Nat.le_of_ble_eq_true rfl) rfl rfl rfl ?_
  refine aw_if_eq (tgt := 30) (pc' := 8) hC dX9_spend_5 (by decide) rfl (fun c4 => ?_) (fun c4 => ?_)
  · replace h := it_p c4 h
    refine aw_iconst (pc' := 31) hC dX9_spend_30 rfl (by decide) ?_
    cases h
    exact aw_iret hC dX9_spend_31 (Nat.le_of_ble_eq_true rfl) (Nat.le_of_ble_eq_true rfl)
  · replace h := it_n c4 h
    refine aw_aload_n (pc' := 9) (i := 0) hC dX9_spend_8 rfl rfl rfl ?_
    refine aw_iload_n (pc' := 10) (i := 2) hC dX9_spend_9 rfl rfl rfl ?_
    obtain ⟨x6, q5, h⟩ := pb_s h
    replace h := u1_s h
    refine aw_cV (pc' := 13) (k2 := 0) (n2 := 0) (st := []) (stN := [.inl x6]) hC [.inl v2] (mX9_isPerson q5) lk_X9_471 g2 dX9_spend_10 rfl rfl (Nat.le_of_ble_eq_true rfl) (Nat.le_of_ble_eq_true rfl) (Nat.le_of_ble_eq_true rfl) rfl (Nat.le_of_ble_eq_true rfl) rfl rfl rfl ?_
    refine aw_if_eq (tgt := 30) (pc' := 16) hC dX9_spend_13 (by decide) rfl (fun c7 => ?_) (fun c7 => ?_)
    · replace h := it_p c7 h
      refine aw_iconst (pc' := 31) hC dX9_spend_30 rfl (by decide) ?_
      cases h
      exact aw_iret hC dX9_spend_31 (Nat.le_of_ble_eq_true rfl) (Nat.le_of_ble_eq_true rfl)
    · replace h := it_n c7 h
      refine aw_iload_n (pc' := 17) (i := 1) hC dX9_spend_16 rfl rfl rfl ?_
      refine aw_iload_n (pc' := 18) (i := 2) hC dX9_spend_17 rfl rfl rfl ?_
      refine aw_icmp_eq (tgt := 30) (pc' := 21) hC dX9_spend_18 (by decide) rfl (fun c8 => ?_) (fun c8 => ?_)
      · replace h := it_p c8 h
        refine aw_iconst (pc' := 31) hC dX9_spend_30 rfl (by decide) ?_
        cases h
        exact aw_iret hC dX9_spend_31 (Nat.le_of_ble_eq_true rfl) (Nat.le_of_ble_eq_true rfl)
      · replace h := it_n c8 h
        refine aw_aload_n (pc' := 22) (i := 0) hC dX9_spend_21 rfl rfl rfl ?_
        refine aw_iload_n (pc' := 23) (i := 1) hC dX9_spend_22 rfl rfl rfl ?_
        refine aw_iload_n (pc' := 24) (i := 2) hC dX9_spend_23 rfl rfl rfl ?_
        obtain ⟨x10, q9, h⟩ := pb_s h
        replace h := u1_s h
        refine aw_cV (pc' := 27) (k2 := 0) (n2 := 0) (st := []) (stN := [.inl x10]) hC [.inl v1, .inl v2] (mX9_spends q9) lk_X9_492 g2 dX9_spend_24 rfl rfl (Nat.le_of_ble_eq_true rfl) (Nat.le_of_ble_eq_true rfl) (Nat.le_of_ble_eq_true rfl) rfl (Nat.le_of_ble_eq_true rfl) rfl rfl rfl ?_
        refine aw_goto (tgt := 31) hC dX9_spend_27 (by decide) ?_
        cases h
        exact aw_iret hC dX9_spend_31 (Nat.le_of_ble_eq_true rfl) (Nat.le_of_ble_eq_true rfl)
-- CoinCircleModel.meets(III)V
def fX9_meets (sh : AwS) (M : AwM) (v0 : Int) (v1 : Int) (v2 : Int) (v3 : Int) : Option (AwM) :=
  gd_ (kd_ sh v0 = (0, 9)) (gd_ ((kd_ sh (M v0 48)).1 = 1 ∧ (0 : Int) ≤ v1 ∧ v1 < ((kd_ sh (M v0 48)).2 : Int)) (gd_ ((kd_ sh (M v0 52)).1 = 1 ∧ (0 : Int) ≤ (w32 ((w32 ((w32 (120 * v1)) + (w32 (10 * v2)))) + v3)) ∧ (w32 ((w32 ((w32 (120 * v1)) + (w32 (10 * v2)))) + v3)) < ((kd_ sh (M v0 52)).2 : Int)) (bd_ (up_ M (M v0 52) (w32 ((w32 ((w32 (120 * v1)) + (w32 (10 * v2)))) + v3)) (M (M v0 48) v1)) fun (M4 : AwM) => (some M4))))
set_option maxRecDepth 100000 in
set_option maxHeartbeats 4000000 in
theorem mX9_meets {sh : AwS} {M : AwM} {v0 : Int} {v1 : Int} {v2 : Int} {v3 : Int} {M' : AwM} (h : fX9_meets sh M v0 v1 v2 v3 = some M') : AMet yX9_meets cX9_meets 4 none 1 0 0 [.inr (.inr v0), .inl v1, .inl v2, .inl v3] sh M none sh M' := by
  refine amet_of (by decide +kernel) (Nat.le_of_ble_eq_true rfl) (fun Γ hC => ?_)
  replace hC : AOK Γ RX9 cX9_meets 4 1 0 0 "meets" none := hC
  unfold fX9_meets at h
  refine aw_sub hC [some (.inr (.inr v0)), some (.inl v1), some (.inl v2), some (.inl v3)] ⟨rfl, ⟨rfl, ⟨rfl, ⟨rfl, trivial⟩⟩⟩⟩ (Nat.le_of_ble_eq_true rfl) ?_
  refine aw_aload_n (pc' := 1) (i := 0) hC dX9_meets_0 rfl rfl rfl ?_
  obtain ⟨g1, h⟩ := gd_s h
  refine aw_getfield (pc' := 4) (v := (.inr (.inr (M v0 52)))) hC dX9_meets_1 rfl fl_X9_171 g1 rfl ?_
  refine aw_bipush (pc' := 6) hC dX9_meets_4 rfl (by decide) ?_
  refine aw_iload_n (pc' := 7) (i := 1) hC dX9_meets_6 rfl rfl rfl ?_
  refine aw_imul (pc' := 8) hC dX9_meets_7 rfl  ?_
  refine aw_bipush (pc' := 10) hC dX9_meets_8 rfl (by decide) ?_
  refine aw_iload_n (pc' := 11) (i := 2) hC dX9_meets_10 rfl rfl rfl ?_
  refine aw_imul (pc' := 12) hC dX9_meets_11 rfl  ?_
  refine aw_iadd (pc' := 13) hC dX9_meets_12 rfl  ?_
  refine aw_iload_n (pc' := 14) (i := 3) hC dX9_meets_13 rfl rfl rfl ?_
  refine aw_iadd (pc' := 15) hC dX9_meets_14 rfl  ?_
  refine aw_aload_n (pc' := 16) (i := 0) hC dX9_meets_15 rfl rfl rfl ?_
  refine aw_getfield (pc' := 19) (v := (.inr (.inr (M v0 48)))) hC dX9_meets_16 rfl fl_X9_159 g1 rfl ?_
  refine aw_iload_n (pc' := 20) (i := 1) hC dX9_meets_19 rfl rfl rfl ?_
  obtain ⟨g2, h⟩ := gd_s h
  refine aw_iaload (pc' := 21) hC dX9_meets_20 rfl g2 ?_
  obtain ⟨g3, h⟩ := gd_s h
  obtain ⟨M4, e5, h⟩ := bd_s h
  refine aw_ias (pc' := 22) hC dX9_meets_21 rfl g3 e5 ?_
  cases h
  exact aw_vret hC dX9_meets_22 (Nat.le_of_ble_eq_true rfl) (Nat.le_of_ble_eq_true rfl)
-- CoinCircleModel.learns(III)V
def fX9_learns (sh : AwS) (M : AwM) (v0 : Int) (v1 : Int) (v2 : Int) (v3 : Int) : Option (AwM) :=
  gd_ (kd_ sh v0 = (0, 9)) (gd_ ((kd_ sh (M v0 50)).1 = 1 ∧ (0 : Int) ≤ (w32 ((w32 (12 * v1)) + v2)) ∧ (w32 ((w32 (12 * v1)) + v2)) < ((kd_ sh (M v0 50)).2 : Int)) (bd_ (up_ M (M v0 50) (w32 ((w32 (12 * v1)) + v2)) (or_ (M (M v0 50) (w32 ((w32 (12 * v1)) + v2))) (sl_ 1 v3))) fun (M3 : AwM) => (pb (fX9_meets sh M3 v0 v1 v2 v3) <| u1 fun (M6 : AwM) => (some M6))))
set_option maxRecDepth 100000 in
set_option maxHeartbeats 4000000 in
theorem mX9_learns {sh : AwS} {M : AwM} {v0 : Int} {v1 : Int} {v2 : Int} {v3 : Int} {M' : AwM} (h : fX9_learns sh M v0 v1 v2 v3 = some M') : AMet yX9_learns cX9_learns 4 none 2 0 0 [.inr (.inr v0), .inl v1, .inl v2, .inl v3] sh M none sh M' := by
  refine amet_of (by decide +kernel) (Nat.le_of_ble_eq_true rfl) (fun Γ hC => ?_)
  replace hC : AOK Γ RX9 cX9_learns 4 2 0 0 "learns" none := hC
  unfold fX9_learns at h
  refine aw_sub hC [some (.inr (.inr v0)), some (.inl v1), some (.inl v2), some (.inl v3)] ⟨rfl, ⟨rfl, ⟨rfl, ⟨rfl, trivial⟩⟩⟩⟩ (Nat.le_of_ble_eq_true rfl) ?_
  refine aw_aload_n (pc' := 1) (i := 0) hC dX9_learns_0 rfl rfl rfl ?_
  obtain ⟨g1, h⟩ := gd_s h
  refine aw_getfield (pc' := 4) (v := (.inr (.inr (M v0 50)))) hC dX9_learns_1 rfl fl_X9_165 g1 rfl ?_
  refine aw_bipush (pc' := 6) hC dX9_learns_4 rfl (by decide) ?_
  refine aw_iload_n (pc' := 7) (i := 1) hC dX9_learns_6 rfl rfl rfl ?_
  refine aw_imul (pc' := 8) hC dX9_learns_7 rfl  ?_
  refine aw_iload_n (pc' := 9) (i := 2) hC dX9_learns_8 rfl rfl rfl ?_
  refine aw_iadd (pc' := 10) hC dX9_learns_9 rfl  ?_
  refine aw_dup2 (pc' := 11) hC dX9_learns_10 rfl rfl rfl ?_
  obtain ⟨g2, h⟩ := gd_s h
  refine aw_iaload (pc' := 12) hC dX9_learns_11 rfl g2 ?_
  refine aw_iconst (pc' := 13) hC dX9_learns_12 rfl (by decide) ?_
  refine aw_iload_n (pc' := 14) (i := 3) hC dX9_learns_13 rfl rfl rfl ?_
  refine aw_ishl (pc' := 15) hC dX9_learns_14 rfl  ?_
  refine aw_ior (pc' := 16) hC dX9_learns_15 rfl  ?_
  obtain ⟨M3, e4, h⟩ := bd_s h
  refine aw_ias (pc' := 17) hC dX9_learns_16 rfl g2 e4 ?_
  refine aw_aload_n (pc' := 18) (i := 0) hC dX9_learns_17 rfl rfl rfl ?_
  refine aw_iload_n (pc' := 19) (i := 1) hC dX9_learns_18 rfl rfl rfl ?_
  refine aw_iload_n (pc' := 20) (i := 2) hC dX9_learns_19 rfl rfl rfl ?_
  refine aw_iload_n (pc' := 21) (i := 3) hC dX9_learns_20 rfl rfl rfl ?_
  obtain ⟨M6, q5, h⟩ := pb_s h
  replace h := u1_s h
  refine aw_cV (pc' := 24) (k2 := 0) (n2 := 0) (st := []) (stN := []) hC [.inl v1, .inl v2, .inl v3] (mX9_meets q5) lk_X9_495 g1 dX9_learns_21 rfl rfl (Nat.le_of_ble_eq_true rfl) (Nat.le_of_ble_eq_true rfl) (Nat.le_of_ble_eq_true rfl) rfl (Nat.le_of_ble_eq_true rfl) rfl rfl rfl ?_
  cases h
  exact aw_vret hC dX9_learns_24 (Nat.le_of_ble_eq_true rfl) (Nat.le_of_ble_eq_true rfl)
