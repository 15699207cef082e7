-- CoinCircleModel.blame(II)V
def fX9_blame (sh : AwS) (M : AwM) (v0 : Int) (v1 : Int) (v2 : Int) : Option (AwM) :=
  gd_ (kd_ sh v0 = (0, 9)) ((if 0 < (M v0 8) then some M else bd_ (up_ M v0 8 v1) fun (M3 : AwM) => (bd_ (up_ M3 v0 9 v2) fun (M5 : AwM) => (some M5))))
set_option maxRecDepth 100000 in
set_option maxHeartbeats 4000000 in
theorem mX9_blame {sh : AwS} {M : AwM} {v0 : Int} {v1 : Int} {v2 : Int} {M' : AwM} (h : fX9_blame sh M v0 v1 v2 = some M') : AMet yX9_blame cX9_blame 3 none 1 0 0 [.inr (.inr v0), .inl v1, .inl v2] sh M none sh M' := by
  refine amet_of (by decide +kernel) (Nat.le_of_ble_eq_true rfl) (fun Γ hC => ?_)
  replace hC : AOK Γ RX9 cX9_blame 3 1 0 0 "blame" none := hC
  unfold fX9_blame at h
  refine aw_sub hC [some (.inr (.inr v0)), some (.inl v1), some (.inl v2)] ⟨rfl, ⟨rfl, ⟨rfl, trivial⟩⟩⟩ (Nat.le_of_ble_eq_true rfl) ?_
  refine aw_aload_n (pc' := 1) (i := 0) hC dX9_blame_0 rfl rfl rfl ?_
  obtain ⟨g1, h⟩ := gd_s h
  refine aw_getfield (pc' := 4) (v := (.inl (M v0 8))) hC dX9_blame_1 rfl fl_X9_36 g1 rfl ?_
  refine aw_if_le (tgt := 8) (pc' := 7) hC dX9_blame_4 (by decide) rfl (fun c2 => ?_) (fun c2 => ?_)
  · replace h := it_n c2 h
    refine aw_aload_n (pc' := 9) (i := 0) hC dX9_blame_8 rfl rfl rfl ?_
    refine aw_iload_n (pc' := 10) (i := 1) hC dX9_blame_9 rfl rfl rfl ?_
    obtain ⟨M3, e4, h⟩ := bd_s h
    refine aw_pf (pc' := 13) hC dX9_blame_10 rfl fp_X9_36 g1 rfl trivial e4 ?_
    refine aw_aload_n (pc' := 14) (i := 0) hC dX9_blame_13 rfl rfl rfl ?_
    refine aw_iload_n (pc' := 15) (i := 2) hC dX9_blame_14 rfl rfl rfl ?_
    obtain ⟨M5, e6, h⟩ := bd_s h
    refine aw_pf (pc' := 18) hC dX9_blame_15 rfl fp_X9_39 g1 rfl trivial e6 ?_
    cases h
    exact aw_vret hC dX9_blame_18 (Nat.le_of_ble_eq_true rfl) (Nat.le_of_ble_eq_true rfl)
  · replace h := it_p c2 h
    cases h
    exact aw_vret hC dX9_blame_7 (Nat.le_of_ble_eq_true rfl) (Nat.le_of_ble_eq_true rfl)
-- CoinCircleModel.isLetter(I)Z
def fX9_isLetter (sh : AwS) (M : AwM) (v0 : Int) : Option Int :=
  (if v0 < 97 then some 0 else (if 122 < v0 then some 0 else some 1))
set_option maxRecDepth 100000 in
set_option maxHeartbeats 4000000 in
theorem mX9_isLetter {sh : AwS} {M : AwM} {v0 : Int} {r : Int} (h : fX9_isLetter sh M v0 = some r) : AMet yX9_isLetter cX9_isLetter 1 (some .boolean) 1 0 0 [.inl v0] sh M (some (.inl r)) sh M := by
  refine amet_of (by decide +kernel) (Nat.le_of_ble_eq_true rfl) (fun Γ hC => ?_)
  replace hC : AOK Γ RX9 cX9_isLetter 1 1 0 0 "isLetter" (some .boolean) := hC
  unfold fX9_isLetter at h
  refine aw_sub hC [some (.inl v0)] ⟨rfl, trivial⟩ (Nat.le_of_ble_eq_true rfl) ?_
  refine aw_iload_n (pc' := 1) (i := 0) hC dX9_isLetter_0 rfl rfl rfl ?_
  refine aw_bipush (pc' := 3) hC dX9_isLetter_1 rfl (by decide) ?_
  refine aw_icmp_lt (tgt := 16) (pc' := 6) hC dX9_isLetter_3 (by decide) rfl (fun c1 => ?_) (fun c1 => ?_)
  · replace h := it_p c1 h
    refine aw_iconst (pc' := 17) hC dX9_isLetter_16 rfl (by decide) ?_
    cases h
    exact aw_zret hC (Or.inl rfl) dX9_isLetter_17 (Nat.le_of_ble_eq_true rfl) (Nat.le_of_ble_eq_true rfl)
  · replace h := it_n c1 h
    refine aw_iload_n (pc' := 7) (i := 0) hC dX9_isLetter_6 rfl rfl rfl ?_
    refine aw_bipush (pc' := 9) hC dX9_isLetter_7 rfl (by decide) ?_
    refine aw_icmp_gt (tgt := 16) (pc' := 12) hC dX9_isLetter_9 (by decide) rfl (fun c2 => ?_) (fun c2 => ?_)
    · replace h := it_p c2 h
      refine aw_iconst (pc' := 17) hC dX9_isLetter_16 rfl (by decide) ?_
      cases h
      exact aw_zret hC (Or.inl rfl) dX9_isLetter_17 (Nat.le_of_ble_eq_true rfl) (Nat.le_of_ble_eq_true rfl)
    · replace h := it_n c2 h
      refine aw_iconst (pc' := 13) hC dX9_isLetter_12 rfl (by decide) ?_
      refine aw_goto (tgt := 17) hC dX9_isLetter_13 (by decide) ?_
      cases h
      exact aw_zret hC (Or.inr rfl) dX9_isLetter_17 (Nat.le_of_ble_eq_true rfl) (Nat.le_of_ble_eq_true rfl)
-- CoinCircleModel.isDigit(I)Z
def fX9_isDigit (sh : AwS) (M : AwM) (v0 : Int) : Option Int :=
  (if v0 < 48 then some 0 else (if 57 < v0 then some 0 else some 1))
set_option maxRecDepth 100000 in
set_option maxHeartbeats 4000000 in
theorem mX9_isDigit {sh : AwS} {M : AwM} {v0 : Int} {r : Int} (h : fX9_isDigit sh M v0 = some r) : AMet yX9_isDigit cX9_isDigit 1 (some .boolean) 1 0 0 [.inl v0] sh M (some (.inl r)) sh M := by
  refine amet_of (by decide +kernel) (Nat.le_of_ble_eq_true rfl) (fun Γ hC => ?_)
  replace hC : AOK Γ RX9 cX9_isDigit 1 1 0 0 "isDigit" (some .boolean) := hC
  unfold fX9_isDigit at h
  refine aw_sub hC [some (.inl v0)] ⟨rfl, trivial⟩ (Nat.le_of_ble_eq_true rfl) ?_
  refine aw_iload_n (pc' := 1) (i := 0) hC dX9_isDigit_0 rfl rfl rfl ?_
  refine aw_bipush (pc' := 3) hC dX9_isDigit_1 rfl (by decide) ?_
  refine aw_icmp_lt (tgt := 16) (pc' := 6) hC dX9_isDigit_3 (by decide) rfl (fun c1 => ?_) (fun c1 => ?_)
  · replace h := it_p c1 h
    refine aw_iconst (pc' := 17) hC dX9_isDigit_16 rfl (by decide) ?_
    cases h
    exact aw_zret hC (Or.inl rfl) dX9_isDigit_17 (Nat.le_of_ble_eq_true rfl) (Nat.le_of_ble_eq_true rfl)
  · replace h := it_n c1 h
    refine aw_iload_n (pc' := 7) (i := 0) hC dX9_isDigit_6 rfl rfl rfl ?_
    refine aw_bipush (pc' := 9) hC dX9_isDigit_7 rfl (by decide) ?_
    refine aw_icmp_gt (tgt := 16) (pc' := 12) hC dX9_isDigit_9 (by decide) rfl (fun c2 => ?_) (fun c2 => ?_)
    · replace h := it_p c2 h
      refine aw_iconst (pc' := 17) hC dX9_isDigit_16 rfl (by decide) ?_
      cases h
      exact aw_zret hC (Or.inl rfl) dX9_isDigit_17 (Nat.le_of_ble_eq_true rfl) (Nat.le_of_ble_eq_true rfl)
    · replace h := it_n c2 h
      refine aw_iconst (pc' := 13) hC dX9_isDigit_12 rfl (by decide) ?_
      refine aw_goto (tgt := 17) hC dX9_isDigit_13 (by decide) ?_
      cases h
      exact aw_zret hC (Or.inr rfl) dX9_isDigit_17 (Nat.le_of_ble_eq_true rfl) (Nat.le_of_ble_eq_true rfl)
-- CoinCircleModel.lex()V
def fX9_lex (sh : AwS) (M : AwM) (v0 : Int) : Option (AwM) :=
  gd_ (kd_ sh v0 = (0, 9)) ((if (M v0 12) = (-1) then some M else pb (fX9_blame sh M v0 1 (M v0 12)) <| u1 fun (M4 : AwM) => (some M4)))
set_option maxRecDepth 100000 in
set_option maxHeartbeats 4000000 in
theorem mX9_lex {sh : AwS} {M : AwM} {v0 : Int} {M' : AwM} (h : fX9_lex sh M v0 = some M') : AMet yX9_lex cX9_lex 1 none 2 0 0 [.inr (.inr v0)] sh M none sh M' := by
  refine amet_of (by decide +kernel) (Nat.le_of_ble_eq_true rfl) (fun Γ hC => ?_)
  replace hC : AOK Γ RX9 cX9_lex 1 2 0 0 "lex" none := hC
  unfold fX9_lex at h
  refine aw_sub hC [some (.inr (.inr v0))] ⟨rfl, trivial⟩ (Nat.le_of_ble_eq_true rfl) ?_
  refine aw_aload_n (pc' := 1) (i := 0) hC dX9_lex_0 rfl rfl rfl ?_
  obtain ⟨g1, h⟩ := gd_s h
  refine aw_getfield (pc' := 4) (v := (.inl (M v0 12))) hC dX9_lex_1 rfl fl_X9_48 g1 rfl ?_
  refine aw_iconst (pc' := 5) hC dX9_lex_4 rfl (by decide) ?_
  refine aw_icmp_eq (tgt := 17) (pc' := 8) hC dX9_lex_5 (by decide) rfl (fun c2 => ?_) (fun c2 => ?_)
  · replace h := it_p c2 h
    cases h
    exact aw_vret hC dX9_lex_17 (Nat.le_of_ble_eq_true rfl) (Nat.le_of_ble_eq_true rfl)
  · replace h := it_n c2 h
    refine aw_aload_n (pc' := 9) (i := 0) hC dX9_lex_8 rfl rfl rfl ?_
    refine aw_iconst (pc' := 10) hC dX9_lex_9 rfl (by decide) ?_
    refine aw_aload_n (pc' := 11) (i := 0) hC dX9_lex_10 rfl rfl rfl ?_
    refine aw_getfield (pc' := 14) (v := (.inl (M v0 12))) hC dX9_lex_11 rfl fl_X9_48 g1 rfl ?_
    obtain ⟨M4, q3, h⟩ := pb_s h
    replace h := u1_s h
    refine aw_cV (pc' := 17) (k2 := 0) (n2 := 0) (st := []) (stN := []) hC [.inl 1, .inl (M v0 12)] (mX9_blame q3) lk_X9_236 g1 dX9_lex_14 rfl rfl (Nat.le_of_ble_eq_true rfl) (Nat.le_of_ble_eq_true rfl) (Nat.le_of_ble_eq_true rfl) rfl (Nat.le_of_ble_eq_true rfl) rfl rfl rfl ?_
    cases h
    exact aw_vret hC dX9_lex_17 (Nat.le_of_ble_eq_true rfl) (Nat.le_of_ble_eq_true rfl)
-- CoinCircleModel.isOwn(J)Z
def fX9_isOwn (sh : AwS) (M : AwM) (v0 : Int) (v1 : Int) : Option Int :=
  (if (cmp_ v1 123581014175598) = 0 then some 1 else (if (cmp_ v1 1918987883) = 0 then some 1 else (if (cmp_ v1 1668245870) = 0 then some 1 else (if (cmp_ v1 512970880104) = 0 then some 1 else (if (cmp_ v1 28518) = 0 then some 1 else (if (cmp_ v1 461414299507) = 0 then some 1 else (if (cmp_ v1 444251202675) = 0 then some 1 else (if (cmp_ v1 25209) = 0 then some 1 else (if (cmp_ v1 1936618850) = 0 then some 1 else (if (cmp_ v1 439720633715) = 0 then some 1 else (if (cmp_ v1 508675192165) = 0 then some 1 else (if (cmp_ v1 8102650225890325619) = 0 then some 1 else (if (cmp_ v1 482955846501) = 0 then some 1 else (if (cmp_ v1 478694368626) = 0 then some 1 else (if (cmp_ v1 109304541834341) = 0 then some 1 else (if (cmp_ v1 6578553) = 0 then some 1 else (if (cmp_ v1 448545973363) = 0 then some 1 else (if (cmp_ v1 28530) = 0 then some 1 else (if (cmp_ v1 6385252) = 0 then some 1 else (if (cmp_ v1 7237492) = 0 then some 1 else (if (cmp_ v1 6384748) = 0 then some 1 else (if (cmp_ v1 7170414) = 0 then some 1 else (if (cmp_ v1 7168376) = 0 then some 1 else some 0)))))))))))))))))))))))
set_option maxRecDepth 100000 in
set_option maxHeartbeats 4000000 in
theorem mX9_isOwn {sh : AwS} {M : AwM} {v0 : Int} {v1 : Int} {r : Int} (h : fX9_isOwn sh M v0 v1 = some r) : AMet yX9_isOwn cX9_isOwn 3 (some .boolean) 1 0 0 [.inr (.inr v0), .inr (.inl v1)] sh M (some (.inl r)) sh M := by
  refine amet_of (by decide +kernel) (Nat.le_of_ble_eq_true rfl) (fun Γ hC => ?_)
  replace hC : AOK Γ RX9 cX9_isOwn 3 1 0 0 "isOwn" (some .boolean) := hC
  unfold fX9_isOwn at h
  refine aw_sub hC [some (.inr (.inr v0)), some (.inr (.inl v1)), none] ⟨rfl, ⟨rfl, trivial⟩⟩ (Nat.le_of_ble_eq_true rfl) ?_
  refine aw_lload_n (pc' := 1) (i := 1) hC dX9_isOwn_0 rfl rfl rfl ?_
  refine aw_ldc2 (pc' := 4) (v := 123581014175598) hC dX9_isOwn_1 rfl ck_X9_260 (by unfold I64; omega) ?_
  refine aw_lcmp (pc' := 5) hC dX9_isOwn_4 rfl  ?_
  refine aw_if_eq (tgt := 40) (pc' := 8) hC dX9_isOwn_5 (by decide) rfl (fun c1 => ?_) (fun c1 => ?_)
  · replace h := it_p c1 h
    refine aw_iconst (pc' := 41) hC dX9_isOwn_40 rfl (by decide) ?_
    cases h
    exact aw_zret hC (Or.inr rfl) dX9_isOwn_41 (Nat.le_of_ble_eq_true rfl) (Nat.le_of_ble_eq_true rfl)
  · replace h := it_n c1 h
    refine aw_lload_n (pc' := 9) (i := 1) hC dX9_isOwn_8 rfl rfl rfl ?_
    refine aw_ldc2 (pc' := 12) (v := 1918987883) hC dX9_isOwn_9 rfl ck_X9_262 (by unfold I64; omega) ?_
    refine aw_lcmp (pc' := 13) hC dX9_isOwn_12 rfl  ?_
    refine aw_if_eq (tgt := 40) (pc' := 16) hC dX9_isOwn_13 (by decide) rfl (fun c2 => ?_) (fun c2 => ?_)
    · replace h := it_p c2 h
      refine aw_iconst (pc' := 41) hC dX9_isOwn_40 rfl (by decide) ?_
      cases h
      exact aw_zret hC (Or.inr rfl) dX9_isOwn_41 (Nat.le_of_ble_eq_true rfl) (Nat.le_of_ble_eq_true rfl)
    · replace h := it_n c2 h
      refine aw_lload_n (pc' := 17) (i := 1) hC dX9_isOwn_16 rfl rfl rfl ?_
      refine aw_ldc2 (pc' := 20) (v := 1668245870) hC dX9_isOwn_17 rfl ck_X9_264 (by unfold I64; omega) ?_
      refine aw_lcmp (pc' := 21) hC dX9_isOwn_20 rfl  ?_
      refine aw_if_eq (tgt := 40) (pc' := 24) hC dX9_isOwn_21 (by decide) rfl (fun c3 => ?_) (fun c3 => ?_)
      · replace h := it_p c3 h
        refine aw_iconst (pc' := 41) hC dX9_isOwn_40 rfl (by decide) ?_
        cases h
        exact aw_zret hC (Or.inr rfl) dX9_isOwn_41 (Nat.le_of_ble_eq_true rfl) (Nat.le_of_ble_eq_true rfl)
      · replace h := it_n c3 h
        refine aw_lload_n (pc' := 25) (i := 1) hC dX9_isOwn_24 rfl rfl rfl ?_
        refine aw_ldc2 (pc' := 28) (v := 512970880104) hC dX9_isOwn_25 rfl ck_X9_266 (by unfold I64; omega) ?_
        refine aw_lcmp (pc' := 29) hC dX9_isOwn_28 rfl  ?_
        refine aw_if_eq (tgt := 40) (pc' := 32) hC dX9_isOwn_29 (by decide) rfl (fun c4 => ?_) (fun c4 => ?_)
        · replace h := it_p c4 h
          refine aw_iconst (pc' := 41) hC dX9_isOwn_40 rfl (by decide) ?_
          cases h
          exact aw_zret hC (Or.inr rfl) dX9_isOwn_41 (Nat.le_of_ble_eq_true rfl) (Nat.le_of_ble_eq_true rfl)
        · replace h := it_n c4 h
          refine aw_lload_n (pc' := 33) (i := 1) hC dX9_isOwn_32 rfl rfl rfl ?_
          refine aw_ldc2 (pc' := 36) (v := 28518) hC dX9_isOwn_33 rfl ck_X9_268 (by unfold I64; omega) ?_
          refine aw_lcmp (pc' := 37) hC dX9_isOwn_36 rfl  ?_
          refine aw_if_ne (tgt := 42) (pc' := 40) hC dX9_isOwn_37 (by decide) rfl (fun c5 => ?_) (fun c5 => ?_)
          · replace h := it_n c5 h
            refine aw_lload_n (pc' := 43) (i := 1) hC dX9_isOwn_42 rfl rfl rfl ?_
            refine aw_ldc2 (pc' := 46) (v := 461414299507) hC dX9_isOwn_43 rfl ck_X9_270 (by unfold I64; omega) ?_
            refine aw_lcmp (pc' := 47) hC dX9_isOwn_46 rfl  ?_
            refine aw_if_eq (tgt := 82) (pc' := 50) hC dX9_isOwn_47 (by decide) rfl (fun c6 => ?_) (fun c6 => ?_)
            · replace h := it_p c6 h
              refine aw_iconst (pc' := 83) hC dX9_isOwn_82 rfl (by decide) ?_
              cases h
              exact aw_zret hC (Or.inr rfl) dX9_isOwn_83 (Nat.le_of_ble_eq_true rfl) (Nat.le_of_ble_eq_true rfl)
            · replace h := it_n c6 h
              refine aw_lload_n (pc' := 51) (i := 1) hC dX9_isOwn_50 rfl rfl rfl ?_
              refine aw_ldc2 (pc' := 54) (v := 444251202675) hC dX9_isOwn_51 rfl ck_X9_272 (by unfold I64; omega) ?_
              refine aw_lcmp (pc' := 55) hC dX9_isOwn_54 rfl  ?_
              refine aw_if_eq (tgt := 82) (pc' := 58) hC dX9_isOwn_55 (by decide) rfl (fun c7 => ?_) (fun c7 => ?_)
              · replace h := it_p c7 h
                refine aw_iconst (pc' := 83) hC dX9_isOwn_82 rfl (by decide) ?_
                cases h
                exact aw_zret hC (Or.inr rfl) dX9_isOwn_83 (Nat.le_of_ble_eq_true rfl) (Nat.le_of_ble_eq_true rfl)
              · replace h := it_n c7 h
                refine aw_lload_n (pc' := 59) (i := 1) hC dX9_isOwn_58 rfl rfl rfl ?_
                refine aw_ldc2 (pc' := 62) (v := 25209) hC dX9_isOwn_59 rfl ck_X9_274 (by unfold I64; omega) ?_
                refine aw_lcmp (pc' := 63) hC dX9_isOwn_62 rfl  ?_
                refine aw_if_eq (tgt := 82) (pc' := 66) hC dX9_isOwn_63 (by decide) rfl (fun c8 => ?_) (fun c8 => ?_)
                · replace h := it_p c8 h
                  refine aw_iconst (pc' := 83) hC dX9_isOwn_82 rfl (by decide) ?_
                  cases h
                  exact aw_zret hC (Or.inr rfl) dX9_isOwn_83 (Nat.le_of_ble_eq_true rfl) (Nat.le_of_ble_eq_true rfl)
                · replace h := it_n c8 h
                  refine aw_lload_n (pc' := 67) (i := 1) hC dX9_isOwn_66 rfl rfl rfl ?_
                  refine aw_ldc2 (pc' := 70) (v := 1936618850) hC dX9_isOwn_67 rfl ck_X9_276 (by unfold I64; omega) ?_
                  refine aw_lcmp (pc' := 71) hC dX9_isOwn_70 rfl  ?_
                  refine aw_if_eq (tgt := 82) (pc' := 74) hC dX9_isOwn_71 (by decide) rfl (fun c9 => ?_) (fun c9 => ?_)
                  · replace h := it_p c9 h
                    refine aw_iconst (pc' := 83) hC dX9_isOwn_82 rfl (by decide) ?_
                    cases h
                    exact aw_zret hC (Or.inr rfl) dX9_isOwn_83 (Nat.le_of_ble_eq_true rfl) (Nat.le_of_ble_eq_true rfl)
                  · replace h := it_n c9 h
                    refine aw_lload_n (pc' := 75) (i := 1) hC dX9_isOwn_74 rfl rfl rfl ?_
                    refine aw_ldc2 (pc' := 78) (v := 439720633715) hC dX9_isOwn_75 rfl ck_X9_278 (by unfold I64; omega) ?_
                    refine aw_lcmp (pc' := 79) hC dX9_isOwn_78 rfl  ?_
                    refine aw_if_ne (tgt := 84) (pc' := 82) hC dX9_isOwn_79 (by decide) rfl (fun c10 => ?_) (fun c10 => ?_)
                    · replace h := it_n c10 h
                      refine aw_lload_n (pc' := 85) (i := 1) hC dX9_isOwn_84 rfl rfl rfl ?_
                      refine aw_ldc2 (pc' := 88) (v := 508675192165) hC dX9_isOwn_85 rfl ck_X9_280 (by unfold I64; omega) ?_
                      refine aw_lcmp (pc' := 89) hC dX9_isOwn_88 rfl  ?_
                      refine aw_if_eq (tgt := 124) (pc' := 92) hC dX9_isOwn_89 (by decide) rfl (fun c11 => ?_) (fun c11 => ?_)
                      · replace h := it_p c11 h
                        refine aw_iconst (pc' := 125) hC dX9_isOwn_124 rfl (by decide) ?_
                        cases h
                        exact aw_zret hC (Or.inr rfl) dX9_isOwn_125 (Nat.le_of_ble_eq_true rfl) (Nat.le_of_ble_eq_true rfl)
                      · replace h := it_n c11 h
                        refine aw_lload_n (pc' := 93) (i := 1) hC dX9_isOwn_92 rfl rfl rfl ?_
                        refine aw_ldc2 (pc' := 96) (v := 8102650225890325619) hC dX9_isOwn_93 rfl ck_X9_282 (by unfold I64; omega) ?_
                        refine aw_lcmp (pc' := 97) hC dX9_isOwn_96 rfl  ?_
                        refine aw_if_eq (tgt := 124) (pc' := 100) hC dX9_isOwn_97 (by decide) rfl (fun c12 => ?_) (fun c12 => ?_)
                        · replace h := it_p c12 h
                          refine aw_iconst (pc' := 125) hC dX9_isOwn_124 rfl (by decide) ?_
                          cases h
                          exact aw_zret hC (Or.inr rfl) dX9_isOwn_125 (Nat.le_of_ble_eq_true rfl) (Nat.le_of_ble_eq_true rfl)
                        · replace h := it_n c12 h
                          refine aw_lload_n (pc' := 101) (i := 1) hC dX9_isOwn_100 rfl rfl rfl ?_
                          refine aw_ldc2 (pc' := 104) (v := 482955846501) hC dX9_isOwn_101 rfl ck_X9_284 (by unfold I64; omega) ?_
                          refine aw_lcmp (pc' := 105) hC dX9_isOwn_104 rfl  ?_
                          refine aw_if_eq (tgt := 124) (pc' := 108) hC dX9_isOwn_105 (by decide) rfl (fun c13 => ?_) (fun c13 => ?_)
                          · replace h := it_p c13 h
                            refine aw_iconst (pc' := 125) hC dX9_isOwn_124 rfl (by decide) ?_
                            cases h
                            exact aw_zret hC (Or.inr rfl) dX9_isOwn_125 (Nat.le_of_ble_eq_true rfl) (Nat.le_of_ble_eq_true rfl)
                          · replace h := it_n c13 h
                            refine aw_lload_n (pc' := 109) (i := 1) hC dX9_isOwn_108 rfl rfl rfl ?_
                            refine aw_ldc2 (pc' := 112) (v := 478694368626) hC dX9_isOwn_109 rfl ck_X9_286 (by unfold I64; omega) ?_
                            refine aw_lcmp (pc' := 113) hC dX9_isOwn_112 rfl  ?_
                            refine aw_if_eq (tgt := 124) (pc' := 116) hC dX9_isOwn_113 (by decide) rfl (fun c14 => ?_) (fun c14 => ?_)
                            · replace h := it_p c14 h
                              refine aw_iconst (pc' := 125) hC dX9_isOwn_124 rfl (by decide) ?_
                              cases h
                              exact aw_zret hC (Or.inr rfl) dX9_isOwn_125 (Nat.le_of_ble_eq_true rfl) (Nat.le_of_ble_eq_true rfl)
                            · replace h := it_n c14 h
                              refine aw_lload_n (pc' := 117) (i := 1) hC dX9_isOwn_116 rfl rfl rfl ?_
                              refine aw_ldc2 (pc' := 120) (v := 109304541834341) hC dX9_isOwn_117 rfl ck_X9_288 (by unfold I64; omega) ?_
                              refine aw_lcmp (pc' := 121) hC dX9_isOwn_120 rfl  ?_
                              refine aw_if_ne (tgt := 126) (pc' := 124) hC dX9_isOwn_121 (by decide) rfl (fun c15 => ?_) (fun c15 => ?_)
                              · replace h := it_n c15 h
                                refine aw_lload_n (pc' := 127) (i := 1) hC dX9_isOwn_126 rfl rfl rfl ?_
                                refine aw_ldc2 (pc' := 130) (v := 6578553) hC dX9_isOwn_127 rfl ck_X9_290 (by unfold I64; omega) ?_
                                refine aw_lcmp (pc' := 131) hC dX9_isOwn_130 rfl  ?_
                                refine aw_if_eq (tgt := 166) (pc' := 134) hC dX9_isOwn_131 (by decide) rfl (fun c16 => ?_) (fun c16 => ?_)
                                · replace h := it_p c16 h
                                  refine aw_iconst (pc' := 167) hC dX9_isOwn_166 rfl (by decide) ?_
                                  cases h
                                  exact aw_zret hC (Or.inr rfl) dX9_isOwn_167 (Nat.le_of_ble_eq_true rfl) (Nat.le_of_ble_eq_true rfl)
                                · replace h := it_n c16 h
                                  refine aw_lload_n (pc' := 135) (i := 1) hC dX9_isOwn_134 rfl rfl rfl ?_
                                  refine aw_ldc2 (pc' := 138) (v := 448545973363) hC dX9_isOwn_135 rfl ck_X9_292 (by unfold I64; omega) ?_
                                  refine aw_lcmp (pc' := 139) hC dX9_isOwn_138 rfl  ?_
                                  refine aw_if_eq (tgt := 166) (pc' := 142) hC dX9_isOwn_139 (by decide) rfl (fun c17 => ?_) (fun c17 => ?_)
                                  · replace h := it_p c17 h
                                    refine aw_iconst (pc' := 167) hC dX9_isOwn_166 rfl (by decide) ?_
                                    cases h
                                    exact aw_zret hC (Or.inr rfl) dX9_isOwn_167 (Nat.le_of_ble_eq_true rfl) (Nat.le_of_ble_eq_true rfl)
                                  · replace h := it_n c17 h
                                    refine aw_lload_n (pc' := 143) (i := 1) hC dX9_isOwn_142 rfl rfl rfl ?_
                                    refine aw_ldc2 (pc' := 146) (v := 28530) hC dX9_isOwn_143 rfl ck_X9_294 (by unfold I64; omega) ?_
                                    refine aw_lcmp (pc' := 147) hC dX9_isOwn_146 rfl  ?_
                                    refine aw_if_eq (tgt := 166) (pc' := 150) hC dX9_isOwn_147 (by decide) rfl (fun c18 => ?_) (fun c18 => ?_)
                                    · replace h := it_p c18 h
                                      refine aw_iconst (pc' := 167) hC dX9_isOwn_166 rfl (by decide) ?_
                                      cases h
                                      exact aw_zret hC (Or.inr rfl) dX9_isOwn_167 (Nat.le_of_ble_eq_true rfl) (Nat.le_of_ble_eq_true rfl)
                                    · replace h := it_n c18 h
                                      refine aw_lload_n (pc' := 151) (i := 1) hC dX9_isOwn_150 rfl rfl rfl ?_
                                      refine aw_ldc2 (pc' := 154) (v := 6385252) hC dX9_isOwn_151 rfl ck_X9_296 (by unfold I64; omega) ?_
                                      refine aw_lcmp (pc' := 155) hC dX9_isOwn_154 rfl  ?_
                                      refine aw_if_eq (tgt := 166) (pc' := 158) hC dX9_isOwn_155 (by decide) rfl (fun c19 => ?_) (fun c19 => ?_)
                                      · replace h := it_p c19 h
                                        refine aw_iconst (pc' := 167) hC dX9_isOwn_166 rfl (by decide) ?_
                                        cases h
                                        exact aw_zret hC (Or.inr rfl) dX9_isOwn_167 (Nat.le_of_ble_eq_true rfl) (Nat.le_of_ble_eq_true rfl)
                                      · replace h := it_n c19 h
                                        refine aw_lload_n (pc' := 159) (i := 1) hC dX9_isOwn_158 rfl rfl rfl ?_
                                        refine aw_ldc2 (pc' := 162) (v := 7237492) hC dX9_isOwn_159 rfl ck_X9_298 (by unfold I64; omega) ?_
                                        refine aw_lcmp (pc' := 163) hC dX9_isOwn_162 rfl  ?_
                                        refine aw_if_ne (tgt := 168) (pc' := 166) hC dX9_isOwn_163 (by decide) rfl (fun c20 => ?_) (fun c20 => ?_)
                                        · replace h := it_n c20 h
                                          refine aw_lload_n (pc' := 169) (i := 1) hC dX9_isOwn_168 rfl rfl rfl ?_
                                          refine aw_ldc2 (pc' := 172) (v := 6384748) hC dX9_isOwn_169 rfl ck_X9_300 (by unfold I64; omega) ?_
                                          refine aw_lcmp (pc' := 173) hC dX9_isOwn_172 rfl  ?_
                                          refine aw_if_eq (tgt := 192) (pc' := 176) hC dX9_isOwn_173 (by decide) rfl (fun c21 => ?_) (fun c21 => ?_)
                                          · replace h := it_p c21 h
                                            refine aw_iconst (pc' := 193) hC dX9_isOwn_192 rfl (by decide) ?_
                                            cases h
                                            exact aw_zret hC (Or.inr rfl) dX9_isOwn_193 (Nat.le_of_ble_eq_true rfl) (Nat.le_of_ble_eq_true rfl)
                                          · replace h := it_n c21 h
                                            refine aw_lload_n (pc' := 177) (i := 1) hC dX9_isOwn_176 rfl rfl rfl ?_
                                            refine aw_ldc2 (pc' := 180) (v := 7170414) hC dX9_isOwn_177 rfl ck_X9_302 (by unfold I64; omega) ?_
                                            refine aw_lcmp (pc' := 181) hC dX9_isOwn_180 rfl  ?_
                                            refine aw_if_eq (tgt := 192) (pc' := 184) hC dX9_isOwn_181 (by decide) rfl (fun c22 => ?_) (fun c22 => ?_)
                                            · replace h := it_p c22 h
                                              refine aw_iconst (pc' := 193) hC dX9_isOwn_192 rfl (by decide) ?_
                                              cases h
                                              exact aw_zret hC (Or.inr rfl) dX9_isOwn_193 (Nat.le_of_ble_eq_true rfl) (Nat.le_of_ble_eq_true rfl)
                                            · replace h := it_n c22 h
                                              refine aw_lload_n (pc' := 185) (i := 1) hC dX9_isOwn_184 rfl rfl rfl ?_
                                              refine aw_ldc2 (pc' := 188) (v := 7168376) hC dX9_isOwn_185 rfl ck_X9_304 (by unfold I64; omega) ?_
                                              refine aw_lcmp (pc' := 189) hC dX9_isOwn_188 rfl  ?_
                                              refine aw_if_ne (tgt := 194) (pc' := 192) hC dX9_isOwn_189 (by decide) rfl (fun c23 => ?_) (fun c23 => ?_)
                                              · replace h := it_n c23 h
                                                refine aw_iconst (pc' := 195) hC dX9_isOwn_194 rfl (by decide) ?_
                                                cases h
                                                exact aw_zret hC (Or.inl rfl) dX9_isOwn_195 (Nat.le_of_ble_eq_true rfl) (Nat.le_of_ble_eq_true rfl)
                                              · replace h := it_p c23 h
                                                refine aw_iconst (pc' := 193) hC dX9_isOwn_192 rfl (by decide) ?_
                                                cases h
                                                exact aw_zret hC (Or.inr rfl) dX9_isOwn_193 (Nat.le_of_ble_eq_true rfl) (Nat.le_of_ble_eq_true rfl)
                                        · replace h := it_p c20 h
                                          refine aw_iconst (pc' := 167) hC dX9_isOwn_166 rfl (by decide) ?_
                                          cases h
                                          exact aw_zret hC (Or.inr rfl) dX9_isOwn_167 (Nat.le_of_ble_eq_true rfl) (Nat.le_of_ble_eq_true rfl)
                              · replace h := it_p c15 h
                                refine aw_iconst (pc' := 125) hC dX9_isOwn_124 rfl (by decide) ?_
                                cases h
                                exact aw_zret hC (Or.inr rfl) dX9_isOwn_125 (Nat.le_of_ble_eq_true rfl) (Nat.le_of_ble_eq_true rfl)
                    · replace h := it_p c10 h
                      refine aw_iconst (pc' := 83) hC dX9_isOwn_82 rfl (by decide) ?_
                      cases h
                      exact aw_zret hC (Or.inr rfl) dX9_isOwn_83 (Nat.le_of_ble_eq_true rfl) (Nat.le_of_ble_eq_true rfl)
          · replace h := it_p c5 h
            refine aw_iconst (pc' := 41) hC dX9_isOwn_40 rfl (by decide) ?_
            cases h
            exact aw_zret hC (Or.inr rfl) dX9_isOwn_41 (Nat.le_of_ble_eq_true rfl) (Nat.le_of_ble_eq_true rfl)
-- CoinCircleModel.ahead()V
def fX9_ahead_L5 (sh : AwS) (M : AwM) (v0 : Int) (v1 : Int) : Option ((Int) ⊕ (Int)) :=
  gd_ (kd_ sh v0 = (0, 9)) ((if v1 < (M v0 2) then gd_ ((kd_ sh (M v0 0)).1 = 1 ∧ (0 : Int) ≤ v1 ∧ v1 < ((kd_ sh (M v0 0)).2 : Int)) ((if (M (M v0 0) v1) = 32 then some (.inl (w32 (v1 + 1))) else (if (M (M v0 0) v1) = 10 then some (.inl (w32 (v1 + 1))) else some (.inr v1)))) else some (.inr v1)))
def p_X9_ahead_L5 (Γ : AwC) (sh : AwS) (M : AwM) (v0 : Int) (Q : State → Prop) (s : Int) : Prop := AW Γ sh M 0 0 5 [some (.inr (.inr v0)), some (.inl (s)), none, none, none, none] [] Q
def x_X9_ahead_L5 (Γ : AwC) (sh : AwS) (M : AwM) (v0 : Int) (Q : State → Prop) : (Int) → Prop := (fun (t : Int) => AW Γ sh M 0 0 41 [some (.inr (.inr v0)), some (.inl (t)), none, none, none, none] [] Q)
def fX9_ahead_J293_204 (sh : AwS) (M : AwM) (v0 : Int) (v1 : Int) (v2 : Int) (v3 : Int) (v4 : Int) (v5 : Int) : Option ((Int × Int × AwM) ⊕ (Int × Int × AwM)) :=
  (if v5 < v4 then (if v3 = 0 then some (.inl ((w32 (v1 + 1)), (w32 (v5 + 1)), M)) else gd_ (kd_ sh v0 = (0, 9)) (gd_ ((kd_ sh (M v0 0)).1 = 1 ∧ (0 : Int) ≤ v1 ∧ v1 < ((kd_ sh (M v0 0)).2 : Int)) (bd_ (up_ M v0 6 (w32 ((w32 ((w32 (10 * (M v0 6))) + (M (M v0 0) v1))) - 48))) fun (M53 : AwM) => (some (.inl ((w32 (v1 + 1)), (w32 (v5 + 1)), M53)))))) else some (.inl ((w32 (v1 + 1)), (w32 (v5 + 1)), M)))
def fX9_ahead_J263_204 (sh : AwS) (M : AwM) (v0 : Int) (v1 : Int) (v2 : Int) (v3 : Int) (v4 : Int) (v5 : Int) : Option ((Int × Int × AwM) ⊕ (Int × Int × AwM)) :=
  (if v5 < 8 then (if v2 = 0 then fX9_ahead_J293_204 sh M v0 v1 v2 v3 v4 v5 else gd_ (kd_ sh v0 = (0, 9)) (gd_ ((kd_ sh (M v0 0)).1 = 1 ∧ (0 : Int) ≤ v1 ∧ v1 < ((kd_ sh (M v0 0)).2 : Int)) (bd_ (up_ M v0 7 (orl_ (sll_ (M v0 7) 8) (M (M v0 0) v1))) fun (M58 : AwM) => (fX9_ahead_J293_204 sh M58 v0 v1 v2 v3 v4 v5)))) else fX9_ahead_J293_204 sh M v0 v1 v2 v3 v4 v5)
def fX9_ahead_J243_204 (sh : AwS) (M : AwM) (v0 : Int) (v1 : Int) (v2 : Int) (v3 : Int) (v4 : Int) (v5 : Int) : Option ((Int × Int × AwM) ⊕ (Int × Int × AwM)) :=
  (if v5 = v4 then gd_ (kd_ sh v0 = (0, 9)) ((if (M v0 12) = (-1) then bd_ (up_ M v0 12 v1) fun (M62 : AwM) => (fX9_ahead_J263_204 sh M62 v0 v1 v2 v3 v4 v5) else fX9_ahead_J263_204 sh M v0 v1 v2 v3 v4 v5)) else fX9_ahead_J263_204 sh M v0 v1 v2 v3 v4 v5)
def fX9_ahead_L204 (sh : AwS) (v0 : Int) (v2 : Int) (v3 : Int) (v4 : Int) (v1 : Int) (v5 : Int) (M : AwM) : Option ((Int × Int × AwM) ⊕ (Int × Int × AwM)) :=
  gd_ (kd_ sh v0 = (0, 9)) ((if v1 < (M v0 2) then (if v2 = 0 then gd_ ((kd_ sh (M v0 0)).1 = 1 ∧ (0 : Int) ≤ v1 ∧ v1 < ((kd_ sh (M v0 0)).2 : Int)) (pb (fX9_isDigit sh M (M (M v0 0) v1)) <| u1 fun (x45 : Int) => ((if x45 = 0 then some (.inr (v1, v5, M)) else fX9_ahead_J243_204 sh M v0 v1 v2 v3 v4 v5))) else gd_ ((kd_ sh (M v0 0)).1 = 1 ∧ (0 : Int) ≤ v1 ∧ v1 < ((kd_ sh (M v0 0)).2 : Int)) (pb (fX9_isLetter sh M (M (M v0 0) v1)) <| u1 fun (x66 : Int) => ((if x66 = 0 then some (.inr (v1, v5, M)) else fX9_ahead_J243_204 sh M v0 v1 v2 v3 v4 v5)))) else some (.inr (v1, v5, M))))
def p_X9_ahead_L204 (Γ : AwC) (sh : AwS) (v0 : Int) (v2 : Int) (v3 : Int) (v4 : Int) (Q : State → Prop) (s : Int × Int × AwM) : Prop := AW Γ sh (s.2.2) 0 0 204 [some (.inr (.inr v0)), some (.inl (s.1)), some (.inl v2), some (.inl v3), some (.inl v4), some (.inl (s.2.1))] [] Q
def x_X9_ahead_L204 (Γ : AwC) (sh : AwS) (v0 : Int) (v2 : Int) (v3 : Int) (v4 : Int) (Q : State → Prop) : (Int × Int × AwM) → Prop := (fun (t : Int × Int × AwM) => AW Γ sh (t.2.2) 0 0 334 [some (.inr (.inr v0)), some (.inl (t.1)), some (.inl v2), none, some (.inl v4), some (.inl (t.2.1))] [] Q)
def fX9_ahead_J334 (sh : AwS) (M : AwM) (v0 : Int) (v1 : Int) (v2 : Int) (v4 : Int) (v5 : Int) : Option (AwM) :=
  gd_ (kd_ sh v0 = (0, 9)) (bd_ (up_ M v0 5 v1) fun (M73 : AwM) => ((if v2 = 0 then some M73 else (if 8 < v5 then some M73 else (if (M73 v0 12) = (w32 ((M73 v0 4) + v4)) then pb (fX9_isOwn sh M73 v0 (M73 v0 7)) <| u1 fun (x79 : Int) => ((if x79 = 0 then some M73 else bd_ (up_ M73 v0 12 (-1)) fun (M81 : AwM) => (some M81))) else some M73)))))
def fX9_ahead_J186 (sh : AwS) (M : AwM) (v0 : Int) (v1 : Int) (v2 : Int) (v3 : Int) (s0 : Int) (s1 : Int) : Option (AwM) :=
  gd_ (kd_ sh s0 = (0, 9)) (bd_ (up_ M s0 3 s1) fun (M37 : AwM) => ((if v2 = 0 then pb (lp (u3 (fX9_ahead_L204 sh v0 v2 v3 4)) FU (v1, 0, M37)) (u3 (fun (x69 : Int) (x70 : Int) (M71 : AwM) => fX9_ahead_J334 sh M71 v0 x69 v2 4 x70)) else pb (lp (u3 (fX9_ahead_L204 sh v0 v2 v3 6)) FU (v1, 0, M37)) (u3 (fun (x84 : Int) (x85 : Int) (M86 : AwM) => fX9_ahead_J334 sh M86 v0 x84 v2 6 x85)))))
def fX9_ahead_J176 (sh : AwS) (M : AwM) (v0 : Int) (v1 : Int) (v2 : Int) (v3 : Int) : Option (AwM) :=
  (if v2 = 0 then fX9_ahead_J186 sh M v0 v1 v2 v3 v0 2 else fX9_ahead_J186 sh M v0 v1 v2 v3 v0 1)
def fX9_ahead_J135 (sh : AwS) (M : AwM) (v0 : Int) (v1 : Int) (v2 : Int) (v3 : Int) : Option (AwM) :=
  gd_ (kd_ sh v0 = (0, 9)) (bd_ (up_ M v0 6 0) fun (M26 : AwM) => (bd_ (up_ M26 v0 7 0) fun (M28 : AwM) => (bd_ (up_ M28 v0 3 3) fun (M30 : AwM) => (bd_ (up_ M30 v0 5 (w32 (v1 + 1))) fun (M32 : AwM) => ((if v2 = 0 then (if v3 = 0 then gd_ ((kd_ sh (M32 v0 0)).1 = 1 ∧ (0 : Int) ≤ v1 ∧ v1 < ((kd_ sh (M32 v0 0)).2 : Int)) (bd_ (up_ M32 v0 6 (M32 (M32 v0 0) v1)) fun (M89 : AwM) => (some M89)) else fX9_ahead_J176 sh M32 v0 v1 v2 v3) else fX9_ahead_J176 sh M32 v0 v1 v2 v3))))))
def fX9_ahead_J130 (sh : AwS) (M : AwM) (v0 : Int) (v1 : Int) (v2 : Int) (v3 : Int) : Option (AwM) :=
  gd_ (kd_ sh v0 = (0, 9)) (bd_ (up_ M v0 12 v1) fun (M97 : AwM) => (fX9_ahead_J135 sh M97 v0 v1 v2 v3))
def fX9_ahead_J98 (sh : AwS) (M : AwM) (v0 : Int) (v1 : Int) (v2 : Int) (v3 : Int) : Option (AwM) :=
  (if 0 < v1 then gd_ (kd_ sh v0 = (0, 9)) (gd_ ((kd_ sh (M v0 0)).1 = 1 ∧ (0 : Int) ≤ (w32 (v1 - 1)) ∧ (w32 (v1 - 1)) < ((kd_ sh (M v0 0)).2 : Int)) (pb (fX9_isLetter sh M (M (M v0 0) (w32 (v1 - 1)))) <| u1 fun (x94 : Int) => ((if x94 = 0 then pb (fX9_isDigit sh M (M (M v0 0) (w32 (v1 - 1)))) <| u1 fun (x100 : Int) => ((if x100 = 0 then fX9_ahead_J135 sh M v0 v1 v2 v3 else fX9_ahead_J130 sh M v0 v1 v2 v3)) else fX9_ahead_J130 sh M v0 v1 v2 v3)))) else fX9_ahead_J135 sh M v0 v1 v2 v3)
def fX9_ahead_J41 (sh : AwS) (M : AwM) (v0 : Int) (v1 : Int) : Option (AwM) :=
  gd_ (kd_ sh v0 = (0, 9)) (bd_ (up_ M v0 4 v1) fun (M9 : AwM) => (bd_ (up_ M9 v0 5 v1) fun (M11 : AwM) => (bd_ (up_ M11 v0 3 0) fun (M13 : AwM) => (bd_ (up_ M13 v0 12 (-1)) fun (M15 : AwM) => ((if v1 < (M15 v0 2) then gd_ ((kd_ sh (M15 v0 0)).1 = 1 ∧ (0 : Int) ≤ v1 ∧ v1 < ((kd_ sh (M15 v0 0)).2 : Int)) (pb (fX9_isLetter sh M15 (M15 (M15 v0 0) v1)) <| u1 fun (x20 : Int) => (pb (fX9_isDigit sh M15 (M15 (M15 v0 0) v1)) <| u1 fun (x22 : Int) => ((if x20 = 0 then (if x22 = 0 then fX9_ahead_J135 sh M15 v0 v1 x20 x22 else fX9_ahead_J98 sh M15 v0 v1 x20 x22) else fX9_ahead_J98 sh M15 v0 v1 x20 x22)))) else some M15))))))
def fX9_ahead (sh : AwS) (M : AwM) (v0 : Int) : Option (AwM) :=
  gd_ (kd_ sh v0 = (0, 9)) (pb (lp (u1 (fX9_ahead_L5 sh M v0)) FU (M v0 5)) (u1 (fun (tq7 : Int) => fX9_ahead_J41 sh M v0 tq7)))
set_option maxRecDepth 100000 in
set_option maxHeartbeats 4000000 in
theorem w_X9_ahead_L5 {Γ : AwC} (hC : AOK Γ RX9 cX9_ahead 6 2 0 0 "ahead" none) {sh : AwS} {M : AwM} {v0 : Int} {Q : State → Prop} : ∀ s r, u1 (fX9_ahead_L5 sh M v0) s = some r → (∀ s', r = .inl s' → p_X9_ahead_L5 Γ sh M v0 Q s') → (∀ t, r = .inr t → x_X9_ahead_L5 Γ sh M v0 Q t) → p_X9_ahead_L5 Γ sh M v0 Q s := by
  intro v1 r h hL hX
  replace h := u1_s h
  unfold fX9_ahead_L5 at h
  show AW Γ sh M 0 0 5 [some (.inr (.inr v0)), some (.inl v1), none, none, none, none] [] Q
  refine aw_iload_n (pc' := 6) (i := 1) hC dX9_ahead_5 rfl rfl rfl ?_
  refine aw_aload_n (pc' := 7) (i := 0) hC dX9_ahead_6 rfl rfl rfl ?_
  obtain ⟨g2, h⟩ := gd_s h
  refine aw_getfield (pc' := 10) (v := (.inl (M v0 2))) hC dX9_ahead_7 rfl fl_X9_17 g2 rfl ?_
  refine aw_icmp_ge (tgt := 41) (pc' := 13) hC dX9_ahead_10 (by decide) rfl (fun c3 => ?_) (fun c3 => ?_)
  · replace h := it_n c3 h
    refine aw_sub hC [some (.inr (.inr v0)), some (.inl v1), none, none, none, none] ⟨rfl, ⟨rfl, trivial⟩⟩ (Nat.le_of_ble_eq_true rfl) ?_
    cases h
    exact hX _ rfl
  · replace h := it_p c3 h
    refine aw_aload_n (pc' := 14) (i := 0) hC dX9_ahead_13 rfl rfl rfl ?_
    refine aw_getfield (pc' := 17) (v := (.inr (.inr (M v0 0)))) hC dX9_ahead_14 rfl fl_X9_7 g2 rfl ?_
    refine aw_iload_n (pc' := 18) (i := 1) hC dX9_ahead_17 rfl rfl rfl ?_
    obtain ⟨g4, h⟩ := gd_s h
    refine aw_iaload (pc' := 19) hC dX9_ahead_18 rfl g4 ?_
    refine aw_bipush (pc' := 21) hC dX9_ahead_19 rfl (by decide) ?_
    refine aw_icmp_eq (tgt := 35) (pc' := 24) hC dX9_ahead_21 (by decide) rfl (fun c5 => ?_) (fun c5 => ?_)
    · replace h := it_p c5 h
      refine aw_iinc (pc' := 38) (ls' := [some (.inr (.inr v0)), some (.inl (w32 (v1 + 1))), none, none, none, none]) hC dX9_ahead_35 rfl rfl rfl rfl ?_
      refine aw_goto (tgt := 5) hC dX9_ahead_38 (by decide) ?_
      refine aw_sub hC [some (.inr (.inr v0)), some (.inl (w32 (v1 + 1))), none, none, none, none] ⟨rfl, ⟨rfl, trivial⟩⟩ (Nat.le_of_ble_eq_true rfl) ?_
      cases h
      exact hL _ rfl
    · replace h := it_n c5 h
      refine aw_aload_n (pc' := 25) (i := 0) hC dX9_ahead_24 rfl rfl rfl ?_
      refine aw_getfield (pc' := 28) (v := (.inr (.inr (M v0 0)))) hC dX9_ahead_25 rfl fl_X9_7 g2 rfl ?_
      refine aw_iload_n (pc' := 29) (i := 1) hC dX9_ahead_28 rfl rfl rfl ?_
      refine aw_iaload (pc' := 30) hC dX9_ahead_29 rfl g4 ?_
      refine aw_bipush (pc' := 32) hC dX9_ahead_30 rfl (by decide) ?_
      refine aw_icmp_ne (tgt := 41) (pc' := 35) hC dX9_ahead_32 (by decide) rfl (fun c6 => ?_) (fun c6 => ?_)
      · replace h := it_n c6 h
        refine aw_sub hC [some (.inr (.inr v0)), some (.inl v1), none, none, none, none] ⟨rfl, ⟨rfl, trivial⟩⟩ (Nat.le_of_ble_eq_true rfl) ?_
        cases h
        exact hX _ rfl
      · replace h := it_p c6 h
        refine aw_iinc (pc' := 38) (ls' := [some (.inr (.inr v0)), some (.inl (w32 (v1 + 1))), none, none, none, none]) hC dX9_ahead_35 rfl rfl rfl rfl ?_
        refine aw_goto (tgt := 5) hC dX9_ahead_38 (by decide) ?_
        refine aw_sub hC [some (.inr (.inr v0)), some (.inl (w32 (v1 + 1))), none, none, none, none] ⟨rfl, ⟨rfl, trivial⟩⟩ (Nat.le_of_ble_eq_true rfl) ?_
        cases h
        exact hL _ rfl
set_option maxRecDepth 100000 in
set_option maxHeartbeats 4000000 in
theorem w_X9_ahead_J293_204 {Γ : AwC} (hC : AOK Γ RX9 cX9_ahead 6 2 0 0 "ahead" none) {sh : AwS} {M : AwM} {v0 : Int} {v1 : Int} {v2 : Int} {v3 : Int} {v4 : Int} {v5 : Int} {Q : State → Prop} {r : (Int × Int × AwM) ⊕ (Int × Int × AwM)} (h : fX9_ahead_J293_204 sh M v0 v1 v2 v3 v4 v5 = some r) (hL : ∀ s', r = .inl s' → p_X9_ahead_L204 Γ sh v0 v2 v3 v4 Q s') (hX : ∀ t, r = .inr t → x_X9_ahead_L204 Γ sh v0 v2 v3 v4 Q t) : AW Γ sh M 0 0 293 [some (.inr (.inr v0)), some (.inl v1), some (.inl v2), some (.inl v3), some (.inl v4), some (.inl v5)] [] Q := by
  unfold fX9_ahead_J293_204 at h
  refine aw_iload (pc' := 295) hC dX9_ahead_293 rfl rfl ?_
  refine aw_iload (pc' := 297) hC dX9_ahead_295 rfl rfl ?_
  refine aw_icmp_ge (tgt := 325) (pc' := 300) hC dX9_ahead_297 (by decide) rfl (fun c49 => ?_) (fun c49 => ?_)
  · replace h := it_n c49 h
    refine aw_iinc (pc' := 328) (ls' := [some (.inr (.inr v0)), some (.inl v1), some (.inl v2), some (.inl v3), some (.inl v4), some (.inl (w32 (v5 + 1)))]) hC dX9_ahead_325 rfl rfl rfl rfl ?_
    refine aw_iinc (pc' := 331) (ls' := [some (.inr (.inr v0)), some (.inl (w32 (v1 + 1))), some (.inl v2), some (.inl v3), some (.inl v4), some (.inl (w32 (v5 + 1)))]) hC dX9_ahead_328 rfl rfl rfl rfl ?_
    refine aw_goto (tgt := 204) hC dX9_ahead_331 (by decide) ?_
    refine aw_sub hC [some (.inr (.inr v0)), some (.inl (w32 (v1 + 1))), some (.inl v2), some (.inl v3), some (.inl v4), some (.inl (w32 (v5 + 1)))] ⟨rfl, ⟨rfl, ⟨rfl, ⟨rfl, ⟨rfl, ⟨rfl, trivial⟩⟩⟩⟩⟩⟩ (Nat.le_of_ble_eq_true rfl) ?_
    cases h
    exact hL _ rfl
  · replace h := it_p c49 h
    refine aw_iload_n (pc' := 301) (i := 3) hC dX9_ahead_300 rfl rfl rfl ?_
    refine aw_if_eq (tgt := 325) (pc' := 304) hC dX9_ahead_301 (by decide) rfl (fun c50 => ?_) (fun c50 => ?_)
    · replace h := it_p c50 h
      refine aw_iinc (pc' := 328) (ls' := [some (.inr (.inr v0)), some (.inl v1), some (.inl v2), some (.inl v3), some (.inl v4), some (.inl (w32 (v5 + 1)))]) hC dX9_ahead_325 rfl rfl rfl rfl ?_
      refine aw_iinc (pc' := 331) (ls' := [some (.inr (.inr v0)), some (.inl (w32 (v1 + 1))), some (.inl v2), some (.inl v3), some (.inl v4), some (.inl (w32 (v5 + 1)))]) hC dX9_ahead_328 rfl rfl rfl rfl ?_
      refine aw_goto (tgt := 204) hC dX9_ahead_331 (by decide) ?_
      refine aw_sub hC [some (.inr (.inr v0)), some (.inl (w32 (v1 + 1))), some (.inl v2), some (.inl v3), some (.inl v4), some (.inl (w32 (v5 + 1)))] ⟨rfl, ⟨rfl, ⟨rfl, ⟨rfl, ⟨rfl, ⟨rfl, trivial⟩⟩⟩⟩⟩⟩ (Nat.le_of_ble_eq_true rfl) ?_
      cases h
      exact hL _ rfl
    · replace h := it_n c50 h
      refine aw_aload_n (pc' := 305) (i := 0) hC dX9_ahead_304 rfl rfl rfl ?_
      refine aw_bipush (pc' := 307) hC dX9_ahead_305 rfl (by decide) ?_
      refine aw_aload_n (pc' := 308) (i := 0) hC dX9_ahead_307 rfl rfl rfl ?_
      obtain ⟨g51, h⟩ := gd_s h
      refine aw_getfield (pc' := 311) (v := (.inl (M v0 6))) hC dX9_ahead_308 rfl fl_X9_29 g51 rfl ?_
      refine aw_imul (pc' := 312) hC dX9_ahead_311 rfl  ?_
      refine aw_aload_n (pc' := 313) (i := 0) hC dX9_ahead_312 rfl rfl rfl ?_
      refine aw_getfield (pc' := 316) (v := (.inr (.inr (M v0 0)))) hC dX9_ahead_313 rfl fl_X9_7 g51 rfl ?_
      refine aw_iload_n (pc' := 317) (i := 1) hC dX9_ahead_316 rfl rfl rfl ?_
      obtain ⟨g52, h⟩ := gd_s h
      refine aw_iaload (pc' := 318) hC dX9_ahead_317 rfl g52 ?_
      refine aw_iadd (pc' := 319) hC dX9_ahead_318 rfl  ?_
      refine aw_bipush (pc' := 321) hC dX9_ahead_319 rfl (by decide) ?_
      refine aw_isub (pc' := 322) hC dX9_ahead_321 rfl  ?_
      obtain ⟨M53, e54, h⟩ := bd_s h
      refine aw_pf (pc' := 325) hC dX9_ahead_322 rfl fp_X9_29 g51 rfl trivial e54 ?_
      refine aw_iinc (pc' := 328) (ls' := [some (.inr (.inr v0)), some (.inl v1), some (.inl v2), some (.inl v3), some (.inl v4), some (.inl (w32 (v5 + 1)))]) hC dX9_ahead_325 rfl rfl rfl rfl ?_
      refine aw_iinc (pc' := 331) (ls' := [some (.inr (.inr v0)), some (.inl (w32 (v1 + 1))), some (.inl v2), some (.inl v3), some (.inl v4), some (.inl (w32 (v5 + 1)))]) hC dX9_ahead_328 rfl rfl rfl rfl ?_
      refine aw_goto (tgt := 204) hC dX9_ahead_331 (by decide) ?_
      refine aw_sub hC [some (.inr (.inr v0)), some (.inl (w32 (v1 + 1))), some (.inl v2), some (.inl v3), some (.inl v4), some (.inl (w32 (v5 + 1)))] ⟨rfl, ⟨rfl, ⟨rfl, ⟨rfl, ⟨rfl, ⟨rfl, trivial⟩⟩⟩⟩⟩⟩ (Nat.le_of_ble_eq_true rfl) ?_
      cases h
      exact hL _ rfl
set_option maxRecDepth 100000 in
set_option maxHeartbeats 4000000 in
theorem w_X9_ahead_J263_204 {Γ : AwC} (hC : AOK Γ RX9 cX9_ahead 6 2 0 0 "ahead" none) {sh : AwS} {M : AwM} {v0 : Int} {v1 : Int} {v2 : Int} {v3 : Int} {v4 : Int} {v5 : Int} {Q : State → Prop} {r : (Int × Int × AwM) ⊕ (Int × Int × AwM)} (h : fX9_ahead_J263_204 sh M v0 v1 v2 v3 v4 v5 = some r) (hL : ∀ s', r = .inl s' → p_X9_ahead_L204 Γ sh v0 v2 v3 v4 Q s') (hX : ∀ t, r = .inr t → x_X9_ahead_L204 Γ sh v0 v2 v3 v4 Q t) : AW Γ sh M 0 0 263 [some (.inr (.inr v0)), some (.inl v1), some (.inl v2), some (.inl v3), some (.inl v4), some (.inl v5)] [] Q := by
  unfold fX9_ahead_J263_204 at h
  refine aw_iload (pc' := 265) hC dX9_ahead_263 rfl rfl ?_
  refine aw_bipush (pc' := 267) hC dX9_ahead_265 rfl (by decide) ?_
  refine aw_icmp_ge (tgt := 293) (pc' := 270) hC dX9_ahead_267 (by decide) rfl (fun c48 => ?_) (fun c48 => ?_)
  · replace h := it_n c48 h
    refine aw_sub hC [some (.inr (.inr v0)), some (.inl v1), some (.inl v2), some (.inl v3), some (.inl v4), some (.inl v5)] ⟨rfl, ⟨rfl, ⟨rfl, ⟨rfl, ⟨rfl, ⟨rfl, trivial⟩⟩⟩⟩⟩⟩ (Nat.le_of_ble_eq_true rfl) ?_
    exact w_X9_ahead_J293_204 hC h hL hX
  · replace h := it_p c48 h
    refine aw_iload_n (pc' := 271) (i := 2) hC dX9_ahead_270 rfl rfl rfl ?_
    refine aw_if_eq (tgt := 293) (pc' := 274) hC dX9_ahead_271 (by decide) rfl (fun c55 => ?_) (fun c55 => ?_)
    · replace h := it_p c55 h
      refine aw_sub hC [some (.inr (.inr v0)), some (.inl v1), some (.inl v2), some (.inl v3), some (.inl v4), some (.inl v5)] ⟨rfl, ⟨rfl, ⟨rfl, ⟨rfl, ⟨rfl, ⟨rfl, trivial⟩⟩⟩⟩⟩⟩ (Nat.le_of_ble_eq_true rfl) ?_
      exact w_X9_ahead_J293_204 hC h hL hX
    · replace h := it_n c55 h
      refine aw_aload_n (pc' := 275) (i := 0) hC dX9_ahead_274 rfl rfl rfl ?_
      refine aw_aload_n (pc' := 276) (i := 0) hC dX9_ahead_275 rfl rfl rfl ?_
      obtain ⟨g56, h⟩ := gd_s h
      refine aw_getfield (pc' := 279) (v := (.inr (.inl (M v0 7)))) hC dX9_ahead_276 rfl fl_X9_32 g56 rfl ?_
      refine aw_bipush (pc' := 281) hC dX9_ahead_279 rfl (by decide) ?_
      refine aw_lshl (pc' := 282) hC dX9_ahead_281 rfl  ?_
      refine aw_aload_n (pc' := 283) (i := 0) hC dX9_ahead_282 rfl rfl rfl ?_
      refine aw_getfield (pc' := 286) (v := (.inr (.inr (M v0 0)))) hC dX9_ahead_283 rfl fl_X9_7 g56 rfl ?_
      refine aw_iload_n (pc' := 287) (i := 1) hC dX9_ahead_286 rfl rfl rfl ?_
      obtain ⟨g57, h⟩ := gd_s h
      refine aw_iaload (pc' := 288) hC dX9_ahead_287 rfl g57 ?_
      refine aw_i2l (pc' := 289) hC dX9_ahead_288 rfl  ?_
      refine aw_lor (pc' := 290) hC dX9_ahead_289 rfl  ?_
      obtain ⟨M58, e59, h⟩ := bd_s h
      refine aw_pf (pc' := 293) hC dX9_ahead_290 rfl fp_X9_32 g56 rfl trivial e59 ?_
      refine aw_sub hC [some (.inr (.inr v0)), some (.inl v1), some (.inl v2), some (.inl v3), some (.inl v4), some (.inl v5)] ⟨rfl, ⟨rfl, ⟨rfl, ⟨rfl, ⟨rfl, ⟨rfl, trivial⟩⟩⟩⟩⟩⟩ (Nat.le_of_ble_eq_true rfl) ?_
      exact w_X9_ahead_J293_204 hC h hL hX
set_option maxRecDepth 100000 in
set_option maxHeartbeats 4000000 in
theorem w_X9_ahead_J243_204 {Γ : AwC} (hC : AOK Γ RX9 cX9_ahead 6 2 0 0 "ahead" none) {sh : AwS} {M : AwM} {v0 : Int} {v1 : Int} {v2 : Int} {v3 : Int} {v4 : Int} {v5 : Int} {Q : State → Prop} {r : (Int × Int × AwM) ⊕ (Int × Int × AwM)} (h : fX9_ahead_J243_204 sh M v0 v1 v2 v3 v4 v5 = some r) (hL : ∀ s', r = .inl s' → p_X9_ahead_L204 Γ sh v0 v2 v3 v4 Q s') (hX : ∀ t, r = .inr t → x_X9_ahead_L204 Γ sh v0 v2 v3 v4 Q t) : AW Γ sh M 0 0 243 [some (.inr (.inr v0)), some (.inl v1), some (.inl v2), some (.inl v3), some (.inl v4), some (.inl v5)] [] Q := by
  unfold fX9_ahead_J243_204 at h
  refine aw_iload (pc' := 245) hC dX9_ahead_243 rfl rfl ?_
  refine aw_iload (pc' := 247) hC dX9_ahead_245 rfl rfl ?_
  refine aw_icmp_ne (tgt := 263) (pc' := 250) hC dX9_ahead_247 (by decide) rfl (fun c47 => ?_) (fun c47 => ?_)
  · replace h := it_n c47 h
    refine aw_sub hC [some (.inr (.inr v0)), some (.inl v1), some (.inl v2), some (.inl v3), some (.inl v4), some (.inl v5)] ⟨rfl, ⟨rfl, ⟨rfl, ⟨rfl, ⟨rfl, ⟨rfl, trivial⟩⟩⟩⟩⟩⟩ (Nat.le_of_ble_eq_true rfl) ?_
    exact w_X9_ahead_J263_204 hC h hL hX
  · replace h := it_p c47 h
    refine aw_aload_n (pc' := 251) (i := 0) hC dX9_ahead_250 rfl rfl rfl ?_
    obtain ⟨g60, h⟩ := gd_s h
    refine aw_getfield (pc' := 254) (v := (.inl (M v0 12))) hC dX9_ahead_251 rfl fl_X9_48 g60 rfl ?_
    refine aw_iconst (pc' := 255) hC dX9_ahead_254 rfl (by decide) ?_
    refine aw_icmp_ne (tgt := 263) (pc' := 258) hC dX9_ahead_255 (by decide) rfl (fun c61 => ?_) (fun c61 => ?_)
    · replace h := it_n c61 h
      refine aw_sub hC [some (.inr (.inr v0)), some (.inl v1), some (.inl v2), some (.inl v3), some (.inl v4), some (.inl v5)] ⟨rfl, ⟨rfl, ⟨rfl, ⟨rfl, ⟨rfl, ⟨rfl, trivial⟩⟩⟩⟩⟩⟩ (Nat.le_of_ble_eq_true rfl) ?_
      exact w_X9_ahead_J263_204 hC h hL hX
    · replace h := it_p c61 h
      refine aw_aload_n (pc' := 259) (i := 0) hC dX9_ahead_258 rfl rfl rfl ?_
      refine aw_iload_n (pc' := 260) (i := 1) hC dX9_ahead_259 rfl rfl rfl ?_
      obtain ⟨M62, e63, h⟩ := bd_s h
      refine aw_pf (pc' := 263) hC dX9_ahead_260 rfl fp_X9_48 g60 rfl trivial e63 ?_
      refine aw_sub hC [some (.inr (.inr v0)), some (.inl v1), some (.inl v2), some (.inl v3), some (.inl v4), some (.inl v5)] ⟨rfl, ⟨rfl, ⟨rfl, ⟨rfl, ⟨rfl, ⟨rfl, trivial⟩⟩⟩⟩⟩⟩ (Nat.le_of_ble_eq_true rfl) ?_
      exact w_X9_ahead_J263_204 hC h hL hX
set_option maxRecDepth 100000 in
set_option maxHeartbeats 4000000 in
theorem w_X9_ahead_L204 {Γ : AwC} (hC : AOK Γ RX9 cX9_ahead 6 2 0 0 "ahead" none) {sh : AwS} {v0 : Int} {v2 : Int} {v3 : Int} {v4 : Int} {Q : State → Prop} : ∀ s r, u3 (fX9_ahead_L204 sh v0 v2 v3 v4) s = some r → (∀ s', r = .inl s' → p_X9_ahead_L204 Γ sh v0 v2 v3 v4 Q s') → (∀ t, r = .inr t → x_X9_ahead_L204 Γ sh v0 v2 v3 v4 Q t) → p_X9_ahead_L204 Γ sh v0 v2 v3 v4 Q s := by
  intro s r h hL hX
  obtain ⟨v1, v5, M⟩ := s
  replace h := u3_s h
  unfold fX9_ahead_L204 at h
  show AW Γ sh M 0 0 204 [some (.inr (.inr v0)), some (.inl v1), some (.inl v2), some (.inl v3), some (.inl v4), some (.inl v5)] [] Q
  refine aw_iload_n (pc' := 205) (i := 1) hC dX9_ahead_204 rfl rfl rfl ?_
  refine aw_aload_n (pc' := 206) (i := 0) hC dX9_ahead_205 rfl rfl rfl ?_
  obtain ⟨g40, h⟩ := gd_s h
  refine aw_getfield (pc' := 209) (v := (.inl (M v0 2))) hC dX9_ahead_206 rfl fl_X9_17 g40 rfl ?_
  refine aw_icmp_ge (tgt := 334) (pc' := 212) hC dX9_ahead_209 (by decide) rfl (fun c41 => ?_) (fun c41 => ?_)
  · replace h := it_n c41 h
    refine aw_sub hC [some (.inr (.inr v0)), some (.inl v1), some (.inl v2), none, some (.inl v4), some (.inl v5)] ⟨rfl, ⟨rfl, ⟨rfl, ⟨rfl, ⟨rfl, trivial⟩⟩⟩⟩⟩ (Nat.le_of_ble_eq_true rfl) ?_
    cases h
    exact hX _ rfl
  · replace h := it_p c41 h
    refine aw_iload_n (pc' := 213) (i := 2) hC dX9_ahead_212 rfl rfl rfl ?_
    refine aw_if_eq (tgt := 231) (pc' := 216) hC dX9_ahead_213 (by decide) rfl (fun c42 => ?_) (fun c42 => ?_)
    · replace h := it_p c42 h
      refine aw_aload_n (pc' := 232) (i := 0) hC dX9_ahead_231 rfl rfl rfl ?_
      refine aw_getfield (pc' := 235) (v := (.inr (.inr (M v0 0)))) hC dX9_ahead_232 rfl fl_X9_7 g40 rfl ?_
      refine aw_iload_n (pc' := 236) (i := 1) hC dX9_ahead_235 rfl rfl rfl ?_
      obtain ⟨g43, h⟩ := gd_s h
      refine aw_iaload (pc' := 237) hC dX9_ahead_236 rfl g43 ?_
      obtain ⟨x45, q44, h⟩ := pb_s h
      replace h := u1_s h
      refine aw_cS (pc' := 240) (k2 := 0) (n2 := 0) (st := []) (stN := [.inl x45]) hC [.inl (M (M v0 0) v1)] (mX9_isDigit q44) lk_X9_244 dX9_ahead_237 rfl rfl (Nat.le_of_ble_eq_true rfl) (Nat.le_of_ble_eq_true rfl) (Nat.le_of_ble_eq_true rfl) rfl (Nat.le_of_ble_eq_true rfl) rfl rfl rfl ?_
      refine aw_if_eq (tgt := 334) (pc' := 243) hC dX9_ahead_240 (by decide) rfl (fun c46 => ?_) (fun c46 => ?_)
      · replace h := it_p c46 h
        refine aw_sub hC [some (.inr (.inr v0)), some (.inl v1), some (.inl v2), none, some (.inl v4), some (.inl v5)] ⟨rfl, ⟨rfl, ⟨rfl, ⟨rfl, ⟨rfl, trivial⟩⟩⟩⟩⟩ (Nat.le_of_ble_eq_true rfl) ?_
        cases h
        exact hX _ rfl
      · replace h := it_n c46 h
        refine aw_sub hC [some (.inr (.inr v0)), some (.inl v1), some (.inl v2), some (.inl v3), some (.inl v4), some (.inl v5)] ⟨rfl, ⟨rfl, ⟨rfl, ⟨rfl, ⟨rfl, ⟨rfl, trivial⟩⟩⟩⟩⟩⟩ (Nat.le_of_ble_eq_true rfl) ?_
        exact w_X9_ahead_J243_204 hC h hL hX
    · replace h := it_n c42 h
      refine aw_aload_n (pc' := 217) (i := 0) hC dX9_ahead_216 rfl rfl rfl ?_
      refine aw_getfield (pc' := 220) (v := (.inr (.inr (M v0 0)))) hC dX9_ahead_217 rfl fl_X9_7 g40 rfl ?_
      refine aw_iload_n (pc' := 221) (i := 1) hC dX9_ahead_220 rfl rfl rfl ?_
      obtain ⟨g64, h⟩ := gd_s h
      refine aw_iaload (pc' := 222) hC dX9_ahead_221 rfl g64 ?_
      obtain ⟨x66, q65, h⟩ := pb_s h
      replace h := u1_s h
      refine aw_cS (pc' := 225) (k2 := 0) (n2 := 0) (st := []) (stN := [.inl x66]) hC [.inl (M (M v0 0) v1)] (mX9_isLetter q65) lk_X9_240 dX9_ahead_222 rfl rfl (Nat.le_of_ble_eq_true rfl) (Nat.le_of_ble_eq_true rfl) (Nat.le_of_ble_eq_true rfl) rfl (Nat.le_of_ble_eq_true rfl) rfl rfl rfl ?_
      refine aw_if_eq (tgt := 334) (pc' := 228) hC dX9_ahead_225 (by decide) rfl (fun c67 => ?_) (fun c67 => ?_)
      · replace h := it_p c67 h
        refine aw_sub hC [some (.inr (.inr v0)), some (.inl v1), some (.inl v2), none, some (.inl v4), some (.inl v5)] ⟨rfl, ⟨rfl, ⟨rfl, ⟨rfl, ⟨rfl, trivial⟩⟩⟩⟩⟩ (Nat.le_of_ble_eq_true rfl) ?_
        cases h
        exact hX _ rfl
      · replace h := it_n c67 h
        refine aw_goto (tgt := 243) hC dX9_ahead_228 (by decide) ?_
        refine aw_sub hC [some (.inr (.inr v0)), some (.inl v1), some (.inl v2), some (.inl v3), some (.inl v4), some (.inl v5)] ⟨rfl, ⟨rfl, ⟨rfl, ⟨rfl, ⟨rfl, ⟨rfl, trivial⟩⟩⟩⟩⟩⟩ (Nat.le_of_ble_eq_true rfl) ?_
        exact w_X9_ahead_J243_204 hC h hL hX
set_option maxRecDepth 100000 in
set_option maxHeartbeats 4000000 in
theorem w_X9_ahead_J334 {Γ : AwC} (hC : AOK Γ RX9 cX9_ahead 6 2 0 0 "ahead" none) {sh : AwS} {M : AwM} {v0 : Int} {v1 : Int} {v2 : Int} {v4 : Int} {v5 : Int} {M' : AwM} (h : fX9_ahead_J334 sh M v0 v1 v2 v4 v5 = some M') {Q : State → Prop} (hQ : Q = (fin_ Γ 0 0 none sh M')) : AW Γ sh M 0 0 334 [some (.inr (.inr v0)), some (.inl v1), some (.inl v2), none, some (.inl v4), some (.inl v5)] [] Q := by
  unfold fX9_ahead_J334 at h
  refine aw_aload_n (pc' := 335) (i := 0) hC dX9_ahead_334 rfl rfl rfl ?_
  refine aw_iload_n (pc' := 336) (i := 1) hC dX9_ahead_335 rfl rfl rfl ?_
  obtain ⟨g72, h⟩ := gd_s h
  obtain ⟨M73, e74, h⟩ := bd_s h
  refine aw_pf (pc' := 339) hC dX9_ahead_336 rfl fp_X9_26 g72 rfl trivial e74 ?_
  refine aw_iload_n (pc' := 340) (i := 2) hC dX9_ahead_339 rfl rfl rfl ?_
  refine aw_if_eq (tgt := 380) (pc' := 343) hC dX9_ahead_340 (by decide) rfl (fun c75 => ?_) (fun c75 => ?_)
  · replace h := it_p c75 h
    cases h
    subst hQ
    exact aw_vret hC dX9_ahead_380 (Nat.le_of_ble_eq_true rfl) (Nat.le_of_ble_eq_true rfl)
  · replace h := it_n c75 h
    refine aw_iload (pc' := 345) hC dX9_ahead_343 rfl rfl ?_
    refine aw_bipush (pc' := 347) hC dX9_ahead_345 rfl (by decide) ?_
    refine aw_icmp_gt (tgt := 380) (pc' := 350) hC dX9_ahead_347 (by decide) rfl (fun c76 => ?_) (fun c76 => ?_)
    · replace h := it_p c76 h
      cases h
      subst hQ
      exact aw_vret hC dX9_ahead_380 (Nat.le_of_ble_eq_true rfl) (Nat.le_of_ble_eq_true rfl)
    · replace h := it_n c76 h
      refine aw_aload_n (pc' := 351) (i := 0) hC dX9_ahead_350 rfl rfl rfl ?_
      refine aw_getfield (pc' := 354) (v := (.inl (M73 v0 12))) hC dX9_ahead_351 rfl fl_X9_48 g72 rfl ?_
      refine aw_aload_n (pc' := 355) (i := 0) hC dX9_ahead_354 rfl rfl rfl ?_
      refine aw_getfield (pc' := 358) (v := (.inl (M73 v0 4))) hC dX9_ahead_355 rfl fl_X9_23 g72 rfl ?_
      refine aw_iload (pc' := 360) hC dX9_ahead_358 rfl rfl ?_
      refine aw_iadd (pc' := 361) hC dX9_ahead_360 rfl  ?_
      refine aw_icmp_ne (tgt := 380) (pc' := 364) hC dX9_ahead_361 (by decide) rfl (fun c77 => ?_) (fun c77 => ?_)
      · replace h := it_n c77 h
        cases h
        subst hQ
        exact aw_vret hC dX9_ahead_380 (Nat.le_of_ble_eq_true rfl) (Nat.le_of_ble_eq_true rfl)
      · replace h := it_p c77 h
        refine aw_aload_n (pc' := 365) (i := 0) hC dX9_ahead_364 rfl rfl rfl ?_
        refine aw_aload_n (pc' := 366) (i := 0) hC dX9_ahead_365 rfl rfl rfl ?_
        refine aw_getfield (pc' := 369) (v := (.inr (.inl (M73 v0 7)))) hC dX9_ahead_366 rfl fl_X9_32 g72 rfl ?_
        obtain ⟨x79, q78, h⟩ := pb_s h
        replace h := u1_s h
        refine aw_cV (pc' := 372) (k2 := 0) (n2 := 0) (st := []) (stN := [.inl x79]) hC [.inr (.inl (M73 v0 7))] (mX9_isOwn q78) lk_X9_247 g72 dX9_ahead_369 rfl rfl (Nat.le_of_ble_eq_true rfl) (Nat.le_of_ble_eq_true rfl) (Nat.le_of_ble_eq_true rfl) rfl (Nat.le_of_ble_eq_true rfl) rfl rfl rfl ?_
        refine aw_if_eq (tgt := 380) (pc' := 375) hC dX9_ahead_372 (by decide) rfl (fun c80 => ?_) (fun c80 => ?_)
        · replace h := it_p c80 h
          cases h
          subst hQ
          exact aw_vret hC dX9_ahead_380 (Nat.le_of_ble_eq_true rfl) (Nat.le_of_ble_eq_true rfl)
        · replace h := it_n c80 h
          refine aw_aload_n (pc' := 376) (i := 0) hC dX9_ahead_375 rfl rfl rfl ?_
          refine aw_iconst (pc' := 377) hC dX9_ahead_376 rfl (by decide) ?_
          obtain ⟨M81, e82, h⟩ := bd_s h
          refine aw_pf (pc' := 380) hC dX9_ahead_377 rfl fp_X9_48 g72 rfl trivial e82 ?_
          cases h
          subst hQ
          exact aw_vret hC dX9_ahead_380 (Nat.le_of_ble_eq_true rfl) (Nat.le_of_ble_eq_true rfl)
set_option maxRecDepth 100000 in
set_option maxHeartbeats 4000000 in
theorem w_X9_ahead_J186 {Γ : AwC} (hC : AOK Γ RX9 cX9_ahead 6 2 0 0 "ahead" none) {sh : AwS} {M : AwM} {v0 : Int} {v1 : Int} {v2 : Int} {v3 : Int} {s0 : Int} {s1 : Int} {M' : AwM} (h : fX9_ahead_J186 sh M v0 v1 v2 v3 s0 s1 = some M') {Q : State → Prop} (hQ : Q = (fin_ Γ 0 0 none sh M')) : AW Γ sh M 0 0 186 [some (.inr (.inr v0)), some (.inl v1), some (.inl v2), some (.inl v3), none, none] [.inl s1, .inr (.inr s0)] Q := by
  unfold fX9_ahead_J186 at h
  obtain ⟨g36, h⟩ := gd_s h
  obtain ⟨M37, e38, h⟩ := bd_s h
  refine aw_pf (pc' := 189) hC dX9_ahead_186 rfl fp_X9_20 g36 rfl trivial e38 ?_
  refine aw_iload_n (pc' := 190) (i := 2) hC dX9_ahead_189 rfl rfl rfl ?_
  refine aw_if_eq (tgt := 198) (pc' := 193) hC dX9_ahead_190 (by decide) rfl (fun c39 => ?_) (fun c39 => ?_)
  · replace h := it_p c39 h
    refine aw_iconst (pc' := 199) hC dX9_ahead_198 rfl (by decide) ?_
    refine aw_istore (pc' := 201) (ls' := [some (.inr (.inr v0)), some (.inl v1), some (.inl v2), some (.inl v3), some (.inl 4), none]) hC dX9_ahead_199 rfl (Nat.le_of_ble_eq_true rfl) rfl rfl ?_
    refine aw_iconst (pc' := 202) hC dX9_ahead_201 rfl (by decide) ?_
    refine aw_istore (pc' := 204) (ls' := [some (.inr (.inr v0)), some (.inl v1), some (.inl v2), some (.inl v3), some (.inl 4), some (.inl 0)]) hC dX9_ahead_202 rfl (Nat.le_of_ble_eq_true rfl) rfl rfl ?_
    obtain ⟨tq68, q68, h⟩ := pb_s h
    refine aw_sub hC [some (.inr (.inr v0)), some (.inl v1), some (.inl v2), some (.inl v3), some (.inl 4), some (.inl 0)] ⟨rfl, ⟨rfl, ⟨rfl, ⟨rfl, ⟨rfl, ⟨rfl, trivial⟩⟩⟩⟩⟩⟩ (Nat.le_of_ble_eq_true rfl) ?_
    refine (lp_aw (p_X9_ahead_L204 Γ sh v0 v2 v3 4 Q) (x_X9_ahead_L204 Γ sh v0 v2 v3 4 Q) (w_X9_ahead_L204 hC ) FU _ _ q68 ?_ : p_X9_ahead_L204 Γ sh v0 v2 v3 4 Q (v1, 0, M37))
    obtain ⟨x69, x70, M71⟩ := tq68
    replace h := u3_s h
    show AW Γ sh M71 0 0 334 [some (.inr (.inr v0)), some (.inl x69), some (.inl v2), none, some (.inl 4), some (.inl x70)] [] _
    refine aw_sub hC [some (.inr (.inr v0)), some (.inl x69), some (.inl v2), none, some (.inl 4), some (.inl x70)] ⟨rfl, ⟨rfl, ⟨rfl, ⟨rfl, ⟨rfl, trivial⟩⟩⟩⟩⟩ (Nat.le_of_ble_eq_true rfl) ?_
    exact w_X9_ahead_J334 hC h hQ
  · replace h := it_n c39 h
    refine aw_bipush (pc' := 195) hC dX9_ahead_193 rfl (by decide) ?_
    refine aw_goto (tgt := 199) hC dX9_ahead_195 (by decide) ?_
    refine aw_istore (pc' := 201) (ls' := [some (.inr (.inr v0)), some (.inl v1), some (.inl v2), some (.inl v3), some (.inl 6), none]) hC dX9_ahead_199 rfl (Nat.le_of_ble_eq_true rfl) rfl rfl ?_
    refine aw_iconst (pc' := 202) hC dX9_ahead_201 rfl (by decide) ?_
    refine aw_istore (pc' := 204) (ls' := [some (.inr (.inr v0)), some (.inl v1), some (.inl v2), some (.inl v3), some (.inl 6), some (.inl 0)]) hC dX9_ahead_202 rfl (Nat.le_of_ble_eq_true rfl) rfl rfl ?_
    obtain ⟨tq83, q83, h⟩ := pb_s h
    refine aw_sub hC [some (.inr (.inr v0)), some (.inl v1), some (.inl v2), some (.inl v3), some (.inl 6), some (.inl 0)] ⟨rfl, ⟨rfl, ⟨rfl, ⟨rfl, ⟨rfl, ⟨rfl, trivial⟩⟩⟩⟩⟩⟩ (Nat.le_of_ble_eq_true rfl) ?_
    refine (lp_aw (p_X9_ahead_L204 Γ sh v0 v2 v3 6 Q) (x_X9_ahead_L204 Γ sh v0 v2 v3 6 Q) (w_X9_ahead_L204 hC ) FU _ _ q83 ?_ : p_X9_ahead_L204 Γ sh v0 v2 v3 6 Q (v1, 0, M37))
    obtain ⟨x84, x85, M86⟩ := tq83
    replace h := u3_s h
    show AW Γ sh M86 0 0 334 [some (.inr (.inr v0)), some (.inl x84), some (.inl v2), none, some (.inl 6), some (.inl x85)] [] _
    refine aw_sub hC [some (.inr (.inr v0)), some (.inl x84), some (.inl v2), none, some (.inl 6), some (.inl x85)] ⟨rfl, ⟨rfl, ⟨rfl, ⟨rfl, ⟨rfl, trivial⟩⟩⟩⟩⟩ (Nat.le_of_ble_eq_true rfl) ?_
    exact w_X9_ahead_J334 hC h hQ
set_option maxRecDepth 100000 in
set_option maxHeartbeats 4000000 in
theorem w_X9_ahead_J176 {Γ : AwC} (hC : AOK Γ RX9 cX9_ahead 6 2 0 0 "ahead" none) {sh : AwS} {M : AwM} {v0 : Int} {v1 : Int} {v2 : Int} {v3 : Int} {M' : AwM} (h : fX9_ahead_J176 sh M v0 v1 v2 v3 = some M') {Q : State → Prop} (hQ : Q = (fin_ Γ 0 0 none sh M')) : AW Γ sh M 0 0 176 [some (.inr (.inr v0)), some (.inl v1), some (.inl v2), some (.inl v3), none, none] [] Q := by
  unfold fX9_ahead_J176 at h
  refine aw_aload_n (pc' := 177) (i := 0) hC dX9_ahead_176 rfl rfl rfl ?_
  refine aw_iload_n (pc' := 178) (i := 2) hC dX9_ahead_177 rfl rfl rfl ?_
  refine aw_if_eq (tgt := 185) (pc' := 181) hC dX9_ahead_178 (by decide) rfl (fun c35 => ?_) (fun c35 => ?_)
  · replace h := it_p c35 h
    refine aw_iconst (pc' := 186) hC dX9_ahead_185 rfl (by decide) ?_
    refine aw_sub hC [some (.inr (.inr v0)), some (.inl v1), some (.inl v2), some (.inl v3), none, none] ⟨rfl, ⟨rfl, ⟨rfl, ⟨rfl, trivial⟩⟩⟩⟩ (Nat.le_of_ble_eq_true rfl) ?_
    exact w_X9_ahead_J186 hC h hQ
  · replace h := it_n c35 h
    refine aw_iconst (pc' := 182) hC dX9_ahead_181 rfl (by decide) ?_
    refine aw_goto (tgt := 186) hC dX9_ahead_182 (by decide) ?_
    refine aw_sub hC [some (.inr (.inr v0)), some (.inl v1), some (.inl v2), some (.inl v3), none, none] ⟨rfl, ⟨rfl, ⟨rfl, ⟨rfl, trivial⟩⟩⟩⟩ (Nat.le_of_ble_eq_true rfl) ?_
    exact w_X9_ahead_J186 hC h hQ
set_option maxRecDepth 100000 in
set_option maxHeartbeats 4000000 in
theorem w_X9_ahead_J135 {Γ : AwC} (hC : AOK Γ RX9 cX9_ahead 6 2 0 0 "ahead" none) {sh : AwS} {M : AwM} {v0 : Int} {v1 : Int} {v2 : Int} {v3 : Int} {M' : AwM} (h : fX9_ahead_J135 sh M v0 v1 v2 v3 = some M') {Q : State → Prop} (hQ : Q = (fin_ Γ 0 0 none sh M')) : AW Γ sh M 0 0 135 [some (.inr (.inr v0)), some (.inl v1), some (.inl v2), some (.inl v3), none, none] [] Q := by
  unfold fX9_ahead_J135 at h
  refine aw_aload_n (pc' := 136) (i := 0) hC dX9_ahead_135 rfl rfl rfl ?_
  refine aw_iconst (pc' := 137) hC dX9_ahead_136 rfl (by decide) ?_
  obtain ⟨g25, h⟩ := gd_s h
  obtain ⟨M26, e27, h⟩ := bd_s h
  refine aw_pf (pc' := 140) hC dX9_ahead_137 rfl fp_X9_29 g25 rfl trivial e27 ?_
  refine aw_aload_n (pc' := 141) (i := 0) hC dX9_ahead_140 rfl rfl rfl ?_
  refine aw_lconst (pc' := 142) (v := 0) hC dX9_ahead_141 rfl rfl (by decide) ?_
  obtain ⟨M28, e29, h⟩ := bd_s h
  refine aw_pf (pc' := 145) hC dX9_ahead_142 rfl fp_X9_32 g25 rfl trivial e29 ?_
  refine aw_aload_n (pc' := 146) (i := 0) hC dX9_ahead_145 rfl rfl rfl ?_
  refine aw_iconst (pc' := 147) hC dX9_ahead_146 rfl (by decide) ?_
  obtain ⟨M30, e31, h⟩ := bd_s h
  refine aw_pf (pc' := 150) hC dX9_ahead_147 rfl fp_X9_20 g25 rfl trivial e31 ?_
  refine aw_aload_n (pc' := 151) (i := 0) hC dX9_ahead_150 rfl rfl rfl ?_
  refine aw_iload_n (pc' := 152) (i := 1) hC dX9_ahead_151 rfl rfl rfl ?_
  refine aw_iconst (pc' := 153) hC dX9_ahead_152 rfl (by decide) ?_
  refine aw_iadd (pc' := 154) hC dX9_ahead_153 rfl  ?_
  obtain ⟨M32, e33, h⟩ := bd_s h
  refine aw_pf (pc' := 157) hC dX9_ahead_154 rfl fp_X9_26 g25 rfl trivial e33 ?_
  refine aw_iload_n (pc' := 158) (i := 2) hC dX9_ahead_157 rfl rfl rfl ?_
  refine aw_if_ne (tgt := 176) (pc' := 161) hC dX9_ahead_158 (by decide) rfl (fun c34 => ?_) (fun c34 => ?_)
  · replace h := it_n c34 h
    refine aw_sub hC [some (.inr (.inr v0)), some (.inl v1), some (.inl v2), some (.inl v3), none, none] ⟨rfl, ⟨rfl, ⟨rfl, ⟨rfl, trivial⟩⟩⟩⟩ (Nat.le_of_ble_eq_true rfl) ?_
    exact w_X9_ahead_J176 hC h hQ
  · replace h := it_p c34 h
    refine aw_iload_n (pc' := 162) (i := 3) hC dX9_ahead_161 rfl rfl rfl ?_
    refine aw_if_ne (tgt := 176) (pc' := 165) hC dX9_ahead_162 (by decide) rfl (fun c87 => ?_) (fun c87 => ?_)
    · replace h := it_n c87 h
      refine aw_sub hC [some (.inr (.inr v0)), some (.inl v1), some (.inl v2), some (.inl v3), none, none] ⟨rfl, ⟨rfl, ⟨rfl, ⟨rfl, trivial⟩⟩⟩⟩ (Nat.le_of_ble_eq_true rfl) ?_
      exact w_X9_ahead_J176 hC h hQ
    · replace h := it_p c87 h
      refine aw_aload_n (pc' := 166) (i := 0) hC dX9_ahead_165 rfl rfl rfl ?_
      refine aw_aload_n (pc' := 167) (i := 0) hC dX9_ahead_166 rfl rfl rfl ?_
      refine aw_getfield (pc' := 170) (v := (.inr (.inr (M32 v0 0)))) hC dX9_ahead_167 rfl fl_X9_7 g25 rfl ?_
      refine aw_iload_n (pc' := 171) (i := 1) hC dX9_ahead_170 rfl rfl rfl ?_
      obtain ⟨g88, h⟩ := gd_s h
      refine aw_iaload (pc' := 172) hC dX9_ahead_171 rfl g88 ?_
      obtain ⟨M89, e90, h⟩ := bd_s h
      refine aw_pf (pc' := 175) hC dX9_ahead_172 rfl fp_X9_29 g25 rfl trivial e90 ?_
      cases h
      subst hQ
      exact aw_vret hC dX9_ahead_175 (Nat.le_of_ble_eq_true rfl) (Nat.le_of_ble_eq_true rfl)
set_option maxRecDepth 100000 in
set_option maxHeartbeats 4000000 in
theorem w_X9_ahead_J130 {Γ : AwC} (hC : AOK Γ RX9 cX9_ahead 6 2 0 0 "ahead" none) {sh : AwS} {M : AwM} {v0 : Int} {v1 : Int} {v2 : Int} {v3 : Int} {M' : AwM} (h : fX9_ahead_J130 sh M v0 v1 v2 v3 = some M') {Q : State → Prop} (hQ : Q = (fin_ Γ 0 0 none sh M')) : AW Γ sh M 0 0 130 [some (.inr (.inr v0)), some (.inl v1), some (.inl v2), some (.inl v3), none, none] [] Q := by
  unfold fX9_ahead_J130 at h
  refine aw_aload_n (pc' := 131) (i := 0) hC dX9_ahead_130 rfl rfl rfl ?_
  refine aw_iload_n (pc' := 132) (i := 1) hC dX9_ahead_131 rfl rfl rfl ?_
  obtain ⟨g96, h⟩ := gd_s h
  obtain ⟨M97, e98, h⟩ := bd_s h
  refine aw_pf (pc' := 135) hC dX9_ahead_132 rfl fp_X9_48 g96 rfl trivial e98 ?_
  refine aw_sub hC [some (.inr (.inr v0)), some (.inl v1), some (.inl v2), some (.inl v3), none, none] ⟨rfl, ⟨rfl, ⟨rfl, ⟨rfl, trivial⟩⟩⟩⟩ (Nat.le_of_ble_eq_true rfl) ?_
  exact w_X9_ahead_J135 hC h hQ
set_option maxRecDepth 100000 in
set_option maxHeartbeats 4000000 in
theorem w_X9_ahead_J98 {Γ : AwC} (hC : AOK Γ RX9 cX9_ahead 6 2 0 0 "ahead" none) {sh : AwS} {M : AwM} {v0 : Int} {v1 : Int} {v2 : Int} {v3 : Int} {M' : AwM} (h : fX9_ahead_J98 sh M v0 v1 v2 v3 = some M') {Q : State → Prop} (hQ : Q = (fin_ Γ 0 0 none sh M')) : AW Γ sh M 0 0 98 [some (.inr (.inr v0)), some (.inl v1), some (.inl v2), some (.inl v3), none, none] [] Q := by
  unfold fX9_ahead_J98 at h
  refine aw_iload_n (pc' := 99) (i := 1) hC dX9_ahead_98 rfl rfl rfl ?_
  refine aw_if_le (tgt := 135) (pc' := 102) hC dX9_ahead_99 (by decide) rfl (fun c24 => ?_) (fun c24 => ?_)
  · replace h := it_n c24 h
    refine aw_sub hC [some (.inr (.inr v0)), some (.inl v1), some (.inl v2), some (.inl v3), none, none] ⟨rfl, ⟨rfl, ⟨rfl, ⟨rfl, trivial⟩⟩⟩⟩ (Nat.le_of_ble_eq_true rfl) ?_
    exact w_X9_ahead_J135 hC h hQ
  · replace h := it_p c24 h
    refine aw_aload_n (pc' := 103) (i := 0) hC dX9_ahead_102 rfl rfl rfl ?_
    obtain ⟨g91, h⟩ := gd_s h
    refine aw_getfield (pc' := 106) (v := (.inr (.inr (M v0 0)))) hC dX9_ahead_103 rfl fl_X9_7 g91 rfl ?_
    refine aw_iload_n (pc' := 107) (i := 1) hC dX9_ahead_106 rfl rfl rfl ?_
    refine aw_iconst (pc' := 108) hC dX9_ahead_107 rfl (by decide) ?_
    refine aw_isub (pc' := 109) hC dX9_ahead_108 rfl  ?_
    obtain ⟨g92, h⟩ := gd_s h
    refine aw_iaload (pc' := 110) hC dX9_ahead_109 rfl g92 ?_
    obtain ⟨x94, q93, h⟩ := pb_s h
    replace h := u1_s h
    refine aw_cS (pc' := 113) (k2 := 0) (n2 := 0) (st := []) (stN := [.inl x94]) hC [.inl (M (M v0 0) (w32 (v1 - 1)))] (mX9_isLetter q93) lk_X9_240 dX9_ahead_110 rfl rfl (Nat.le_of_ble_eq_true rfl) (Nat.le_of_ble_eq_true rfl) (Nat.le_of_ble_eq_true rfl) rfl (Nat.le_of_ble_eq_true rfl) rfl rfl rfl ?_
    refine aw_if_ne (tgt := 130) (pc' := 116) hC dX9_ahead_113 (by decide) rfl (fun c95 => ?_) (fun c95 => ?_)
    · replace h := it_n c95 h
      refine aw_sub hC [some (.inr (.inr v0)), some (.inl v1), some (.inl v2), some (.inl v3), none, none] ⟨rfl, ⟨rfl, ⟨rfl, ⟨rfl, trivial⟩⟩⟩⟩ (Nat.le_of_ble_eq_true rfl) ?_
      exact w_X9_ahead_J130 hC h hQ
    · replace h := it_p c95 h
      refine aw_aload_n (pc' := 117) (i := 0) hC dX9_ahead_116 rfl rfl rfl ?_
      refine aw_getfield (pc' := 120) (v := (.inr (.inr (M v0 0)))) hC dX9_ahead_117 rfl fl_X9_7 g91 rfl ?_
      refine aw_iload_n (pc' := 121) (i := 1) hC dX9_ahead_120 rfl rfl rfl ?_
      refine aw_iconst (pc' := 122) hC dX9_ahead_121 rfl (by decide) ?_
      refine aw_isub (pc' := 123) hC dX9_ahead_122 rfl  ?_
      refine aw_iaload (pc' := 124) hC dX9_ahead_123 rfl g92 ?_
      obtain ⟨x100, q99, h⟩ := pb_s h
      replace h := u1_s h
      refine aw_cS (pc' := 127) (k2 := 0) (n2 := 0) (st := []) (stN := [.inl x100]) hC [.inl (M (M v0 0) (w32 (v1 - 1)))] (mX9_isDigit q99) lk_X9_244 dX9_ahead_124 rfl rfl (Nat.le_of_ble_eq_true rfl) (Nat.le_of_ble_eq_true rfl) (Nat.le_of_ble_eq_true rfl) rfl (Nat.le_of_ble_eq_true rfl) rfl rfl rfl ?_
      refine aw_if_eq (tgt := 135) (pc' := 130) hC dX9_ahead_127 (by decide) rfl (fun c101 => ?_) (fun c101 => ?_)
      · replace h := it_p c101 h
        refine aw_sub hC [some (.inr (.inr v0)), some (.inl v1), some (.inl v2), some (.inl v3), none, none] ⟨rfl, ⟨rfl, ⟨rfl, ⟨rfl, trivial⟩⟩⟩⟩ (Nat.le_of_ble_eq_true rfl) ?_
        exact w_X9_ahead_J135 hC h hQ
      · replace h := it_n c101 h
        refine aw_sub hC [some (.inr (.inr v0)), some (.inl v1), some (.inl v2), some (.inl v3), none, none] ⟨rfl, ⟨rfl, ⟨rfl, ⟨rfl, trivial⟩⟩⟩⟩ (Nat.le_of_ble_eq_true rfl) ?_
        exact w_X9_ahead_J130 hC h hQ
set_option maxRecDepth 100000 in
set_option maxHeartbeats 4000000 in
theorem w_X9_ahead_J41 {Γ : AwC} (hC : AOK Γ RX9 cX9_ahead 6 2 0 0 "ahead" none) {sh : AwS} {M : AwM} {v0 : Int} {v1 : Int} {M' : AwM} (h : fX9_ahead_J41 sh M v0 v1 = some M') {Q : State → Prop} (hQ : Q = (fin_ Γ 0 0 none sh M')) : AW Γ sh M 0 0 41 [some (.inr (.inr v0)), some (.inl v1), none, none, none, none] [] Q := by
  unfold fX9_ahead_J41 at h
  refine aw_aload_n (pc' := 42) (i := 0) hC dX9_ahead_41 rfl rfl rfl ?_
  refine aw_iload_n (pc' := 43) (i := 1) hC dX9_ahead_42 rfl rfl rfl ?_
  obtain ⟨g8, h⟩ := gd_s h
  obtain ⟨M9, e10, h⟩ := bd_s h
  refine aw_pf (pc' := 46) hC dX9_ahead_43 rfl fp_X9_23 g8 rfl trivial e10 ?_
  refine aw_aload_n (pc' := 47) (i := 0) hC dX9_ahead_46 rfl rfl rfl ?_
  refine aw_iload_n (pc' := 48) (i := 1) hC dX9_ahead_47 rfl rfl rfl ?_
  obtain ⟨M11, e12, h⟩ := bd_s h
  refine aw_pf (pc' := 51) hC dX9_ahead_48 rfl fp_X9_26 g8 rfl trivial e12 ?_
  refine aw_aload_n (pc' := 52) (i := 0) hC dX9_ahead_51 rfl rfl rfl ?_
  refine aw_iconst (pc' := 53) hC dX9_ahead_52 rfl (by decide) ?_
  obtain ⟨M13, e14, h⟩ := bd_s h
  refine aw_pf (pc' := 56) hC dX9_ahead_53 rfl fp_X9_20 g8 rfl trivial e14 ?_
  refine aw_aload_n (pc' := 57) (i := 0) hC dX9_ahead_56 rfl rfl rfl ?_
  refine aw_iconst (pc' := 58) hC dX9_ahead_57 rfl (by decide) ?_
  obtain ⟨M15, e16, h⟩ := bd_s h
  refine aw_pf (pc' := 61) hC dX9_ahead_58 rfl fp_X9_48 g8 rfl trivial e16 ?_
  refine aw_iload_n (pc' := 62) (i := 1) hC dX9_ahead_61 rfl rfl rfl ?_
  refine aw_aload_n (pc' := 63) (i := 0) hC dX9_ahead_62 rfl rfl rfl ?_
  refine aw_getfield (pc' := 66) (v := (.inl (M15 v0 2))) hC dX9_ahead_63 rfl fl_X9_17 g8 rfl ?_
  refine aw_icmp_lt (tgt := 70) (pc' := 69) hC dX9_ahead_66 (by decide) rfl (fun c17 => ?_) (fun c17 => ?_)
  · replace h := it_p c17 h
    refine aw_aload_n (pc' := 71) (i := 0) hC dX9_ahead_70 rfl rfl rfl ?_
    refine aw_getfield (pc' := 74) (v := (.inr (.inr (M15 v0 0)))) hC dX9_ahead_71 rfl fl_X9_7 g8 rfl ?_
    refine aw_iload_n (pc' := 75) (i := 1) hC dX9_ahead_74 rfl rfl rfl ?_
    obtain ⟨g18, h⟩ := gd_s h
    refine aw_iaload (pc' := 76) hC dX9_ahead_75 rfl g18 ?_
    obtain ⟨x20, q19, h⟩ := pb_s h
    replace h := u1_s h
    refine aw_cS (pc' := 79) (k2 := 0) (n2 := 0) (st := []) (stN := [.inl x20]) hC [.inl (M15 (M15 v0 0) v1)] (mX9_isLetter q19) lk_X9_240 dX9_ahead_76 rfl rfl (Nat.le_of_ble_eq_true rfl) (Nat.le_of_ble_eq_true rfl) (Nat.le_of_ble_eq_true rfl) rfl (Nat.le_of_ble_eq_true rfl) rfl rfl rfl ?_
    refine aw_istore_n (pc' := 80) (i := 2) (ls' := [some (.inr (.inr v0)), some (.inl v1), some (.inl x20), none, none, none]) hC dX9_ahead_79 rfl rfl (Nat.le_of_ble_eq_true rfl) rfl rfl ?_
    refine aw_aload_n (pc' := 81) (i := 0) hC dX9_ahead_80 rfl rfl rfl ?_
    refine aw_getfield (pc' := 84) (v := (.inr (.inr (M15 v0 0)))) hC dX9_ahead_81 rfl fl_X9_7 g8 rfl ?_
    refine aw_iload_n (pc' := 85) (i := 1) hC dX9_ahead_84 rfl rfl rfl ?_
    refine aw_iaload (pc' := 86) hC dX9_ahead_85 rfl g18 ?_
    obtain ⟨x22, q21, h⟩ := pb_s h
    replace h := u1_s h
    refine aw_cS (pc' := 89) (k2 := 0) (n2 := 0) (st := []) (stN := [.inl x22]) hC [.inl (M15 (M15 v0 0) v1)] (mX9_isDigit q21) lk_X9_244 dX9_ahead_86 rfl rfl (Nat.le_of_ble_eq_true rfl) (Nat.le_of_ble_eq_true rfl) (Nat.le_of_ble_eq_true rfl) rfl (Nat.le_of_ble_eq_true rfl) rfl rfl rfl ?_
    refine aw_istore_n (pc' := 90) (i := 3) (ls' := [some (.inr (.inr v0)), some (.inl v1), some (.inl x20), some (.inl x22), none, none]) hC dX9_ahead_89 rfl rfl (Nat.le_of_ble_eq_true rfl) rfl rfl ?_
    refine aw_iload_n (pc' := 91) (i := 2) hC dX9_ahead_90 rfl rfl rfl ?_
    refine aw_if_ne (tgt := 98) (pc' := 94) hC dX9_ahead_91 (by decide) rfl (fun c23 => ?_) (fun c23 => ?_)
    · replace h := it_n c23 h
      refine aw_sub hC [some (.inr (.inr v0)), some (.inl v1), some (.inl x20), some (.inl x22), none, none] ⟨rfl, ⟨rfl, ⟨rfl, ⟨rfl, trivial⟩⟩⟩⟩ (Nat.le_of_ble_eq_true rfl) ?_
      exact w_X9_ahead_J98 hC h hQ
    · replace h := it_p c23 h
      refine aw_iload_n (pc' := 95) (i := 3) hC dX9_ahead_94 rfl rfl rfl ?_
      refine aw_if_eq (tgt := 135) (pc' := 98) hC dX9_ahead_95 (by decide) rfl (fun c102 => ?_) (fun c102 => ?_)
      · replace h := it_p c102 h
        refine aw_sub hC [some (.inr (.inr v0)), some (.inl v1), some (.inl x20), some (.inl x22), none, none] ⟨rfl, ⟨rfl, ⟨rfl, ⟨rfl, trivial⟩⟩⟩⟩ (Nat.le_of_ble_eq_true rfl) ?_
        exact w_X9_ahead_J135 hC h hQ
      · replace h := it_n c102 h
        refine aw_sub hC [some (.inr (.inr v0)), some (.inl v1), some (.inl x20), some (.inl x22), none, none] ⟨rfl, ⟨rfl, ⟨rfl, ⟨rfl, trivial⟩⟩⟩⟩ (Nat.le_of_ble_eq_true rfl) ?_
        exact w_X9_ahead_J98 hC h hQ
  · replace h := it_n c17 h
    cases h
    subst hQ
    exact aw_vret hC dX9_ahead_69 (Nat.le_of_ble_eq_true rfl) (Nat.le_of_ble_eq_true rfl)
set_option maxRecDepth 100000 in
set_option maxHeartbeats 4000000 in
theorem mX9_ahead {sh : AwS} {M : AwM} {v0 : Int} {M' : AwM} (h : fX9_ahead sh M v0 = some M') : AMet yX9_ahead cX9_ahead 6 none 2 0 0 [.inr (.inr v0)] sh M none sh M' := by
  refine amet_of (by decide +kernel) (Nat.le_of_ble_eq_true rfl) (fun Γ hC => ?_)
  replace hC : AOK Γ RX9 cX9_ahead 6 2 0 0 "ahead" none := hC
  unfold fX9_ahead at h
  refine aw_sub hC [some (.inr (.inr v0)), none, none, none, none, none] ⟨rfl, trivial⟩ (Nat.le_of_ble_eq_true rfl) ?_
  refine aw_aload_n (pc' := 1) (i := 0) hC dX9_ahead_0 rfl rfl rfl ?_
  obtain ⟨g1, h⟩ := gd_s h
  refine aw_getfield (pc' := 4) (v := (.inl (M v0 5))) hC dX9_ahead_1 rfl fl_X9_26 g1 rfl ?_
  refine aw_istore_n (pc' := 5) (i := 1) (ls' := [some (.inr (.inr v0)), some (.inl (M v0 5)), none, none, none, none]) hC dX9_ahead_4 rfl rfl (Nat.le_of_ble_eq_true rfl) rfl rfl ?_
  obtain ⟨tq7, q7, h⟩ := pb_s h
  refine aw_sub hC [some (.inr (.inr v0)), some (.inl (M v0 5)), none, none, none, none] ⟨rfl, ⟨rfl, trivial⟩⟩ (Nat.le_of_ble_eq_true rfl) ?_
  refine (lp_aw (p_X9_ahead_L5 Γ sh M v0 (fin_ Γ 0 0 none sh M')) (x_X9_ahead_L5 Γ sh M v0 (fin_ Γ 0 0 none sh M')) (w_X9_ahead_L5 hC ) FU _ _ q7 ?_ : p_X9_ahead_L5 Γ sh M v0 (fin_ Γ 0 0 none sh M') (M v0 5))
  replace h := u1_s h
  show AW Γ sh M 0 0 41 [some (.inr (.inr v0)), some (.inl tq7), none, none, none, none] [] _
  refine aw_sub hC [some (.inr (.inr v0)), some (.inl tq7), none, none, none, none] ⟨rfl, ⟨rfl, trivial⟩⟩ (Nat.le_of_ble_eq_true rfl) ?_
  exact w_X9_ahead_J41 hC h rfl
-- CoinCircleModel.isSign(I)Z
def fX9_isSign (sh : AwS) (M : AwM) (v0 : Int) (v1 : Int) : Option Int :=
  gd_ (kd_ sh v0 = (0, 9)) ((if (M v0 3) = 3 then (if (M v0 6) = v1 then some 1 else some 0) else some 0))
set_option maxRecDepth 100000 in
set_option maxHeartbeats 4000000 in
theorem mX9_isSign {sh : AwS} {M : AwM} {v0 : Int} {v1 : Int} {r : Int} (h : fX9_isSign sh M v0 v1 = some r) : AMet yX9_isSign cX9_isSign 2 (some .boolean) 1 0 0 [.inr (.inr v0), .inl v1] sh M (some (.inl r)) sh M := by
  refine amet_of (by decide +kernel) (Nat.le_of_ble_eq_true rfl) (fun Γ hC => ?_)
  replace hC : AOK Γ RX9 cX9_isSign 2 1 0 0 "isSign" (some .boolean) := hC
  unfold fX9_isSign at h
  refine aw_sub hC [some (.inr (.inr v0)), some (.inl v1)] ⟨rfl, ⟨rfl, trivial⟩⟩ (Nat.le_of_ble_eq_true rfl) ?_
  refine aw_aload_n (pc' := 1) (i := 0) hC dX9_isSign_0 rfl rfl rfl ?_
  obtain ⟨g1, h⟩ := gd_s h
  refine aw_getfield (pc' := 4) (v := (.inl (M v0 3))) hC dX9_isSign_1 rfl fl_X9_20 g1 rfl ?_
  refine aw_iconst (pc' := 5) hC dX9_isSign_4 rfl (by decide) ?_
  refine aw_icmp_ne (tgt := 20) (pc' := 8) hC dX9_isSign_5 (by decide) rfl (fun c2 => ?_) (fun c2 => ?_)
  · replace h := it_n c2 h
    refine aw_iconst (pc' := 21) hC dX9_isSign_20 rfl (by decide) ?_
    cases h
    exact aw_zret hC (Or.inl rfl) dX9_isSign_21 (Nat.le_of_ble_eq_true rfl) (Nat.le_of_ble_eq_true rfl)
  · replace h := it_p c2 h
    refine aw_aload_n (pc' := 9) (i := 0) hC dX9_isSign_8 rfl rfl rfl ?_
    refine aw_getfield (pc' := 12) (v := (.inl (M v0 6))) hC dX9_isSign_9 rfl fl_X9_29 g1 rfl ?_
    refine aw_iload_n (pc' := 13) (i := 1) hC dX9_isSign_12 rfl rfl rfl ?_
    refine aw_icmp_ne (tgt := 20) (pc' := 16) hC dX9_isSign_13 (by decide) rfl (fun c3 => ?_) (fun c3 => ?_)
    · replace h := it_n c3 h
      refine aw_iconst (pc' := 21) hC dX9_isSign_20 rfl (by decide) ?_
      cases h
      exact aw_zret hC (Or.inl rfl) dX9_isSign_21 (Nat.le_of_ble_eq_true rfl) (Nat.le_of_ble_eq_true rfl)
    · replace h := it_p c3 h
      refine aw_iconst (pc' := 17) hC dX9_isSign_16 rfl (by decide) ?_
      refine aw_goto (tgt := 21) hC dX9_isSign_17 (by decide) ?_
      cases h
      exact aw_zret hC (Or.inr rfl) dX9_isSign_21 (Nat.le_of_ble_eq_true rfl) (Nat.le_of_ble_eq_true rfl)
-- CoinCircleModel.isWord(J)Z
def fX9_isWord (sh : AwS) (M : AwM) (v0 : Int) (v1 : Int) : Option Int :=
  gd_ (kd_ sh v0 = (0, 9)) ((if (M v0 3) = 1 then (if (cmp_ (M v0 7) v1) = 0 then some 1 else some 0) else some 0))
set_option maxRecDepth 100000 in
set_option maxHeartbeats 4000000 in
theorem mX9_isWord {sh : AwS} {M : AwM} {v0 : Int} {v1 : Int} {r : Int} (h : fX9_isWord sh M v0 v1 = some r) : AMet yX9_isWord cX9_isWord 3 (some .boolean) 1 0 0 [.inr (.inr v0), .inr (.inl v1)] sh M (some (.inl r)) sh M := by
  refine amet_of (by decide +kernel) (Nat.le_of_ble_eq_true rfl) (fun Γ hC => ?_)
  replace hC : AOK Γ RX9 cX9_isWord 3 1 0 0 "isWord" (some .boolean) := hC
  unfold fX9_isWord at h
  refine aw_sub hC [some (.inr (.inr v0)), some (.inr (.inl v1)), none] ⟨rfl, ⟨rfl, trivial⟩⟩ (Nat.le_of_ble_eq_true rfl) ?_
  refine aw_aload_n (pc' := 1) (i := 0) hC dX9_isWord_0 rfl rfl rfl ?_
  obtain ⟨g1, h⟩ := gd_s h
  refine aw_getfield (pc' := 4) (v := (.inl (M v0 3))) hC dX9_isWord_1 rfl fl_X9_20 g1 rfl ?_
  refine aw_iconst (pc' := 5) hC dX9_isWord_4 rfl (by decide) ?_
  refine aw_icmp_ne (tgt := 21) (pc' := 8) hC dX9_isWord_5 (by decide) rfl (fun c2 => ?_) (fun c2 => ?_)
  · replace h := it_n c2 h
    refine aw_iconst (pc' := 22) hC dX9_isWord_21 rfl (by decide) ?_
    cases h
    exact aw_zret hC (Or.inl rfl) dX9_isWord_22 (Nat.le_of_ble_eq_true rfl) (Nat.le_of_ble_eq_true rfl)
  · replace h := it_p c2 h
    refine aw_aload_n (pc' := 9) (i := 0) hC dX9_isWord_8 rfl rfl rfl ?_
    refine aw_getfield (pc' := 12) (v := (.inr (.inl (M v0 7)))) hC dX9_isWord_9 rfl fl_X9_32 g1 rfl ?_
    refine aw_lload_n (pc' := 13) (i := 1) hC dX9_isWord_12 rfl rfl rfl ?_
    refine aw_lcmp (pc' := 14) hC dX9_isWord_13 rfl  ?_
    refine aw_if_ne (tgt := 21) (pc' := 17) hC dX9_isWord_14 (by decide) rfl (fun c3 => ?_) (fun c3 => ?_)
    · replace h := it_n c3 h
      refine aw_iconst (pc' := 22) hC dX9_isWord_21 rfl (by decide) ?_
      cases h
      exact aw_zret hC (Or.inl rfl) dX9_isWord_22 (Nat.le_of_ble_eq_true rfl) (Nat.le_of_ble_eq_true rfl)
    · replace h := it_p c3 h
      refine aw_iconst (pc' := 18) hC dX9_isWord_17 rfl (by decide) ?_
      refine aw_goto (tgt := 22) hC dX9_isWord_18 (by decide) ?_
      cases h
      exact aw_zret hC (Or.inr rfl) dX9_isWord_22 (Nat.le_of_ble_eq_true rfl) (Nat.le_of_ble_eq_true rfl)
-- CoinCircleModel.must(I)V
def fX9_must (sh : AwS) (M : AwM) (v0 : Int) (v1 : Int) : Option (AwM) :=
  gd_ (kd_ sh v0 = (0, 9)) (pb (fX9_lex sh M v0) <| u1 fun (M3 : AwM) => (pb (fX9_isSign sh M3 v0 v1) <| u1 fun (x5 : Int) => ((if x5 = 0 then pb (fX9_blame sh M3 v0 1 (M3 v0 4)) <| u1 fun (M11 : AwM) => ((if (M11 v0 8) = 0 then pb (fX9_ahead sh M11 v0) <| u1 fun (M14 : AwM) => (some M14) else some M11)) else (if (M3 v0 8) = 0 then pb (fX9_ahead sh M3 v0) <| u1 fun (M9 : AwM) => (some M9) else some M3)))))
set_option maxRecDepth 100000 in
set_option maxHeartbeats 4000000 in
theorem mX9_must {sh : AwS} {M : AwM} {v0 : Int} {v1 : Int} {M' : AwM} (h : fX9_must sh M v0 v1 = some M') : AMet yX9_must cX9_must 2 none 3 0 0 [.inr (.inr v0), .inl v1] sh M none sh M' := by
  refine amet_of (by decide +kernel) (Nat.le_of_ble_eq_true rfl) (fun Γ hC => ?_)
  replace hC : AOK Γ RX9 cX9_must 2 3 0 0 "must" none := hC
  unfold fX9_must at h
  refine aw_sub hC [some (.inr (.inr v0)), some (.inl v1)] ⟨rfl, ⟨rfl, trivial⟩⟩ (Nat.le_of_ble_eq_true rfl) ?_
  refine aw_aload_n (pc' := 1) (i := 0) hC dX9_must_0 rfl rfl rfl ?_
  obtain ⟨g2, h⟩ := gd_s h
  obtain ⟨M3, q1, h⟩ := pb_s h
  replace h := u1_s h
  refine aw_cV (pc' := 4) (k2 := 0) (n2 := 0) (st := []) (stN := []) hC [] (mX9_lex q1) lk_X9_251 g2 dX9_must_1 rfl rfl (Nat.le_of_ble_eq_true rfl) (Nat.le_of_ble_eq_true rfl) (Nat.le_of_ble_eq_true rfl) rfl (Nat.le_of_ble_eq_true rfl) rfl rfl rfl ?_
  refine aw_aload_n (pc' := 5) (i := 0) hC dX9_must_4 rfl rfl rfl ?_
  refine aw_iload_n (pc' := 6) (i := 1) hC dX9_must_5 rfl rfl rfl ?_
  obtain ⟨x5, q4, h⟩ := pb_s h
  replace h := u1_s h
  refine aw_cV (pc' := 9) (k2 := 0) (n2 := 0) (st := []) (stN := [.inl x5]) hC [.inl v1] (mX9_isSign q4) lk_X9_254 g2 dX9_must_6 rfl rfl (Nat.le_of_ble_eq_true rfl) (Nat.le_of_ble_eq_true rfl) (Nat.le_of_ble_eq_true rfl) rfl (Nat.le_of_ble_eq_true rfl) rfl rfl rfl ?_
  refine aw_if_ne (tgt := 21) (pc' := 12) hC dX9_must_9 (by decide) rfl (fun c6 => ?_) (fun c6 => ?_)
  · replace h := it_n c6 h
    refine aw_aload_n (pc' := 22) (i := 0) hC dX9_must_21 rfl rfl rfl ?_
    refine aw_getfield (pc' := 25) (v := (.inl (M3 v0 8))) hC dX9_must_22 rfl fl_X9_36 g2 rfl ?_
    refine aw_if_ne (tgt := 32) (pc' := 28) hC dX9_must_25 (by decide) rfl (fun c7 => ?_) (fun c7 => ?_)
    · replace h := it_n c7 h
      cases h
      exact aw_vret hC dX9_must_32 (Nat.le_of_ble_eq_true rfl) (Nat.le_of_ble_eq_true rfl)
    · replace h := it_p c7 h
      refine aw_aload_n (pc' := 29) (i := 0) hC dX9_must_28 rfl rfl rfl ?_
      obtain ⟨M9, q8, h⟩ := pb_s h
      replace h := u1_s h
      refine aw_cV (pc' := 32) (k2 := 0) (n2 := 0) (st := []) (stN := []) hC [] (mX9_ahead q8) lk_X9_257 g2 dX9_must_29 rfl rfl (Nat.le_of_ble_eq_true rfl) (Nat.le_of_ble_eq_true rfl) (Nat.le_of_ble_eq_true rfl) rfl (Nat.le_of_ble_eq_true rfl) rfl rfl rfl ?_
      cases h
      exact aw_vret hC dX9_must_32 (Nat.le_of_ble_eq_true rfl) (Nat.le_of_ble_eq_true rfl)
  · replace h := it_p c6 h
    refine aw_aload_n (pc' := 13) (i := 0) hC dX9_must_12 rfl rfl rfl ?_
    refine aw_iconst (pc' := 14) hC dX9_must_13 rfl (by decide) ?_
    refine aw_aload_n (pc' := 15) (i := 0) hC dX9_must_14 rfl rfl rfl ?_
    refine aw_getfield (pc' := 18) (v := (.inl (M3 v0 4))) hC dX9_must_15 rfl fl_X9_23 g2 rfl ?_
    obtain ⟨M11, q10, h⟩ := pb_s h
    replace h := u1_s h
    refine aw_cV (pc' := 21) (k2 := 0) (n2 := 0) (st := []) (stN := []) hC [.inl 1, .inl (M3 v0 4)] (mX9_blame q10) lk_X9_236 g2 dX9_must_18 rfl rfl (Nat.le_of_ble_eq_true rfl) (Nat.le_of_ble_eq_true rfl) (Nat.le_of_ble_eq_true rfl) rfl (Nat.le_of_ble_eq_true rfl) rfl rfl rfl ?_
    refine aw_aload_n (pc' := 22) (i := 0) hC dX9_must_21 rfl rfl rfl ?_
    refine aw_getfield (pc' := 25) (v := (.inl (M11 v0 8))) hC dX9_must_22 rfl fl_X9_36 g2 rfl ?_
    refine aw_if_ne (tgt := 32) (pc' := 28) hC dX9_must_25 (by decide) rfl (fun c12 => ?_) (fun c12 => ?_)
    · replace h := it_n c12 h
      cases h
      exact aw_vret hC dX9_must_32 (Nat.le_of_ble_eq_true rfl) (Nat.le_of_ble_eq_true rfl)
    · replace h := it_p c12 h
      refine aw_aload_n (pc' := 29) (i := 0) hC dX9_must_28 rfl rfl rfl ?_
      obtain ⟨M14, q13, h⟩ := pb_s h
      replace h := u1_s h
      refine aw_cV (pc' := 32) (k2 := 0) (n2 := 0) (st := []) (stN := []) hC [] (mX9_ahead q13) lk_X9_257 g2 dX9_must_29 rfl rfl (Nat.le_of_ble_eq_true rfl) (Nat.le_of_ble_eq_true rfl) (Nat.le_of_ble_eq_true rfl) rfl (Nat.le_of_ble_eq_true rfl) rfl rfl rfl ?_
      cases h
      exact aw_vret hC dX9_must_32 (Nat.le_of_ble_eq_true rfl) (Nat.le_of_ble_eq_true rfl)
-- CoinCircleModel.manyOf(II)I
def fX9_manyOf (sh : AwS) (M : AwM) (v0 : Int) (v1 : Int) (v2 : Int) : Option Int :=
  (if v2 = 0 then gd_ (kd_ sh v0 = (0, 9)) (gd_ ((kd_ sh (M v0 14)).1 = 1 ∧ (0 : Int) ≤ v1 ∧ v1 < ((kd_ sh (M v0 14)).2 : Int)) (some (M (M v0 14) v1))) else (if v2 = 1 then gd_ (kd_ sh v0 = (0, 9)) (gd_ ((kd_ sh (M v0 16)).1 = 1 ∧ (0 : Int) ≤ v1 ∧ v1 < ((kd_ sh (M v0 16)).2 : Int)) (some (M (M v0 16) v1))) else gd_ (kd_ sh v0 = (0, 9)) (gd_ ((kd_ sh (M v0 21)).1 = 1 ∧ (0 : Int) ≤ v1 ∧ v1 < ((kd_ sh (M v0 21)).2 : Int)) (some (M (M v0 21) v1)))))
set_option maxRecDepth 100000 in
set_option maxHeartbeats 4000000 in
theorem mX9_manyOf {sh : AwS} {M : AwM} {v0 : Int} {v1 : Int} {v2 : Int} {r : Int} (h : fX9_manyOf sh M v0 v1 v2 = some r) : AMet yX9_manyOf cX9_manyOf 3 (some .int) 1 0 0 [.inr (.inr v0), .inl v1, .inl v2] sh M (some (.inl r)) sh M := by
  refine amet_of (by decide +kernel) (Nat.le_of_ble_eq_true rfl) (fun Γ hC => ?_)
  replace hC : AOK Γ RX9 cX9_manyOf 3 1 0 0 "manyOf" (some .int) := hC
  unfold fX9_manyOf at h
  refine aw_sub hC [some (.inr (.inr v0)), some (.inl v1), some (.inl v2)] ⟨rfl, ⟨rfl, ⟨rfl, trivial⟩⟩⟩ (Nat.le_of_ble_eq_true rfl) ?_
  refine aw_iload_n (pc' := 1) (i := 2) hC dX9_manyOf_0 rfl rfl rfl ?_
  refine aw_if_ne (tgt := 13) (pc' := 4) hC dX9_manyOf_1 (by decide) rfl (fun c1 => ?_) (fun c1 => ?_)
  · replace h := it_n c1 h
    refine aw_iload_n (pc' := 14) (i := 2) hC dX9_manyOf_13 rfl rfl rfl ?_
    refine aw_iconst (pc' := 15) hC dX9_manyOf_14 rfl (by decide) ?_
    refine aw_icmp_ne (tgt := 27) (pc' := 18) hC dX9_manyOf_15 (by decide) rfl (fun c2 => ?_) (fun c2 => ?_)
    · replace h := it_n c2 h
      refine aw_aload_n (pc' := 28) (i := 0) hC dX9_manyOf_27 rfl rfl rfl ?_
      obtain ⟨g3, h⟩ := gd_s h
      refine aw_getfield (pc' := 31) (v := (.inr (.inr (M v0 21)))) hC dX9_manyOf_28 rfl fl_X9_75 g3 rfl ?_
      refine aw_iload_n (pc' := 32) (i := 1) hC dX9_manyOf_31 rfl rfl rfl ?_
      obtain ⟨g4, h⟩ := gd_s h
      refine aw_iaload (pc' := 33) hC dX9_manyOf_32 rfl g4 ?_
      cases h
      exact aw_iret hC dX9_manyOf_33 (Nat.le_of_ble_eq_true rfl) (Nat.le_of_ble_eq_true rfl)
    · replace h := it_p c2 h
      refine aw_aload_n (pc' := 19) (i := 0) hC dX9_manyOf_18 rfl rfl rfl ?_
      obtain ⟨g5, h⟩ := gd_s h
      refine aw_getfield (pc' := 22) (v := (.inr (.inr (M v0 16)))) hC dX9_manyOf_19 rfl fl_X9_60 g5 rfl ?_
      refine aw_iload_n (pc' := 23) (i := 1) hC dX9_manyOf_22 rfl rfl rfl ?_
      obtain ⟨g6, h⟩ := gd_s h
      refine aw_iaload (pc' := 24) hC dX9_manyOf_23 rfl g6 ?_
      refine aw_goto (tgt := 33) hC dX9_manyOf_24 (by decide) ?_
      cases h
      exact aw_iret hC dX9_manyOf_33 (Nat.le_of_ble_eq_true rfl) (Nat.le_of_ble_eq_true rfl)
  · replace h := it_p c1 h
    refine aw_aload_n (pc' := 5) (i := 0) hC dX9_manyOf_4 rfl rfl rfl ?_
    obtain ⟨g7, h⟩ := gd_s h
    refine aw_getfield (pc' := 8) (v := (.inr (.inr (M v0 14)))) hC dX9_manyOf_5 rfl fl_X9_54 g7 rfl ?_
    refine aw_iload_n (pc' := 9) (i := 1) hC dX9_manyOf_8 rfl rfl rfl ?_
    obtain ⟨g8, h⟩ := gd_s h
    refine aw_iaload (pc' := 10) hC dX9_manyOf_9 rfl g8 ?_
    refine aw_goto (tgt := 33) hC dX9_manyOf_10 (by decide) ?_
    cases h
    exact aw_iret hC dX9_manyOf_33 (Nat.le_of_ble_eq_true rfl) (Nat.le_of_ble_eq_true rfl)
-- CoinCircleModel.nameOf(III)J
def fX9_nameOf (sh : AwS) (M : AwM) (v0 : Int) (v1 : Int) (v2 : Int) (v3 : Int) : Option Int :=
  (if v2 = 0 then gd_ (kd_ sh v0 = (0, 9)) (gd_ ((kd_ sh (M v0 32)).1 = 2 ∧ (0 : Int) ≤ (w32 ((w32 (10 * v1)) + v3)) ∧ (w32 ((w32 (10 * v1)) + v3)) < ((kd_ sh (M v0 32)).2 : Int)) (some (M (M v0 32) (w32 ((w32 (10 * v1)) + v3))))) else (if v2 = 1 then gd_ (kd_ sh v0 = (0, 9)) (gd_ ((kd_ sh (M v0 33)).1 = 2 ∧ (0 : Int) ≤ (w32 ((w32 (12 * v1)) + v3)) ∧ (w32 ((w32 (12 * v1)) + v3)) < ((kd_ sh (M v0 33)).2 : Int)) (some (M (M v0 33) (w32 ((w32 (12 * v1)) + v3))))) else gd_ (kd_ sh v0 = (0, 9)) (gd_ ((kd_ sh (M v0 34)).1 = 2 ∧ (0 : Int) ≤ (w32 ((w32 (10 * v1)) + v3)) ∧ (w32 ((w32 (10 * v1)) + v3)) < ((kd_ sh (M v0 34)).2 : Int)) (some (M (M v0 34) (w32 ((w32 (10 * v1)) + v3)))))))
set_option maxRecDepth 100000 in
set_option maxHeartbeats 4000000 in
theorem mX9_nameOf {sh : AwS} {M : AwM} {v0 : Int} {v1 : Int} {v2 : Int} {v3 : Int} {r : Int} (h : fX9_nameOf sh M v0 v1 v2 v3 = some r) : AMet yX9_nameOf cX9_nameOf 4 (some .long) 1 0 0 [.inr (.inr v0), .inl v1, .inl v2, .inl v3] sh M (some (.inr (.inl r))) sh M := by
  refine amet_of (by decide +kernel) (Nat.le_of_ble_eq_true rfl) (fun Γ hC => ?_)
  replace hC : AOK Γ RX9 cX9_nameOf 4 1 0 0 "nameOf" (some .long) := hC
  unfold fX9_nameOf at h
  refine aw_sub hC [some (.inr (.inr v0)), some (.inl v1), some (.inl v2), some (.inl v3)] ⟨rfl, ⟨rfl, ⟨rfl, ⟨rfl, trivial⟩⟩⟩⟩ (Nat.le_of_ble_eq_true rfl) ?_
  refine aw_iload_n (pc' := 1) (i := 2) hC dX9_nameOf_0 rfl rfl rfl ?_
  refine aw_if_ne (tgt := 18) (pc' := 4) hC dX9_nameOf_1 (by decide) rfl (fun c1 => ?_) (fun c1 => ?_)
  · replace h := it_n c1 h
    refine aw_iload_n (pc' := 19) (i := 2) hC dX9_nameOf_18 rfl rfl rfl ?_
    refine aw_iconst (pc' := 20) hC dX9_nameOf_19 rfl (by decide) ?_
    refine aw_icmp_ne (tgt := 37) (pc' := 23) hC dX9_nameOf_20 (by decide) rfl (fun c2 => ?_) (fun c2 => ?_)
    · replace h := it_n c2 h
      refine aw_aload_n (pc' := 38) (i := 0) hC dX9_nameOf_37 rfl rfl rfl ?_
      obtain ⟨g3, h⟩ := gd_s h
      refine aw_getfield (pc' := 41) (v := (.inr (.inr (M v0 34)))) hC dX9_nameOf_38 rfl fl_X9_115 g3 rfl ?_
      refine aw_bipush (pc' := 43) hC dX9_nameOf_41 rfl (by decide) ?_
      refine aw_iload_n (pc' := 44) (i := 1) hC dX9_nameOf_43 rfl rfl rfl ?_
      refine aw_imul (pc' := 45) hC dX9_nameOf_44 rfl  ?_
      refine aw_iload_n (pc' := 46) (i := 3) hC dX9_nameOf_45 rfl rfl rfl ?_
      refine aw_iadd (pc' := 47) hC dX9_nameOf_46 rfl  ?_
      obtain ⟨g4, h⟩ := gd_s h
      refine aw_laload (pc' := 48) hC dX9_nameOf_47 rfl g4 ?_
      cases h
      exact aw_lret hC dX9_nameOf_48 (Nat.le_of_ble_eq_true rfl) (Nat.le_of_ble_eq_true rfl)
    · replace h := it_p c2 h
      refine aw_aload_n (pc' := 24) (i := 0) hC dX9_nameOf_23 rfl rfl rfl ?_
      obtain ⟨g5, h⟩ := gd_s h
      refine aw_getfield (pc' := 27) (v := (.inr (.inr (M v0 33)))) hC dX9_nameOf_24 rfl fl_X9_112 g5 rfl ?_
      refine aw_bipush (pc' := 29) hC dX9_nameOf_27 rfl (by decide) ?_
      refine aw_iload_n (pc' := 30) (i := 1) hC dX9_nameOf_29 rfl rfl rfl ?_
      refine aw_imul (pc' := 31) hC dX9_nameOf_30 rfl  ?_
      refine aw_iload_n (pc' := 32) (i := 3) hC dX9_nameOf_31 rfl rfl rfl ?_
      refine aw_iadd (pc' := 33) hC dX9_nameOf_32 rfl  ?_
      obtain ⟨g6, h⟩ := gd_s h
      refine aw_laload (pc' := 34) hC dX9_nameOf_33 rfl g6 ?_
      refine aw_goto (tgt := 48) hC dX9_nameOf_34 (by decide) ?_
      cases h
      exact aw_lret hC dX9_nameOf_48 (Nat.le_of_ble_eq_true rfl) (Nat.le_of_ble_eq_true rfl)
  · replace h := it_p c1 h
    refine aw_aload_n (pc' := 5) (i := 0) hC dX9_nameOf_4 rfl rfl rfl ?_
    obtain ⟨g7, h⟩ := gd_s h
    refine aw_getfield (pc' := 8) (v := (.inr (.inr (M v0 32)))) hC dX9_nameOf_5 rfl fl_X9_108 g7 rfl ?_
    refine aw_bipush (pc' := 10) hC dX9_nameOf_8 rfl (by decide) ?_
    refine aw_iload_n (pc' := 11) (i := 1) hC dX9_nameOf_10 rfl rfl rfl ?_
    refine aw_imul (pc' := 12) hC dX9_nameOf_11 rfl  ?_
    refine aw_iload_n (pc' := 13) (i := 3) hC dX9_nameOf_12 rfl rfl rfl ?_
    refine aw_iadd (pc' := 14) hC dX9_nameOf_13 rfl  ?_
    obtain ⟨g8, h⟩ := gd_s h
    refine aw_laload (pc' := 15) hC dX9_nameOf_14 rfl g8 ?_
    refine aw_goto (tgt := 48) hC dX9_nameOf_15 (by decide) ?_
    cases h
    exact aw_lret hC dX9_nameOf_48 (Nat.le_of_ble_eq_true rfl) (Nat.le_of_ble_eq_true rfl)
-- CoinCircleModel.named(IJ)I
def fX9_named_L3 (sh : AwS) (M : AwM) (v0 : Int) (v1 : Int) (v2 : Int) (v4 : Int) : Option ((Int) ⊕ ((Unit) ⊕ (Int))) :=
  gd_ (kd_ sh v0 = (0, 9)) (pb (fX9_manyOf sh M v0 (M v0 36) v1) <| u1 fun (x3 : Int) => ((if v4 < x3 then pb (fX9_nameOf sh M v0 (M v0 36) v1 v4) <| u1 fun (x6 : Int) => ((if (cmp_ x6 v2) = 0 then some (.inr (.inr v4)) else some (.inl (w32 (v4 + 1))))) else some (.inr (.inl ())))))
def p_X9_named_L3 (Γ : AwC) (sh : AwS) (M : AwM) (v0 : Int) (v1 : Int) (v2 : Int) (Q : State → Prop) (s : Int) : Prop := AW Γ sh M 0 0 3 [some (.inr (.inr v0)), some (.inl v1), some (.inr (.inl v2)), none, some (.inl (s))] [] Q
def x_X9_named_L3 (Γ : AwC) (sh : AwS) (M : AwM) (v0 : Int) (v1 : Int) (v2 : Int) (Q : State → Prop) : ((Unit) ⊕ (Int)) → Prop := (Sum.elim (fun (t : Unit) => AW Γ sh M 0 0 42 [none, none, none, none, none] [] Q) (fun (t : Int) => AW Γ sh M 0 0 33 [none, none, none, none, some (.inl (t))] [] Q))
def fX9_named (sh : AwS) (M : AwM) (v0 : Int) (v1 : Int) (v2 : Int) : Option Int :=
  pb (lp (u1 (fX9_named_L3 sh M v0 v1 v2)) FU 0) (Sum.elim (u0 (some (-1))) (u1 (fun (tq8 : Int) => some tq8)))
set_option maxRecDepth 100000 in
set_option maxHeartbeats 4000000 in
theorem w_X9_named_L3 {Γ : AwC} (hC : AOK Γ RX9 cX9_named 5 2 0 0 "named" (some .int)) {sh : AwS} {M : AwM} {v0 : Int} {v1 : Int} {v2 : Int} {Q : State → Prop} : ∀ s r, u1 (fX9_named_L3 sh M v0 v1 v2) s = some r → (∀ s', r = .inl s' → p_X9_named_L3 Γ sh M v0 v1 v2 Q s') → (∀ t, r = .inr t → x_X9_named_L3 Γ sh M v0 v1 v2 Q t) → p_X9_named_L3 Γ sh M v0 v1 v2 Q s := by
  intro v4 r h hL hX
  replace h := u1_s h
  unfold fX9_named_L3 at h
  show AW Γ sh M 0 0 3 [some (.inr (.inr v0)), some (.inl v1), some (.inr (.inl v2)), none, some (.inl v4)] [] Q
  refine aw_iload (pc' := 5) hC dX9_named_3 rfl rfl ?_
  refine aw_aload_n (pc' := 6) (i := 0) hC dX9_named_5 rfl rfl rfl ?_
  refine aw_aload_n (pc' := 7) (i := 0) hC dX9_named_6 rfl rfl rfl ?_
  obtain ⟨g1, h⟩ := gd_s h
  refine aw_getfield (pc' := 10) (v := (.inl (M v0 36))) hC dX9_named_7 rfl fl_X9_121 g1 rfl ?_
  refine aw_iload_n (pc' := 11) (i := 1) hC dX9_named_10 rfl rfl rfl ?_
  obtain ⟨x3, q2, h⟩ := pb_s h
  replace h := u1_s h
  refine aw_cV (pc' := 14) (k2 := 0) (n2 := 0) (st := [.inl v4]) (stN := [.inl x3, .inl v4]) hC [.inl (M v0 36), .inl v1] (mX9_manyOf q2) lk_X9_306 g1 dX9_named_11 rfl rfl (Nat.le_of_ble_eq_true rfl) (Nat.le_of_ble_eq_true rfl) (Nat.le_of_ble_eq_true rfl) rfl (Nat.le_of_ble_eq_true rfl) rfl rfl rfl ?_
  refine aw_icmp_ge (tgt := 42) (pc' := 17) hC dX9_named_14 (by decide) rfl (fun c4 => ?_) (fun c4 => ?_)
  · replace h := it_n c4 h
    refine aw_sub hC [none, none, none, none, none] trivial (Nat.le_of_ble_eq_true rfl) ?_
    cases h
    exact hX _ rfl
  · replace h := it_p c4 h
    refine aw_aload_n (pc' := 18) (i := 0) hC dX9_named_17 rfl rfl rfl ?_
    refine aw_aload_n (pc' := 19) (i := 0) hC dX9_named_18 rfl rfl rfl ?_
    refine aw_getfield (pc' := 22) (v := (.inl (M v0 36))) hC dX9_named_19 rfl fl_X9_121 g1 rfl ?_
    refine aw_iload_n (pc' := 23) (i := 1) hC dX9_named_22 rfl rfl rfl ?_
    refine aw_iload (pc' := 25) hC dX9_named_23 rfl rfl ?_
    obtain ⟨x6, q5, h⟩ := pb_s h
    replace h := u1_s h
    refine aw_cV (pc' := 28) (k2 := 0) (n2 := 0) (st := []) (stN := [.inr (.inl x6)]) hC [.inl (M v0 36), .inl v1, .inl v4] (mX9_nameOf q5) lk_X9_310 g1 dX9_named_25 rfl rfl (Nat.le_of_ble_eq_true rfl) (Nat.le_of_ble_eq_true rfl) (Nat.le_of_ble_eq_true rfl) rfl (Nat.le_of_ble_eq_true rfl) rfl rfl rfl ?_
    refine aw_lload_n (pc' := 29) (i := 2) hC dX9_named_28 rfl rfl rfl ?_
    refine aw_lcmp (pc' := 30) hC dX9_named_29 rfl  ?_
    refine aw_if_ne (tgt := 36) (pc' := 33) hC dX9_named_30 (by decide) rfl (fun c7 => ?_) (fun c7 => ?_)
    · replace h := it_n c7 h
      refine aw_iinc (pc' := 39) (ls' := [some (.inr (.inr v0)), some (.inl v1), some (.inr (.inl v2)), none, some (.inl (w32 (v4 + 1)))]) hC dX9_named_36 rfl rfl rfl rfl ?_
      refine aw_goto (tgt := 3) hC dX9_named_39 (by decide) ?_
      refine aw_sub hC [some (.inr (.inr v0)), some (.inl v1), some (.inr (.inl v2)), none, some (.inl (w32 (v4 + 1)))] ⟨rfl, ⟨rfl, ⟨rfl, ⟨rfl, trivial⟩⟩⟩⟩ (Nat.le_of_ble_eq_true rfl) ?_
      cases h
      exact hL _ rfl
    · replace h := it_p c7 h
      refine aw_sub hC [none, none, none, none, some (.inl v4)] ⟨rfl, trivial⟩ (Nat.le_of_ble_eq_true rfl) ?_
      cases h
      exact hX _ rfl
set_option maxRecDepth 100000 in
set_option maxHeartbeats 4000000 in
theorem mX9_named {sh : AwS} {M : AwM} {v0 : Int} {v1 : Int} {v2 : Int} {r : Int} (h : fX9_named sh M v0 v1 v2 = some r) : AMet yX9_named cX9_named 5 (some .int) 2 0 0 [.inr (.inr v0), .inl v1, .inr (.inl v2)] sh M (some (.inl r)) sh M := by
  refine amet_of (by decide +kernel) (Nat.le_of_ble_eq_true rfl) (fun Γ hC => ?_)
  replace hC : AOK Γ RX9 cX9_named 5 2 0 0 "named" (some .int) := hC
  unfold fX9_named at h
  refine aw_sub hC [some (.inr (.inr v0)), some (.inl v1), some (.inr (.inl v2)), none, none] ⟨rfl, ⟨rfl, ⟨rfl, trivial⟩⟩⟩ (Nat.le_of_ble_eq_true rfl) ?_
  refine aw_iconst (pc' := 1) hC dX9_named_0 rfl (by decide) ?_
  refine aw_istore (pc' := 3) (ls' := [some (.inr (.inr v0)), some (.inl v1), some (.inr (.inl v2)), none, some (.inl 0)]) hC dX9_named_1 rfl (Nat.le_of_ble_eq_true rfl) rfl rfl ?_
  obtain ⟨tq8, q8, h⟩ := pb_s h
  refine aw_sub hC [some (.inr (.inr v0)), some (.inl v1), some (.inr (.inl v2)), none, some (.inl 0)] ⟨rfl, ⟨rfl, ⟨rfl, ⟨rfl, trivial⟩⟩⟩⟩ (Nat.le_of_ble_eq_true rfl) ?_
  refine (lp_aw (p_X9_named_L3 Γ sh M v0 v1 v2 (fin_ Γ 0 0 (some (.inl r)) sh M)) (x_X9_named_L3 Γ sh M v0 v1 v2 (fin_ Γ 0 0 (some (.inl r)) sh M)) (w_X9_named_L3 hC ) FU _ _ q8 ?_ : p_X9_named_L3 Γ sh M v0 v1 v2 (fin_ Γ 0 0 (some (.inl r)) sh M) 0)
  rcases tq8 with tq8 | tq8
  · replace h := se_l h
    cases tq8
    replace h := u0_s h
    show AW Γ sh M 0 0 42 [none, none, none, none, none] [] _
    refine aw_iconst (pc' := 43) hC dX9_named_42 rfl (by decide) ?_
    cases h
    exact aw_iret hC dX9_named_43 (Nat.le_of_ble_eq_true rfl) (Nat.le_of_ble_eq_true rfl)
  · replace h := se_r h
    replace h := u1_s h
    show AW Γ sh M 0 0 33 [none, none, none, none, some (.inl tq8)] [] _
    refine aw_iload (pc' := 35) hC dX9_named_33 rfl rfl ?_
    cases h
    exact aw_iret hC dX9_named_35 (Nat.le_of_ble_eq_true rfl) (Nat.le_of_ble_eq_true rfl)
-- CoinCircleModel.number(II)I
def fX9_number_J58 (sh : AwS) (M : AwM) (v0 : Int) : Option (Int × AwM) :=
  gd_ (kd_ sh v0 = (0, 9)) ((if (M v0 8) = 0 then pb (fX9_ahead sh M v0) <| u1 fun (M11 : AwM) => (some ((M v0 6), M11)) else some ((M v0 6), M)))
def fX9_number_J30 (sh : AwS) (M : AwM) (v0 : Int) (v1 : Int) (v2 : Int) : Option (Int × AwM) :=
  gd_ (kd_ sh v0 = (0, 9)) ((if (M v0 8) = 0 then pb (fX9_is sh M (M v0 6) v1 v2) <| u1 fun (x13 : Int) => ((if x13 = 0 then pb (fX9_blame sh M v0 4 (M v0 4)) <| u1 fun (M16 : AwM) => (fX9_number_J58 sh M16 v0) else fX9_number_J58 sh M v0)) else fX9_number_J58 sh M v0))
def fX9_number (sh : AwS) (M : AwM) (v0 : Int) (v1 : Int) (v2 : Int) : Option (Int × AwM) :=
  gd_ (kd_ sh v0 = (0, 9)) (pb (fX9_lex sh M v0) <| u1 fun (M3 : AwM) => ((if 0 < (M3 v0 8) then some (0, M3) else (if (M3 v0 3) = 2 then fX9_number_J30 sh M3 v0 v1 v2 else pb (fX9_blame sh M3 v0 1 (M3 v0 4)) <| u1 fun (M18 : AwM) => (fX9_number_J30 sh M18 v0 v1 v2)))))
set_option maxRecDepth 100000 in
set_option maxHeartbeats 4000000 in
theorem w_X9_number_J58 {Γ : AwC} (hC : AOK Γ RX9 cX9_number 4 3 0 0 "number" (some .int)) {sh : AwS} {M : AwM} {v0 : Int} {r : Int} {M' : AwM} (h : fX9_number_J58 sh M v0 = some (r, M')) {Q : State → Prop} (hQ : Q = (fin_ Γ 0 0 (some (.inl r)) sh M')) : AW Γ sh M 0 0 58 [some (.inr (.inr v0)), none, none, none] [] Q := by
  unfold fX9_number_J58 at h
  refine aw_aload_n (pc' := 59) (i := 0) hC dX9_number_58 rfl rfl rfl ?_
  obtain ⟨g8, h⟩ := gd_s h
  refine aw_getfield (pc' := 62) (v := (.inl (M v0 6))) hC dX9_number_59 rfl fl_X9_29 g8 rfl ?_
  refine aw_istore_n (pc' := 63) (i := 3) (ls' := [some (.inr (.inr v0)), none, none, some (.inl (M v0 6))]) hC dX9_number_62 rfl rfl (Nat.le_of_ble_eq_true rfl) rfl rfl ?_
  refine aw_aload_n (pc' := 64) (i := 0) hC dX9_number_63 rfl rfl rfl ?_
  refine aw_getfield (pc' := 67) (v := (.inl (M v0 8))) hC dX9_number_64 rfl fl_X9_36 g8 rfl ?_
  refine aw_if_ne (tgt := 74) (pc' := 70) hC dX9_number_67 (by decide) rfl (fun c9 => ?_) (fun c9 => ?_)
  · replace h := it_n c9 h
    refine aw_iload_n (pc' := 75) (i := 3) hC dX9_number_74 rfl rfl rfl ?_
    cases h
    subst hQ
    exact aw_iret hC dX9_number_75 (Nat.le_of_ble_eq_true rfl) (Nat.le_of_ble_eq_true rfl)
  · replace h := it_p c9 h
    refine aw_aload_n (pc' := 71) (i := 0) hC dX9_number_70 rfl rfl rfl ?_
    obtain ⟨M11, q10, h⟩ := pb_s h
    replace h := u1_s h
    refine aw_cV (pc' := 74) (k2 := 0) (n2 := 0) (st := []) (stN := []) hC [] (mX9_ahead q10) lk_X9_257 g8 dX9_number_71 rfl rfl (Nat.le_of_ble_eq_true rfl) (Nat.le_of_ble_eq_true rfl) (Nat.le_of_ble_eq_true rfl) rfl (Nat.le_of_ble_eq_true rfl) rfl rfl rfl ?_
    refine aw_iload_n (pc' := 75) (i := 3) hC dX9_number_74 rfl rfl rfl ?_
    cases h
    subst hQ
    exact aw_iret hC dX9_number_75 (Nat.le_of_ble_eq_true rfl) (Nat.le_of_ble_eq_true rfl)
set_option maxRecDepth 100000 in
set_option maxHeartbeats 4000000 in
theorem w_X9_number_J30 {Γ : AwC} (hC : AOK Γ RX9 cX9_number 4 3 0 0 "number" (some .int)) {sh : AwS} {M : AwM} {v0 : Int} {v1 : Int} {v2 : Int} {r : Int} {M' : AwM} (h : fX9_number_J30 sh M v0 v1 v2 = some (r, M')) {Q : State → Prop} (hQ : Q = (fin_ Γ 0 0 (some (.inl r)) sh M')) : AW Γ sh M 0 0 30 [some (.inr (.inr v0)), some (.inl v1), some (.inl v2), none] [] Q := by
  unfold fX9_number_J30 at h
  refine aw_aload_n (pc' := 31) (i := 0) hC dX9_number_30 rfl rfl rfl ?_
  obtain ⟨g6, h⟩ := gd_s h
  refine aw_getfield (pc' := 34) (v := (.inl (M v0 8))) hC dX9_number_31 rfl fl_X9_36 g6 rfl ?_
  refine aw_if_ne (tgt := 58) (pc' := 37) hC dX9_number_34 (by decide) rfl (fun c7 => ?_) (fun c7 => ?_)
  · replace h := it_n c7 h
    refine aw_sub hC [some (.inr (.inr v0)), none, none, none] ⟨rfl, trivial⟩ (Nat.le_of_ble_eq_true rfl) ?_
    exact w_X9_number_J58 hC h hQ
  · replace h := it_p c7 h
    refine aw_aload_n (pc' := 38) (i := 0) hC dX9_number_37 rfl rfl rfl ?_
    refine aw_getfield (pc' := 41) (v := (.inl (M v0 6))) hC dX9_number_38 rfl fl_X9_29 g6 rfl ?_
    refine aw_iload_n (pc' := 42) (i := 1) hC dX9_number_41 rfl rfl rfl ?_
    refine aw_iload_n (pc' := 43) (i := 2) hC dX9_number_42 rfl rfl rfl ?_
    obtain ⟨x13, q12, h⟩ := pb_s h
    replace h := u1_s h
    refine aw_cS (pc' := 46) (k2 := 0) (n2 := 0) (st := []) (stN := [.inl x13]) hC [.inl (M v0 6), .inl v1, .inl v2] (mX9_is q12) lk_X9_314 dX9_number_43 rfl rfl (Nat.le_of_ble_eq_true rfl) (Nat.le_of_ble_eq_true rfl) (Nat.le_of_ble_eq_true rfl) rfl (Nat.le_of_ble_eq_true rfl) rfl rfl rfl ?_
    refine aw_if_ne (tgt := 58) (pc' := 49) hC dX9_number_46 (by decide) rfl (fun c14 => ?_) (fun c14 => ?_)
    · replace h := it_n c14 h
      refine aw_sub hC [some (.inr (.inr v0)), none, none, none] ⟨rfl, trivial⟩ (Nat.le_of_ble_eq_true rfl) ?_
      exact w_X9_number_J58 hC h hQ
    · replace h := it_p c14 h
      refine aw_aload_n (pc' := 50) (i := 0) hC dX9_number_49 rfl rfl rfl ?_
      refine aw_iconst (pc' := 51) hC dX9_number_50 rfl (by decide) ?_
      refine aw_aload_n (pc' := 52) (i := 0) hC dX9_number_51 rfl rfl rfl ?_
      refine aw_getfield (pc' := 55) (v := (.inl (M v0 4))) hC dX9_number_52 rfl fl_X9_23 g6 rfl ?_
      obtain ⟨M16, q15, h⟩ := pb_s h
      replace h := u1_s h
      refine aw_cV (pc' := 58) (k2 := 0) (n2 := 0) (st := []) (stN := []) hC [.inl 4, .inl (M v0 4)] (mX9_blame q15) lk_X9_236 g6 dX9_number_55 rfl rfl (Nat.le_of_ble_eq_true rfl) (Nat.le_of_ble_eq_true rfl) (Nat.le_of_ble_eq_true rfl) rfl (Nat.le_of_ble_eq_true rfl) rfl rfl rfl ?_
      refine aw_sub hC [some (.inr (.inr v0)), none, none, none] ⟨rfl, trivial⟩ (Nat.le_of_ble_eq_true rfl) ?_
      exact w_X9_number_J58 hC h hQ
set_option maxRecDepth 100000 in
set_option maxHeartbeats 4000000 in
theorem mX9_number {sh : AwS} {M : AwM} {v0 : Int} {v1 : Int} {v2 : Int} {r : Int} {M' : AwM} (h : fX9_number sh M v0 v1 v2 = some (r, M')) : AMet yX9_number cX9_number 4 (some .int) 3 0 0 [.inr (.inr v0), .inl v1, .inl v2] sh M (some (.inl r)) sh M' := by
  refine amet_of (by decide +kernel) (Nat.le_of_ble_eq_true rfl) (fun Γ hC => ?_)
  replace hC : AOK Γ RX9 cX9_number 4 3 0 0 "number" (some .int) := hC
  unfold fX9_number at h
  refine aw_sub hC [some (.inr (.inr v0)), some (.inl v1), some (.inl v2), none] ⟨rfl, ⟨rfl, ⟨rfl, trivial⟩⟩⟩ (Nat.le_of_ble_eq_true rfl) ?_
  refine aw_aload_n (pc' := 1) (i := 0) hC dX9_number_0 rfl rfl rfl ?_
  obtain ⟨g2, h⟩ := gd_s h
  obtain ⟨M3, q1, h⟩ := pb_s h
  replace h := u1_s h
  refine aw_cV (pc' := 4) (k2 := 0) (n2 := 0) (st := []) (stN := []) hC [] (mX9_lex q1) lk_X9_251 g2 dX9_number_1 rfl rfl (Nat.le_of_ble_eq_true rfl) (Nat.le_of_ble_eq_true rfl) (Nat.le_of_ble_eq_true rfl) rfl (Nat.le_of_ble_eq_true rfl) rfl rfl rfl ?_
  refine aw_aload_n (pc' := 5) (i := 0) hC dX9_number_4 rfl rfl rfl ?_
  refine aw_getfield (pc' := 8) (v := (.inl (M3 v0 8))) hC dX9_number_5 rfl fl_X9_36 g2 rfl ?_
  refine aw_if_le (tgt := 13) (pc' := 11) hC dX9_number_8 (by decide) rfl (fun c4 => ?_) (fun c4 => ?_)
  · replace h := it_n c4 h
    refine aw_aload_n (pc' := 14) (i := 0) hC dX9_number_13 rfl rfl rfl ?_
    refine aw_getfield (pc' := 17) (v := (.inl (M3 v0 3))) hC dX9_number_14 rfl fl_X9_20 g2 rfl ?_
    refine aw_iconst (pc' := 18) hC dX9_number_17 rfl (by decide) ?_
    refine aw_icmp_eq (tgt := 30) (pc' := 21) hC dX9_number_18 (by decide) rfl (fun c5 => ?_) (fun c5 => ?_)
    · replace h := it_p c5 h
      refine aw_sub hC [some (.inr (.inr v0)), some (.inl v1), some (.inl v2), none] ⟨rfl, ⟨rfl, ⟨rfl, trivial⟩⟩⟩ (Nat.le_of_ble_eq_true rfl) ?_
      exact w_X9_number_J30 hC h rfl
    · replace h := it_n c5 h
      refine aw_aload_n (pc' := 22) (i := 0) hC dX9_number_21 rfl rfl rfl ?_
      refine aw_iconst (pc' := 23) hC dX9_number_22 rfl (by decide) ?_
      refine aw_aload_n (pc' := 24) (i := 0) hC dX9_number_23 rfl rfl rfl ?_
      refine aw_getfield (pc' := 27) (v := (.inl (M3 v0 4))) hC dX9_number_24 rfl fl_X9_23 g2 rfl ?_
      obtain ⟨M18, q17, h⟩ := pb_s h
      replace h := u1_s h
      refine aw_cV (pc' := 30) (k2 := 0) (n2 := 0) (st := []) (stN := []) hC [.inl 1, .inl (M3 v0 4)] (mX9_blame q17) lk_X9_236 g2 dX9_number_27 rfl rfl (Nat.le_of_ble_eq_true rfl) (Nat.le_of_ble_eq_true rfl) (Nat.le_of_ble_eq_true rfl) rfl (Nat.le_of_ble_eq_true rfl) rfl rfl rfl ?_
      refine aw_sub hC [some (.inr (.inr v0)), some (.inl v1), some (.inl v2), none] ⟨rfl, ⟨rfl, ⟨rfl, trivial⟩⟩⟩ (Nat.le_of_ble_eq_true rfl) ?_
      exact w_X9_number_J30 hC h rfl
  · replace h := it_p c4 h
    refine aw_iconst (pc' := 12) hC dX9_number_11 rfl (by decide) ?_
    cases h
    exact aw_iret hC dX9_number_12 (Nat.le_of_ble_eq_true rfl) (Nat.le_of_ble_eq_true rfl)
-- CoinCircleModel.add(II)V
def fX9_add (sh : AwS) (M : AwM) (v0 : Int) (v1 : Int) (v2 : Int) : Option (AwM) :=
  gd_ (kd_ sh v0 = (0, 9)) (gd_ ((kd_ sh (M v0 30)).1 = 1 ∧ (0 : Int) ≤ (w32 ((w32 (1600 * (M v0 36))) + (M v0 35))) ∧ (w32 ((w32 (1600 * (M v0 36))) + (M v0 35))) < ((kd_ sh (M v0 30)).2 : Int)) (bd_ (up_ M (M v0 30) (w32 ((w32 (1600 * (M v0 36))) + (M v0 35))) v1) fun (M3 : AwM) => (gd_ ((kd_ sh (M3 v0 31)).1 = 1 ∧ (0 : Int) ≤ (w32 ((w32 (1600 * (M3 v0 36))) + (M3 v0 35))) ∧ (w32 ((w32 (1600 * (M3 v0 36))) + (M3 v0 35))) < ((kd_ sh (M3 v0 31)).2 : Int)) (bd_ (up_ M3 (M3 v0 31) (w32 ((w32 (1600 * (M3 v0 36))) + (M3 v0 35))) v2) fun (M6 : AwM) => (bd_ (up_ M6 v0 35 (w32 ((M6 v0 35) + 1))) fun (M8 : AwM) => (some M8))))))
set_option maxRecDepth 100000 in
set_option maxHeartbeats 4000000 in
theorem mX9_add {sh : AwS} {M : AwM} {v0 : Int} {v1 : Int} {v2 : Int} {M' : AwM} (h : fX9_add sh M v0 v1 v2 = some M') : AMet yX9_add cX9_add 3 none 1 0 0 [.inr (.inr v0), .inl v1, .inl v2] sh M none sh M' := by
  refine amet_of (by decide +kernel) (Nat.le_of_ble_eq_true rfl) (fun Γ hC => ?_)
  replace hC : AOK Γ RX9 cX9_add 3 1 0 0 "add" none := hC
  unfold fX9_add at h
  refine aw_sub hC [some (.inr (.inr v0)), some (.inl v1), some (.inl v2)] ⟨rfl, ⟨rfl, ⟨rfl, trivial⟩⟩⟩ (Nat.le_of_ble_eq_true rfl) ?_
  refine aw_aload_n (pc' := 1) (i := 0) hC dX9_add_0 rfl rfl rfl ?_
  obtain ⟨g1, h⟩ := gd_s h
  refine aw_getfield (pc' := 4) (v := (.inr (.inr (M v0 30)))) hC dX9_add_1 rfl fl_X9_102 g1 rfl ?_
  refine aw_sipush (pc' := 7) hC dX9_add_4 rfl (by decide) ?_
  refine aw_aload_n (pc' := 8) (i := 0) hC dX9_add_7 rfl rfl rfl ?_
  refine aw_getfield (pc' := 11) (v := (.inl (M v0 36))) hC dX9_add_8 rfl fl_X9_121 g1 rfl ?_
  refine aw_imul (pc' := 12) hC dX9_add_11 rfl  ?_
  refine aw_aload_n (pc' := 13) (i := 0) hC dX9_add_12 rfl rfl rfl ?_
  refine aw_getfield (pc' := 16) (v := (.inl (M v0 35))) hC dX9_add_13 rfl fl_X9_118 g1 rfl ?_
  refine aw_iadd (pc' := 17) hC dX9_add_16 rfl  ?_
  refine aw_iload_n (pc' := 18) (i := 1) hC dX9_add_17 rfl rfl rfl ?_
  obtain ⟨g2, h⟩ := gd_s h
  obtain ⟨M3, e4, h⟩ := bd_s h
  refine aw_ias (pc' := 19) hC dX9_add_18 rfl g2 e4 ?_
  refine aw_aload_n (pc' := 20) (i := 0) hC dX9_add_19 rfl rfl rfl ?_
  refine aw_getfield (pc' := 23) (v := (.inr (.inr (M3 v0 31)))) hC dX9_add_20 rfl fl_X9_105 g1 rfl ?_
  refine aw_sipush (pc' := 26) hC dX9_add_23 rfl (by decide) ?_
  refine aw_aload_n (pc' := 27) (i := 0) hC dX9_add_26 rfl rfl rfl ?_
  refine aw_getfield (pc' := 30) (v := (.inl (M3 v0 36))) hC dX9_add_27 rfl fl_X9_121 g1 rfl ?_
  refine aw_imul (pc' := 31) hC dX9_add_30 rfl  ?_
  refine aw_aload_n (pc' := 32) (i := 0) hC dX9_add_31 rfl rfl rfl ?_
  refine aw_getfield (pc' := 35) (v := (.inl (M3 v0 35))) hC dX9_add_32 rfl fl_X9_118 g1 rfl ?_
  refine aw_iadd (pc' := 36) hC dX9_add_35 rfl  ?_
  refine aw_iload_n (pc' := 37) (i := 2) hC dX9_add_36 rfl rfl rfl ?_
  obtain ⟨g5, h⟩ := gd_s h
  obtain ⟨M6, e7, h⟩ := bd_s h
  refine aw_ias (pc' := 38) hC dX9_add_37 rfl g5 e7 ?_
  refine aw_aload_n (pc' := 39) (i := 0) hC dX9_add_38 rfl rfl rfl ?_
  refine aw_dup (pc' := 40) hC dX9_add_39 rfl rfl ?_
  refine aw_getfield (pc' := 43) (v := (.inl (M6 v0 35))) hC dX9_add_40 rfl fl_X9_118 g1 rfl ?_
  refine aw_iconst (pc' := 44) hC dX9_add_43 rfl (by decide) ?_
  refine aw_iadd (pc' := 45) hC dX9_add_44 rfl  ?_
  obtain ⟨M8, e9, h⟩ := bd_s h
  refine aw_pf (pc' := 48) hC dX9_add_45 rfl fp_X9_118 g1 rfl trivial e9 ?_
  cases h
  exact aw_vret hC dX9_add_48 (Nat.le_of_ble_eq_true rfl) (Nat.le_of_ble_eq_true rfl)
-- CoinCircleModel.rank(I)I
def fX9_rank (sh : AwS) (M : AwM) (v0 : Int) : Option Int :=
  (if v0 = 21 then some 1 else (if v0 = 20 then some 2 else (if v0 = 22 then some 3 else (if v0 = 17 then some 4 else (if v0 = 18 then some 4 else (if v0 = 19 then some 4 else (if v0 = 10 then some 5 else (if v0 = 11 then some 5 else some 6))))))))
set_option maxRecDepth 100000 in
set_option maxHeartbeats 4000000 in
theorem mX9_rank {sh : AwS} {M : AwM} {v0 : Int} {r : Int} (h : fX9_rank sh M v0 = some r) : AMet yX9_rank cX9_rank 1 (some .int) 1 0 0 [.inl v0] sh M (some (.inl r)) sh M := by
  refine amet_of (by decide +kernel) (Nat.le_of_ble_eq_true rfl) (fun Γ hC => ?_)
  replace hC : AOK Γ RX9 cX9_rank 1 1 0 0 "rank" (some .int) := hC
  unfold fX9_rank at h
  refine aw_sub hC [some (.inl v0)] ⟨rfl, trivial⟩ (Nat.le_of_ble_eq_true rfl) ?_
  refine aw_iload_n (pc' := 1) (i := 0) hC dX9_rank_0 rfl rfl rfl ?_
  refine aw_bipush (pc' := 3) hC dX9_rank_1 rfl (by decide) ?_
  refine aw_icmp_ne (tgt := 10) (pc' := 6) hC dX9_rank_3 (by decide) rfl (fun c1 => ?_) (fun c1 => ?_)
  · replace h := it_n c1 h
    refine aw_iload_n (pc' := 11) (i := 0) hC dX9_rank_10 rfl rfl rfl ?_
    refine aw_bipush (pc' := 13) hC dX9_rank_11 rfl (by decide) ?_
    refine aw_icmp_ne (tgt := 20) (pc' := 16) hC dX9_rank_13 (by decide) rfl (fun c2 => ?_) (fun c2 => ?_)
    · replace h := it_n c2 h
      refine aw_iload_n (pc' := 21) (i := 0) hC dX9_rank_20 rfl rfl rfl ?_
      refine aw_bipush (pc' := 23) hC dX9_rank_21 rfl (by decide) ?_
      refine aw_icmp_ne (tgt := 30) (pc' := 26) hC dX9_rank_23 (by decide) rfl (fun c3 => ?_) (fun c3 => ?_)
      · replace h := it_n c3 h
        refine aw_iload_n (pc' := 31) (i := 0) hC dX9_rank_30 rfl rfl rfl ?_
        refine aw_bipush (pc' := 33) hC dX9_rank_31 rfl (by decide) ?_
        refine aw_icmp_eq (tgt := 48) (pc' := 36) hC dX9_rank_33 (by decide) rfl (fun c4 => ?_) (fun c4 => ?_)
        · replace h := it_p c4 h
          refine aw_iconst (pc' := 49) hC dX9_rank_48 rfl (by decide) ?_
          refine aw_goto (tgt := 70) hC dX9_rank_49 (by decide) ?_
          cases h
          exact aw_iret hC dX9_rank_70 (Nat.le_of_ble_eq_true rfl) (Nat.le_of_ble_eq_true rfl)
        · replace h := it_n c4 h
          refine aw_iload_n (pc' := 37) (i := 0) hC dX9_rank_36 rfl rfl rfl ?_
          refine aw_bipush (pc' := 39) hC dX9_rank_37 rfl (by decide) ?_
          refine aw_icmp_eq (tgt := 48) (pc' := 42) hC dX9_rank_39 (by decide) rfl (fun c5 => ?_) (fun c5 => ?_)
          · replace h := it_p c5 h
            refine aw_iconst (pc' := 49) hC dX9_rank_48 rfl (by decide) ?_
            refine aw_goto (tgt := 70) hC dX9_rank_49 (by decide) ?_
            cases h
            exact aw_iret hC dX9_rank_70 (Nat.le_of_ble_eq_true rfl) (Nat.le_of_ble_eq_true rfl)
          · replace h := it_n c5 h
            refine aw_iload_n (pc' := 43) (i := 0) hC dX9_rank_42 rfl rfl rfl ?_
            refine aw_bipush (pc' := 45) hC dX9_rank_43 rfl (by decide) ?_
            refine aw_icmp_ne (tgt := 52) (pc' := 48) hC dX9_rank_45 (by decide) rfl (fun c6 => ?_) (fun c6 => ?_)
            · replace h := it_n c6 h
              refine aw_iload_n (pc' := 53) (i := 0) hC dX9_rank_52 rfl rfl rfl ?_
              refine aw_bipush (pc' := 55) hC dX9_rank_53 rfl (by decide) ?_
              refine aw_icmp_eq (tgt := 64) (pc' := 58) hC dX9_rank_55 (by decide) rfl (fun c7 => ?_) (fun c7 => ?_)
              · replace h := it_p c7 h
                refine aw_iconst (pc' := 65) hC dX9_rank_64 rfl (by decide) ?_
                refine aw_goto (tgt := 70) hC dX9_rank_65 (by decide) ?_
                cases h
                exact aw_iret hC dX9_rank_70 (Nat.le_of_ble_eq_true rfl) (Nat.le_of_ble_eq_true rfl)
              · replace h := it_n c7 h
                refine aw_iload_n (pc' := 59) (i := 0) hC dX9_rank_58 rfl rfl rfl ?_
                refine aw_bipush (pc' := 61) hC dX9_rank_59 rfl (by decide) ?_
                refine aw_icmp_ne (tgt := 68) (pc' := 64) hC dX9_rank_61 (by decide) rfl (fun c8 => ?_) (fun c8 => ?_)
                · replace h := it_n c8 h
                  refine aw_bipush (pc' := 70) hC dX9_rank_68 rfl (by decide) ?_
                  cases h
                  exact aw_iret hC dX9_rank_70 (Nat.le_of_ble_eq_true rfl) (Nat.le_of_ble_eq_true rfl)
                · replace h := it_p c8 h
                  refine aw_iconst (pc' := 65) hC dX9_rank_64 rfl (by decide) ?_
                  refine aw_goto (tgt := 70) hC dX9_rank_65 (by decide) ?_
                  cases h
                  exact aw_iret hC dX9_rank_70 (Nat.le_of_ble_eq_true rfl) (Nat.le_of_ble_eq_true rfl)
            · replace h := it_p c6 h
              refine aw_iconst (pc' := 49) hC dX9_rank_48 rfl (by decide) ?_
              refine aw_goto (tgt := 70) hC dX9_rank_49 (by decide) ?_
              cases h
              exact aw_iret hC dX9_rank_70 (Nat.le_of_ble_eq_true rfl) (Nat.le_of_ble_eq_true rfl)
      · replace h := it_p c3 h
        refine aw_iconst (pc' := 27) hC dX9_rank_26 rfl (by decide) ?_
        refine aw_goto (tgt := 70) hC dX9_rank_27 (by decide) ?_
        cases h
        exact aw_iret hC dX9_rank_70 (Nat.le_of_ble_eq_true rfl) (Nat.le_of_ble_eq_true rfl)
    · replace h := it_p c2 h
      refine aw_iconst (pc' := 17) hC dX9_rank_16 rfl (by decide) ?_
      refine aw_goto (tgt := 70) hC dX9_rank_17 (by decide) ?_
      cases h
      exact aw_iret hC dX9_rank_70 (Nat.le_of_ble_eq_true rfl) (Nat.le_of_ble_eq_true rfl)
  · replace h := it_p c1 h
    refine aw_iconst (pc' := 7) hC dX9_rank_6 rfl (by decide) ?_
    refine aw_goto (tgt := 70) hC dX9_rank_7 (by decide) ?_
    cases h
    exact aw_iret hC dX9_rank_70 (Nat.le_of_ble_eq_true rfl) (Nat.le_of_ble_eq_true rfl)
-- CoinCircleModel.joins(I)V
def fX9_joins_L0 (sh : AwS) (v0 : Int) (v1 : Int) (M : AwM) : Option ((AwM) ⊕ (AwM)) :=
  gd_ (kd_ sh v0 = (0, 9)) (gd_ ((kd_ sh (M v0 41)).1 = 1 ∧ (0 : Int) ≤ (w32 ((M v0 42) - 1)) ∧ (w32 ((M v0 42) - 1)) < ((kd_ sh (M v0 41)).2 : Int)) ((if (M (M v0 41) (w32 ((M v0 42) - 1))) < (M v0 45) then gd_ ((kd_ sh (M v0 44)).1 = 1 ∧ (0 : Int) ≤ (w32 ((M v0 45) - 1)) ∧ (w32 ((M v0 45) - 1)) < ((kd_ sh (M v0 44)).2 : Int)) (pb (fX9_rank sh M (M (M v0 44) (w32 ((M v0 45) - 1)))) <| u1 fun (x6 : Int) => ((if x6 < v1 then some (.inr M) else bd_ (up_ M v0 45 (w32 ((M v0 45) - 1))) fun (M8 : AwM) => (gd_ ((kd_ sh (M8 v0 44)).1 = 1 ∧ (0 : Int) ≤ (M8 v0 45) ∧ (M8 v0 45) < ((kd_ sh (M8 v0 44)).2 : Int)) (pb (fX9_add sh M8 v0 (M8 (M8 v0 44) (M8 v0 45)) 0) <| u1 fun (M12 : AwM) => (gd_ ((kd_ sh (M12 v0 44)).1 = 1 ∧ (0 : Int) ≤ (M12 v0 45) ∧ (M12 v0 45) < ((kd_ sh (M12 v0 44)).2 : Int)) ((if (M12 (M12 v0 44) (M12 v0 45)) = 22 then bd_ (up_ M12 v0 43 (w32 ((M12 v0 43) - 1))) fun (M15 : AwM) => (some (.inl M15)) else some (.inl M12))))))))) else some (.inr M))))
def p_X9_joins_L0 (Γ : AwC) (sh : AwS) (v0 : Int) (v1 : Int) (Q : State → Prop) (s : AwM) : Prop := AW Γ sh (s) 0 0 0 [some (.inr (.inr v0)), some (.inl v1)] [] Q
def x_X9_joins_L0 (Γ : AwC) (sh : AwS) (v0 : Int) (v1 : Int) (Q : State → Prop) : (AwM) → Prop := (fun (t : AwM) => AW Γ sh (t) 0 0 87 [none, none] [] Q)
def fX9_joins (sh : AwS) (M : AwM) (v0 : Int) (v1 : Int) : Option (AwM) :=
  pb (lp (u1 (fX9_joins_L0 sh v0 v1)) FU M) (u1 (fun (tq17 : AwM) => some tq17))
set_option maxRecDepth 100000 in
set_option maxHeartbeats 4000000 in
theorem w_X9_joins_L0 {Γ : AwC} (hC : AOK Γ RX9 cX9_joins 2 2 0 0 "joins" none) {sh : AwS} {v0 : Int} {v1 : Int} {Q : State → Prop} : ∀ s r, u1 (fX9_joins_L0 sh v0 v1) s = some r → (∀ s', r = .inl s' → p_X9_joins_L0 Γ sh v0 v1 Q s') → (∀ t, r = .inr t → x_X9_joins_L0 Γ sh v0 v1 Q t) → p_X9_joins_L0 Γ sh v0 v1 Q s := by
  intro M r h hL hX
  replace h := u1_s h
  unfold fX9_joins_L0 at h
  show AW Γ sh M 0 0 0 [some (.inr (.inr v0)), some (.inl v1)] [] Q
  refine aw_aload_n (pc' := 1) (i := 0) hC dX9_joins_0 rfl rfl rfl ?_
  obtain ⟨g1, h⟩ := gd_s h
  refine aw_getfield (pc' := 4) (v := (.inl (M v0 45))) hC dX9_joins_1 rfl fl_X9_149 g1 rfl ?_
  refine aw_aload_n (pc' := 5) (i := 0) hC dX9_joins_4 rfl rfl rfl ?_
  refine aw_getfield (pc' := 8) (v := (.inr (.inr (M v0 41)))) hC dX9_joins_5 rfl fl_X9_137 g1 rfl ?_
  refine aw_aload_n (pc' := 9) (i := 0) hC dX9_joins_8 rfl rfl rfl ?_
  refine aw_getfield (pc' := 12) (v := (.inl (M v0 42))) hC dX9_joins_9 rfl fl_X9_140 g1 rfl ?_
  refine aw_iconst (pc' := 13) hC dX9_joins_12 rfl (by decide) ?_
  refine aw_isub (pc' := 14) hC dX9_joins_13 rfl  ?_
  obtain ⟨g2, h⟩ := gd_s h
  refine aw_iaload (pc' := 15) hC dX9_joins_14 rfl g2 ?_
  refine aw_icmp_le (tgt := 87) (pc' := 18) hC dX9_joins_15 (by decide) rfl (fun c3 => ?_) (fun c3 => ?_)
  · replace h := it_n c3 h
    refine aw_sub hC [none, none] trivial (Nat.le_of_ble_eq_true rfl) ?_
    cases h
    exact hX _ rfl
  · replace h := it_p c3 h
    refine aw_aload_n (pc' := 19) (i := 0) hC dX9_joins_18 rfl rfl rfl ?_
    refine aw_getfield (pc' := 22) (v := (.inr (.inr (M v0 44)))) hC dX9_joins_19 rfl fl_X9_146 g1 rfl ?_
    refine aw_aload_n (pc' := 23) (i := 0) hC dX9_joins_22 rfl rfl rfl ?_
    refine aw_getfield (pc' := 26) (v := (.inl (M v0 45))) hC dX9_joins_23 rfl fl_X9_149 g1 rfl ?_
    refine aw_iconst (pc' := 27) hC dX9_joins_26 rfl (by decide) ?_
    refine aw_isub (pc' := 28) hC dX9_joins_27 rfl  ?_
    obtain ⟨g4, h⟩ := gd_s h
    refine aw_iaload (pc' := 29) hC dX9_joins_28 rfl g4 ?_
    obtain ⟨x6, q5, h⟩ := pb_s h
    replace h := u1_s h
    refine aw_cS (pc' := 32) (k2 := 0) (n2 := 0) (st := []) (stN := [.inl x6]) hC [.inl (M (M v0 44) (w32 ((M v0 45) - 1)))] (mX9_rank q5) lk_X9_318 dX9_joins_29 rfl rfl (Nat.le_of_ble_eq_true rfl) (Nat.le_of_ble_eq_true rfl) (Nat.le_of_ble_eq_true rfl) rfl (Nat.le_of_ble_eq_true rfl) rfl rfl rfl ?_
    refine aw_iload_n (pc' := 33) (i := 1) hC dX9_joins_32 rfl rfl rfl ?_
    refine aw_icmp_lt (tgt := 87) (pc' := 36) hC dX9_joins_33 (by decide) rfl (fun c7 => ?_) (fun c7 => ?_)
    · replace h := it_p c7 h
      refine aw_sub hC [none, none] trivial (Nat.le_of_ble_eq_true rfl) ?_
      cases h
      exact hX _ rfl
    · replace h := it_n c7 h
      refine aw_aload_n (pc' := 37) (i := 0) hC dX9_joins_36 rfl rfl rfl ?_
      refine aw_dup (pc' := 38) hC dX9_joins_37 rfl rfl ?_
      refine aw_getfield (pc' := 41) (v := (.inl (M v0 45))) hC dX9_joins_38 rfl fl_X9_149 g1 rfl ?_
      refine aw_iconst (pc' := 42) hC dX9_joins_41 rfl (by decide) ?_
      refine aw_isub (pc' := 43) hC dX9_joins_42 rfl  ?_
      obtain ⟨M8, e9, h⟩ := bd_s h
      refine aw_pf (pc' := 46) hC dX9_joins_43 rfl fp_X9_149 g1 rfl trivial e9 ?_
      refine aw_aload_n (pc' := 47) (i := 0) hC dX9_joins_46 rfl rfl rfl ?_
      refine aw_aload_n (pc' := 48) (i := 0) hC dX9_joins_47 rfl rfl rfl ?_
      refine aw_getfield (pc' := 51) (v := (.inr (.inr (M8 v0 44)))) hC dX9_joins_48 rfl fl_X9_146 g1 rfl ?_
      refine aw_aload_n (pc' := 52) (i := 0) hC dX9_joins_51 rfl rfl rfl ?_
      refine aw_getfield (pc' := 55) (v := (.inl (M8 v0 45))) hC dX9_joins_52 rfl fl_X9_149 g1 rfl ?_
      obtain ⟨g10, h⟩ := gd_s h
      refine aw_iaload (pc' := 56) hC dX9_joins_55 rfl g10 ?_
      refine aw_iconst (pc' := 57) hC dX9_joins_56 rfl (by decide) ?_
      obtain ⟨M12, q11, h⟩ := pb_s h
      replace h := u1_s h
      refine aw_cV (pc' := 60) (k2 := 0) (n2 := 0) (st := []) (stN := []) hC [.inl (M8 (M8 v0 44) (M8 v0 45)), .inl 0] (mX9_add q11) lk_X9_321 g1 dX9_joins_57 rfl rfl (Nat.le_of_ble_eq_true rfl) (Nat.le_of_ble_eq_true rfl) (Nat.le_of_ble_eq_true rfl) rfl (Nat.le_of_ble_eq_true rfl) rfl rfl rfl ?_
      refine aw_aload_n (pc' := 61) (i := 0) hC dX9_joins_60 rfl rfl rfl ?_
      refine aw_getfield (pc' := 64) (v := (.inr (.inr (M12 v0 44)))) hC dX9_joins_61 rfl fl_X9_146 g1 rfl ?_
      refine aw_aload_n (pc' := 65) (i := 0) hC dX9_joins_64 rfl rfl rfl ?_
      refine aw_getfield (pc' := 68) (v := (.inl (M12 v0 45))) hC dX9_joins_65 rfl fl_X9_149 g1 rfl ?_
      obtain ⟨g13, h⟩ := gd_s h
      refine aw_iaload (pc' := 69) hC dX9_joins_68 rfl g13 ?_
      refine aw_bipush (pc' := 71) hC dX9_joins_69 rfl (by decide) ?_
      refine aw_icmp_ne (tgt := 0) (pc' := 74) hC dX9_joins_71 (by decide) rfl (fun c14 => ?_) (fun c14 => ?_)
      · replace h := it_n c14 h
        refine aw_sub hC [some (.inr (.inr v0)), some (.inl v1)] ⟨rfl, ⟨rfl, trivial⟩⟩ (Nat.le_of_ble_eq_true rfl) ?_
        cases h
        exact hL _ rfl
      · replace h := it_p c14 h
        refine aw_aload_n (pc' := 75) (i := 0) hC dX9_joins_74 rfl rfl rfl ?_
        refine aw_dup (pc' := 76) hC dX9_joins_75 rfl rfl ?_
        refine aw_getfield (pc' := 79) (v := (.inl (M12 v0 43))) hC dX9_joins_76 rfl fl_X9_143 g1 rfl ?_
        refine aw_iconst (pc' := 80) hC dX9_joins_79 rfl (by decide) ?_
        refine aw_isub (pc' := 81) hC dX9_joins_80 rfl  ?_
        obtain ⟨M15, e16, h⟩ := bd_s h
        refine aw_pf (pc' := 84) hC dX9_joins_81 rfl fp_X9_143 g1 rfl trivial e16 ?_
        refine aw_goto (tgt := 0) hC dX9_joins_84 (by decide) ?_
        refine aw_sub hC [some (.inr (.inr v0)), some (.inl v1)] ⟨rfl, ⟨rfl, trivial⟩⟩ (Nat.le_of_ble_eq_true rfl) ?_
        cases h
        exact hL _ rfl
set_option maxRecDepth 100000 in
set_option maxHeartbeats 4000000 in
theorem mX9_joins {sh : AwS} {M : AwM} {v0 : Int} {v1 : Int} {M' : AwM} (h : fX9_joins sh M v0 v1 = some M') : AMet yX9_joins cX9_joins 2 none 2 0 0 [.inr (.inr v0), .inl v1] sh M none sh M' := by
  refine amet_of (by decide +kernel) (Nat.le_of_ble_eq_true rfl) (fun Γ hC => ?_)
  replace hC : AOK Γ RX9 cX9_joins 2 2 0 0 "joins" none := hC
  unfold fX9_joins at h
  refine aw_sub hC [some (.inr (.inr v0)), some (.inl v1)] ⟨rfl, ⟨rfl, trivial⟩⟩ (Nat.le_of_ble_eq_true rfl) ?_
  obtain ⟨tq17, q17, h⟩ := pb_s h
  refine aw_sub hC [some (.inr (.inr v0)), some (.inl v1)] ⟨rfl, ⟨rfl, trivial⟩⟩ (Nat.le_of_ble_eq_true rfl) ?_
  refine (lp_aw (p_X9_joins_L0 Γ sh v0 v1 (fin_ Γ 0 0 none sh M')) (x_X9_joins_L0 Γ sh v0 v1 (fin_ Γ 0 0 none sh M')) (w_X9_joins_L0 hC ) FU _ _ q17 ?_ : p_X9_joins_L0 Γ sh v0 v1 (fin_ Γ 0 0 none sh M') M)
  replace h := u1_s h
  show AW Γ sh tq17 0 0 87 [none, none] [] _
  cases h
  exact aw_vret hC dX9_joins_87 (Nat.le_of_ble_eq_true rfl) (Nat.le_of_ble_eq_true rfl)
-- CoinCircleModel.holdsBack(I)V
def fX9_holdsBack (sh : AwS) (M : AwM) (v0 : Int) (v1 : Int) : Option (AwM) :=
  gd_ (kd_ sh v0 = (0, 9)) (gd_ ((kd_ sh (M v0 44)).1 = 1 ∧ (0 : Int) ≤ (M v0 45) ∧ (M v0 45) < ((kd_ sh (M v0 44)).2 : Int)) (bd_ (up_ M (M v0 44) (M v0 45) v1) fun (M3 : AwM) => (bd_ (up_ M3 v0 45 (w32 ((M3 v0 45) + 1))) fun (M5 : AwM) => (some M5))))
set_option maxRecDepth 100000 in
set_option maxHeartbeats 4000000 in
theorem mX9_holdsBack {sh : AwS} {M : AwM} {v0 : Int} {v1 : Int} {M' : AwM} (h : fX9_holdsBack sh M v0 v1 = some M') : AMet yX9_holdsBack cX9_holdsBack 2 none 1 0 0 [.inr (.inr v0), .inl v1] sh M none sh M' := by
  refine amet_of (by decide +kernel) (Nat.le_of_ble_eq_true rfl) (fun Γ hC => ?_)
  replace hC : AOK Γ RX9 cX9_holdsBack 2 1 0 0 "holdsBack" none := hC
  unfold fX9_holdsBack at h
  refine aw_sub hC [some (.inr (.inr v0)), some (.inl v1)] ⟨rfl, ⟨rfl, trivial⟩⟩ (Nat.le_of_ble_eq_true rfl) ?_
  refine aw_aload_n (pc' := 1) (i := 0) hC dX9_holdsBack_0 rfl rfl rfl ?_
  obtain ⟨g1, h⟩ := gd_s h
  refine aw_getfield (pc' := 4) (v := (.inr (.inr (M v0 44)))) hC dX9_holdsBack_1 rfl fl_X9_146 g1 rfl ?_
  refine aw_aload_n (pc' := 5) (i := 0) hC dX9_holdsBack_4 rfl rfl rfl ?_
  refine aw_getfield (pc' := 8) (v := (.inl (M v0 45))) hC dX9_holdsBack_5 rfl fl_X9_149 g1 rfl ?_
  refine aw_iload_n (pc' := 9) (i := 1) hC dX9_holdsBack_8 rfl rfl rfl ?_
  obtain ⟨g2, h⟩ := gd_s h
  obtain ⟨M3, e4, h⟩ := bd_s h
  refine aw_ias (pc' := 10) hC dX9_holdsBack_9 rfl g2 e4 ?_
  refine aw_aload_n (pc' := 11) (i := 0) hC dX9_holdsBack_10 rfl rfl rfl ?_
  refine aw_dup (pc' := 12) hC dX9_holdsBack_11 rfl rfl ?_
  refine aw_getfield (pc' := 15) (v := (.inl (M3 v0 45))) hC dX9_holdsBack_12 rfl fl_X9_149 g1 rfl ?_
  refine aw_iconst (pc' := 16) hC dX9_holdsBack_15 rfl (by decide) ?_
  refine aw_iadd (pc' := 17) hC dX9_holdsBack_16 rfl  ?_
  obtain ⟨M5, e6, h⟩ := bd_s h
  refine aw_pf (pc' := 20) hC dX9_holdsBack_17 rfl fp_X9_149 g1 rfl trivial e6 ?_
  cases h
  exact aw_vret hC dX9_holdsBack_20 (Nat.le_of_ble_eq_true rfl) (Nat.le_of_ble_eq_true rfl)
-- CoinCircleModel.pushes(I)V
def fX9_pushes (sh : AwS) (M : AwM) (v0 : Int) (v1 : Int) : Option (AwM) :=
  gd_ (kd_ sh v0 = (0, 9)) (gd_ ((kd_ sh (M v0 37)).1 = 1 ∧ (0 : Int) ≤ (M v0 42) ∧ (M v0 42) < ((kd_ sh (M v0 37)).2 : Int)) (bd_ (up_ M (M v0 37) (M v0 42) v1) fun (M3 : AwM) => (gd_ ((kd_ sh (M3 v0 38)).1 = 1 ∧ (0 : Int) ≤ (M3 v0 42) ∧ (M3 v0 42) < ((kd_ sh (M3 v0 38)).2 : Int)) (bd_ (up_ M3 (M3 v0 38) (M3 v0 42) 0) fun (M6 : AwM) => (gd_ ((kd_ sh (M6 v0 39)).1 = 4 ∧ (0 : Int) ≤ (M6 v0 42) ∧ (M6 v0 42) < ((kd_ sh (M6 v0 39)).2 : Int)) (bd_ (up_ M6 (M6 v0 39) (M6 v0 42) 1) fun (M9 : AwM) => (gd_ ((kd_ sh (M9 v0 41)).1 = 1 ∧ (0 : Int) ≤ (M9 v0 42) ∧ (M9 v0 42) < ((kd_ sh (M9 v0 41)).2 : Int)) (bd_ (up_ M9 (M9 v0 41) (M9 v0 42) (M9 v0 45)) fun (M12 : AwM) => (bd_ (up_ M12 v0 42 (w32 ((M12 v0 42) + 1))) fun (M14 : AwM) => (some M14))))))))))
set_option maxRecDepth 100000 in
set_option maxHeartbeats 4000000 in
theorem mX9_pushes {sh : AwS} {M : AwM} {v0 : Int} {v1 : Int} {M' : AwM} (h : fX9_pushes sh M v0 v1 = some M') : AMet yX9_pushes cX9_pushes 2 none 1 0 0 [.inr (.inr v0), .inl v1] sh M none sh M' := by
  refine amet_of (by decide +kernel) (Nat.le_of_ble_eq_true rfl) (fun Γ hC => ?_)
  replace hC : AOK Γ RX9 cX9_pushes 2 1 0 0 "pushes" none := hC
  unfold fX9_pushes at h
  refine aw_sub hC [some (.inr (.inr v0)), some (.inl v1)] ⟨rfl, ⟨rfl, trivial⟩⟩ (Nat.le_of_ble_eq_true rfl) ?_
  refine aw_aload_n (pc' := 1) (i := 0) hC dX9_pushes_0 rfl rfl rfl ?_
  obtain ⟨g1, h⟩ := gd_s h
  refine aw_getfield (pc' := 4) (v := (.inr (.inr (M v0 37)))) hC dX9_pushes_1 rfl fl_X9_124 g1 rfl ?_
  refine aw_aload_n (pc' := 5) (i := 0) hC dX9_pushes_4 rfl rfl rfl ?_
  refine aw_getfield (pc' := 8) (v := (.inl (M v0 42))) hC dX9_pushes_5 rfl fl_X9_140 g1 rfl ?_
  refine aw_iload_n (pc' := 9) (i := 1) hC dX9_pushes_8 rfl rfl rfl ?_
  obtain ⟨g2, h⟩ := gd_s h
  obtain ⟨M3, e4, h⟩ := bd_s h
  refine aw_ias (pc' := 10) hC dX9_pushes_9 rfl g2 e4 ?_
  refine aw_aload_n (pc' := 11) (i := 0) hC dX9_pushes_10 rfl rfl rfl ?_
  refine aw_getfield (pc' := 14) (v := (.inr (.inr (M3 v0 38)))) hC dX9_pushes_11 rfl fl_X9_127 g1 rfl ?_
  refine aw_aload_n (pc' := 15) (i := 0) hC dX9_pushes_14 rfl rfl rfl ?_
  refine aw_getfield (pc' := 18) (v := (.inl (M3 v0 42))) hC dX9_pushes_15 rfl fl_X9_140 g1 rfl ?_
  refine aw_iconst (pc' := 19) hC dX9_pushes_18 rfl (by decide) ?_
  obtain ⟨g5, h⟩ := gd_s h
  obtain ⟨M6, e7, h⟩ := bd_s h
  refine aw_ias (pc' := 20) hC dX9_pushes_19 rfl g5 e7 ?_
  refine aw_aload_n (pc' := 21) (i := 0) hC dX9_pushes_20 rfl rfl rfl ?_
  refine aw_getfield (pc' := 24) (v := (.inr (.inr (M6 v0 39)))) hC dX9_pushes_21 rfl fl_X9_130 g1 rfl ?_
  refine aw_aload_n (pc' := 25) (i := 0) hC dX9_pushes_24 rfl rfl rfl ?_
  refine aw_getfield (pc' := 28) (v := (.inl (M6 v0 42))) hC dX9_pushes_25 rfl fl_X9_140 g1 rfl ?_
  refine aw_iconst (pc' := 29) hC dX9_pushes_28 rfl (by decide) ?_
  obtain ⟨g8, h⟩ := gd_s h
  obtain ⟨M9, e10, h⟩ := bd_s h
  refine aw_zas (pc' := 30) hC dX9_pushes_29 rfl g8 (Or.inr rfl) e10 ?_
  refine aw_aload_n (pc' := 31) (i := 0) hC dX9_pushes_30 rfl rfl rfl ?_
  refine aw_getfield (pc' := 34) (v := (.inr (.inr (M9 v0 41)))) hC dX9_pushes_31 rfl fl_X9_137 g1 rfl ?_
  refine aw_aload_n (pc' := 35) (i := 0) hC dX9_pushes_34 rfl rfl rfl ?_
  refine aw_getfield (pc' := 38) (v := (.inl (M9 v0 42))) hC dX9_pushes_35 rfl fl_X9_140 g1 rfl ?_
  refine aw_aload_n (pc' := 39) (i := 0) hC dX9_pushes_38 rfl rfl rfl ?_
  refine aw_getfield (pc' := 42) (v := (.inl (M9 v0 45))) hC dX9_pushes_39 rfl fl_X9_149 g1 rfl ?_
  obtain ⟨g11, h⟩ := gd_s h
  obtain ⟨M12, e13, h⟩ := bd_s h
  refine aw_ias (pc' := 43) hC dX9_pushes_42 rfl g11 e13 ?_
  refine aw_aload_n (pc' := 44) (i := 0) hC dX9_pushes_43 rfl rfl rfl ?_
  refine aw_dup (pc' := 45) hC dX9_pushes_44 rfl rfl ?_
  refine aw_getfield (pc' := 48) (v := (.inl (M12 v0 42))) hC dX9_pushes_45 rfl fl_X9_140 g1 rfl ?_
  refine aw_iconst (pc' := 49) hC dX9_pushes_48 rfl (by decide) ?_
  refine aw_iadd (pc' := 50) hC dX9_pushes_49 rfl  ?_
  obtain ⟨M14, e15, h⟩ := bd_s h
  refine aw_pf (pc' := 53) hC dX9_pushes_50 rfl fp_X9_140 g1 rfl trivial e15 ?_
  cases h
  exact aw_vret hC dX9_pushes_53 (Nat.le_of_ble_eq_true rfl) (Nat.le_of_ble_eq_true rfl)
-- CoinCircleModel.opens(I)V
def fX9_opens_J18 (sh : AwS) (M : AwM) (v0 : Int) (v1 : Int) : Option (AwM) :=
  gd_ (kd_ sh v0 = (0, 9)) ((if 0 < (M v0 8) then some M else bd_ (up_ M v0 43 (w32 ((M v0 43) + 1))) fun (M5 : AwM) => (pb (fX9_ahead sh M5 v0) <| u1 fun (M8 : AwM) => (pb (fX9_pushes sh M8 v0 v1) <| u1 fun (M10 : AwM) => (some M10)))))
def fX9_opens (sh : AwS) (M : AwM) (v0 : Int) (v1 : Int) : Option (AwM) :=
  gd_ (kd_ sh v0 = (0, 9)) ((if (M v0 43) = 7 then pb (fX9_blame sh M v0 5 (M v0 4)) <| u1 fun (M12 : AwM) => (fX9_opens_J18 sh M12 v0 v1) else fX9_opens_J18 sh M v0 v1))
set_option maxRecDepth 100000 in
set_option maxHeartbeats 4000000 in
theorem w_X9_opens_J18 {Γ : AwC} (hC : AOK Γ RX9 cX9_opens 2 3 0 0 "opens" none) {sh : AwS} {M : AwM} {v0 : Int} {v1 : Int} {M' : AwM} (h : fX9_opens_J18 sh M v0 v1 = some M') {Q : State → Prop} (hQ : Q = (fin_ Γ 0 0 none sh M')) : AW Γ sh M 0 0 18 [some (.inr (.inr v0)), some (.inl v1)] [] Q := by
  unfold fX9_opens_J18 at h
  refine aw_aload_n (pc' := 19) (i := 0) hC dX9_opens_18 rfl rfl rfl ?_
  obtain ⟨g3, h⟩ := gd_s h
  refine aw_getfield (pc' := 22) (v := (.inl (M v0 8))) hC dX9_opens_19 rfl fl_X9_36 g3 rfl ?_
  refine aw_if_le (tgt := 26) (pc' := 25) hC dX9_opens_22 (by decide) rfl (fun c4 => ?_) (fun c4 => ?_)
  · replace h := it_n c4 h
    refine aw_aload_n (pc' := 27) (i := 0) hC dX9_opens_26 rfl rfl rfl ?_
    refine aw_dup (pc' := 28) hC dX9_opens_27 rfl rfl ?_
    refine aw_getfield (pc' := 31) (v := (.inl (M v0 43))) hC dX9_opens_28 rfl fl_X9_143 g3 rfl ?_
    refine aw_iconst (pc' := 32) hC dX9_opens_31 rfl (by decide) ?_
    refine aw_iadd (pc' := 33) hC dX9_opens_32 rfl  ?_
    obtain ⟨M5, e6, h⟩ := bd_s h
    refine aw_pf (pc' := 36) hC dX9_opens_33 rfl fp_X9_143 g3 rfl trivial e6 ?_
    refine aw_aload_n (pc' := 37) (i := 0) hC dX9_opens_36 rfl rfl rfl ?_
    obtain ⟨M8, q7, h⟩ := pb_s h
    replace h := u1_s h
    refine aw_cV (pc' := 40) (k2 := 0) (n2 := 0) (st := []) (stN := []) hC [] (mX9_ahead q7) lk_X9_257 g3 dX9_opens_37 rfl rfl (Nat.le_of_ble_eq_true rfl) (Nat.le_of_ble_eq_true rfl) (Nat.le_of_ble_eq_true rfl) rfl (Nat.le_of_ble_eq_true rfl) rfl rfl rfl ?_
    refine aw_aload_n (pc' := 41) (i := 0) hC dX9_opens_40 rfl rfl rfl ?_
    refine aw_iload_n (pc' := 42) (i := 1) hC dX9_opens_41 rfl rfl rfl ?_
    obtain ⟨M10, q9, h⟩ := pb_s h
    replace h := u1_s h
    refine aw_cV (pc' := 45) (k2 := 0) (n2 := 0) (st := []) (stN := []) hC [.inl v1] (mX9_pushes q9) lk_X9_324 g3 dX9_opens_42 rfl rfl (Nat.le_of_ble_eq_true rfl) (Nat.le_of_ble_eq_true rfl) (Nat.le_of_ble_eq_true rfl) rfl (Nat.le_of_ble_eq_true rfl) rfl rfl rfl ?_
    cases h
    subst hQ
    exact aw_vret hC dX9_opens_45 (Nat.le_of_ble_eq_true rfl) (Nat.le_of_ble_eq_true rfl)
  · replace h := it_p c4 h
    cases h
    subst hQ
    exact aw_vret hC dX9_opens_25 (Nat.le_of_ble_eq_true rfl) (Nat.le_of_ble_eq_true rfl)
set_option maxRecDepth 100000 in
set_option maxHeartbeats 4000000 in
theorem mX9_opens {sh : AwS} {M : AwM} {v0 : Int} {v1 : Int} {M' : AwM} (h : fX9_opens sh M v0 v1 = some M') : AMet yX9_opens cX9_opens 2 none 3 0 0 [.inr (.inr v0), .inl v1] sh M none sh M' := by
  refine amet_of (by decide +kernel) (Nat.le_of_ble_eq_true rfl) (fun Γ hC => ?_)
  replace hC : AOK Γ RX9 cX9_opens 2 3 0 0 "opens" none := hC
  unfold fX9_opens at h
  refine aw_sub hC [some (.inr (.inr v0)), some (.inl v1)] ⟨rfl, ⟨rfl, trivial⟩⟩ (Nat.le_of_ble_eq_true rfl) ?_
  refine aw_aload_n (pc' := 1) (i := 0) hC dX9_opens_0 rfl rfl rfl ?_
  obtain ⟨g1, h⟩ := gd_s h
  refine aw_getfield (pc' := 4) (v := (.inl (M v0 43))) hC dX9_opens_1 rfl fl_X9_143 g1 rfl ?_
  refine aw_bipush (pc' := 6) hC dX9_opens_4 rfl (by decide) ?_
  refine aw_icmp_ne (tgt := 18) (pc' := 9) hC dX9_opens_6 (by decide) rfl (fun c2 => ?_) (fun c2 => ?_)
  · replace h := it_n c2 h
    refine aw_sub hC [some (.inr (.inr v0)), some (.inl v1)] ⟨rfl, ⟨rfl, trivial⟩⟩ (Nat.le_of_ble_eq_true rfl) ?_
    exact w_X9_opens_J18 hC h rfl
  · replace h := it_p c2 h
    refine aw_aload_n (pc' := 10) (i := 0) hC dX9_opens_9 rfl rfl rfl ?_
    refine aw_iconst (pc' := 11) hC dX9_opens_10 rfl (by decide) ?_
    refine aw_aload_n (pc' := 12) (i := 0) hC dX9_opens_11 rfl rfl rfl ?_
    refine aw_getfield (pc' := 15) (v := (.inl (M v0 4))) hC dX9_opens_12 rfl fl_X9_23 g1 rfl ?_
    obtain ⟨M12, q11, h⟩ := pb_s h
    replace h := u1_s h
    refine aw_cV (pc' := 18) (k2 := 0) (n2 := 0) (st := []) (stN := []) hC [.inl 5, .inl (M v0 4)] (mX9_blame q11) lk_X9_236 g1 dX9_opens_15 rfl rfl (Nat.le_of_ble_eq_true rfl) (Nat.le_of_ble_eq_true rfl) (Nat.le_of_ble_eq_true rfl) rfl (Nat.le_of_ble_eq_true rfl) rfl rfl rfl ?_
    refine aw_sub hC [some (.inr (.inr v0)), some (.inl v1)] ⟨rfl, ⟨rfl, trivial⟩⟩ (Nat.le_of_ble_eq_true rfl) ?_
    exact w_X9_opens_J18 hC h rfl
