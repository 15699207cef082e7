-- CoinCircle.refuse(I)I
def fX8_refuse (sh : AwS) (M : AwM) (v0 : Int) (v1 : Int) : Option (Int × AwM) :=
  (if v1 < 0 then some ((-1), M) else (if v1 < 6 then gd_ (kd_ sh v0 = (0, 8)) (gd_ ((kd_ sh (M v0 8)).1 = 1 ∧ (0 : Int) ≤ v1 ∧ v1 < ((kd_ sh (M v0 8)).2 : Int)) (bd_ (up_ M (M v0 8) v1 (w32 ((M (M v0 8) v1) + 1))) fun (M5 : AwM) => (some ((-1), M5)))) else some ((-1), M)))
set_option maxRecDepth 100000 in
set_option maxHeartbeats 4000000 in
theorem mX8_refuse {sh : AwS} {M : AwM} {v0 : Int} {v1 : Int} {r : Int} {M' : AwM} (h : fX8_refuse sh M v0 v1 = some (r, M')) : AMet yX8_refuse cX8_refuse 2 (some .int) 1 0 0 [.inr (.inr v0), .inl v1] sh M (some (.inl r)) sh M' := by
  refine amet_of (by decide +kernel) (Nat.le_of_ble_eq_true rfl) (fun Γ hC => ?_)
  replace hC : AOK Γ RX8 cX8_refuse 2 1 0 0 "refuse" (some .int) := hC
  unfold fX8_refuse at h
  refine aw_sub hC [some (.inr (.inr v0)), some (.inl v1)] ⟨rfl, ⟨rfl, trivial⟩⟩ (Nat.le_of_ble_eq_true rfl) ?_
  refine aw_iload_n (pc' := 1) (i := 1) hC dX8_refuse_0 rfl rfl rfl ?_
  refine aw_if_lt (tgt := 20) (pc' := 4) hC dX8_refuse_1 (by decide) rfl (fun c1 => ?_) (fun c1 => ?_)
  · replace h := it_p c1 h
    refine aw_iconst (pc' := 21) hC dX8_refuse_20 rfl (by decide) ?_
    cases h
    exact aw_iret hC dX8_refuse_21 (Nat.le_of_ble_eq_true rfl) (Nat.le_of_ble_eq_true rfl)
  · replace h := it_n c1 h
    refine aw_iload_n (pc' := 5) (i := 1) hC dX8_refuse_4 rfl rfl rfl ?_
    refine aw_bipush (pc' := 7) hC dX8_refuse_5 rfl (by decide) ?_
    refine aw_icmp_ge (tgt := 20) (pc' := 10) hC dX8_refuse_7 (by decide) rfl (fun c2 => ?_) (fun c2 => ?_)
    · replace h := it_n c2 h
      refine aw_iconst (pc' := 21) hC dX8_refuse_20 rfl (by decide) ?_
      cases h
      exact aw_iret hC dX8_refuse_21 (Nat.le_of_ble_eq_true rfl) (Nat.le_of_ble_eq_true rfl)
    · replace h := it_p c2 h
      refine aw_aload_n (pc' := 11) (i := 0) hC dX8_refuse_10 rfl rfl rfl ?_
      obtain ⟨g3, h⟩ := gd_s h
      refine aw_getfield (pc' := 14) (v := (.inr (.inr (M v0 8)))) hC dX8_refuse_11 rfl fl_X8_34 g3 rfl ?_
      refine aw_iload_n (pc' := 15) (i := 1) hC dX8_refuse_14 rfl rfl rfl ?_
      refine aw_dup2 (pc' := 16) hC dX8_refuse_15 rfl rfl rfl ?_
      obtain ⟨g4, h⟩ := gd_s h
      refine aw_iaload (pc' := 17) hC dX8_refuse_16 rfl g4 ?_
      refine aw_iconst (pc' := 18) hC dX8_refuse_17 rfl (by decide) ?_
      refine aw_iadd (pc' := 19) hC dX8_refuse_18 rfl  ?_
      obtain ⟨M5, e6, h⟩ := bd_s h
      refine aw_ias (pc' := 20) hC dX8_refuse_19 rfl g4 e6 ?_
      refine aw_iconst (pc' := 21) hC dX8_refuse_20 rfl (by decide) ?_
      cases h
      exact aw_iret hC dX8_refuse_21 (Nat.le_of_ble_eq_true rfl) (Nat.le_of_ble_eq_true rfl)
-- CoinCircle.end(I)Z
def fX8_end (sh : AwS) (M : AwM) (v0 : Int) (v1 : Int) : Option (Int × AwM) :=
  (if v1 < 0 then gd_ (kd_ sh v0 = (0, 8)) (pb (fX8_refuse sh M v0 0) <| u2 fun (x4 : Int) (M5 : AwM) => (some (0, M5))) else gd_ (kd_ sh v0 = (0, 8)) ((if (M v0 1) < v1 then pb (fX8_refuse sh M v0 0) <| u2 fun (x11 : Int) (M12 : AwM) => (some (0, M12)) else bd_ (up_ M v0 1 v1) fun (M8 : AwM) => (some (1, M8)))))
set_option maxRecDepth 100000 in
set_option maxHeartbeats 4000000 in
theorem mX8_end {sh : AwS} {M : AwM} {v0 : Int} {v1 : Int} {r : Int} {M' : AwM} (h : fX8_end sh M v0 v1 = some (r, M')) : AMet yX8_end cX8_end 2 (some .boolean) 2 0 0 [.inr (.inr v0), .inl v1] sh M (some (.inl r)) sh M' := by
  refine amet_of (by decide +kernel) (Nat.le_of_ble_eq_true rfl) (fun Γ hC => ?_)
  replace hC : AOK Γ RX8 cX8_end 2 2 0 0 "end" (some .boolean) := hC
  unfold fX8_end at h
  refine aw_sub hC [some (.inr (.inr v0)), some (.inl v1)] ⟨rfl, ⟨rfl, trivial⟩⟩ (Nat.le_of_ble_eq_true rfl) ?_
  refine aw_iload_n (pc' := 1) (i := 1) hC dX8_end_0 rfl rfl rfl ?_
  refine aw_if_lt (tgt := 12) (pc' := 4) hC dX8_end_1 (by decide) rfl (fun c1 => ?_) (fun c1 => ?_)
  · replace h := it_p c1 h
    refine aw_aload_n (pc' := 13) (i := 0) hC dX8_end_12 rfl rfl rfl ?_
    refine aw_iconst (pc' := 14) hC dX8_end_13 rfl (by decide) ?_
    obtain ⟨g3, h⟩ := gd_s h
    obtain ⟨⟨x4, M5⟩, q2, h⟩ := pb_s h
    replace h := u2_s h
    refine aw_cV (pc' := 17) (k2 := 0) (n2 := 0) (st := []) (stN := [.inl x4]) hC [.inl 0] (mX8_refuse q2) lk_X8_70 g3 dX8_end_14 rfl rfl (Nat.le_of_ble_eq_true rfl) (Nat.le_of_ble_eq_true rfl) (Nat.le_of_ble_eq_true rfl) rfl (Nat.le_of_ble_eq_true rfl) rfl rfl rfl ?_
    refine aw_pop (pc' := 18) hC dX8_end_17 rfl rfl ?_
    refine aw_iconst (pc' := 19) hC dX8_end_18 rfl (by decide) ?_
    cases h
    exact aw_zret hC (Or.inl rfl) dX8_end_19 (Nat.le_of_ble_eq_true rfl) (Nat.le_of_ble_eq_true rfl)
  · replace h := it_n c1 h
    refine aw_iload_n (pc' := 5) (i := 1) hC dX8_end_4 rfl rfl rfl ?_
    refine aw_aload_n (pc' := 6) (i := 0) hC dX8_end_5 rfl rfl rfl ?_
    obtain ⟨g6, h⟩ := gd_s h
    refine aw_getfield (pc' := 9) (v := (.inl (M v0 1))) hC dX8_end_6 rfl fl_X8_67 g6 rfl ?_
    refine aw_icmp_le (tgt := 20) (pc' := 12) hC dX8_end_9 (by decide) rfl (fun c7 => ?_) (fun c7 => ?_)
    · replace h := it_n c7 h
      refine aw_aload_n (pc' := 21) (i := 0) hC dX8_end_20 rfl rfl rfl ?_
      refine aw_iload_n (pc' := 22) (i := 1) hC dX8_end_21 rfl rfl rfl ?_
      obtain ⟨M8, e9, h⟩ := bd_s h
      refine aw_pf (pc' := 25) hC dX8_end_22 rfl fp_X8_67 g6 rfl trivial e9 ?_
      refine aw_iconst (pc' := 26) hC dX8_end_25 rfl (by decide) ?_
      cases h
      exact aw_zret hC (Or.inr rfl) dX8_end_26 (Nat.le_of_ble_eq_true rfl) (Nat.le_of_ble_eq_true rfl)
    · replace h := it_p c7 h
      refine aw_aload_n (pc' := 13) (i := 0) hC dX8_end_12 rfl rfl rfl ?_
      refine aw_iconst (pc' := 14) hC dX8_end_13 rfl (by decide) ?_
      obtain ⟨⟨x11, M12⟩, q10, h⟩ := pb_s h
      replace h := u2_s h
      refine aw_cV (pc' := 17) (k2 := 0) (n2 := 0) (st := []) (stN := [.inl x11]) hC [.inl 0] (mX8_refuse q10) lk_X8_70 g6 dX8_end_14 rfl rfl (Nat.le_of_ble_eq_true rfl) (Nat.le_of_ble_eq_true rfl) (Nat.le_of_ble_eq_true rfl) rfl (Nat.le_of_ble_eq_true rfl) rfl rfl rfl ?_
      refine aw_pop (pc' := 18) hC dX8_end_17 rfl rfl ?_
      refine aw_iconst (pc' := 19) hC dX8_end_18 rfl (by decide) ?_
      cases h
      exact aw_zret hC (Or.inl rfl) dX8_end_19 (Nat.le_of_ble_eq_true rfl) (Nat.le_of_ble_eq_true rfl)
-- CoinCircle.isIn(II)Z
def fX8_isIn (sh : AwS) (M : AwM) (v0 : Int) (v1 : Int) : Option Int :=
  (if v1 < 0 then some 0 else (if v1 < 31 then (if (an_ (sr_ v0 v1) 1) = 0 then some 0 else some 1) else some 0))
set_option maxRecDepth 100000 in
set_option maxHeartbeats 4000000 in
theorem mX8_isIn {sh : AwS} {M : AwM} {v0 : Int} {v1 : Int} {r : Int} (h : fX8_isIn sh M v0 v1 = some r) : AMet yX8_isIn cX8_isIn 2 (some .boolean) 1 0 0 [.inl v0, .inl v1] sh M (some (.inl r)) sh M := by
  refine amet_of (by decide +kernel) (Nat.le_of_ble_eq_true rfl) (fun Γ hC => ?_)
  replace hC : AOK Γ RX8 cX8_isIn 2 1 0 0 "isIn" (some .boolean) := hC
  unfold fX8_isIn at h
  refine aw_sub hC [some (.inl v0), some (.inl v1)] ⟨rfl, ⟨rfl, trivial⟩⟩ (Nat.le_of_ble_eq_true rfl) ?_
  refine aw_iload_n (pc' := 1) (i := 1) hC dX8_isIn_0 rfl rfl rfl ?_
  refine aw_if_lt (tgt := 22) (pc' := 4) hC dX8_isIn_1 (by decide) rfl (fun c1 => ?_) (fun c1 => ?_)
  · replace h := it_p c1 h
    refine aw_iconst (pc' := 23) hC dX8_isIn_22 rfl (by decide) ?_
    cases h
    exact aw_zret hC (Or.inl rfl) dX8_isIn_23 (Nat.le_of_ble_eq_true rfl) (Nat.le_of_ble_eq_true rfl)
  · replace h := it_n c1 h
    refine aw_iload_n (pc' := 5) (i := 1) hC dX8_isIn_4 rfl rfl rfl ?_
    refine aw_bipush (pc' := 7) hC dX8_isIn_5 rfl (by decide) ?_
    refine aw_icmp_ge (tgt := 22) (pc' := 10) hC dX8_isIn_7 (by decide) rfl (fun c2 => ?_) (fun c2 => ?_)
    · replace h := it_n c2 h
      refine aw_iconst (pc' := 23) hC dX8_isIn_22 rfl (by decide) ?_
      cases h
      exact aw_zret hC (Or.inl rfl) dX8_isIn_23 (Nat.le_of_ble_eq_true rfl) (Nat.le_of_ble_eq_true rfl)
    · replace h := it_p c2 h
      refine aw_iload_n (pc' := 11) (i := 0) hC dX8_isIn_10 rfl rfl rfl ?_
      refine aw_iload_n (pc' := 12) (i := 1) hC dX8_isIn_11 rfl rfl rfl ?_
      refine aw_ishr (pc' := 13) hC dX8_isIn_12 rfl  ?_
      refine aw_iconst (pc' := 14) hC dX8_isIn_13 rfl (by decide) ?_
      refine aw_iand (pc' := 15) hC dX8_isIn_14 rfl  ?_
      refine aw_if_eq (tgt := 22) (pc' := 18) hC dX8_isIn_15 (by decide) rfl (fun c3 => ?_) (fun c3 => ?_)
      · replace h := it_p c3 h
        refine aw_iconst (pc' := 23) hC dX8_isIn_22 rfl (by decide) ?_
        cases h
        exact aw_zret hC (Or.inl rfl) dX8_isIn_23 (Nat.le_of_ble_eq_true rfl) (Nat.le_of_ble_eq_true rfl)
      · replace h := it_n c3 h
        refine aw_iconst (pc' := 19) hC dX8_isIn_18 rfl (by decide) ?_
        refine aw_goto (tgt := 23) hC dX8_isIn_19 (by decide) ?_
        cases h
        exact aw_zret hC (Or.inr rfl) dX8_isIn_23 (Nat.le_of_ble_eq_true rfl) (Nat.le_of_ble_eq_true rfl)
-- CoinCircle.fault(I)I
def fX8_fault (sh : AwS) (M : AwM) (v0 : Int) (v1 : Int) : Option Int :=
  (if v1 = 0 then gd_ (kd_ sh v0 = (0, 8)) (gd_ (kd_ sh (M v0 2) = (0, 6)) (some (M (M v0 2) 4))) else (if v1 = 1 then gd_ (kd_ sh v0 = (0, 8)) (gd_ (kd_ sh (M v0 2) = (0, 6)) (some (M (M v0 2) 5))) else some (-1)))
set_option maxRecDepth 100000 in
set_option maxHeartbeats 4000000 in
theorem mX8_fault {sh : AwS} {M : AwM} {v0 : Int} {v1 : Int} {r : Int} (h : fX8_fault sh M v0 v1 = some r) : AMet yX8_fault cX8_fault 2 (some .int) 1 0 0 [.inr (.inr v0), .inl v1] sh M (some (.inl r)) sh M := by
  refine amet_of (by decide +kernel) (Nat.le_of_ble_eq_true rfl) (fun Γ hC => ?_)
  replace hC : AOK Γ RX8 cX8_fault 2 1 0 0 "fault" (some .int) := hC
  unfold fX8_fault at h
  refine aw_sub hC [some (.inr (.inr v0)), some (.inl v1)] ⟨rfl, ⟨rfl, trivial⟩⟩ (Nat.le_of_ble_eq_true rfl) ?_
  refine aw_iload_n (pc' := 1) (i := 1) hC dX8_fault_0 rfl rfl rfl ?_
  by_cases c1 : v1 = 0
  · replace h := it_p c1 h
    refine aw_ls (tgt := 28) (off := 27) hC dX8_fault_1 (by decide) (os_p c1) (by decide) ?_
    refine aw_aload_n (pc' := 29) (i := 0) hC dX8_fault_28 rfl rfl rfl ?_
    obtain ⟨g3, h⟩ := gd_s h
    refine aw_getfield (pc' := 32) (v := (.inr (.inr (M v0 2)))) hC dX8_fault_29 rfl fl_X8_16 g3 rfl ?_
    obtain ⟨g4, h⟩ := gd_s h
    refine aw_getfield (pc' := 35) (v := (.inl (M (M v0 2) 4))) hC dX8_fault_32 rfl fl_X8_95 g4 rfl ?_
    cases h
    exact aw_iret hC dX8_fault_35 (Nat.le_of_ble_eq_true rfl) (Nat.le_of_ble_eq_true rfl)
  · replace h := it_n c1 h
    by_cases c2 : v1 = 1
    · replace h := it_p c2 h
      refine aw_ls (tgt := 36) (off := 35) hC dX8_fault_1 (by decide) ((os_n c1).trans (os_p c2)) (by decide) ?_
      refine aw_aload_n (pc' := 37) (i := 0) hC dX8_fault_36 rfl rfl rfl ?_
      obtain ⟨g5, h⟩ := gd_s h
      refine aw_getfield (pc' := 40) (v := (.inr (.inr (M v0 2)))) hC dX8_fault_37 rfl fl_X8_16 g5 rfl ?_
      obtain ⟨g6, h⟩ := gd_s h
      refine aw_getfield (pc' := 43) (v := (.inl (M (M v0 2) 5))) hC dX8_fault_40 rfl fl_X8_98 g6 rfl ?_
      cases h
      exact aw_iret hC dX8_fault_43 (Nat.le_of_ble_eq_true rfl) (Nat.le_of_ble_eq_true rfl)
    · replace h := it_n c2 h
      refine aw_ls (tgt := 44) (off := 43) hC dX8_fault_1 (by decide) ((os_n c1).trans ((os_n c2).trans rfl)) (by decide) ?_
      refine aw_iconst (pc' := 45) hC dX8_fault_44 rfl (by decide) ?_
      cases h
      exact aw_iret hC dX8_fault_45 (Nat.le_of_ble_eq_true rfl) (Nat.le_of_ble_eq_true rfl)
-- CoinCircle$Circle.coins()I
def fX0_coins (sh : AwS) (M : AwM) (v0 : Int) : Option Int :=
  gd_ (kd_ sh v0 = (0, 0)) (gd_ (kd_ sh (M v0 1) = (0, 5)) (gd_ ((kd_ sh (M (M v0 1) 0)).1 = 1 ∧ (0 : Int) ≤ 1 ∧ 1 < ((kd_ sh (M (M v0 1) 0)).2 : Int)) (some (M (M (M v0 1) 0) 1))))
set_option maxRecDepth 100000 in
set_option maxHeartbeats 4000000 in
theorem mX0_coins {sh : AwS} {M : AwM} {v0 : Int} {r : Int} (h : fX0_coins sh M v0 = some r) : AMet yX0_coins cX0_coins 1 (some .int) 1 0 0 [.inr (.inr v0)] sh M (some (.inl r)) sh M := by
  refine amet_of (by decide +kernel) (Nat.le_of_ble_eq_true rfl) (fun Γ hC => ?_)
  replace hC : AOK Γ RX0 cX0_coins 1 1 0 0 "coins" (some .int) := hC
  unfold fX0_coins at h
  refine aw_sub hC [some (.inr (.inr v0))] ⟨rfl, trivial⟩ (Nat.le_of_ble_eq_true rfl) ?_
  refine aw_aload_n (pc' := 1) (i := 0) hC dX0_coins_0 rfl rfl rfl ?_
  obtain ⟨g1, h⟩ := gd_s h
  refine aw_getfield (pc' := 4) (v := (.inr (.inr (M v0 1)))) hC dX0_coins_1 rfl fl_X0_22 g1 rfl ?_
  obtain ⟨g2, h⟩ := gd_s h
  refine aw_getfield (pc' := 7) (v := (.inr (.inr (M (M v0 1) 0)))) hC dX0_coins_4 rfl fl_X0_48 g2 rfl ?_
  refine aw_iconst (pc' := 8) hC dX0_coins_7 rfl (by decide) ?_
  obtain ⟨g3, h⟩ := gd_s h
  refine aw_iaload (pc' := 9) hC dX0_coins_8 rfl g3 ?_
  cases h
  exact aw_iret hC dX0_coins_9 (Nat.le_of_ble_eq_true rfl) (Nat.le_of_ble_eq_true rfl)
-- java/lang/Integer.bitCount(I)I
def fJ6_bitCount_0f7a4 (sh : AwS) (M : AwM) (v0 : Int) : Option Int :=
  bd_ ((w32 ((an_ (w32 (v0 - (an_ (us_ v0 1) 1431655765))) 858993459) + (an_ (us_ (w32 (v0 - (an_ (us_ v0 1) 1431655765))) 2) 858993459)))) fun (x1 : Int) => (bd_ ((w32 ((an_ (w32 (x1 + (us_ x1 4))) 252645135) + (us_ (an_ (w32 (x1 + (us_ x1 4))) 252645135) 8)))) fun (x3 : Int) => (some (an_ (w32 (x3 + (us_ x3 16))) 63)))
set_option maxRecDepth 100000 in
set_option maxHeartbeats 4000000 in
theorem mJ6_bitCount_0f7a4 {sh : AwS} {M : AwM} {v0 : Int} {r : Int} (h : fJ6_bitCount_0f7a4 sh M v0 = some r) : AMet yJ6_bitCount_0f7a4 cJ6_bitCount_0f7a4 1 (some .int) 1 0 0 [.inl v0] sh M (some (.inl r)) sh M := by
  refine amet_of (by decide +kernel) (Nat.le_of_ble_eq_true rfl) (fun Γ hC => ?_)
  replace hC : AOK Γ RJ6 cJ6_bitCount_0f7a4 1 1 0 0 "bitCount" (some .int) := hC
  unfold fJ6_bitCount_0f7a4 at h
  refine aw_sub hC [some (.inl v0)] ⟨rfl, trivial⟩ (Nat.le_of_ble_eq_true rfl) ?_
  refine aw_iload_n (pc' := 1) (i := 0) hC dJ6_bitCount_0f7a4_0 rfl rfl rfl ?_
  refine aw_iload_n (pc' := 2) (i := 0) hC dJ6_bitCount_0f7a4_1 rfl rfl rfl ?_
  refine aw_iconst (pc' := 3) hC dJ6_bitCount_0f7a4_2 rfl (by decide) ?_
  refine aw_iushr (pc' := 4) hC dJ6_bitCount_0f7a4_3 rfl  ?_
  refine aw_ldcw (pc' := 7) (v := 1431655765) hC dJ6_bitCount_0f7a4_4 rfl ck_J6_265 (by unfold I32; omega) ?_
  refine aw_iand (pc' := 8) hC dJ6_bitCount_0f7a4_7 rfl  ?_
  refine aw_isub (pc' := 9) hC dJ6_bitCount_0f7a4_8 rfl  ?_
  refine aw_istore_n (pc' := 10) (i := 0) (ls' := [some (.inl (w32 (v0 - (an_ (us_ v0 1) 1431655765))))]) hC dJ6_bitCount_0f7a4_9 rfl rfl (Nat.le_of_ble_eq_true rfl) rfl rfl ?_
  refine aw_iload_n (pc' := 11) (i := 0) hC dJ6_bitCount_0f7a4_10 rfl rfl rfl ?_
  refine aw_ldcw (pc' := 14) (v := 858993459) hC dJ6_bitCount_0f7a4_11 rfl ck_J6_266 (by unfold I32; omega) ?_
  refine aw_iand (pc' := 15) hC dJ6_bitCount_0f7a4_14 rfl  ?_
  refine aw_iload_n (pc' := 16) (i := 0) hC dJ6_bitCount_0f7a4_15 rfl rfl rfl ?_
  refine aw_iconst (pc' := 17) hC dJ6_bitCount_0f7a4_16 rfl (by decide) ?_
  refine aw_iushr (pc' := 18) hC dJ6_bitCount_0f7a4_17 rfl  ?_
  refine aw_ldcw (pc' := 21) (v := 858993459) hC dJ6_bitCount_0f7a4_18 rfl ck_J6_266 (by unfold I32; omega) ?_
  refine aw_iand (pc' := 22) hC dJ6_bitCount_0f7a4_21 rfl  ?_
  refine aw_iadd (pc' := 23) hC dJ6_bitCount_0f7a4_22 rfl  ?_
  obtain ⟨x1, e2, h⟩ := bd_s h
  refine aw_reni e2 ?_
  refine aw_istore_n (pc' := 24) (i := 0) (ls' := [some (.inl x1)]) hC dJ6_bitCount_0f7a4_23 rfl rfl (Nat.le_of_ble_eq_true rfl) rfl rfl ?_
  refine aw_iload_n (pc' := 25) (i := 0) hC dJ6_bitCount_0f7a4_24 rfl rfl rfl ?_
  refine aw_iload_n (pc' := 26) (i := 0) hC dJ6_bitCount_0f7a4_25 rfl rfl rfl ?_
  refine aw_iconst (pc' := 27) hC dJ6_bitCount_0f7a4_26 rfl (by decide) ?_
  refine aw_iushr (pc' := 28) hC dJ6_bitCount_0f7a4_27 rfl  ?_
  refine aw_iadd (pc' := 29) hC dJ6_bitCount_0f7a4_28 rfl  ?_
  refine aw_ldcw (pc' := 32) (v := 252645135) hC dJ6_bitCount_0f7a4_29 rfl ck_J6_267 (by unfold I32; omega) ?_
  refine aw_iand (pc' := 33) hC dJ6_bitCount_0f7a4_32 rfl  ?_
  refine aw_istore_n (pc' := 34) (i := 0) (ls' := [some (.inl (an_ (w32 (x1 + (us_ x1 4))) 252645135))]) hC dJ6_bitCount_0f7a4_33 rfl rfl (Nat.le_of_ble_eq_true rfl) rfl rfl ?_
  refine aw_iload_n (pc' := 35) (i := 0) hC dJ6_bitCount_0f7a4_34 rfl rfl rfl ?_
  refine aw_iload_n (pc' := 36) (i := 0) hC dJ6_bitCount_0f7a4_35 rfl rfl rfl ?_
  refine aw_bipush (pc' := 38) hC dJ6_bitCount_0f7a4_36 rfl (by decide) ?_
  refine aw_iushr (pc' := 39) hC dJ6_bitCount_0f7a4_38 rfl  ?_
  refine aw_iadd (pc' := 40) hC dJ6_bitCount_0f7a4_39 rfl  ?_
  obtain ⟨x3, e4, h⟩ := bd_s h
  refine aw_reni e4 ?_
  refine aw_istore_n (pc' := 41) (i := 0) (ls' := [some (.inl x3)]) hC dJ6_bitCount_0f7a4_40 rfl rfl (Nat.le_of_ble_eq_true rfl) rfl rfl ?_
  refine aw_iload_n (pc' := 42) (i := 0) hC dJ6_bitCount_0f7a4_41 rfl rfl rfl ?_
  refine aw_iload_n (pc' := 43) (i := 0) hC dJ6_bitCount_0f7a4_42 rfl rfl rfl ?_
  refine aw_bipush (pc' := 45) hC dJ6_bitCount_0f7a4_43 rfl (by decide) ?_
  refine aw_iushr (pc' := 46) hC dJ6_bitCount_0f7a4_45 rfl  ?_
  refine aw_iadd (pc' := 47) hC dJ6_bitCount_0f7a4_46 rfl  ?_
  refine aw_istore_n (pc' := 48) (i := 0) (ls' := [some (.inl (w32 (x3 + (us_ x3 16))))]) hC dJ6_bitCount_0f7a4_47 rfl rfl (Nat.le_of_ble_eq_true rfl) rfl rfl ?_
  refine aw_iload_n (pc' := 49) (i := 0) hC dJ6_bitCount_0f7a4_48 rfl rfl rfl ?_
  refine aw_bipush (pc' := 51) hC dJ6_bitCount_0f7a4_49 rfl (by decide) ?_
  refine aw_iand (pc' := 52) hC dJ6_bitCount_0f7a4_51 rfl  ?_
  cases h
  exact aw_iret hC dJ6_bitCount_0f7a4_52 (Nat.le_of_ble_eq_true rfl) (Nat.le_of_ble_eq_true rfl)
-- CoinCircle$Circle.flow()I
def fX0_flow_L4 (sh : AwS) (M : AwM) (v0 : Int) (v1 : Int) (v2 : Int) : Option ((Int × Int) ⊕ (Int)) :=
  gd_ (kd_ sh v0 = (0, 0)) (pb (fX0_coins sh M v0) <| u1 fun (x3 : Int) => ((if v2 < x3 then gd_ (kd_ sh (M v0 1) = (0, 5)) (gd_ ((kd_ sh (M (M v0 1) 3)).1 = 1 ∧ (0 : Int) ≤ v2 ∧ v2 < ((kd_ sh (M (M v0 1) 3)).2 : Int)) (gd_ (kd_ sh (M v0 0) = (0, 3)) (gd_ ((kd_ sh (M (M v0 0) 2)).1 = 1 ∧ (0 : Int) ≤ v2 ∧ v2 < ((kd_ sh (M (M v0 0) 2)).2 : Int)) (pb (fJ6_bitCount_0f7a4 sh M (M (M (M v0 0) 2) v2)) <| u1 fun (x10 : Int) => (bd_ ((w32 (v1 + (w32 ((M (M (M v0 1) 3) v2) * (w32 (x10 - 1))))))) fun (x11 : Int) => (some (.inl (x11, (w32 (v2 + 1)))))))))) else some (.inr v1))))
def p_X0_flow_L4 (Γ : AwC) (sh : AwS) (M : AwM) (v0 : Int) (Q : State → Prop) (s : Int × Int) : Prop := AW Γ sh M 0 0 4 [some (.inr (.inr v0)), some (.inl (s.1)), some (.inl (s.2))] [] Q
def x_X0_flow_L4 (Γ : AwC) (sh : AwS) (M : AwM) (v0 : Int) (Q : State → Prop) : (Int) → Prop := (fun (t : Int) => AW Γ sh M 0 0 45 [none, some (.inl (t)), none] [] Q)
def fX0_flow (sh : AwS) (M : AwM) (v0 : Int) : Option Int :=
  pb (lp (u2 (fX0_flow_L4 sh M v0)) FU (0, 0)) (u1 (fun (tq13 : Int) => some tq13))
set_option maxRecDepth 100000 in
set_option maxHeartbeats 4000000 in
theorem w_X0_flow_L4 {Γ : AwC} (hC : AOK Γ RX0 cX0_flow 3 2 0 0 "flow" (some .int)) {sh : AwS} {M : AwM} {v0 : Int} {Q : State → Prop} : ∀ s r, u2 (fX0_flow_L4 sh M v0) s = some r → (∀ s', r = .inl s' → p_X0_flow_L4 Γ sh M v0 Q s') → (∀ t, r = .inr t → x_X0_flow_L4 Γ sh M v0 Q t) → p_X0_flow_L4 Γ sh M v0 Q s := by
  intro s r h hL hX
  obtain ⟨v1, v2⟩ := s
  replace h := u2_s h
  unfold fX0_flow_L4 at h
  show AW Γ sh M 0 0 4 [some (.inr (.inr v0)), some (.inl v1), some (.inl v2)] [] Q
  refine aw_iload_n (pc' := 5) (i := 2) hC dX0_flow_4 rfl rfl rfl ?_
  refine aw_aload_n (pc' := 6) (i := 0) hC dX0_flow_5 rfl rfl rfl ?_
  obtain ⟨g2, h⟩ := gd_s h
  obtain ⟨x3, q1, h⟩ := pb_s h
  replace h := u1_s h
  refine aw_cV (pc' := 9) (k2 := 0) (n2 := 0) (st := [.inl v2]) (stN := [.inl x3, .inl v2]) hC [] (mX0_coins q1) lk_X0_55 g2 dX0_flow_6 rfl rfl (Nat.le_of_ble_eq_true rfl) (Nat.le_of_ble_eq_true rfl) (Nat.le_of_ble_eq_true rfl) rfl (Nat.le_of_ble_eq_true rfl) rfl rfl rfl ?_
  refine aw_icmp_ge (tgt := 45) (pc' := 12) hC dX0_flow_9 (by decide) rfl (fun c4 => ?_) (fun c4 => ?_)
  · replace h := it_n c4 h
    refine aw_sub hC [none, some (.inl v1), none] ⟨rfl, trivial⟩ (Nat.le_of_ble_eq_true rfl) ?_
    cases h
    exact hX _ rfl
  · replace h := it_p c4 h
    refine aw_iload_n (pc' := 13) (i := 1) hC dX0_flow_12 rfl rfl rfl ?_
    refine aw_aload_n (pc' := 14) (i := 0) hC dX0_flow_13 rfl rfl rfl ?_
    refine aw_getfield (pc' := 17) (v := (.inr (.inr (M v0 1)))) hC dX0_flow_14 rfl fl_X0_22 g2 rfl ?_
    obtain ⟨g5, h⟩ := gd_s h
    refine aw_getfield (pc' := 20) (v := (.inr (.inr (M (M v0 1) 3)))) hC dX0_flow_17 rfl fl_X0_62 g5 rfl ?_
    refine aw_iload_n (pc' := 21) (i := 2) hC dX0_flow_20 rfl rfl rfl ?_
    obtain ⟨g6, h⟩ := gd_s h
    refine aw_iaload (pc' := 22) hC dX0_flow_21 rfl g6 ?_
    refine aw_aload_n (pc' := 23) (i := 0) hC dX0_flow_22 rfl rfl rfl ?_
    refine aw_getfield (pc' := 26) (v := (.inr (.inr (M v0 0)))) hC dX0_flow_23 rfl fl_X0_12 g2 rfl ?_
    obtain ⟨g7, h⟩ := gd_s h
    refine aw_getfield (pc' := 29) (v := (.inr (.inr (M (M v0 0) 2)))) hC dX0_flow_26 rfl fl_X0_36 g7 rfl ?_
    refine aw_iload_n (pc' := 30) (i := 2) hC dX0_flow_29 rfl rfl rfl ?_
    obtain ⟨g8, h⟩ := gd_s h
    refine aw_iaload (pc' := 31) hC dX0_flow_30 rfl g8 ?_
    obtain ⟨x10, q9, h⟩ := pb_s h
    replace h := u1_s h
    refine aw_cS (pc' := 34) (k2 := 0) (n2 := 0) (st := [.inl (M (M (M v0 1) 3) v2), .inl v1]) (stN := [.inl x10, .inl (M (M (M v0 1) 3) v2), .inl v1]) hC [.inl (M (M (M v0 0) 2) v2)] (mJ6_bitCount_0f7a4 q9) lk_X0_65 dX0_flow_31 rfl rfl (Nat.le_of_ble_eq_true rfl) (Nat.le_of_ble_eq_true rfl) (Nat.le_of_ble_eq_true rfl) rfl (Nat.le_of_ble_eq_true rfl) rfl rfl rfl ?_
    refine aw_iconst (pc' := 35) hC dX0_flow_34 rfl (by decide) ?_
    refine aw_isub (pc' := 36) hC dX0_flow_35 rfl  ?_
    refine aw_imul (pc' := 37) hC dX0_flow_36 rfl  ?_
    refine aw_iadd (pc' := 38) hC dX0_flow_37 rfl  ?_
    obtain ⟨x11, e12, h⟩ := bd_s h
    refine aw_reni e12 ?_
    refine aw_istore_n (pc' := 39) (i := 1) (ls' := [some (.inr (.inr v0)), some (.inl x11), some (.inl v2)]) hC dX0_flow_38 rfl rfl (Nat.le_of_ble_eq_true rfl) rfl rfl ?_
    refine aw_iinc (pc' := 42) (ls' := [some (.inr (.inr v0)), some (.inl x11), some (.inl (w32 (v2 + 1)))]) hC dX0_flow_39 rfl rfl rfl rfl ?_
    refine aw_goto (tgt := 4) hC dX0_flow_42 (by decide) ?_
    refine aw_sub hC [some (.inr (.inr v0)), some (.inl x11), some (.inl (w32 (v2 + 1)))] ⟨rfl, ⟨rfl, ⟨rfl, trivial⟩⟩⟩ (Nat.le_of_ble_eq_true rfl) ?_
    cases h
    exact hL _ rfl
set_option maxRecDepth 100000 in
set_option maxHeartbeats 4000000 in
theorem mX0_flow {sh : AwS} {M : AwM} {v0 : Int} {r : Int} (h : fX0_flow sh M v0 = some r) : AMet yX0_flow cX0_flow 3 (some .int) 2 0 0 [.inr (.inr v0)] sh M (some (.inl r)) sh M := by
  refine amet_of (by decide +kernel) (Nat.le_of_ble_eq_true rfl) (fun Γ hC => ?_)
  replace hC : AOK Γ RX0 cX0_flow 3 2 0 0 "flow" (some .int) := hC
  unfold fX0_flow at h
  refine aw_sub hC [some (.inr (.inr v0)), none, none] ⟨rfl, trivial⟩ (Nat.le_of_ble_eq_true rfl) ?_
  refine aw_iconst (pc' := 1) hC dX0_flow_0 rfl (by decide) ?_
  refine aw_istore_n (pc' := 2) (i := 1) (ls' := [some (.inr (.inr v0)), some (.inl 0), none]) hC dX0_flow_1 rfl rfl (Nat.le_of_ble_eq_true rfl) rfl rfl ?_
  refine aw_iconst (pc' := 3) hC dX0_flow_2 rfl (by decide) ?_
  refine aw_istore_n (pc' := 4) (i := 2) (ls' := [some (.inr (.inr v0)), some (.inl 0), some (.inl 0)]) hC dX0_flow_3 rfl rfl (Nat.le_of_ble_eq_true rfl) rfl rfl ?_
  obtain ⟨tq13, q13, h⟩ := pb_s h
  refine aw_sub hC [some (.inr (.inr v0)), some (.inl 0), some (.inl 0)] ⟨rfl, ⟨rfl, ⟨rfl, trivial⟩⟩⟩ (Nat.le_of_ble_eq_true rfl) ?_
  refine (lp_aw (p_X0_flow_L4 Γ sh M v0 (fin_ Γ 0 0 (some (.inl r)) sh M)) (x_X0_flow_L4 Γ sh M v0 (fin_ Γ 0 0 (some (.inl r)) sh M)) (w_X0_flow_L4 hC ) FU _ _ q13 ?_ : p_X0_flow_L4 Γ sh M v0 (fin_ Γ 0 0 (some (.inl r)) sh M) (0, 0))
  replace h := u1_s h
  show AW Γ sh M 0 0 45 [none, some (.inl tq13), none] [] _
  refine aw_iload_n (pc' := 46) (i := 1) hC dX0_flow_45 rfl rfl rfl ?_
  cases h
  exact aw_iret hC dX0_flow_46 (Nat.le_of_ble_eq_true rfl) (Nat.le_of_ble_eq_true rfl)
-- CoinCircle$Circle.snubCount()I
def fX0_snubCount_L4 (sh : AwS) (M : AwM) (v0 : Int) (v1 : Int) (v2 : Int) : Option ((Int × Int) ⊕ (Int)) :=
  gd_ (kd_ sh v0 = (0, 0)) (pb (fX0_coins sh M v0) <| u1 fun (x3 : Int) => ((if v2 < x3 then gd_ (kd_ sh (M v0 0) = (0, 3)) (gd_ ((kd_ sh (M (M v0 0) 3)).1 = 1 ∧ (0 : Int) ≤ v2 ∧ v2 < ((kd_ sh (M (M v0 0) 3)).2 : Int)) (pb (fJ6_bitCount_0f7a4 sh M (M (M (M v0 0) 3) v2)) <| u1 fun (x8 : Int) => (some (.inl ((w32 (v1 + x8)), (w32 (v2 + 1))))))) else some (.inr v1))))
def p_X0_snubCount_L4 (Γ : AwC) (sh : AwS) (M : AwM) (v0 : Int) (Q : State → Prop) (s : Int × Int) : Prop := AW Γ sh M 0 0 4 [some (.inr (.inr v0)), some (.inl (s.1)), some (.inl (s.2))] [] Q
def x_X0_snubCount_L4 (Γ : AwC) (sh : AwS) (M : AwM) (v0 : Int) (Q : State → Prop) : (Int) → Prop := (fun (t : Int) => AW Γ sh M 0 0 33 [none, some (.inl (t)), none] [] Q)
def fX0_snubCount (sh : AwS) (M : AwM) (v0 : Int) : Option Int :=
  pb (lp (u2 (fX0_snubCount_L4 sh M v0)) FU (0, 0)) (u1 (fun (tq9 : Int) => some tq9))
set_option maxRecDepth 100000 in
set_option maxHeartbeats 4000000 in
theorem w_X0_snubCount_L4 {Γ : AwC} (hC : AOK Γ RX0 cX0_snubCount 3 2 0 0 "snubCount" (some .int)) {sh : AwS} {M : AwM} {v0 : Int} {Q : State → Prop} : ∀ s r, u2 (fX0_snubCount_L4 sh M v0) s = some r → (∀ s', r = .inl s' → p_X0_snubCount_L4 Γ sh M v0 Q s') → (∀ t, r = .inr t → x_X0_snubCount_L4 Γ sh M v0 Q t) → p_X0_snubCount_L4 Γ sh M v0 Q s := by
  intro s r h hL hX
  obtain ⟨v1, v2⟩ := s
  replace h := u2_s h
  unfold fX0_snubCount_L4 at h
  show AW Γ sh M 0 0 4 [some (.inr (.inr v0)), some (.inl v1), some (.inl v2)] [] Q
  refine aw_iload_n (pc' := 5) (i := 2) hC dX0_snubCount_4 rfl rfl rfl ?_
  refine aw_aload_n (pc' := 6) (i := 0) hC dX0_snubCount_5 rfl rfl rfl ?_
  obtain ⟨g2, h⟩ := gd_s h
  obtain ⟨x3, q1, h⟩ := pb_s h
  replace h := u1_s h
  refine aw_cV (pc' := 9) (k2 := 0) (n2 := 0) (st := [.inl v2]) (stN := [.inl x3, .inl v2]) hC [] (mX0_coins q1) lk_X0_55 g2 dX0_snubCount_6 rfl rfl (Nat.le_of_ble_eq_true rfl) (Nat.le_of_ble_eq_true rfl) (Nat.le_of_ble_eq_true rfl) rfl (Nat.le_of_ble_eq_true rfl) rfl rfl rfl ?_
  refine aw_icmp_ge (tgt := 33) (pc' := 12) hC dX0_snubCount_9 (by decide) rfl (fun c4 => ?_) (fun c4 => ?_)
  · replace h := it_n c4 h
    refine aw_sub hC [none, some (.inl v1), none] ⟨rfl, trivial⟩ (Nat.le_of_ble_eq_true rfl) ?_
    cases h
    exact hX _ rfl
  · replace h := it_p c4 h
    refine aw_iload_n (pc' := 13) (i := 1) hC dX0_snubCount_12 rfl rfl rfl ?_
    refine aw_aload_n (pc' := 14) (i := 0) hC dX0_snubCount_13 rfl rfl rfl ?_
    refine aw_getfield (pc' := 17) (v := (.inr (.inr (M v0 0)))) hC dX0_snubCount_14 rfl fl_X0_12 g2 rfl ?_
    obtain ⟨g5, h⟩ := gd_s h
    refine aw_getfield (pc' := 20) (v := (.inr (.inr (M (M v0 0) 3)))) hC dX0_snubCount_17 rfl fl_X0_40 g5 rfl ?_
    refine aw_iload_n (pc' := 21) (i := 2) hC dX0_snubCount_20 rfl rfl rfl ?_
    obtain ⟨g6, h⟩ := gd_s h
    refine aw_iaload (pc' := 22) hC dX0_snubCount_21 rfl g6 ?_
    obtain ⟨x8, q7, h⟩ := pb_s h
    replace h := u1_s h
    refine aw_cS (pc' := 25) (k2 := 0) (n2 := 0) (st := [.inl v1]) (stN := [.inl x8, .inl v1]) hC [.inl (M (M (M v0 0) 3) v2)] (mJ6_bitCount_0f7a4 q7) lk_X0_65 dX0_snubCount_22 rfl rfl (Nat.le_of_ble_eq_true rfl) (Nat.le_of_ble_eq_true rfl) (Nat.le_of_ble_eq_true rfl) rfl (Nat.le_of_ble_eq_true rfl) rfl rfl rfl ?_
    refine aw_iadd (pc' := 26) hC dX0_snubCount_25 rfl  ?_
    refine aw_istore_n (pc' := 27) (i := 1) (ls' := [some (.inr (.inr v0)), some (.inl (w32 (v1 + x8))), some (.inl v2)]) hC dX0_snubCount_26 rfl rfl (Nat.le_of_ble_eq_true rfl) rfl rfl ?_
    refine aw_iinc (pc' := 30) (ls' := [some (.inr (.inr v0)), some (.inl (w32 (v1 + x8))), some (.inl (w32 (v2 + 1)))]) hC dX0_snubCount_27 rfl rfl rfl rfl ?_
    refine aw_goto (tgt := 4) hC dX0_snubCount_30 (by decide) ?_
    refine aw_sub hC [some (.inr (.inr v0)), some (.inl (w32 (v1 + x8))), some (.inl (w32 (v2 + 1)))] ⟨rfl, ⟨rfl, ⟨rfl, trivial⟩⟩⟩ (Nat.le_of_ble_eq_true rfl) ?_
    cases h
    exact hL _ rfl
set_option maxRecDepth 100000 in
set_option maxHeartbeats 4000000 in
theorem mX0_snubCount {sh : AwS} {M : AwM} {v0 : Int} {r : Int} (h : fX0_snubCount sh M v0 = some r) : AMet yX0_snubCount cX0_snubCount 3 (some .int) 2 0 0 [.inr (.inr v0)] sh M (some (.inl r)) sh M := by
  refine amet_of (by decide +kernel) (Nat.le_of_ble_eq_true rfl) (fun Γ hC => ?_)
  replace hC : AOK Γ RX0 cX0_snubCount 3 2 0 0 "snubCount" (some .int) := hC
  unfold fX0_snubCount at h
  refine aw_sub hC [some (.inr (.inr v0)), none, none] ⟨rfl, trivial⟩ (Nat.le_of_ble_eq_true rfl) ?_
  refine aw_iconst (pc' := 1) hC dX0_snubCount_0 rfl (by decide) ?_
  refine aw_istore_n (pc' := 2) (i := 1) (ls' := [some (.inr (.inr v0)), some (.inl 0), none]) hC dX0_snubCount_1 rfl rfl (Nat.le_of_ble_eq_true rfl) rfl rfl ?_
  refine aw_iconst (pc' := 3) hC dX0_snubCount_2 rfl (by decide) ?_
  refine aw_istore_n (pc' := 4) (i := 2) (ls' := [some (.inr (.inr v0)), some (.inl 0), some (.inl 0)]) hC dX0_snubCount_3 rfl rfl (Nat.le_of_ble_eq_true rfl) rfl rfl ?_
  obtain ⟨tq9, q9, h⟩ := pb_s h
  refine aw_sub hC [some (.inr (.inr v0)), some (.inl 0), some (.inl 0)] ⟨rfl, ⟨rfl, ⟨rfl, trivial⟩⟩⟩ (Nat.le_of_ble_eq_true rfl) ?_
  refine (lp_aw (p_X0_snubCount_L4 Γ sh M v0 (fin_ Γ 0 0 (some (.inl r)) sh M)) (x_X0_snubCount_L4 Γ sh M v0 (fin_ Γ 0 0 (some (.inl r)) sh M)) (w_X0_snubCount_L4 hC ) FU _ _ q9 ?_ : p_X0_snubCount_L4 Γ sh M v0 (fin_ Γ 0 0 (some (.inl r)) sh M) (0, 0))
  replace h := u1_s h
  show AW Γ sh M 0 0 33 [none, some (.inl tq9), none] [] _
  refine aw_iload_n (pc' := 34) (i := 1) hC dX0_snubCount_33 rfl rfl rfl ?_
  cases h
  exact aw_iret hC dX0_snubCount_34 (Nat.le_of_ble_eq_true rfl) (Nat.le_of_ble_eq_true rfl)
-- CoinCircle$Society.allPeople()I
def fX5_allPeople (sh : AwS) (M : AwM) (v0 : Int) : Option Int :=
  gd_ (kd_ sh v0 = (0, 5)) (gd_ ((kd_ sh (M v0 0)).1 = 1 ∧ (0 : Int) ≤ 0 ∧ 0 < ((kd_ sh (M v0 0)).2 : Int)) (some (w32 ((sl_ 1 (M (M v0 0) 0)) - 1))))
set_option maxRecDepth 100000 in
set_option maxHeartbeats 4000000 in
theorem mX5_allPeople {sh : AwS} {M : AwM} {v0 : Int} {r : Int} (h : fX5_allPeople sh M v0 = some r) : AMet yX5_allPeople cX5_allPeople 1 (some .int) 1 0 0 [.inr (.inr v0)] sh M (some (.inl r)) sh M := by
  refine amet_of (by decide +kernel) (Nat.le_of_ble_eq_true rfl) (fun Γ hC => ?_)
  replace hC : AOK Γ RX5 cX5_allPeople 1 1 0 0 "allPeople" (some .int) := hC
  unfold fX5_allPeople at h
  refine aw_sub hC [some (.inr (.inr v0))] ⟨rfl, trivial⟩ (Nat.le_of_ble_eq_true rfl) ?_
  refine aw_iconst (pc' := 1) hC dX5_allPeople_0 rfl (by decide) ?_
  refine aw_aload_n (pc' := 2) (i := 0) hC dX5_allPeople_1 rfl rfl rfl ?_
  obtain ⟨g1, h⟩ := gd_s h
  refine aw_getfield (pc' := 5) (v := (.inr (.inr (M v0 0)))) hC dX5_allPeople_2 rfl fl_X5_9 g1 rfl ?_
  refine aw_iconst (pc' := 6) hC dX5_allPeople_5 rfl (by decide) ?_
  obtain ⟨g2, h⟩ := gd_s h
  refine aw_iaload (pc' := 7) hC dX5_allPeople_6 rfl g2 ?_
  refine aw_ishl (pc' := 8) hC dX5_allPeople_7 rfl  ?_
  refine aw_iconst (pc' := 9) hC dX5_allPeople_8 rfl (by decide) ?_
  refine aw_isub (pc' := 10) hC dX5_allPeople_9 rfl  ?_
  cases h
  exact aw_iret hC dX5_allPeople_10 (Nat.le_of_ble_eq_true rfl) (Nat.le_of_ble_eq_true rfl)
-- CoinCircle$Circle.knowingAllCount()I
def fX0_knowingAllCount_L4 (sh : AwS) (M : AwM) (v0 : Int) (v1 : Int) (v2 : Int) : Option ((Int × Int) ⊕ (Int)) :=
  gd_ (kd_ sh v0 = (0, 0)) (pb (fX0_coins sh M v0) <| u1 fun (x3 : Int) => ((if v2 < x3 then gd_ (kd_ sh (M v0 0) = (0, 3)) (gd_ ((kd_ sh (M (M v0 0) 2)).1 = 1 ∧ (0 : Int) ≤ v2 ∧ v2 < ((kd_ sh (M (M v0 0) 2)).2 : Int)) (gd_ (kd_ sh (M v0 1) = (0, 5)) (pb (fX5_allPeople sh M (M v0 1)) <| u1 fun (x9 : Int) => ((if (M (M (M v0 0) 2) v2) = x9 then some (.inl ((w32 (v1 + 1)), (w32 (v2 + 1)))) else some (.inl (v1, (w32 (v2 + 1))))))))) else some (.inr v1))))
def p_X0_knowingAllCount_L4 (Γ : AwC) (sh : AwS) (M : AwM) (v0 : Int) (Q : State → Prop) (s : Int × Int) : Prop := AW Γ sh M 0 0 4 [some (.inr (.inr v0)), some (.inl (s.1)), some (.inl (s.2))] [] Q
def x_X0_knowingAllCount_L4 (Γ : AwC) (sh : AwS) (M : AwM) (v0 : Int) (Q : State → Prop) : (Int) → Prop := (fun (t : Int) => AW Γ sh M 0 0 40 [none, some (.inl (t)), none] [] Q)
def fX0_knowingAllCount (sh : AwS) (M : AwM) (v0 : Int) : Option Int :=
  pb (lp (u2 (fX0_knowingAllCount_L4 sh M v0)) FU (0, 0)) (u1 (fun (tq11 : Int) => some tq11))
set_option maxRecDepth 100000 in
set_option maxHeartbeats 4000000 in
theorem w_X0_knowingAllCount_L4 {Γ : AwC} (hC : AOK Γ RX0 cX0_knowingAllCount 3 2 0 0 "knowingAllCount" (some .int)) {sh : AwS} {M : AwM} {v0 : Int} {Q : State → Prop} : ∀ s r, u2 (fX0_knowingAllCount_L4 sh M v0) s = some r → (∀ s', r = .inl s' → p_X0_knowingAllCount_L4 Γ sh M v0 Q s') → (∀ t, r = .inr t → x_X0_knowingAllCount_L4 Γ sh M v0 Q t) → p_X0_knowingAllCount_L4 Γ sh M v0 Q s := by
  intro s r h hL hX
  obtain ⟨v1, v2⟩ := s
  replace h := u2_s h
  unfold fX0_knowingAllCount_L4 at h
  show AW Γ sh M 0 0 4 [some (.inr (.inr v0)), some (.inl v1), some (.inl v2)] [] Q
  refine aw_iload_n (pc' := 5) (i := 2) hC dX0_knowingAllCount_4 rfl rfl rfl ?_
  refine aw_aload_n (pc' := 6) (i := 0) hC dX0_knowingAllCount_5 rfl rfl rfl ?_
  obtain ⟨g2, h⟩ := gd_s h
  obtain ⟨x3, q1, h⟩ := pb_s h
  replace h := u1_s h
  refine aw_cV (pc' := 9) (k2 := 0) (n2 := 0) (st := [.inl v2]) (stN := [.inl x3, .inl v2]) hC [] (mX0_coins q1) lk_X0_55 g2 dX0_knowingAllCount_6 rfl rfl (Nat.le_of_ble_eq_true rfl) (Nat.le_of_ble_eq_true rfl) (Nat.le_of_ble_eq_true rfl) rfl (Nat.le_of_ble_eq_true rfl) rfl rfl rfl ?_
  refine aw_icmp_ge (tgt := 40) (pc' := 12) hC dX0_knowingAllCount_9 (by decide) rfl (fun c4 => ?_) (fun c4 => ?_)
  · replace h := it_n c4 h
    refine aw_sub hC [none, some (.inl v1), none] ⟨rfl, trivial⟩ (Nat.le_of_ble_eq_true rfl) ?_
    cases h
    exact hX _ rfl
  · replace h := it_p c4 h
    refine aw_aload_n (pc' := 13) (i := 0) hC dX0_knowingAllCount_12 rfl rfl rfl ?_
    refine aw_getfield (pc' := 16) (v := (.inr (.inr (M v0 0)))) hC dX0_knowingAllCount_13 rfl fl_X0_12 g2 rfl ?_
    obtain ⟨g5, h⟩ := gd_s h
    refine aw_getfield (pc' := 19) (v := (.inr (.inr (M (M v0 0) 2)))) hC dX0_knowingAllCount_16 rfl fl_X0_36 g5 rfl ?_
    refine aw_iload_n (pc' := 20) (i := 2) hC dX0_knowingAllCount_19 rfl rfl rfl ?_
    obtain ⟨g6, h⟩ := gd_s h
    refine aw_iaload (pc' := 21) hC dX0_knowingAllCount_20 rfl g6 ?_
    refine aw_aload_n (pc' := 22) (i := 0) hC dX0_knowingAllCount_21 rfl rfl rfl ?_
    refine aw_getfield (pc' := 25) (v := (.inr (.inr (M v0 1)))) hC dX0_knowingAllCount_22 rfl fl_X0_22 g2 rfl ?_
    obtain ⟨g8, h⟩ := gd_s h
    obtain ⟨x9, q7, h⟩ := pb_s h
    replace h := u1_s h
    refine aw_cV (pc' := 28) (k2 := 0) (n2 := 0) (st := [.inl (M (M (M v0 0) 2) v2)]) (stN := [.inl x9, .inl (M (M (M v0 0) 2) v2)]) hC [] (mX5_allPeople q7) lk_X0_71 g8 dX0_knowingAllCount_25 rfl rfl (Nat.le_of_ble_eq_true rfl) (Nat.le_of_ble_eq_true rfl) (Nat.le_of_ble_eq_true rfl) rfl (Nat.le_of_ble_eq_true rfl) rfl rfl rfl ?_
    refine aw_icmp_ne (tgt := 34) (pc' := 31) hC dX0_knowingAllCount_28 (by decide) rfl (fun c10 => ?_) (fun c10 => ?_)
    · replace h := it_n c10 h
      refine aw_iinc (pc' := 37) (ls' := [some (.inr (.inr v0)), some (.inl v1), some (.inl (w32 (v2 + 1)))]) hC dX0_knowingAllCount_34 rfl rfl rfl rfl ?_
      refine aw_goto (tgt := 4) hC dX0_knowingAllCount_37 (by decide) ?_
      refine aw_sub hC [some (.inr (.inr v0)), some (.inl v1), some (.inl (w32 (v2 + 1)))] ⟨rfl, ⟨rfl, ⟨rfl, trivial⟩⟩⟩ (Nat.le_of_ble_eq_true rfl) ?_
      cases h
      exact hL _ rfl
    · replace h := it_p c10 h
      refine aw_iinc (pc' := 34) (ls' := [some (.inr (.inr v0)), some (.inl (w32 (v1 + 1))), some (.inl v2)]) hC dX0_knowingAllCount_31 rfl rfl rfl rfl ?_
      refine aw_iinc (pc' := 37) (ls' := [some (.inr (.inr v0)), some (.inl (w32 (v1 + 1))), some (.inl (w32 (v2 + 1)))]) hC dX0_knowingAllCount_34 rfl rfl rfl rfl ?_
      refine aw_goto (tgt := 4) hC dX0_knowingAllCount_37 (by decide) ?_
      refine aw_sub hC [some (.inr (.inr v0)), some (.inl (w32 (v1 + 1))), some (.inl (w32 (v2 + 1)))] ⟨rfl, ⟨rfl, ⟨rfl, trivial⟩⟩⟩ (Nat.le_of_ble_eq_true rfl) ?_
      cases h
      exact hL _ rfl
set_option maxRecDepth 100000 in
set_option maxHeartbeats 4000000 in
theorem mX0_knowingAllCount {sh : AwS} {M : AwM} {v0 : Int} {r : Int} (h : fX0_knowingAllCount sh M v0 = some r) : AMet yX0_knowingAllCount cX0_knowingAllCount 3 (some .int) 2 0 0 [.inr (.inr v0)] sh M (some (.inl r)) sh M := by
  refine amet_of (by decide +kernel) (Nat.le_of_ble_eq_true rfl) (fun Γ hC => ?_)
  replace hC : AOK Γ RX0 cX0_knowingAllCount 3 2 0 0 "knowingAllCount" (some .int) := hC
  unfold fX0_knowingAllCount at h
  refine aw_sub hC [some (.inr (.inr v0)), none, none] ⟨rfl, trivial⟩ (Nat.le_of_ble_eq_true rfl) ?_
  refine aw_iconst (pc' := 1) hC dX0_knowingAllCount_0 rfl (by decide) ?_
  refine aw_istore_n (pc' := 2) (i := 1) (ls' := [some (.inr (.inr v0)), some (.inl 0), none]) hC dX0_knowingAllCount_1 rfl rfl (Nat.le_of_ble_eq_true rfl) rfl rfl ?_
  refine aw_iconst (pc' := 3) hC dX0_knowingAllCount_2 rfl (by decide) ?_
  refine aw_istore_n (pc' := 4) (i := 2) (ls' := [some (.inr (.inr v0)), some (.inl 0), some (.inl 0)]) hC dX0_knowingAllCount_3 rfl rfl (Nat.le_of_ble_eq_true rfl) rfl rfl ?_
  obtain ⟨tq11, q11, h⟩ := pb_s h
  refine aw_sub hC [some (.inr (.inr v0)), some (.inl 0), some (.inl 0)] ⟨rfl, ⟨rfl, ⟨rfl, trivial⟩⟩⟩ (Nat.le_of_ble_eq_true rfl) ?_
  refine (lp_aw (p_X0_knowingAllCount_L4 Γ sh M v0 (fin_ Γ 0 0 (some (.inl r)) sh M)) (x_X0_knowingAllCount_L4 Γ sh M v0 (fin_ Γ 0 0 (some (.inl r)) sh M)) (w_X0_knowingAllCount_L4 hC ) FU _ _ q11 ?_ : p_X0_knowingAllCount_L4 Γ sh M v0 (fin_ Γ 0 0 (some (.inl r)) sh M) (0, 0))
  replace h := u1_s h
  show AW Γ sh M 0 0 40 [none, some (.inl tq11), none] [] _
  refine aw_iload_n (pc' := 41) (i := 1) hC dX0_knowingAllCount_40 rfl rfl rfl ?_
  cases h
  exact aw_iret hC dX0_knowingAllCount_41 (Nat.le_of_ble_eq_true rfl) (Nat.le_of_ble_eq_true rfl)
-- CoinCircle$Circle.heldBy(I)I
def fX0_heldBy_L4 (sh : AwS) (M : AwM) (v0 : Int) (v1 : Int) (v2 : Int) (v3 : Int) : Option ((Int × Int) ⊕ (Int)) :=
  gd_ (kd_ sh v0 = (0, 0)) (pb (fX0_coins sh M v0) <| u1 fun (x3 : Int) => ((if v3 < x3 then gd_ (kd_ sh (M v0 0) = (0, 3)) (gd_ ((kd_ sh (M (M v0 0) 1)).1 = 1 ∧ (0 : Int) ≤ v3 ∧ v3 < ((kd_ sh (M (M v0 0) 1)).2 : Int)) ((if (M (M (M v0 0) 1) v3) = v1 then some (.inl ((or_ v2 (sl_ 1 v3)), (w32 (v3 + 1)))) else some (.inl (v2, (w32 (v3 + 1))))))) else some (.inr v2))))
def p_X0_heldBy_L4 (Γ : AwC) (sh : AwS) (M : AwM) (v0 : Int) (v1 : Int) (Q : State → Prop) (s : Int × Int) : Prop := AW Γ sh M 0 0 4 [some (.inr (.inr v0)), some (.inl v1), some (.inl (s.1)), some (.inl (s.2))] [] Q
def x_X0_heldBy_L4 (Γ : AwC) (sh : AwS) (M : AwM) (v0 : Int) (v1 : Int) (Q : State → Prop) : (Int) → Prop := (fun (t : Int) => AW Γ sh M 0 0 37 [none, none, some (.inl (t)), none] [] Q)
def fX0_heldBy (sh : AwS) (M : AwM) (v0 : Int) (v1 : Int) : Option Int :=
  pb (lp (u2 (fX0_heldBy_L4 sh M v0 v1)) FU (0, 0)) (u1 (fun (tq8 : Int) => some tq8))
set_option maxRecDepth 100000 in
set_option maxHeartbeats 4000000 in
theorem w_X0_heldBy_L4 {Γ : AwC} (hC : AOK Γ RX0 cX0_heldBy 4 2 0 0 "heldBy" (some .int)) {sh : AwS} {M : AwM} {v0 : Int} {v1 : Int} {Q : State → Prop} : ∀ s r, u2 (fX0_heldBy_L4 sh M v0 v1) s = some r → (∀ s', r = .inl s' → p_X0_heldBy_L4 Γ sh M v0 v1 Q s') → (∀ t, r = .inr t → x_X0_heldBy_L4 Γ sh M v0 v1 Q t) → p_X0_heldBy_L4 Γ sh M v0 v1 Q s := by
  intro s r h hL hX
  obtain ⟨v2, v3⟩ := s
  replace h := u2_s h
  unfold fX0_heldBy_L4 at h
  show AW Γ sh M 0 0 4 [some (.inr (.inr v0)), some (.inl v1), some (.inl v2), some (.inl v3)] [] Q
  refine aw_iload_n (pc' := 5) (i := 3) hC dX0_heldBy_4 rfl rfl rfl ?_
  refine aw_aload_n (pc' := 6) (i := 0) hC dX0_heldBy_5 rfl rfl rfl ?_
  obtain ⟨g2, h⟩ := gd_s h
  obtain ⟨x3, q1, h⟩ := pb_s h
  replace h := u1_s h
  refine aw_cV (pc' := 9) (k2 := 0) (n2 := 0) (st := [.inl v3]) (stN := [.inl x3, .inl v3]) hC [] (mX0_coins q1) lk_X0_55 g2 dX0_heldBy_6 rfl rfl (Nat.le_of_ble_eq_true rfl) (Nat.le_of_ble_eq_true rfl) (Nat.le_of_ble_eq_true rfl) rfl (Nat.le_of_ble_eq_true rfl) rfl rfl rfl ?_
  refine aw_icmp_ge (tgt := 37) (pc' := 12) hC dX0_heldBy_9 (by decide) rfl (fun c4 => ?_) (fun c4 => ?_)
  · replace h := it_n c4 h
    refine aw_sub hC [none, none, some (.inl v2), none] ⟨rfl, trivial⟩ (Nat.le_of_ble_eq_true rfl) ?_
    cases h
    exact hX _ rfl
  · replace h := it_p c4 h
    refine aw_aload_n (pc' := 13) (i := 0) hC dX0_heldBy_12 rfl rfl rfl ?_
    refine aw_getfield (pc' := 16) (v := (.inr (.inr (M v0 0)))) hC dX0_heldBy_13 rfl fl_X0_12 g2 rfl ?_
    obtain ⟨g5, h⟩ := gd_s h
    refine aw_getfield (pc' := 19) (v := (.inr (.inr (M (M v0 0) 1)))) hC dX0_heldBy_16 rfl fl_X0_30 g5 rfl ?_
    refine aw_iload_n (pc' := 20) (i := 3) hC dX0_heldBy_19 rfl rfl rfl ?_
    obtain ⟨g6, h⟩ := gd_s h
    refine aw_iaload (pc' := 21) hC dX0_heldBy_20 rfl g6 ?_
    refine aw_iload_n (pc' := 22) (i := 1) hC dX0_heldBy_21 rfl rfl rfl ?_
    refine aw_icmp_ne (tgt := 31) (pc' := 25) hC dX0_heldBy_22 (by decide) rfl (fun c7 => ?_) (fun c7 => ?_)
    · replace h := it_n c7 h
      refine aw_iinc (pc' := 34) (ls' := [some (.inr (.inr v0)), some (.inl v1), some (.inl v2), some (.inl (w32 (v3 + 1)))]) hC dX0_heldBy_31 rfl rfl rfl rfl ?_
      refine aw_goto (tgt := 4) hC dX0_heldBy_34 (by decide) ?_
      refine aw_sub hC [some (.inr (.inr v0)), some (.inl v1), some (.inl v2), some (.inl (w32 (v3 + 1)))] ⟨rfl, ⟨rfl, ⟨rfl, ⟨rfl, trivial⟩⟩⟩⟩ (Nat.le_of_ble_eq_true rfl) ?_
      cases h
      exact hL _ rfl
    · replace h := it_p c7 h
      refine aw_iload_n (pc' := 26) (i := 2) hC dX0_heldBy_25 rfl rfl rfl ?_
      refine aw_iconst (pc' := 27) hC dX0_heldBy_26 rfl (by decide) ?_
      refine aw_iload_n (pc' := 28) (i := 3) hC dX0_heldBy_27 rfl rfl rfl ?_
      refine aw_ishl (pc' := 29) hC dX0_heldBy_28 rfl  ?_
      refine aw_ior (pc' := 30) hC dX0_heldBy_29 rfl  ?_
      refine aw_istore_n (pc' := 31) (i := 2) (ls' := [some (.inr (.inr v0)), some (.inl v1), some (.inl (or_ v2 (sl_ 1 v3))), some (.inl v3)]) hC dX0_heldBy_30 rfl rfl (Nat.le_of_ble_eq_true rfl) rfl rfl ?_
      refine aw_iinc (pc' := 34) (ls' := [some (.inr (.inr v0)), some (.inl v1), some (.inl (or_ v2 (sl_ 1 v3))), some (.inl (w32 (v3 + 1)))]) hC dX0_heldBy_31 rfl rfl rfl rfl ?_
      refine aw_goto (tgt := 4) hC dX0_heldBy_34 (by decide) ?_
      refine aw_sub hC [some (.inr (.inr v0)), some (.inl v1), some (.inl (or_ v2 (sl_ 1 v3))), some (.inl (w32 (v3 + 1)))] ⟨rfl, ⟨rfl, ⟨rfl, ⟨rfl, trivial⟩⟩⟩⟩ (Nat.le_of_ble_eq_true rfl) ?_
      cases h
      exact hL _ rfl
set_option maxRecDepth 100000 in
set_option maxHeartbeats 4000000 in
theorem mX0_heldBy {sh : AwS} {M : AwM} {v0 : Int} {v1 : Int} {r : Int} (h : fX0_heldBy sh M v0 v1 = some r) : AMet yX0_heldBy cX0_heldBy 4 (some .int) 2 0 0 [.inr (.inr v0), .inl v1] sh M (some (.inl r)) sh M := by
  refine amet_of (by decide +kernel) (Nat.le_of_ble_eq_true rfl) (fun Γ hC => ?_)
  replace hC : AOK Γ RX0 cX0_heldBy 4 2 0 0 "heldBy" (some .int) := hC
  unfold fX0_heldBy at h
  refine aw_sub hC [some (.inr (.inr v0)), some (.inl v1), none, none] ⟨rfl, ⟨rfl, trivial⟩⟩ (Nat.le_of_ble_eq_true rfl) ?_
  refine aw_iconst (pc' := 1) hC dX0_heldBy_0 rfl (by decide) ?_
  refine aw_istore_n (pc' := 2) (i := 2) (ls' := [some (.inr (.inr v0)), some (.inl v1), some (.inl 0), none]) hC dX0_heldBy_1 rfl rfl (Nat.le_of_ble_eq_true rfl) rfl rfl ?_
  refine aw_iconst (pc' := 3) hC dX0_heldBy_2 rfl (by decide) ?_
  refine aw_istore_n (pc' := 4) (i := 3) (ls' := [some (.inr (.inr v0)), some (.inl v1), some (.inl 0), some (.inl 0)]) hC dX0_heldBy_3 rfl rfl (Nat.le_of_ble_eq_true rfl) rfl rfl ?_
  obtain ⟨tq8, q8, h⟩ := pb_s h
  refine aw_sub hC [some (.inr (.inr v0)), some (.inl v1), some (.inl 0), some (.inl 0)] ⟨rfl, ⟨rfl, ⟨rfl, ⟨rfl, trivial⟩⟩⟩⟩ (Nat.le_of_ble_eq_true rfl) ?_
  refine (lp_aw (p_X0_heldBy_L4 Γ sh M v0 v1 (fin_ Γ 0 0 (some (.inl r)) sh M)) (x_X0_heldBy_L4 Γ sh M v0 v1 (fin_ Γ 0 0 (some (.inl r)) sh M)) (w_X0_heldBy_L4 hC ) FU _ _ q8 ?_ : p_X0_heldBy_L4 Γ sh M v0 v1 (fin_ Γ 0 0 (some (.inl r)) sh M) (0, 0))
  replace h := u1_s h
  show AW Γ sh M 0 0 37 [none, none, some (.inl tq8), none] [] _
  refine aw_iload_n (pc' := 38) (i := 2) hC dX0_heldBy_37 rfl rfl rfl ?_
  cases h
  exact aw_iret hC dX0_heldBy_38 (Nat.le_of_ble_eq_true rfl) (Nat.le_of_ble_eq_true rfl)
-- CoinCircle$Circle.isUseless(I)Z
def fX0_isUseless_L8 (sh : AwS) (M : AwM) (v0 : Int) (v1 : Int) (v2 : Int) (v3 : Int) : Option ((Int) ⊕ ((Unit) ⊕ (Unit))) :=
  gd_ (kd_ sh v0 = (0, 0)) (pb (fX0_coins sh M v0) <| u1 fun (x6 : Int) => ((if v3 < x6 then pb (fX8_isIn sh M v2 v3) <| u1 fun (x9 : Int) => ((if x9 = 0 then some (.inl (w32 (v3 + 1))) else gd_ (kd_ sh (M v0 0) = (0, 3)) (gd_ ((kd_ sh (M (M v0 0) 2)).1 = 1 ∧ (0 : Int) ≤ v3 ∧ v3 < ((kd_ sh (M (M v0 0) 2)).2 : Int)) ((if (M (M (M v0 0) 2) v3) = (sl_ 1 v1) then some (.inl (w32 (v3 + 1))) else some (.inr (.inr ()))))))) else some (.inr (.inl ())))))
def p_X0_isUseless_L8 (Γ : AwC) (sh : AwS) (M : AwM) (v0 : Int) (v1 : Int) (v2 : Int) (Q : State → Prop) (s : Int) : Prop := AW Γ sh M 0 0 8 [some (.inr (.inr v0)), some (.inl v1), some (.inl v2), some (.inl (s))] [] Q
def x_X0_isUseless_L8 (Γ : AwC) (sh : AwS) (M : AwM) (v0 : Int) (v1 : Int) (v2 : Int) (Q : State → Prop) : ((Unit) ⊕ (Unit)) → Prop := (Sum.elim (fun (t : Unit) => AW Γ sh M 0 0 47 [none, none, some (.inl v2), none] [] Q) (fun (t : Unit) => AW Γ sh M 0 0 39 [none, none, none, none] [] Q))
def fX0_isUseless (sh : AwS) (M : AwM) (v0 : Int) (v1 : Int) : Option Int :=
  gd_ (kd_ sh v0 = (0, 0)) (pb (fX0_heldBy sh M v0 v1) <| u1 fun (x3 : Int) => (pb (lp (u1 (fX0_isUseless_L8 sh M v0 v1 x3)) FU 0) (Sum.elim (u0 ((if x3 = 0 then some 0 else some 1))) (u0 (some 0)))))
set_option maxRecDepth 100000 in
set_option maxHeartbeats 4000000 in
theorem w_X0_isUseless_L8 {Γ : AwC} (hC : AOK Γ RX0 cX0_isUseless 4 3 0 0 "isUseless" (some .boolean)) {sh : AwS} {M : AwM} {v0 : Int} {v1 : Int} {v2 : Int} {Q : State → Prop} : ∀ s r, u1 (fX0_isUseless_L8 sh M v0 v1 v2) s = some r → (∀ s', r = .inl s' → p_X0_isUseless_L8 Γ sh M v0 v1 v2 Q s') → (∀ t, r = .inr t → x_X0_isUseless_L8 Γ sh M v0 v1 v2 Q t) → p_X0_isUseless_L8 Γ sh M v0 v1 v2 Q s := by
  intro v3 r h hL hX
  replace h := u1_s h
  unfold fX0_isUseless_L8 at h
  show AW Γ sh M 0 0 8 [some (.inr (.inr v0)), some (.inl v1), some (.inl v2), some (.inl v3)] [] Q
  refine aw_iload_n (pc' := 9) (i := 3) hC dX0_isUseless_8 rfl rfl rfl ?_
  refine aw_aload_n (pc' := 10) (i := 0) hC dX0_isUseless_9 rfl rfl rfl ?_
  obtain ⟨g5, h⟩ := gd_s h
  obtain ⟨x6, q4, h⟩ := pb_s h
  replace h := u1_s h
  refine aw_cV (pc' := 13) (k2 := 0) (n2 := 0) (st := [.inl v3]) (stN := [.inl x6, .inl v3]) hC [] (mX0_coins q4) lk_X0_55 g5 dX0_isUseless_10 rfl rfl (Nat.le_of_ble_eq_true rfl) (Nat.le_of_ble_eq_true rfl) (Nat.le_of_ble_eq_true rfl) rfl (Nat.le_of_ble_eq_true rfl) rfl rfl rfl ?_
  refine aw_icmp_ge (tgt := 47) (pc' := 16) hC dX0_isUseless_13 (by decide) rfl (fun c7 => ?_) (fun c7 => ?_)
  · replace h := it_n c7 h
    refine aw_sub hC [none, none, some (.inl v2), none] ⟨rfl, trivial⟩ (Nat.le_of_ble_eq_true rfl) ?_
    cases h
    exact hX _ rfl
  · replace h := it_p c7 h
    refine aw_iload_n (pc' := 17) (i := 2) hC dX0_isUseless_16 rfl rfl rfl ?_
    refine aw_iload_n (pc' := 18) (i := 3) hC dX0_isUseless_17 rfl rfl rfl ?_
    obtain ⟨x9, q8, h⟩ := pb_s h
    replace h := u1_s h
    refine aw_cSN (pc' := 21) (k2 := 0) (n2 := 0) (st := []) (stN := [.inl x9]) hC [.inl v2, .inl v3] (mX8_isIn q8) lk_X0_51 dX0_isUseless_18 rfl rfl (Nat.le_of_ble_eq_true rfl) (Nat.le_of_ble_eq_true rfl) (Nat.le_of_ble_eq_true rfl) rfl (Nat.le_of_ble_eq_true rfl) rfl rfl rfl ?_
    refine aw_if_eq (tgt := 41) (pc' := 24) hC dX0_isUseless_21 (by decide) rfl (fun c10 => ?_) (fun c10 => ?_)
    · replace h := it_p c10 h
      refine aw_iinc (pc' := 44) (ls' := [some (.inr (.inr v0)), some (.inl v1), some (.inl v2), some (.inl (w32 (v3 + 1)))]) hC dX0_isUseless_41 rfl rfl rfl rfl ?_
      refine aw_goto (tgt := 8) hC dX0_isUseless_44 (by decide) ?_
      refine aw_sub hC [some (.inr (.inr v0)), some (.inl v1), some (.inl v2), some (.inl (w32 (v3 + 1)))] ⟨rfl, ⟨rfl, ⟨rfl, ⟨rfl, trivial⟩⟩⟩⟩ (Nat.le_of_ble_eq_true rfl) ?_
      cases h
      exact hL _ rfl
    · replace h := it_n c10 h
      refine aw_aload_n (pc' := 25) (i := 0) hC dX0_isUseless_24 rfl rfl rfl ?_
      refine aw_getfield (pc' := 28) (v := (.inr (.inr (M v0 0)))) hC dX0_isUseless_25 rfl fl_X0_12 g5 rfl ?_
      obtain ⟨g11, h⟩ := gd_s h
      refine aw_getfield (pc' := 31) (v := (.inr (.inr (M (M v0 0) 2)))) hC dX0_isUseless_28 rfl fl_X0_36 g11 rfl ?_
      refine aw_iload_n (pc' := 32) (i := 3) hC dX0_isUseless_31 rfl rfl rfl ?_
      obtain ⟨g12, h⟩ := gd_s h
      refine aw_iaload (pc' := 33) hC dX0_isUseless_32 rfl g12 ?_
      refine aw_iconst (pc' := 34) hC dX0_isUseless_33 rfl (by decide) ?_
      refine aw_iload_n (pc' := 35) (i := 1) hC dX0_isUseless_34 rfl rfl rfl ?_
      refine aw_ishl (pc' := 36) hC dX0_isUseless_35 rfl  ?_
      refine aw_icmp_eq (tgt := 41) (pc' := 39) hC dX0_isUseless_36 (by decide) rfl (fun c13 => ?_) (fun c13 => ?_)
      · replace h := it_p c13 h
        refine aw_iinc (pc' := 44) (ls' := [some (.inr (.inr v0)), some (.inl v1), some (.inl v2), some (.inl (w32 (v3 + 1)))]) hC dX0_isUseless_41 rfl rfl rfl rfl ?_
        refine aw_goto (tgt := 8) hC dX0_isUseless_44 (by decide) ?_
        refine aw_sub hC [some (.inr (.inr v0)), some (.inl v1), some (.inl v2), some (.inl (w32 (v3 + 1)))] ⟨rfl, ⟨rfl, ⟨rfl, ⟨rfl, trivial⟩⟩⟩⟩ (Nat.le_of_ble_eq_true rfl) ?_
        cases h
        exact hL _ rfl
      · replace h := it_n c13 h
        refine aw_sub hC [none, none, none, none] trivial (Nat.le_of_ble_eq_true rfl) ?_
        cases h
        exact hX _ rfl
set_option maxRecDepth 100000 in
set_option maxHeartbeats 4000000 in
theorem mX0_isUseless {sh : AwS} {M : AwM} {v0 : Int} {v1 : Int} {r : Int} (h : fX0_isUseless sh M v0 v1 = some r) : AMet yX0_isUseless cX0_isUseless 4 (some .boolean) 3 0 0 [.inr (.inr v0), .inl v1] sh M (some (.inl r)) sh M := by
  refine amet_of (by decide +kernel) (Nat.le_of_ble_eq_true rfl) (fun Γ hC => ?_)
  replace hC : AOK Γ RX0 cX0_isUseless 4 3 0 0 "isUseless" (some .boolean) := hC
  unfold fX0_isUseless at h
  refine aw_sub hC [some (.inr (.inr v0)), some (.inl v1), none, none] ⟨rfl, ⟨rfl, trivial⟩⟩ (Nat.le_of_ble_eq_true rfl) ?_
  refine aw_aload_n (pc' := 1) (i := 0) hC dX0_isUseless_0 rfl rfl rfl ?_
  refine aw_iload_n (pc' := 2) (i := 1) hC dX0_isUseless_1 rfl rfl rfl ?_
  obtain ⟨g2, h⟩ := gd_s h
  obtain ⟨x3, q1, h⟩ := pb_s h
  replace h := u1_s h
  refine aw_cV (pc' := 5) (k2 := 0) (n2 := 0) (st := []) (stN := [.inl x3]) hC [.inl v1] (mX0_heldBy q1) lk_X0_74 g2 dX0_isUseless_2 rfl rfl (Nat.le_of_ble_eq_true rfl) (Nat.le_of_ble_eq_true rfl) (Nat.le_of_ble_eq_true rfl) rfl (Nat.le_of_ble_eq_true rfl) rfl rfl rfl ?_
  refine aw_istore_n (pc' := 6) (i := 2) (ls' := [some (.inr (.inr v0)), some (.inl v1), some (.inl x3), none]) hC dX0_isUseless_5 rfl rfl (Nat.le_of_ble_eq_true rfl) rfl rfl ?_
  refine aw_iconst (pc' := 7) hC dX0_isUseless_6 rfl (by decide) ?_
  refine aw_istore_n (pc' := 8) (i := 3) (ls' := [some (.inr (.inr v0)), some (.inl v1), some (.inl x3), some (.inl 0)]) hC dX0_isUseless_7 rfl rfl (Nat.le_of_ble_eq_true rfl) rfl rfl ?_
  obtain ⟨tq14, q14, h⟩ := pb_s h
  refine aw_sub hC [some (.inr (.inr v0)), some (.inl v1), some (.inl x3), some (.inl 0)] ⟨rfl, ⟨rfl, ⟨rfl, ⟨rfl, trivial⟩⟩⟩⟩ (Nat.le_of_ble_eq_true rfl) ?_
  refine (lp_aw (p_X0_isUseless_L8 Γ sh M v0 v1 x3 (fin_ Γ 0 0 (some (.inl r)) sh M)) (x_X0_isUseless_L8 Γ sh M v0 v1 x3 (fin_ Γ 0 0 (some (.inl r)) sh M)) (w_X0_isUseless_L8 hC ) FU _ _ q14 ?_ : p_X0_isUseless_L8 Γ sh M v0 v1 x3 (fin_ Γ 0 0 (some (.inl r)) sh M) 0)
  rcases tq14 with tq14 | tq14
  · replace h := se_l h
    cases tq14
    replace h := u0_s h
    show AW Γ sh M 0 0 47 [none, none, some (.inl x3), none] [] _
    refine aw_iload_n (pc' := 48) (i := 2) hC dX0_isUseless_47 rfl rfl rfl ?_
    refine aw_if_eq (tgt := 55) (pc' := 51) hC dX0_isUseless_48 (by decide) rfl (fun c15 => ?_) (fun c15 => ?_)
    · replace h := it_p c15 h
      refine aw_iconst (pc' := 56) hC dX0_isUseless_55 rfl (by decide) ?_
      cases h
      exact aw_zret hC (Or.inl rfl) dX0_isUseless_56 (Nat.le_of_ble_eq_true rfl) (Nat.le_of_ble_eq_true rfl)
    · replace h := it_n c15 h
      refine aw_iconst (pc' := 52) hC dX0_isUseless_51 rfl (by decide) ?_
      refine aw_goto (tgt := 56) hC dX0_isUseless_52 (by decide) ?_
      cases h
      exact aw_zret hC (Or.inr rfl) dX0_isUseless_56 (Nat.le_of_ble_eq_true rfl) (Nat.le_of_ble_eq_true rfl)
  · replace h := se_r h
    cases tq14
    replace h := u0_s h
    show AW Γ sh M 0 0 39 [none, none, none, none] [] _
    refine aw_iconst (pc' := 40) hC dX0_isUseless_39 rfl (by decide) ?_
    cases h
    exact aw_zret hC (Or.inl rfl) dX0_isUseless_40 (Nat.le_of_ble_eq_true rfl) (Nat.le_of_ble_eq_true rfl)
-- CoinCircle$Circle.uselessPurses()I
def fX0_uselessPurses_L4 (sh : AwS) (M : AwM) (v0 : Int) (v1 : Int) (v2 : Int) : Option ((Int × Int) ⊕ (Int)) :=
  gd_ (kd_ sh v0 = (0, 0)) (gd_ (kd_ sh (M v0 1) = (0, 5)) (gd_ ((kd_ sh (M (M v0 1) 0)).1 = 1 ∧ (0 : Int) ≤ 0 ∧ 0 < ((kd_ sh (M (M v0 1) 0)).2 : Int)) ((if v2 < (M (M (M v0 1) 0) 0) then pb (fX0_isUseless sh M v0 v2) <| u1 fun (x6 : Int) => ((if x6 = 0 then some (.inl (v1, (w32 (v2 + 1)))) else some (.inl ((or_ v1 (sl_ 1 v2)), (w32 (v2 + 1)))))) else some (.inr v1)))))
def p_X0_uselessPurses_L4 (Γ : AwC) (sh : AwS) (M : AwM) (v0 : Int) (Q : State → Prop) (s : Int × Int) : Prop := AW Γ sh M 0 0 4 [some (.inr (.inr v0)), some (.inl (s.1)), some (.inl (s.2))] [] Q
def x_X0_uselessPurses_L4 (Γ : AwC) (sh : AwS) (M : AwM) (v0 : Int) (Q : State → Prop) : (Int) → Prop := (fun (t : Int) => AW Γ sh M 0 0 37 [none, some (.inl (t)), none] [] Q)
def fX0_uselessPurses (sh : AwS) (M : AwM) (v0 : Int) : Option Int :=
  pb (lp (u2 (fX0_uselessPurses_L4 sh M v0)) FU (0, 0)) (u1 (fun (tq8 : Int) => some tq8))
set_option maxRecDepth 100000 in
set_option maxHeartbeats 4000000 in
theorem w_X0_uselessPurses_L4 {Γ : AwC} (hC : AOK Γ RX0 cX0_uselessPurses 3 4 0 0 "uselessPurses" (some .int)) {sh : AwS} {M : AwM} {v0 : Int} {Q : State → Prop} : ∀ s r, u2 (fX0_uselessPurses_L4 sh M v0) s = some r → (∀ s', r = .inl s' → p_X0_uselessPurses_L4 Γ sh M v0 Q s') → (∀ t, r = .inr t → x_X0_uselessPurses_L4 Γ sh M v0 Q t) → p_X0_uselessPurses_L4 Γ sh M v0 Q s := by
  intro s r h hL hX
  obtain ⟨v1, v2⟩ := s
  replace h := u2_s h
  unfold fX0_uselessPurses_L4 at h
  show AW Γ sh M 0 0 4 [some (.inr (.inr v0)), some (.inl v1), some (.inl v2)] [] Q
  refine aw_iload_n (pc' := 5) (i := 2) hC dX0_uselessPurses_4 rfl rfl rfl ?_
  refine aw_aload_n (pc' := 6) (i := 0) hC dX0_uselessPurses_5 rfl rfl rfl ?_
  obtain ⟨g1, h⟩ := gd_s h
  refine aw_getfield (pc' := 9) (v := (.inr (.inr (M v0 1)))) hC dX0_uselessPurses_6 rfl fl_X0_22 g1 rfl ?_
  obtain ⟨g2, h⟩ := gd_s h
  refine aw_getfield (pc' := 12) (v := (.inr (.inr (M (M v0 1) 0)))) hC dX0_uselessPurses_9 rfl fl_X0_48 g2 rfl ?_
  refine aw_iconst (pc' := 13) hC dX0_uselessPurses_12 rfl (by decide) ?_
  obtain ⟨g3, h⟩ := gd_s h
  refine aw_iaload (pc' := 14) hC dX0_uselessPurses_13 rfl g3 ?_
  refine aw_icmp_ge (tgt := 37) (pc' := 17) hC dX0_uselessPurses_14 (by decide) rfl (fun c4 => ?_) (fun c4 => ?_)
  · replace h := it_n c4 h
    refine aw_sub hC [none, some (.inl v1), none] ⟨rfl, trivial⟩ (Nat.le_of_ble_eq_true rfl) ?_
    cases h
    exact hX _ rfl
  · replace h := it_p c4 h
    refine aw_aload_n (pc' := 18) (i := 0) hC dX0_uselessPurses_17 rfl rfl rfl ?_
    refine aw_iload_n (pc' := 19) (i := 2) hC dX0_uselessPurses_18 rfl rfl rfl ?_
    obtain ⟨x6, q5, h⟩ := pb_s h
    replace h := u1_s h
    refine aw_cV (pc' := 22) (k2 := 0) (n2 := 0) (st := []) (stN := [.inl x6]) hC [.inl v2] (mX0_isUseless q5) lk_X0_77 g1 dX0_uselessPurses_19 rfl rfl (Nat.le_of_ble_eq_true rfl) (Nat.le_of_ble_eq_true rfl) (Nat.le_of_ble_eq_true rfl) rfl (Nat.le_of_ble_eq_true rfl) rfl rfl rfl ?_
    refine aw_if_eq (tgt := 31) (pc' := 25) hC dX0_uselessPurses_22 (by decide) rfl (fun c7 => ?_) (fun c7 => ?_)
    · replace h := it_p c7 h
      refine aw_iinc (pc' := 34) (ls' := [some (.inr (.inr v0)), some (.inl v1), some (.inl (w32 (v2 + 1)))]) hC dX0_uselessPurses_31 rfl rfl rfl rfl ?_
      refine aw_goto (tgt := 4) hC dX0_uselessPurses_34 (by decide) ?_
      refine aw_sub hC [some (.inr (.inr v0)), some (.inl v1), some (.inl (w32 (v2 + 1)))] ⟨rfl, ⟨rfl, ⟨rfl, trivial⟩⟩⟩ (Nat.le_of_ble_eq_true rfl) ?_
      cases h
      exact hL _ rfl
    · replace h := it_n c7 h
      refine aw_iload_n (pc' := 26) (i := 1) hC dX0_uselessPurses_25 rfl rfl rfl ?_
      refine aw_iconst (pc' := 27) hC dX0_uselessPurses_26 rfl (by decide) ?_
      refine aw_iload_n (pc' := 28) (i := 2) hC dX0_uselessPurses_27 rfl rfl rfl ?_
      refine aw_ishl (pc' := 29) hC dX0_uselessPurses_28 rfl  ?_
      refine aw_ior (pc' := 30) hC dX0_uselessPurses_29 rfl  ?_
      refine aw_istore_n (pc' := 31) (i := 1) (ls' := [some (.inr (.inr v0)), some (.inl (or_ v1 (sl_ 1 v2))), some (.inl v2)]) hC dX0_uselessPurses_30 rfl rfl (Nat.le_of_ble_eq_true rfl) rfl rfl ?_
      refine aw_iinc (pc' := 34) (ls' := [some (.inr (.inr v0)), some (.inl (or_ v1 (sl_ 1 v2))), some (.inl (w32 (v2 + 1)))]) hC dX0_uselessPurses_31 rfl rfl rfl rfl ?_
      refine aw_goto (tgt := 4) hC dX0_uselessPurses_34 (by decide) ?_
      refine aw_sub hC [some (.inr (.inr v0)), some (.inl (or_ v1 (sl_ 1 v2))), some (.inl (w32 (v2 + 1)))] ⟨rfl, ⟨rfl, ⟨rfl, trivial⟩⟩⟩ (Nat.le_of_ble_eq_true rfl) ?_
      cases h
      exact hL _ rfl
set_option maxRecDepth 100000 in
set_option maxHeartbeats 4000000 in
theorem mX0_uselessPurses {sh : AwS} {M : AwM} {v0 : Int} {r : Int} (h : fX0_uselessPurses sh M v0 = some r) : AMet yX0_uselessPurses cX0_uselessPurses 3 (some .int) 4 0 0 [.inr (.inr v0)] sh M (some (.inl r)) sh M := by
  refine amet_of (by decide +kernel) (Nat.le_of_ble_eq_true rfl) (fun Γ hC => ?_)
  replace hC : AOK Γ RX0 cX0_uselessPurses 3 4 0 0 "uselessPurses" (some .int) := hC
  unfold fX0_uselessPurses at h
  refine aw_sub hC [some (.inr (.inr v0)), none, none] ⟨rfl, trivial⟩ (Nat.le_of_ble_eq_true rfl) ?_
  refine aw_iconst (pc' := 1) hC dX0_uselessPurses_0 rfl (by decide) ?_
  refine aw_istore_n (pc' := 2) (i := 1) (ls' := [some (.inr (.inr v0)), some (.inl 0), none]) hC dX0_uselessPurses_1 rfl rfl (Nat.le_of_ble_eq_true rfl) rfl rfl ?_
  refine aw_iconst (pc' := 3) hC dX0_uselessPurses_2 rfl (by decide) ?_
  refine aw_istore_n (pc' := 4) (i := 2) (ls' := [some (.inr (.inr v0)), some (.inl 0), some (.inl 0)]) hC dX0_uselessPurses_3 rfl rfl (Nat.le_of_ble_eq_true rfl) rfl rfl ?_
  obtain ⟨tq8, q8, h⟩ := pb_s h
  refine aw_sub hC [some (.inr (.inr v0)), some (.inl 0), some (.inl 0)] ⟨rfl, ⟨rfl, ⟨rfl, trivial⟩⟩⟩ (Nat.le_of_ble_eq_true rfl) ?_
  refine (lp_aw (p_X0_uselessPurses_L4 Γ sh M v0 (fin_ Γ 0 0 (some (.inl r)) sh M)) (x_X0_uselessPurses_L4 Γ sh M v0 (fin_ Γ 0 0 (some (.inl r)) sh M)) (w_X0_uselessPurses_L4 hC ) FU _ _ q8 ?_ : p_X0_uselessPurses_L4 Γ sh M v0 (fin_ Γ 0 0 (some (.inl r)) sh M) (0, 0))
  replace h := u1_s h
  show AW Γ sh M 0 0 37 [none, some (.inl tq8), none] [] _
  refine aw_iload_n (pc' := 38) (i := 1) hC dX0_uselessPurses_37 rfl rfl rfl ?_
  cases h
  exact aw_iret hC dX0_uselessPurses_38 (Nat.le_of_ble_eq_true rfl) (Nat.le_of_ble_eq_true rfl)
-- CoinCircle.has(I)I
def fX8_has (sh : AwS) (M : AwM) (v0 : Int) (v1 : Int) : Option Int :=
  (if v1 = 0 then gd_ (kd_ sh v0 = (0, 8)) (gd_ (kd_ sh (M v0 3) = (0, 5)) (gd_ ((kd_ sh (M (M v0 3) 0)).1 = 1 ∧ (0 : Int) ≤ 0 ∧ 0 < ((kd_ sh (M (M v0 3) 0)).2 : Int)) (some (M (M (M v0 3) 0) 0)))) else (if v1 = 1 then gd_ (kd_ sh v0 = (0, 8)) (gd_ (kd_ sh (M v0 3) = (0, 5)) (gd_ ((kd_ sh (M (M v0 3) 0)).1 = 1 ∧ (0 : Int) ≤ 1 ∧ 1 < ((kd_ sh (M (M v0 3) 0)).2 : Int)) (some (M (M (M v0 3) 0) 1)))) else (if v1 = 2 then gd_ (kd_ sh v0 = (0, 8)) (gd_ (kd_ sh (M v0 3) = (0, 5)) (gd_ ((kd_ sh (M (M v0 3) 0)).1 = 1 ∧ (0 : Int) ≤ 2 ∧ 2 < ((kd_ sh (M (M v0 3) 0)).2 : Int)) (some (M (M (M v0 3) 0) 2)))) else (if v1 = 3 then gd_ (kd_ sh v0 = (0, 8)) (gd_ (kd_ sh (M v0 3) = (0, 5)) (some (M (M v0 3) 11))) else (if v1 = 4 then gd_ (kd_ sh v0 = (0, 8)) (gd_ (kd_ sh (M v0 3) = (0, 5)) (some (M (M v0 3) 12))) else (if v1 = 5 then gd_ (kd_ sh v0 = (0, 8)) (gd_ (kd_ sh (M v0 4) = (0, 0)) (gd_ (kd_ sh (M (M v0 4) 0) = (0, 3)) (some (M (M (M v0 4) 0) 0)))) else (if v1 = 6 then gd_ (kd_ sh v0 = (0, 8)) (gd_ (kd_ sh (M v0 4) = (0, 0)) (pb (fX0_flow sh M (M v0 4)) <| u1 fun (x32 : Int) => (some x32))) else (if v1 = 7 then gd_ (kd_ sh v0 = (0, 8)) (gd_ (kd_ sh (M v0 4) = (0, 0)) (pb (fX0_snubCount sh M (M v0 4)) <| u1 fun (x36 : Int) => (some x36))) else (if v1 = 8 then gd_ (kd_ sh v0 = (0, 8)) (gd_ (kd_ sh (M v0 4) = (0, 0)) (pb (fX0_knowingAllCount sh M (M v0 4)) <| u1 fun (x40 : Int) => (some x40))) else (if v1 = 9 then gd_ (kd_ sh v0 = (0, 8)) (gd_ (kd_ sh (M v0 4) = (0, 0)) (pb (fX0_uselessPurses sh M (M v0 4)) <| u1 fun (x44 : Int) => (some x44))) else (if v1 = 10 then gd_ (kd_ sh v0 = (0, 8)) (gd_ (kd_ sh (M v0 6) = (0, 2)) (some (M (M v0 6) 2))) else (if v1 = 11 then gd_ (kd_ sh v0 = (0, 8)) (some (M v0 13)) else some (-1)))))))))))))
set_option maxRecDepth 100000 in
set_option maxHeartbeats 4000000 in
theorem mX8_has {sh : AwS} {M : AwM} {v0 : Int} {v1 : Int} {r : Int} (h : fX8_has sh M v0 v1 = some r) : AMet yX8_has cX8_has 2 (some .int) 5 0 0 [.inr (.inr v0), .inl v1] sh M (some (.inl r)) sh M := by
  refine amet_of (by decide +kernel) (Nat.le_of_ble_eq_true rfl) (fun Γ hC => ?_)
  replace hC : AOK Γ RX8 cX8_has 2 5 0 0 "has" (some .int) := hC
  unfold fX8_has at h
  refine aw_sub hC [some (.inr (.inr v0)), some (.inl v1)] ⟨rfl, ⟨rfl, trivial⟩⟩ (Nat.le_of_ble_eq_true rfl) ?_
  refine aw_iload_n (pc' := 1) (i := 1) hC dX8_has_0 rfl rfl rfl ?_
  by_cases c1 : v1 = 0
  · replace h := it_p c1 h
    refine aw_tsIn (tgt := 64) (off := 63) hC dX8_has_1 ⟨by omega, by omega, by rw [c1]; rfl⟩ (by decide) ?_
    refine aw_aload_n (pc' := 65) (i := 0) hC dX8_has_64 rfl rfl rfl ?_
    obtain ⟨g13, h⟩ := gd_s h
    refine aw_getfield (pc' := 68) (v := (.inr (.inr (M v0 3)))) hC dX8_has_65 rfl fl_X8_51 g13 rfl ?_
    obtain ⟨g14, h⟩ := gd_s h
    refine aw_getfield (pc' := 71) (v := (.inr (.inr (M (M v0 3) 0)))) hC dX8_has_68 rfl fl_X8_101 g14 rfl ?_
    refine aw_iconst (pc' := 72) hC dX8_has_71 rfl (by decide) ?_
    obtain ⟨g15, h⟩ := gd_s h
    refine aw_iaload (pc' := 73) hC dX8_has_72 rfl g15 ?_
    cases h
    exact aw_iret hC dX8_has_73 (Nat.le_of_ble_eq_true rfl) (Nat.le_of_ble_eq_true rfl)
  · replace h := it_n c1 h
    by_cases c2 : v1 = 1
    · replace h := it_p c2 h
      refine aw_tsIn (tgt := 74) (off := 73) hC dX8_has_1 ⟨by omega, by omega, by rw [c2]; rfl⟩ (by decide) ?_
      refine aw_aload_n (pc' := 75) (i := 0) hC dX8_has_74 rfl rfl rfl ?_
      obtain ⟨g16, h⟩ := gd_s h
      refine aw_getfield (pc' := 78) (v := (.inr (.inr (M v0 3)))) hC dX8_has_75 rfl fl_X8_51 g16 rfl ?_
      obtain ⟨g17, h⟩ := gd_s h
      refine aw_getfield (pc' := 81) (v := (.inr (.inr (M (M v0 3) 0)))) hC dX8_has_78 rfl fl_X8_101 g17 rfl ?_
      refine aw_iconst (pc' := 82) hC dX8_has_81 rfl (by decide) ?_
      obtain ⟨g18, h⟩ := gd_s h
      refine aw_iaload (pc' := 83) hC dX8_has_82 rfl g18 ?_
      cases h
      exact aw_iret hC dX8_has_83 (Nat.le_of_ble_eq_true rfl) (Nat.le_of_ble_eq_true rfl)
    · replace h := it_n c2 h
      by_cases c3 : v1 = 2
      · replace h := it_p c3 h
        refine aw_tsIn (tgt := 84) (off := 83) hC dX8_has_1 ⟨by omega, by omega, by rw [c3]; rfl⟩ (by decide) ?_
        refine aw_aload_n (pc' := 85) (i := 0) hC dX8_has_84 rfl rfl rfl ?_
        obtain ⟨g19, h⟩ := gd_s h
        refine aw_getfield (pc' := 88) (v := (.inr (.inr (M v0 3)))) hC dX8_has_85 rfl fl_X8_51 g19 rfl ?_
        obtain ⟨g20, h⟩ := gd_s h
        refine aw_getfield (pc' := 91) (v := (.inr (.inr (M (M v0 3) 0)))) hC dX8_has_88 rfl fl_X8_101 g20 rfl ?_
        refine aw_iconst (pc' := 92) hC dX8_has_91 rfl (by decide) ?_
        obtain ⟨g21, h⟩ := gd_s h
        refine aw_iaload (pc' := 93) hC dX8_has_92 rfl g21 ?_
        cases h
        exact aw_iret hC dX8_has_93 (Nat.le_of_ble_eq_true rfl) (Nat.le_of_ble_eq_true rfl)
      · replace h := it_n c3 h
        by_cases c4 : v1 = 3
        · replace h := it_p c4 h
          refine aw_tsIn (tgt := 94) (off := 93) hC dX8_has_1 ⟨by omega, by omega, by rw [c4]; rfl⟩ (by decide) ?_
          refine aw_aload_n (pc' := 95) (i := 0) hC dX8_has_94 rfl rfl rfl ?_
          obtain ⟨g22, h⟩ := gd_s h
          refine aw_getfield (pc' := 98) (v := (.inr (.inr (M v0 3)))) hC dX8_has_95 rfl fl_X8_51 g22 rfl ?_
          obtain ⟨g23, h⟩ := gd_s h
          refine aw_getfield (pc' := 101) (v := (.inl (M (M v0 3) 11))) hC dX8_has_98 rfl fl_X8_104 g23 rfl ?_
          cases h
          exact aw_iret hC dX8_has_101 (Nat.le_of_ble_eq_true rfl) (Nat.le_of_ble_eq_true rfl)
        · replace h := it_n c4 h
          by_cases c5 : v1 = 4
          · replace h := it_p c5 h
            refine aw_tsIn (tgt := 102) (off := 101) hC dX8_has_1 ⟨by omega, by omega, by rw [c5]; rfl⟩ (by decide) ?_
            refine aw_aload_n (pc' := 103) (i := 0) hC dX8_has_102 rfl rfl rfl ?_
            obtain ⟨g24, h⟩ := gd_s h
            refine aw_getfield (pc' := 106) (v := (.inr (.inr (M v0 3)))) hC dX8_has_103 rfl fl_X8_51 g24 rfl ?_
            obtain ⟨g25, h⟩ := gd_s h
            refine aw_getfield (pc' := 109) (v := (.inl (M (M v0 3) 12))) hC dX8_has_106 rfl fl_X8_107 g25 rfl ?_
            cases h
            exact aw_iret hC dX8_has_109 (Nat.le_of_ble_eq_true rfl) (Nat.le_of_ble_eq_true rfl)
          · replace h := it_n c5 h
            by_cases c6 : v1 = 5
            · replace h := it_p c6 h
              refine aw_tsIn (tgt := 110) (off := 109) hC dX8_has_1 ⟨by omega, by omega, by rw [c6]; rfl⟩ (by decide) ?_
              refine aw_aload_n (pc' := 111) (i := 0) hC dX8_has_110 rfl rfl rfl ?_
              obtain ⟨g26, h⟩ := gd_s h
              refine aw_getfield (pc' := 114) (v := (.inr (.inr (M v0 4)))) hC dX8_has_111 rfl fl_X8_60 g26 rfl ?_
              obtain ⟨g27, h⟩ := gd_s h
              refine aw_getfield (pc' := 117) (v := (.inr (.inr (M (M v0 4) 0)))) hC dX8_has_114 rfl fl_X8_110 g27 rfl ?_
              obtain ⟨g28, h⟩ := gd_s h
              refine aw_getfield (pc' := 120) (v := (.inl (M (M (M v0 4) 0) 0))) hC dX8_has_117 rfl fl_X8_114 g28 rfl ?_
              cases h
              exact aw_iret hC dX8_has_120 (Nat.le_of_ble_eq_true rfl) (Nat.le_of_ble_eq_true rfl)
            · replace h := it_n c6 h
              by_cases c7 : v1 = 6
              · replace h := it_p c7 h
                refine aw_tsIn (tgt := 121) (off := 120) hC dX8_has_1 ⟨by omega, by omega, by rw [c7]; rfl⟩ (by decide) ?_
                refine aw_aload_n (pc' := 122) (i := 0) hC dX8_has_121 rfl rfl rfl ?_
                obtain ⟨g29, h⟩ := gd_s h
                refine aw_getfield (pc' := 125) (v := (.inr (.inr (M v0 4)))) hC dX8_has_122 rfl fl_X8_60 g29 rfl ?_
                obtain ⟨g31, h⟩ := gd_s h
                obtain ⟨x32, q30, h⟩ := pb_s h
                replace h := u1_s h
                refine aw_cV (pc' := 128) (k2 := 0) (n2 := 0) (st := []) (stN := [.inl x32]) hC [] (mX0_flow q30) lk_X8_119 g31 dX8_has_125 rfl rfl (Nat.le_of_ble_eq_true rfl) (Nat.le_of_ble_eq_true rfl) (Nat.le_of_ble_eq_true rfl) rfl (Nat.le_of_ble_eq_true rfl) rfl rfl rfl ?_
                cases h
                exact aw_iret hC dX8_has_128 (Nat.le_of_ble_eq_true rfl) (Nat.le_of_ble_eq_true rfl)
              · replace h := it_n c7 h
                by_cases c8 : v1 = 7
                · replace h := it_p c8 h
                  refine aw_tsIn (tgt := 129) (off := 128) hC dX8_has_1 ⟨by omega, by omega, by rw [c8]; rfl⟩ (by decide) ?_
                  refine aw_aload_n (pc' := 130) (i := 0) hC dX8_has_129 rfl rfl rfl ?_
                  obtain ⟨g33, h⟩ := gd_s h
                  refine aw_getfield (pc' := 133) (v := (.inr (.inr (M v0 4)))) hC dX8_has_130 rfl fl_X8_60 g33 rfl ?_
                  obtain ⟨g35, h⟩ := gd_s h
                  obtain ⟨x36, q34, h⟩ := pb_s h
                  replace h := u1_s h
                  refine aw_cV (pc' := 136) (k2 := 0) (n2 := 0) (st := []) (stN := [.inl x36]) hC [] (mX0_snubCount q34) lk_X8_123 g35 dX8_has_133 rfl rfl (Nat.le_of_ble_eq_true rfl) (Nat.le_of_ble_eq_true rfl) (Nat.le_of_ble_eq_true rfl) rfl (Nat.le_of_ble_eq_true rfl) rfl rfl rfl ?_
                  cases h
                  exact aw_iret hC dX8_has_136 (Nat.le_of_ble_eq_true rfl) (Nat.le_of_ble_eq_true rfl)
                · replace h := it_n c8 h
                  by_cases c9 : v1 = 8
                  · replace h := it_p c9 h
                    refine aw_tsIn (tgt := 137) (off := 136) hC dX8_has_1 ⟨by omega, by omega, by rw [c9]; rfl⟩ (by decide) ?_
                    refine aw_aload_n (pc' := 138) (i := 0) hC dX8_has_137 rfl rfl rfl ?_
                    obtain ⟨g37, h⟩ := gd_s h
                    refine aw_getfield (pc' := 141) (v := (.inr (.inr (M v0 4)))) hC dX8_has_138 rfl fl_X8_60 g37 rfl ?_
                    obtain ⟨g39, h⟩ := gd_s h
                    obtain ⟨x40, q38, h⟩ := pb_s h
                    replace h := u1_s h
                    refine aw_cV (pc' := 144) (k2 := 0) (n2 := 0) (st := []) (stN := [.inl x40]) hC [] (mX0_knowingAllCount q38) lk_X8_126 g39 dX8_has_141 rfl rfl (Nat.le_of_ble_eq_true rfl) (Nat.le_of_ble_eq_true rfl) (Nat.le_of_ble_eq_true rfl) rfl (Nat.le_of_ble_eq_true rfl) rfl rfl rfl ?_
                    cases h
                    exact aw_iret hC dX8_has_144 (Nat.le_of_ble_eq_true rfl) (Nat.le_of_ble_eq_true rfl)
                  · replace h := it_n c9 h
                    by_cases c10 : v1 = 9
                    · replace h := it_p c10 h
                      refine aw_tsIn (tgt := 145) (off := 144) hC dX8_has_1 ⟨by omega, by omega, by rw [c10]; rfl⟩ (by decide) ?_
                      refine aw_aload_n (pc' := 146) (i := 0) hC dX8_has_145 rfl rfl rfl ?_
                      obtain ⟨g41, h⟩ := gd_s h
                      refine aw_getfield (pc' := 149) (v := (.inr (.inr (M v0 4)))) hC dX8_has_146 rfl fl_X8_60 g41 rfl ?_
                      obtain ⟨g43, h⟩ := gd_s h
                      obtain ⟨x44, q42, h⟩ := pb_s h
                      replace h := u1_s h
                      refine aw_cV (pc' := 152) (k2 := 0) (n2 := 0) (st := []) (stN := [.inl x44]) hC [] (mX0_uselessPurses q42) lk_X8_129 g43 dX8_has_149 rfl rfl (Nat.le_of_ble_eq_true rfl) (Nat.le_of_ble_eq_true rfl) (Nat.le_of_ble_eq_true rfl) rfl (Nat.le_of_ble_eq_true rfl) rfl rfl rfl ?_
                      cases h
                      exact aw_iret hC dX8_has_152 (Nat.le_of_ble_eq_true rfl) (Nat.le_of_ble_eq_true rfl)
                    · replace h := it_n c10 h
                      by_cases c11 : v1 = 10
                      · replace h := it_p c11 h
                        refine aw_tsIn (tgt := 153) (off := 152) hC dX8_has_1 ⟨by omega, by omega, by rw [c11]; rfl⟩ (by decide) ?_
                        refine aw_aload_n (pc' := 154) (i := 0) hC dX8_has_153 rfl rfl rfl ?_
                        obtain ⟨g45, h⟩ := gd_s h
                        refine aw_getfield (pc' := 157) (v := (.inr (.inr (M v0 6)))) hC dX8_has_154 rfl fl_X8_23 g45 rfl ?_
                        obtain ⟨g46, h⟩ := gd_s h
                        refine aw_getfield (pc' := 160) (v := (.inl (M (M v0 6) 2))) hC dX8_has_157 rfl fl_X8_132 g46 rfl ?_
                        cases h
                        exact aw_iret hC dX8_has_160 (Nat.le_of_ble_eq_true rfl) (Nat.le_of_ble_eq_true rfl)
                      · replace h := it_n c11 h
                        by_cases c12 : v1 = 11
                        · replace h := it_p c12 h
                          refine aw_tsIn (tgt := 161) (off := 160) hC dX8_has_1 ⟨by omega, by omega, by rw [c12]; rfl⟩ (by decide) ?_
                          refine aw_aload_n (pc' := 162) (i := 0) hC dX8_has_161 rfl rfl rfl ?_
                          obtain ⟨g47, h⟩ := gd_s h
                          refine aw_getfield (pc' := 165) (v := (.inl (M v0 13))) hC dX8_has_162 rfl fl_X8_44 g47 rfl ?_
                          cases h
                          exact aw_iret hC dX8_has_165 (Nat.le_of_ble_eq_true rfl) (Nat.le_of_ble_eq_true rfl)
                        · replace h := it_n c12 h
                          refine aw_tsOut (tgt := 166) hC dX8_has_1 (by omega) (by decide) ?_
                          refine aw_iconst (pc' := 167) hC dX8_has_166 rfl (by decide) ?_
                          cases h
                          exact aw_iret hC dX8_has_167 (Nat.le_of_ble_eq_true rfl) (Nat.le_of_ble_eq_true rfl)
-- CoinCircle$Circle.knows(II)Z
def fX0_knows (sh : AwS) (M : AwM) (v0 : Int) (v1 : Int) (v2 : Int) : Option Int :=
  gd_ (kd_ sh v0 = (0, 0)) (gd_ (kd_ sh (M v0 0) = (0, 3)) (gd_ ((kd_ sh (M (M v0 0) 2)).1 = 1 ∧ (0 : Int) ≤ v1 ∧ v1 < ((kd_ sh (M (M v0 0) 2)).2 : Int)) (pb (fX8_isIn sh M (M (M (M v0 0) 2) v1) v2) <| u1 fun (x5 : Int) => (gd_ (x5 = 0 ∨ x5 = 1) (some x5)))))
set_option maxRecDepth 100000 in
set_option maxHeartbeats 4000000 in
theorem mX0_knows {sh : AwS} {M : AwM} {v0 : Int} {v1 : Int} {v2 : Int} {r : Int} (h : fX0_knows sh M v0 v1 v2 = some r) : AMet yX0_knows cX0_knows 3 (some .boolean) 2 0 0 [.inr (.inr v0), .inl v1, .inl v2] sh M (some (.inl r)) sh M := by
  refine amet_of (by decide +kernel) (Nat.le_of_ble_eq_true rfl) (fun Γ hC => ?_)
  replace hC : AOK Γ RX0 cX0_knows 3 2 0 0 "knows" (some .boolean) := hC
  unfold fX0_knows at h
  refine aw_sub hC [some (.inr (.inr v0)), some (.inl v1), some (.inl v2)] ⟨rfl, ⟨rfl, ⟨rfl, trivial⟩⟩⟩ (Nat.le_of_ble_eq_true rfl) ?_
  refine aw_aload_n (pc' := 1) (i := 0) hC dX0_knows_0 rfl rfl rfl ?_
  obtain ⟨g1, h⟩ := gd_s h
  refine aw_getfield (pc' := 4) (v := (.inr (.inr (M v0 0)))) hC dX0_knows_1 rfl fl_X0_12 g1 rfl ?_
  obtain ⟨g2, h⟩ := gd_s h
  refine aw_getfield (pc' := 7) (v := (.inr (.inr (M (M v0 0) 2)))) hC dX0_knows_4 rfl fl_X0_36 g2 rfl ?_
  refine aw_iload_n (pc' := 8) (i := 1) hC dX0_knows_7 rfl rfl rfl ?_
  obtain ⟨g3, h⟩ := gd_s h
  refine aw_iaload (pc' := 9) hC dX0_knows_8 rfl g3 ?_
  refine aw_iload_n (pc' := 10) (i := 2) hC dX0_knows_9 rfl rfl rfl ?_
  obtain ⟨x5, q4, h⟩ := pb_s h
  replace h := u1_s h
  refine aw_cSN (pc' := 13) (k2 := 0) (n2 := 0) (st := []) (stN := [.inl x5]) hC [.inl (M (M (M v0 0) 2) v1), .inl v2] (mX8_isIn q4) lk_X0_51 dX0_knows_10 rfl rfl (Nat.le_of_ble_eq_true rfl) (Nat.le_of_ble_eq_true rfl) (Nat.le_of_ble_eq_true rfl) rfl (Nat.le_of_ble_eq_true rfl) rfl rfl rfl ?_
  obtain ⟨g6, h⟩ := gd_s h
  cases h
  exact aw_zret hC g6 dX0_knows_13 (Nat.le_of_ble_eq_true rfl) (Nat.le_of_ble_eq_true rfl)
-- CoinCircleModel.is(III)Z
def fX9_is (sh : AwS) (M : AwM) (v0 : Int) (v1 : Int) (v2 : Int) : Option Int :=
  (if v0 < v1 then some 0 else (if v2 < v0 then some 0 else some 1))
set_option maxRecDepth 100000 in
set_option maxHeartbeats 4000000 in
theorem mX9_is {sh : AwS} {M : AwM} {v0 : Int} {v1 : Int} {v2 : Int} {r : Int} (h : fX9_is sh M v0 v1 v2 = some r) : AMet yX9_is cX9_is 3 (some .boolean) 1 0 0 [.inl v0, .inl v1, .inl v2] sh M (some (.inl r)) sh M := by
  refine amet_of (by decide +kernel) (Nat.le_of_ble_eq_true rfl) (fun Γ hC => ?_)
  replace hC : AOK Γ RX9 cX9_is 3 1 0 0 "is" (some .boolean) := hC
  unfold fX9_is at h
  refine aw_sub hC [some (.inl v0), some (.inl v1), some (.inl v2)] ⟨rfl, ⟨rfl, ⟨rfl, trivial⟩⟩⟩ (Nat.le_of_ble_eq_true rfl) ?_
  refine aw_iload_n (pc' := 1) (i := 0) hC dX9_is_0 rfl rfl rfl ?_
  refine aw_iload_n (pc' := 2) (i := 1) hC dX9_is_1 rfl rfl rfl ?_
  refine aw_icmp_lt (tgt := 14) (pc' := 5) hC dX9_is_2 (by decide) rfl (fun c1 => ?_) (fun c1 => ?_)
  · replace h := it_p c1 h
    refine aw_iconst (pc' := 15) hC dX9_is_14 rfl (by decide) ?_
    cases h
    exact aw_zret hC (Or.inl rfl) dX9_is_15 (Nat.le_of_ble_eq_true rfl) (Nat.le_of_ble_eq_true rfl)
  · replace h := it_n c1 h
    refine aw_iload_n (pc' := 6) (i := 0) hC dX9_is_5 rfl rfl rfl ?_
    refine aw_iload_n (pc' := 7) (i := 2) hC dX9_is_6 rfl rfl rfl ?_
    refine aw_icmp_gt (tgt := 14) (pc' := 10) hC dX9_is_7 (by decide) rfl (fun c2 => ?_) (fun c2 => ?_)
    · replace h := it_p c2 h
      refine aw_iconst (pc' := 15) hC dX9_is_14 rfl (by decide) ?_
      cases h
      exact aw_zret hC (Or.inl rfl) dX9_is_15 (Nat.le_of_ble_eq_true rfl) (Nat.le_of_ble_eq_true rfl)
    · replace h := it_n c2 h
      refine aw_iconst (pc' := 11) hC dX9_is_10 rfl (by decide) ?_
      refine aw_goto (tgt := 15) hC dX9_is_11 (by decide) ?_
      cases h
      exact aw_zret hC (Or.inr rfl) dX9_is_15 (Nat.le_of_ble_eq_true rfl) (Nat.le_of_ble_eq_true rfl)
-- CoinCircleModel.put(I)V
def fX9_put_L3 (sh : AwS) (v0 : Int) (v1 : Int) (v2 : Int) (M : AwM) : Option ((Int × AwM) ⊕ (AwM)) :=
  (if v2 < 0 then some (.inr M) else gd_ (kd_ sh v0 = (0, 9)) (gd_ ((kd_ sh (M v0 0)).1 = 1 ∧ (0 : Int) ≤ (M v0 1) ∧ (M v0 1) < ((kd_ sh (M v0 0)).2 : Int)) (bd_ (up_ M (M v0 0) (M v0 1) (an_ (sr_ v1 v2) 255)) fun (M4 : AwM) => (bd_ (up_ M4 v0 1 (w32 ((M4 v0 1) + 1))) fun (M6 : AwM) => (some (.inl ((w32 (v2 + (-8))), M6)))))))
def p_X9_put_L3 (Γ : AwC) (sh : AwS) (v0 : Int) (v1 : Int) (Q : State → Prop) (s : Int × AwM) : Prop := AW Γ sh (s.2) 0 0 3 [some (.inr (.inr v0)), some (.inl v1), some (.inl (s.1))] [] Q
def x_X9_put_L3 (Γ : AwC) (sh : AwS) (v0 : Int) (v1 : Int) (Q : State → Prop) : (AwM) → Prop := (fun (t : AwM) => AW Γ sh (t) 0 0 39 [none, none, none] [] Q)
def fX9_put (sh : AwS) (M : AwM) (v0 : Int) (v1 : Int) : Option (AwM) :=
  pb (lp (u2 (fX9_put_L3 sh v0 v1)) FU (24, M)) (u1 (fun (tq8 : AwM) => some tq8))
set_option maxRecDepth 100000 in
set_option maxHeartbeats 4000000 in
theorem w_X9_put_L3 {Γ : AwC} (hC : AOK Γ RX9 cX9_put 3 1 0 0 "put" none) {sh : AwS} {v0 : Int} {v1 : Int} {Q : State → Prop} : ∀ s r, u2 (fX9_put_L3 sh v0 v1) s = some r → (∀ s', r = .inl s' → p_X9_put_L3 Γ sh v0 v1 Q s') → (∀ t, r = .inr t → x_X9_put_L3 Γ sh v0 v1 Q t) → p_X9_put_L3 Γ sh v0 v1 Q s := by
  intro s r h hL hX
  obtain ⟨v2, M⟩ := s
  replace h := u2_s h
  unfold fX9_put_L3 at h
  show AW Γ sh M 0 0 3 [some (.inr (.inr v0)), some (.inl v1), some (.inl v2)] [] Q
  refine aw_iload_n (pc' := 4) (i := 2) hC dX9_put_3 rfl rfl rfl ?_
  refine aw_if_lt (tgt := 39) (pc' := 7) hC dX9_put_4 (by decide) rfl (fun c1 => ?_) (fun c1 => ?_)
  · replace h := it_p c1 h
    refine aw_sub hC [none, none, none] trivial (Nat.le_of_ble_eq_true rfl) ?_
    cases h
    exact hX _ rfl
  · replace h := it_n c1 h
    refine aw_aload_n (pc' := 8) (i := 0) hC dX9_put_7 rfl rfl rfl ?_
    obtain ⟨g2, h⟩ := gd_s h
    refine aw_getfield (pc' := 11) (v := (.inr (.inr (M v0 0)))) hC dX9_put_8 rfl fl_X9_7 g2 rfl ?_
    refine aw_aload_n (pc' := 12) (i := 0) hC dX9_put_11 rfl rfl rfl ?_
    refine aw_getfield (pc' := 15) (v := (.inl (M v0 1))) hC dX9_put_12 rfl fl_X9_13 g2 rfl ?_
    refine aw_iload_n (pc' := 16) (i := 1) hC dX9_put_15 rfl rfl rfl ?_
    refine aw_iload_n (pc' := 17) (i := 2) hC dX9_put_16 rfl rfl rfl ?_
    refine aw_ishr (pc' := 18) hC dX9_put_17 rfl  ?_
    refine aw_sipush (pc' := 21) hC dX9_put_18 rfl (by decide) ?_
    refine aw_iand (pc' := 22) hC dX9_put_21 rfl  ?_
    obtain ⟨g3, h⟩ := gd_s h
    obtain ⟨M4, e5, h⟩ := bd_s h
    refine aw_ias (pc' := 23) hC dX9_put_22 rfl g3 e5 ?_
    refine aw_aload_n (pc' := 24) (i := 0) hC dX9_put_23 rfl rfl rfl ?_
    refine aw_dup (pc' := 25) hC dX9_put_24 rfl rfl ?_
    refine aw_getfield (pc' := 28) (v := (.inl (M4 v0 1))) hC dX9_put_25 rfl fl_X9_13 g2 rfl ?_
    refine aw_iconst (pc' := 29) hC dX9_put_28 rfl (by decide) ?_
    refine aw_iadd (pc' := 30) hC dX9_put_29 rfl  ?_
    obtain ⟨M6, e7, h⟩ := bd_s h
    refine aw_pf (pc' := 33) hC dX9_put_30 rfl fp_X9_13 g2 rfl trivial e7 ?_
    refine aw_iinc (pc' := 36) (ls' := [some (.inr (.inr v0)), some (.inl v1), some (.inl (w32 (v2 + (-8))))]) hC dX9_put_33 rfl rfl rfl rfl ?_
    refine aw_goto (tgt := 3) hC dX9_put_36 (by decide) ?_
    refine aw_sub hC [some (.inr (.inr v0)), some (.inl v1), some (.inl (w32 (v2 + (-8))))] ⟨rfl, ⟨rfl, ⟨rfl, trivial⟩⟩⟩ (Nat.le_of_ble_eq_true rfl) ?_
    cases h
    exact hL _ rfl
set_option maxRecDepth 100000 in
set_option maxHeartbeats 4000000 in
theorem mX9_put {sh : AwS} {M : AwM} {v0 : Int} {v1 : Int} {M' : AwM} (h : fX9_put sh M v0 v1 = some M') : AMet yX9_put cX9_put 3 none 1 0 0 [.inr (.inr v0), .inl v1] sh M none sh M' := by
  refine amet_of (by decide +kernel) (Nat.le_of_ble_eq_true rfl) (fun Γ hC => ?_)
  replace hC : AOK Γ RX9 cX9_put 3 1 0 0 "put" none := hC
  unfold fX9_put at h
  refine aw_sub hC [some (.inr (.inr v0)), some (.inl v1), none] ⟨rfl, ⟨rfl, trivial⟩⟩ (Nat.le_of_ble_eq_true rfl) ?_
  refine aw_bipush (pc' := 2) hC dX9_put_0 rfl (by decide) ?_
  refine aw_istore_n (pc' := 3) (i := 2) (ls' := [some (.inr (.inr v0)), some (.inl v1), some (.inl 24)]) hC dX9_put_2 rfl rfl (Nat.le_of_ble_eq_true rfl) rfl rfl ?_
  obtain ⟨tq8, q8, h⟩ := pb_s h
  refine aw_sub hC [some (.inr (.inr v0)), some (.inl v1), some (.inl 24)] ⟨rfl, ⟨rfl, ⟨rfl, trivial⟩⟩⟩ (Nat.le_of_ble_eq_true rfl) ?_
  refine (lp_aw (p_X9_put_L3 Γ sh v0 v1 (fin_ Γ 0 0 none sh M')) (x_X9_put_L3 Γ sh v0 v1 (fin_ Γ 0 0 none sh M')) (w_X9_put_L3 hC ) FU _ _ q8 ?_ : p_X9_put_L3 Γ sh v0 v1 (fin_ Γ 0 0 none sh M') (24, M))
  replace h := u1_s h
  show AW Γ sh tq8 0 0 39 [none, none, none] [] _
  cases h
  exact aw_vret hC dX9_put_39 (Nat.le_of_ble_eq_true rfl) (Nat.le_of_ble_eq_true rfl)
-- CoinCircleModel.heldBy(II)I
def fX9_heldBy_L5 (sh : AwS) (M : AwM) (v0 : Int) (v1 : Int) (v2 : Int) (v3 : Int) (v4 : Int) : Option ((Int × Int) ⊕ (Int)) :=
  gd_ (kd_ sh v0 = (0, 9)) (gd_ ((kd_ sh (M v0 16)).1 = 1 ∧ (0 : Int) ≤ (M v0 13) ∧ (M v0 13) < ((kd_ sh (M v0 16)).2 : Int)) ((if v4 < (M (M v0 16) (M v0 13)) then gd_ ((kd_ sh (M v0 49)).1 = 1 ∧ (0 : Int) ≤ (w32 ((w32 (12 * v1)) + v4)) ∧ (w32 ((w32 (12 * v1)) + v4)) < ((kd_ sh (M v0 49)).2 : Int)) ((if (M (M v0 49) (w32 ((w32 (12 * v1)) + v4))) = v2 then some (.inl ((or_ v3 (sl_ 1 v4)), (w32 (v4 + 1)))) else some (.inl ((or_ v3 0), (w32 (v4 + 1)))))) else some (.inr v3))))
def p_X9_heldBy_L5 (Γ : AwC) (sh : AwS) (M : AwM) (v0 : Int) (v1 : Int) (v2 : Int) (Q : State → Prop) (s : Int × Int) : Prop := AW Γ sh M 0 0 5 [some (.inr (.inr v0)), some (.inl v1), some (.inl v2), some (.inl (s.1)), some (.inl (s.2))] [] Q
def x_X9_heldBy_L5 (Γ : AwC) (sh : AwS) (M : AwM) (v0 : Int) (v1 : Int) (v2 : Int) (Q : State → Prop) : (Int) → Prop := (fun (t : Int) => AW Γ sh M 0 0 52 [none, none, none, some (.inl (t)), none] [] Q)
def fX9_heldBy (sh : AwS) (M : AwM) (v0 : Int) (v1 : Int) (v2 : Int) : Option Int :=
  pb (lp (u2 (fX9_heldBy_L5 sh M v0 v1 v2)) FU (0, 0)) (u1 (fun (tq6 : Int) => some tq6))
set_option maxRecDepth 100000 in
set_option maxHeartbeats 4000000 in
theorem w_X9_heldBy_L5 {Γ : AwC} (hC : AOK Γ RX9 cX9_heldBy 5 1 0 0 "heldBy" (some .int)) {sh : AwS} {M : AwM} {v0 : Int} {v1 : Int} {v2 : Int} {Q : State → Prop} : ∀ s r, u2 (fX9_heldBy_L5 sh M v0 v1 v2) s = some r → (∀ s', r = .inl s' → p_X9_heldBy_L5 Γ sh M v0 v1 v2 Q s') → (∀ t, r = .inr t → x_X9_heldBy_L5 Γ sh M v0 v1 v2 Q t) → p_X9_heldBy_L5 Γ sh M v0 v1 v2 Q s := by
  intro s r h hL hX
  obtain ⟨v3, v4⟩ := s
  replace h := u2_s h
  unfold fX9_heldBy_L5 at h
  show AW Γ sh M 0 0 5 [some (.inr (.inr v0)), some (.inl v1), some (.inl v2), some (.inl v3), some (.inl v4)] [] Q
  refine aw_iload (pc' := 7) hC dX9_heldBy_5 rfl rfl ?_
  refine aw_aload_n (pc' := 8) (i := 0) hC dX9_heldBy_7 rfl rfl rfl ?_
  obtain ⟨g1, h⟩ := gd_s h
  refine aw_getfield (pc' := 11) (v := (.inr (.inr (M v0 16)))) hC dX9_heldBy_8 rfl fl_X9_60 g1 rfl ?_
  refine aw_aload_n (pc' := 12) (i := 0) hC dX9_heldBy_11 rfl rfl rfl ?_
  refine aw_getfield (pc' := 15) (v := (.inl (M v0 13))) hC dX9_heldBy_12 rfl fl_X9_51 g1 rfl ?_
  obtain ⟨g2, h⟩ := gd_s h
  refine aw_iaload (pc' := 16) hC dX9_heldBy_15 rfl g2 ?_
  refine aw_icmp_ge (tgt := 52) (pc' := 19) hC dX9_heldBy_16 (by decide) rfl (fun c3 => ?_) (fun c3 => ?_)
  · replace h := it_n c3 h
    refine aw_sub hC [none, none, none, some (.inl v3), none] ⟨rfl, trivial⟩ (Nat.le_of_ble_eq_true rfl) ?_
    cases h
    exact hX _ rfl
  · replace h := it_p c3 h
    refine aw_iload_n (pc' := 20) (i := 3) hC dX9_heldBy_19 rfl rfl rfl ?_
    refine aw_aload_n (pc' := 21) (i := 0) hC dX9_heldBy_20 rfl rfl rfl ?_
    refine aw_getfield (pc' := 24) (v := (.inr (.inr (M v0 49)))) hC dX9_heldBy_21 rfl fl_X9_162 g1 rfl ?_
    refine aw_bipush (pc' := 26) hC dX9_heldBy_24 rfl (by decide) ?_
    refine aw_iload_n (pc' := 27) (i := 1) hC dX9_heldBy_26 rfl rfl rfl ?_
    refine aw_imul (pc' := 28) hC dX9_heldBy_27 rfl  ?_
    refine aw_iload (pc' := 30) hC dX9_heldBy_28 rfl rfl ?_
    refine aw_iadd (pc' := 31) hC dX9_heldBy_30 rfl  ?_
    obtain ⟨g4, h⟩ := gd_s h
    refine aw_iaload (pc' := 32) hC dX9_heldBy_31 rfl g4 ?_
    refine aw_iload_n (pc' := 33) (i := 2) hC dX9_heldBy_32 rfl rfl rfl ?_
    refine aw_icmp_ne (tgt := 43) (pc' := 36) hC dX9_heldBy_33 (by decide) rfl (fun c5 => ?_) (fun c5 => ?_)
    · replace h := it_n c5 h
      refine aw_iconst (pc' := 44) hC dX9_heldBy_43 rfl (by decide) ?_
      refine aw_ior (pc' := 45) hC dX9_heldBy_44 rfl  ?_
      refine aw_istore_n (pc' := 46) (i := 3) (ls' := [some (.inr (.inr v0)), some (.inl v1), some (.inl v2), some (.inl (or_ v3 0)), some (.inl v4)]) hC dX9_heldBy_45 rfl rfl (Nat.le_of_ble_eq_true rfl) rfl rfl ?_
      refine aw_iinc (pc' := 49) (ls' := [some (.inr (.inr v0)), some (.inl v1), some (.inl v2), some (.inl (or_ v3 0)), some (.inl (w32 (v4 + 1)))]) hC dX9_heldBy_46 rfl rfl rfl rfl ?_
      refine aw_goto (tgt := 5) hC dX9_heldBy_49 (by decide) ?_
      refine aw_sub hC [some (.inr (.inr v0)), some (.inl v1), some (.inl v2), some (.inl (or_ v3 0)), some (.inl (w32 (v4 + 1)))] ⟨rfl, ⟨rfl, ⟨rfl, ⟨rfl, ⟨rfl, trivial⟩⟩⟩⟩⟩ (Nat.le_of_ble_eq_true rfl) ?_
      cases h
      exact hL _ rfl
    · replace h := it_p c5 h
      refine aw_iconst (pc' := 37) hC dX9_heldBy_36 rfl (by decide) ?_
      refine aw_iload (pc' := 39) hC dX9_heldBy_37 rfl rfl ?_
      refine aw_ishl (pc' := 40) hC dX9_heldBy_39 rfl  ?_
      refine aw_goto (tgt := 44) hC dX9_heldBy_40 (by decide) ?_
      refine aw_ior (pc' := 45) hC dX9_heldBy_44 rfl  ?_
      refine aw_istore_n (pc' := 46) (i := 3) (ls' := [some (.inr (.inr v0)), some (.inl v1), some (.inl v2), some (.inl (or_ v3 (sl_ 1 v4))), some (.inl v4)]) hC dX9_heldBy_45 rfl rfl (Nat.le_of_ble_eq_true rfl) rfl rfl ?_
      refine aw_iinc (pc' := 49) (ls' := [some (.inr (.inr v0)), some (.inl v1), some (.inl v2), some (.inl (or_ v3 (sl_ 1 v4))), some (.inl (w32 (v4 + 1)))]) hC dX9_heldBy_46 rfl rfl rfl rfl ?_
      refine aw_goto (tgt := 5) hC dX9_heldBy_49 (by decide) ?_
      refine aw_sub hC [some (.inr (.inr v0)), some (.inl v1), some (.inl v2), some (.inl (or_ v3 (sl_ 1 v4))), some (.inl (w32 (v4 + 1)))] ⟨rfl, ⟨rfl, ⟨rfl, ⟨rfl, ⟨rfl, trivial⟩⟩⟩⟩⟩ (Nat.le_of_ble_eq_true rfl) ?_
      cases h
      exact hL _ rfl
set_option maxRecDepth 100000 in
set_option maxHeartbeats 4000000 in
theorem mX9_heldBy {sh : AwS} {M : AwM} {v0 : Int} {v1 : Int} {v2 : Int} {r : Int} (h : fX9_heldBy sh M v0 v1 v2 = some r) : AMet yX9_heldBy cX9_heldBy 5 (some .int) 1 0 0 [.inr (.inr v0), .inl v1, .inl v2] sh M (some (.inl r)) sh M := by
  refine amet_of (by decide +kernel) (Nat.le_of_ble_eq_true rfl) (fun Γ hC => ?_)
  replace hC : AOK Γ RX9 cX9_heldBy 5 1 0 0 "heldBy" (some .int) := hC
  unfold fX9_heldBy at h
  refine aw_sub hC [some (.inr (.inr v0)), some (.inl v1), some (.inl v2), none, none] ⟨rfl, ⟨rfl, ⟨rfl, trivial⟩⟩⟩ (Nat.le_of_ble_eq_true rfl) ?_
  refine aw_iconst (pc' := 1) hC dX9_heldBy_0 rfl (by decide) ?_
  refine aw_istore_n (pc' := 2) (i := 3) (ls' := [some (.inr (.inr v0)), some (.inl v1), some (.inl v2), some (.inl 0), none]) hC dX9_heldBy_1 rfl rfl (Nat.le_of_ble_eq_true rfl) rfl rfl ?_
  refine aw_iconst (pc' := 3) hC dX9_heldBy_2 rfl (by decide) ?_
  refine aw_istore (pc' := 5) (ls' := [some (.inr (.inr v0)), some (.inl v1), some (.inl v2), some (.inl 0), some (.inl 0)]) hC dX9_heldBy_3 rfl (Nat.le_of_ble_eq_true rfl) rfl rfl ?_
  obtain ⟨tq6, q6, h⟩ := pb_s h
  refine aw_sub hC [some (.inr (.inr v0)), some (.inl v1), some (.inl v2), some (.inl 0), some (.inl 0)] ⟨rfl, ⟨rfl, ⟨rfl, ⟨rfl, ⟨rfl, trivial⟩⟩⟩⟩⟩ (Nat.le_of_ble_eq_true rfl) ?_
  refine (lp_aw (p_X9_heldBy_L5 Γ sh M v0 v1 v2 (fin_ Γ 0 0 (some (.inl r)) sh M)) (x_X9_heldBy_L5 Γ sh M v0 v1 v2 (fin_ Γ 0 0 (some (.inl r)) sh M)) (w_X9_heldBy_L5 hC ) FU _ _ q6 ?_ : p_X9_heldBy_L5 Γ sh M v0 v1 v2 (fin_ Γ 0 0 (some (.inl r)) sh M) (0, 0))
  replace h := u1_s h
  show AW Γ sh M 0 0 52 [none, none, none, some (.inl tq6), none] [] _
  refine aw_iload_n (pc' := 53) (i := 3) hC dX9_heldBy_52 rfl rfl rfl ?_
  cases h
  exact aw_iret hC dX9_heldBy_53 (Nat.le_of_ble_eq_true rfl) (Nat.le_of_ble_eq_true rfl)
