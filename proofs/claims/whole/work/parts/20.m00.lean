-- java/lang/String.coder()B
def fJ0_coder_7d493 (sh : AwS) (M : AwM) (v0 : Int) : Option Int :=
  gd_ (v0 = (-2) ∨ v0 = (-3)) (gd_ ((-128 : Int) ≤ 0 ∧ (0 : Int) ≤ 127) (some 0))
set_option maxRecDepth 100000 in
set_option maxHeartbeats 4000000 in
theorem mJ0_coder_7d493 {sh : AwS} {M : AwM} {v0 : Int} {r : Int} (h : fJ0_coder_7d493 sh M v0 = some r) : AMet yJ0_coder_7d493 cJ0_coder_7d493 1 (some .byte) 1 0 0 [.inr (.inr v0)] sh M (some (.inl r)) sh M := by
  refine amet_of (by decide +kernel) (Nat.le_of_ble_eq_true rfl) (fun Γ hC => ?_)
  replace hC : AOK Γ RJ0 cJ0_coder_7d493 1 1 0 0 "coder" (some .byte) := hC
  unfold fJ0_coder_7d493 at h
  refine aw_sub hC [some (.inr (.inr v0))] ⟨rfl, trivial⟩ (Nat.le_of_ble_eq_true rfl) ?_
  refine aw_getC (pc' := 3) hC lf_J0_38 dJ0_coder_7d493_0 rfl ?_
  refine aw_if_eq (tgt := 13) (pc' := 6) hC dJ0_coder_7d493_3 (by decide) rfl (fun c1 => ?_) (fun c1 => ?_)
  · exact absurd c1 (by decide)
  · refine aw_aload_n (pc' := 7) (i := 0) hC dJ0_coder_7d493_6 rfl rfl rfl ?_
    obtain ⟨g2, h⟩ := gd_s h
    refine aw_gsC (pc' := 10) hC lf_J0_15 g2 dJ0_coder_7d493_7 rfl ?_
    refine aw_goto (tgt := 14) hC dJ0_coder_7d493_10 (by decide) ?_
    obtain ⟨g3, h⟩ := gd_s h
    cases h
    exact aw_bret hC g3 dJ0_coder_7d493_14 (Nat.le_of_ble_eq_true rfl) (Nat.le_of_ble_eq_true rfl)
-- java/lang/String.length()I
def fJ0_length_8abf5 (sh : AwS) (M : AwM) (v0 : Int) : Option Int :=
  gd_ (v0 = (-2) ∨ v0 = (-3)) (gd_ ((v0 - 2) = (-4) ∨ (v0 - 2) = (-5)) (pb (fJ0_coder_7d493 sh M v0) <| u1 fun (x4 : Int) => (some (sr_ (sn_ (v0 - 2)) x4))))
set_option maxRecDepth 100000 in
set_option maxHeartbeats 4000000 in
theorem mJ0_length_8abf5 {sh : AwS} {M : AwM} {v0 : Int} {r : Int} (h : fJ0_length_8abf5 sh M v0 = some r) : AMet yJ0_length_8abf5 cJ0_length_8abf5 1 (some .int) 2 0 0 [.inr (.inr v0)] sh M (some (.inl r)) sh M := by
  refine amet_of (by decide +kernel) (Nat.le_of_ble_eq_true rfl) (fun Γ hC => ?_)
  replace hC : AOK Γ RJ0 cJ0_length_8abf5 1 2 0 0 "length" (some .int) := hC
  unfold fJ0_length_8abf5 at h
  refine aw_sub hC [some (.inr (.inr v0))] ⟨rfl, trivial⟩ (Nat.le_of_ble_eq_true rfl) ?_
  refine aw_aload_n (pc' := 1) (i := 0) hC dJ0_length_8abf5_0 rfl rfl rfl ?_
  obtain ⟨g1, h⟩ := gd_s h
  refine aw_gsV (v := (v0 - 2)) (pc' := 4) hC lf_J0_9 g1 rfl dJ0_length_8abf5_1 rfl ?_
  obtain ⟨g2, h⟩ := gd_s h
  refine aw_alenS (v := (sn_ (v0 - 2))) (pc' := 5) hC g2 rfl dJ0_length_8abf5_4 rfl ?_
  refine aw_aload_n (pc' := 6) (i := 0) hC dJ0_length_8abf5_5 rfl rfl rfl ?_
  obtain ⟨x4, q3, h⟩ := pb_s h
  replace h := u1_s h
  refine aw_cStr (pc' := 9) (k2 := 0) (n2 := 0) (st := [.inl (sn_ (v0 - 2))]) (stN := [.inl x4, .inl (sn_ (v0 - 2))]) hC [] (mJ0_coder_7d493 q3) lk_J0_335 g1 dJ0_length_8abf5_6 rfl rfl (Nat.le_of_ble_eq_true rfl) (Nat.le_of_ble_eq_true rfl) (Nat.le_of_ble_eq_true rfl) rfl (Nat.le_of_ble_eq_true rfl) rfl rfl rfl ?_
  refine aw_ishr (pc' := 10) hC dJ0_length_8abf5_9 rfl  ?_
  cases h
  exact aw_iret hC dJ0_length_8abf5_10 (Nat.le_of_ble_eq_true rfl) (Nat.le_of_ble_eq_true rfl)
-- java/lang/String.isLatin1()Z
def fJ0_isLatin1_aae02 (sh : AwS) (M : AwM) (v0 : Int) : Option Int :=
  gd_ (v0 = (-2) ∨ v0 = (-3)) (some 1)
set_option maxRecDepth 100000 in
set_option maxHeartbeats 4000000 in
theorem mJ0_isLatin1_aae02 {sh : AwS} {M : AwM} {v0 : Int} {r : Int} (h : fJ0_isLatin1_aae02 sh M v0 = some r) : AMet yJ0_isLatin1_aae02 cJ0_isLatin1_aae02 1 (some .boolean) 1 0 0 [.inr (.inr v0)] sh M (some (.inl r)) sh M := by
  refine amet_of (by decide +kernel) (Nat.le_of_ble_eq_true rfl) (fun Γ hC => ?_)
  replace hC : AOK Γ RJ0 cJ0_isLatin1_aae02 1 1 0 0 "isLatin1" (some .boolean) := hC
  unfold fJ0_isLatin1_aae02 at h
  refine aw_sub hC [some (.inr (.inr v0))] ⟨rfl, trivial⟩ (Nat.le_of_ble_eq_true rfl) ?_
  refine aw_getC (pc' := 3) hC lf_J0_38 dJ0_isLatin1_aae02_0 rfl ?_
  refine aw_if_eq (tgt := 17) (pc' := 6) hC dJ0_isLatin1_aae02_3 (by decide) rfl (fun c1 => ?_) (fun c1 => ?_)
  · exact absurd c1 (by decide)
  · refine aw_aload_n (pc' := 7) (i := 0) hC dJ0_isLatin1_aae02_6 rfl rfl rfl ?_
    obtain ⟨g2, h⟩ := gd_s h
    refine aw_gsC (pc' := 10) hC lf_J0_15 g2 dJ0_isLatin1_aae02_7 rfl ?_
    refine aw_if_ne (tgt := 17) (pc' := 13) hC dJ0_isLatin1_aae02_10 (by decide) rfl (fun c3 => ?_) (fun c3 => ?_)
    · exact absurd c3 (by decide)
    · refine aw_iconst (pc' := 14) hC dJ0_isLatin1_aae02_13 rfl (by decide) ?_
      refine aw_goto (tgt := 18) hC dJ0_isLatin1_aae02_14 (by decide) ?_
      cases h
      exact aw_zret hC (Or.inr rfl) dJ0_isLatin1_aae02_18 (Nat.le_of_ble_eq_true rfl) (Nat.le_of_ble_eq_true rfl)
-- jdk/internal/util/Preconditions.checkIndex(IILjava/util/function/BiFunction;)I
def fJ3_checkIndex_8e157 (sh : AwS) (M : AwM) (v0 : Int) (v1 : Int) (v2 : Int) : Option Int :=
  (if v0 < 0 then none else (if v0 < v1 then some v0 else none))
set_option maxRecDepth 100000 in
set_option maxHeartbeats 4000000 in
theorem mJ3_checkIndex_8e157 {sh : AwS} {M : AwM} {v0 : Int} {v1 : Int} {v2 : Int} {r : Int} (h : fJ3_checkIndex_8e157 sh M v0 v1 v2 = some r) : AMet yJ3_checkIndex_8e157 cJ3_checkIndex_8e157 3 (some .int) 1 0 0 [.inl v0, .inl v1, .inr (.inr v2)] sh M (some (.inl r)) sh M := by
  refine amet_of (by decide +kernel) (Nat.le_of_ble_eq_true rfl) (fun Γ hC => ?_)
  replace hC : AOK Γ RJ3 cJ3_checkIndex_8e157 3 1 0 0 "checkIndex" (some .int) := hC
  unfold fJ3_checkIndex_8e157 at h
  refine aw_sub hC [some (.inl v0), some (.inl v1), some (.inr (.inr v2))] ⟨rfl, ⟨rfl, ⟨rfl, trivial⟩⟩⟩ (Nat.le_of_ble_eq_true rfl) ?_
  refine aw_iload_n (pc' := 1) (i := 0) hC dJ3_checkIndex_8e157_0 rfl rfl rfl ?_
  refine aw_if_lt (tgt := 9) (pc' := 4) hC dJ3_checkIndex_8e157_1 (by decide) rfl (fun c1 => ?_) (fun c1 => ?_)
  · replace h := it_p c1 h
    refine aw_aload_n (pc' := 10) (i := 2) hC dJ3_checkIndex_8e157_9 rfl rfl rfl ?_
    refine aw_iload_n (pc' := 11) (i := 0) hC dJ3_checkIndex_8e157_10 rfl rfl rfl ?_
    refine aw_iload_n (pc' := 12) (i := 1) hC dJ3_checkIndex_8e157_11 rfl rfl rfl ?_
    cases h
  · replace h := it_n c1 h
    refine aw_iload_n (pc' := 5) (i := 0) hC dJ3_checkIndex_8e157_4 rfl rfl rfl ?_
    refine aw_iload_n (pc' := 6) (i := 1) hC dJ3_checkIndex_8e157_5 rfl rfl rfl ?_
    refine aw_icmp_lt (tgt := 16) (pc' := 9) hC dJ3_checkIndex_8e157_6 (by decide) rfl (fun c2 => ?_) (fun c2 => ?_)
    · replace h := it_p c2 h
      refine aw_iload_n (pc' := 17) (i := 0) hC dJ3_checkIndex_8e157_16 rfl rfl rfl ?_
      cases h
      exact aw_iret hC dJ3_checkIndex_8e157_17 (Nat.le_of_ble_eq_true rfl) (Nat.le_of_ble_eq_true rfl)
    · replace h := it_n c2 h
      refine aw_aload_n (pc' := 10) (i := 2) hC dJ3_checkIndex_8e157_9 rfl rfl rfl ?_
      refine aw_iload_n (pc' := 11) (i := 0) hC dJ3_checkIndex_8e157_10 rfl rfl rfl ?_
      refine aw_iload_n (pc' := 12) (i := 1) hC dJ3_checkIndex_8e157_11 rfl rfl rfl ?_
      cases h
-- java/lang/String.checkIndex(II)V
def fJ0_checkIndex_df160 (sh : AwS) (M : AwM) (v0 : Int) (v1 : Int) : Option Unit :=
  pb (fJ3_checkIndex_8e157 sh M v0 v1 (-6)) <| u1 fun (x2 : Int) => (some ())
set_option maxRecDepth 100000 in
set_option maxHeartbeats 4000000 in
theorem mJ0_checkIndex_df160 {sh : AwS} {M : AwM} {v0 : Int} {v1 : Int}  (h : fJ0_checkIndex_df160 sh M v0 v1 = some ()) : AMet yJ0_checkIndex_df160 cJ0_checkIndex_df160 2 none 2 0 0 [.inl v0, .inl v1] sh M none sh M := by
  refine amet_of (by decide +kernel) (Nat.le_of_ble_eq_true rfl) (fun Γ hC => ?_)
  replace hC : AOK Γ RJ0 cJ0_checkIndex_df160 2 2 0 0 "checkIndex" none := hC
  unfold fJ0_checkIndex_df160 at h
  refine aw_sub hC [some (.inl v0), some (.inl v1)] ⟨rfl, ⟨rfl, trivial⟩⟩ (Nat.le_of_ble_eq_true rfl) ?_
  refine aw_iload_n (pc' := 1) (i := 0) hC dJ0_checkIndex_df160_0 rfl rfl rfl ?_
  refine aw_iload_n (pc' := 2) (i := 1) hC dJ0_checkIndex_df160_1 rfl rfl rfl ?_
  refine aw_getF (pc' := 5) hC lf_J0_1053 dJ0_checkIndex_df160_2 rfl ?_
  obtain ⟨x2, q1, h⟩ := pb_s h
  replace h := u1_s h
  refine aw_cS (pc' := 8) (k2 := 0) (n2 := 0) (st := []) (stN := [.inl x2]) hC [.inl v0, .inl v1, .inr (.inr (-6))] (mJ3_checkIndex_8e157 q1) lk_J0_1059 dJ0_checkIndex_df160_5 rfl rfl (Nat.le_of_ble_eq_true rfl) (Nat.le_of_ble_eq_true rfl) (Nat.le_of_ble_eq_true rfl) rfl (Nat.le_of_ble_eq_true rfl) rfl rfl rfl ?_
  refine aw_pop (pc' := 9) hC dJ0_checkIndex_df160_8 rfl rfl ?_
  cases h
  exact aw_vret hC dJ0_checkIndex_df160_9 (Nat.le_of_ble_eq_true rfl) (Nat.le_of_ble_eq_true rfl)
-- java/lang/StringLatin1.charAt([BI)C
def fJ1_charAt_3b067 (sh : AwS) (M : AwM) (v0 : Int) (v1 : Int) : Option Int :=
  gd_ (v0 = (-4) ∨ v0 = (-5)) (pb (fJ0_checkIndex_df160 sh M v1 (sn_ v0)) <| u0 (gd_ ((0 : Int) ≤ v1 ∧ v1 < sn_ v0) (gd_ ((0 : Int) ≤ (c16_ (an_ (sb_v v0 v1) 255)) ∧ ((c16_ (an_ (sb_v v0 v1) 255)) : Int) ≤ 65535) (some (c16_ (an_ (sb_v v0 v1) 255))))))
set_option maxRecDepth 100000 in
set_option maxHeartbeats 4000000 in
theorem mJ1_charAt_3b067 {sh : AwS} {M : AwM} {v0 : Int} {v1 : Int} {r : Int} (h : fJ1_charAt_3b067 sh M v0 v1 = some r) : AMet yJ1_charAt_3b067 cJ1_charAt_3b067 2 (some .char) 3 0 0 [.inr (.inr v0), .inl v1] sh M (some (.inl r)) sh M := by
  refine amet_of (by decide +kernel) (Nat.le_of_ble_eq_true rfl) (fun Γ hC => ?_)
  replace hC : AOK Γ RJ1 cJ1_charAt_3b067 2 3 0 0 "charAt" (some .char) := hC
  unfold fJ1_charAt_3b067 at h
  refine aw_sub hC [some (.inr (.inr v0)), some (.inl v1)] ⟨rfl, ⟨rfl, trivial⟩⟩ (Nat.le_of_ble_eq_true rfl) ?_
  refine aw_iload_n (pc' := 1) (i := 1) hC dJ1_charAt_3b067_0 rfl rfl rfl ?_
  refine aw_aload_n (pc' := 2) (i := 0) hC dJ1_charAt_3b067_1 rfl rfl rfl ?_
  obtain ⟨g1, h⟩ := gd_s h
  refine aw_alenS (v := (sn_ v0)) (pc' := 3) hC g1 rfl dJ1_charAt_3b067_2 rfl ?_
  obtain ⟨⟨⟩, q2, h⟩ := pb_s h
  replace h := u0_s h
  refine aw_cS (pc' := 6) (k2 := 0) (n2 := 0) (st := []) (stN := []) hC [.inl v1, .inl (sn_ v0)] (mJ0_checkIndex_df160 q2) lk_J1_9 dJ1_charAt_3b067_3 rfl rfl (Nat.le_of_ble_eq_true rfl) (Nat.le_of_ble_eq_true rfl) (Nat.le_of_ble_eq_true rfl) rfl (Nat.le_of_ble_eq_true rfl) rfl rfl rfl ?_
  refine aw_aload_n (pc' := 7) (i := 0) hC dJ1_charAt_3b067_6 rfl rfl rfl ?_
  refine aw_iload_n (pc' := 8) (i := 1) hC dJ1_charAt_3b067_7 rfl rfl rfl ?_
  obtain ⟨g3, h⟩ := gd_s h
  refine aw_balS (pc' := 9) hC g1 g3 dJ1_charAt_3b067_8 rfl ?_
  refine aw_sipush (pc' := 12) hC dJ1_charAt_3b067_9 rfl (by decide) ?_
  refine aw_iand (pc' := 13) hC dJ1_charAt_3b067_12 rfl  ?_
  refine aw_i2c (pc' := 14) hC dJ1_charAt_3b067_13 rfl  ?_
  obtain ⟨g4, h⟩ := gd_s h
  cases h
  exact aw_cret hC g4 dJ1_charAt_3b067_14 (Nat.le_of_ble_eq_true rfl) (Nat.le_of_ble_eq_true rfl)
-- java/lang/String.charAt(I)C
def fJ0_charAt_5068e (sh : AwS) (M : AwM) (v0 : Int) (v1 : Int) : Option Int :=
  gd_ (v0 = (-2) ∨ v0 = (-3)) (pb (fJ0_isLatin1_aae02 sh M v0) <| u1 fun (x3 : Int) => ((if x3 = 0 then none else pb (fJ1_charAt_3b067 sh M (v0 - 2) v1) <| u1 fun (x6 : Int) => (gd_ ((0 : Int) ≤ x6 ∧ (x6 : Int) ≤ 65535) (some x6)))))
set_option maxRecDepth 100000 in
set_option maxHeartbeats 4000000 in
theorem mJ0_charAt_5068e {sh : AwS} {M : AwM} {v0 : Int} {v1 : Int} {r : Int} (h : fJ0_charAt_5068e sh M v0 v1 = some r) : AMet yJ0_charAt_5068e cJ0_charAt_5068e 2 (some .char) 5 0 0 [.inr (.inr v0), .inl v1] sh M (some (.inl r)) sh M := by
  refine amet_of (by decide +kernel) (Nat.le_of_ble_eq_true rfl) (fun Γ hC => ?_)
  replace hC : AOK Γ RJ0 cJ0_charAt_5068e 2 5 0 0 "charAt" (some .char) := hC
  unfold fJ0_charAt_5068e at h
  refine aw_sub hC [some (.inr (.inr v0)), some (.inl v1)] ⟨rfl, ⟨rfl, trivial⟩⟩ (Nat.le_of_ble_eq_true rfl) ?_
  refine aw_aload_n (pc' := 1) (i := 0) hC dJ0_charAt_5068e_0 rfl rfl rfl ?_
  obtain ⟨g2, h⟩ := gd_s h
  obtain ⟨x3, q1, h⟩ := pb_s h
  replace h := u1_s h
  refine aw_cStr (pc' := 4) (k2 := 0) (n2 := 0) (st := []) (stN := [.inl x3]) hC [] (mJ0_isLatin1_aae02 q1) lk_J0_492 g2 dJ0_charAt_5068e_1 rfl rfl (Nat.le_of_ble_eq_true rfl) (Nat.le_of_ble_eq_true rfl) (Nat.le_of_ble_eq_true rfl) rfl (Nat.le_of_ble_eq_true rfl) rfl rfl rfl ?_
  refine aw_if_eq (tgt := 16) (pc' := 7) hC dJ0_charAt_5068e_4 (by decide) rfl (fun c4 => ?_) (fun c4 => ?_)
  · replace h := it_p c4 h
    refine aw_aload_n (pc' := 17) (i := 0) hC dJ0_charAt_5068e_16 rfl rfl rfl ?_
    refine aw_gsV (v := (v0 - 2)) (pc' := 20) hC lf_J0_9 g2 rfl dJ0_charAt_5068e_17 rfl ?_
    refine aw_iload_n (pc' := 21) (i := 1) hC dJ0_charAt_5068e_20 rfl rfl rfl ?_
    cases h
  · replace h := it_n c4 h
    refine aw_aload_n (pc' := 8) (i := 0) hC dJ0_charAt_5068e_7 rfl rfl rfl ?_
    refine aw_gsV (v := (v0 - 2)) (pc' := 11) hC lf_J0_9 g2 rfl dJ0_charAt_5068e_8 rfl ?_
    refine aw_iload_n (pc' := 12) (i := 1) hC dJ0_charAt_5068e_11 rfl rfl rfl ?_
    obtain ⟨x6, q5, h⟩ := pb_s h
    replace h := u1_s h
    refine aw_cS (pc' := 15) (k2 := 0) (n2 := 0) (st := []) (stN := [.inl x6]) hC [.inr (.inr (v0 - 2)), .inl v1] (mJ1_charAt_3b067 q5) lk_J0_495 dJ0_charAt_5068e_12 rfl rfl (Nat.le_of_ble_eq_true rfl) (Nat.le_of_ble_eq_true rfl) (Nat.le_of_ble_eq_true rfl) rfl (Nat.le_of_ble_eq_true rfl) rfl rfl rfl ?_
    obtain ⟨g7, h⟩ := gd_s h
    cases h
    exact aw_cret hC g7 dJ0_charAt_5068e_15 (Nat.le_of_ble_eq_true rfl) (Nat.le_of_ble_eq_true rfl)
-- CoinCircle$Scanner.<init>()V
def fX4_init_L54 (sh : AwS) (v0 : Int) (v1 : Int) (v2 : Int) (v3 : Int) (M : AwM) : Option ((Int × Int × Int × AwM) ⊕ (AwM)) :=
  pb (fJ0_length_8abf5 sh M (-2)) <| u1 fun (x38 : Int) => ((if v3 < x38 then pb (fJ0_charAt_5068e sh M (-2) v3) <| u1 fun (x41 : Int) => ((if x41 = 32 then some (.inl ((w32 (v1 + 1)), 0, (w32 (v3 + 1)), M)) else (if v1 < 23 then gd_ (kd_ sh v0 = (0, 4)) (gd_ ((kd_ sh (M v0 0)).1 = 2 ∧ (0 : Int) ≤ v1 ∧ v1 < ((kd_ sh (M v0 0)).2 : Int)) (bd_ (up_ M (M v0 0) v1 (orl_ (M (M v0 0) v1) (sll_ (w32 ((w32 (x41 - 97)) + 1)) (w32 (5 * v2))))) fun (M46 : AwM) => (some (.inl (v1, (w32 (v2 + 1)), (w32 (v3 + 1)), M46))))) else some (.inl (v1, v2, (w32 (v3 + 1)), M))))) else some (.inr M)))
def p_X4_init_L54 (Γ : AwC) (sh : AwS) (v0 : Int) (Q : State → Prop) (s : Int × Int × Int × AwM) : Prop := AW Γ sh (s.2.2.2) 5 6427 54 [some (.inr (.inr v0)), some (.inl (s.1)), some (.inl (s.2.1)), some (.inl (s.2.2.1)), none] [] Q
def x_X4_init_L54 (Γ : AwC) (sh : AwS) (v0 : Int) (Q : State → Prop) : (AwM) → Prop := (fun (t : AwM) => AW Γ sh (t) 5 6427 122 [none, none, none, none, none] [] Q)
def fX4_init (sh : AwS) (M : AwM) (v0 : Int) : Option (AwS × AwM) :=
  gd_ ((0 : Int) < v0) (bd_ ((sh.length : Nat) : Int) fun (p2 : Int) => (bd_ (sh ++ [(2, 23)]) fun (sh4 : AwS) => (gd_ (kd_ sh4 v0 = (0, 4)) (bd_ (up_ M v0 0 p2) fun (M7 : AwM) => (bd_ ((sh4.length : Nat) : Int) fun (p9 : Int) => (bd_ (sh4 ++ [(1, 1601)]) fun (sh11 : AwS) => (gd_ (kd_ sh11 v0 = (0, 4)) (bd_ (up_ M7 v0 1 p9) fun (M14 : AwM) => (bd_ ((sh11.length : Nat) : Int) fun (p16 : Int) => (bd_ (sh11 ++ [(1, 1601)]) fun (sh18 : AwS) => (gd_ (kd_ sh18 v0 = (0, 4)) (bd_ (up_ M14 v0 2 p16) fun (M21 : AwM) => (bd_ ((sh18.length : Nat) : Int) fun (p23 : Int) => (bd_ (sh18 ++ [(1, 1601)]) fun (sh25 : AwS) => (gd_ (kd_ sh25 v0 = (0, 4)) (bd_ (up_ M21 v0 3 p23) fun (M28 : AwM) => (bd_ ((sh25.length : Nat) : Int) fun (p30 : Int) => (bd_ (sh25 ++ [(1, 1601)]) fun (sh32 : AwS) => (gd_ (kd_ sh32 v0 = (0, 4)) (bd_ (up_ M28 v0 4 p30) fun (M35 : AwM) => (pb (lp (u4 (fX4_init_L54 sh32 v0)) FU (0, 0, 0, M35)) (u1 (fun (tq48 : AwM) => some (sh32, tq48))))))))))))))))))))))))
set_option maxRecDepth 100000 in
set_option maxHeartbeats 4000000 in
theorem w_X4_init_L54 {Γ : AwC} (hC : AOK Γ RX4 cX4_init 5 6 5 6427 "<init>" none) {sh : AwS} {v0 : Int} {Q : State → Prop} : ∀ s r, u4 (fX4_init_L54 sh v0) s = some r → (∀ s', r = .inl s' → p_X4_init_L54 Γ sh v0 Q s') → (∀ t, r = .inr t → x_X4_init_L54 Γ sh v0 Q t) → p_X4_init_L54 Γ sh v0 Q s := by
  intro s r h hL hX
  obtain ⟨v1, v2, v3, M⟩ := s
  replace h := u4_s h
  unfold fX4_init_L54 at h
  show AW Γ sh M 5 6427 54 [some (.inr (.inr v0)), some (.inl v1), some (.inl v2), some (.inl v3), none] [] Q
  refine aw_iload_n (pc' := 55) (i := 3) hC dX4_init_54 rfl rfl rfl ?_
  refine aw_ldcS (idx := 28) (v := (-2)) (pc' := 57) hC (Or.inl ⟨rfl, rfl⟩) dX4_init_55 rfl ?_
  obtain ⟨x38, q37, h⟩ := pb_s h
  replace h := u1_s h
  refine aw_cStr (pc' := 60) (k2 := 5) (n2 := 6427) (st := [.inl v3]) (stN := [.inl x38, .inl v3]) hC [] (mJ0_length_8abf5 q37) lk_X4_30 (Or.inl rfl) dX4_init_57 rfl rfl (Nat.le_of_ble_eq_true rfl) (Nat.le_of_ble_eq_true rfl) (Nat.le_of_ble_eq_true rfl) rfl (Nat.le_of_ble_eq_true rfl) rfl rfl rfl ?_
  refine aw_icmp_ge (tgt := 122) (pc' := 63) hC dX4_init_60 (by decide) rfl (fun c39 => ?_) (fun c39 => ?_)
  · replace h := it_n c39 h
    refine aw_sub hC [none, none, none, none, none] trivial (Nat.le_of_ble_eq_true rfl) ?_
    cases h
    exact hX _ rfl
  · replace h := it_p c39 h
    refine aw_ldcS (idx := 28) (v := (-2)) (pc' := 65) hC (Or.inl ⟨rfl, rfl⟩) dX4_init_63 rfl ?_
    refine aw_iload_n (pc' := 66) (i := 3) hC dX4_init_65 rfl rfl rfl ?_
    obtain ⟨x41, q40, h⟩ := pb_s h
    replace h := u1_s h
    refine aw_cStr (pc' := 69) (k2 := 5) (n2 := 6427) (st := []) (stN := [.inl x41]) hC [.inl v3] (mJ0_charAt_5068e q40) lk_X4_36 (Or.inl rfl) dX4_init_66 rfl rfl (Nat.le_of_ble_eq_true rfl) (Nat.le_of_ble_eq_true rfl) (Nat.le_of_ble_eq_true rfl) rfl (Nat.le_of_ble_eq_true rfl) rfl rfl rfl ?_
    refine aw_istore (pc' := 71) (ls' := [some (.inr (.inr v0)), some (.inl v1), some (.inl v2), some (.inl v3), some (.inl x41)]) hC dX4_init_69 rfl (Nat.le_of_ble_eq_true rfl) rfl rfl ?_
    refine aw_iload (pc' := 73) hC dX4_init_71 rfl rfl ?_
    refine aw_bipush (pc' := 75) hC dX4_init_73 rfl (by decide) ?_
    refine aw_icmp_ne (tgt := 86) (pc' := 78) hC dX4_init_75 (by decide) rfl (fun c42 => ?_) (fun c42 => ?_)
    · replace h := it_n c42 h
      refine aw_iload_n (pc' := 87) (i := 1) hC dX4_init_86 rfl rfl rfl ?_
      refine aw_bipush (pc' := 89) hC dX4_init_87 rfl (by decide) ?_
      refine aw_icmp_ge (tgt := 116) (pc' := 92) hC dX4_init_89 (by decide) rfl (fun c43 => ?_) (fun c43 => ?_)
      · replace h := it_n c43 h
        refine aw_iinc (pc' := 119) (ls' := [some (.inr (.inr v0)), some (.inl v1), some (.inl v2), some (.inl (w32 (v3 + 1))), some (.inl x41)]) hC dX4_init_116 rfl rfl rfl rfl ?_
        refine aw_goto (tgt := 54) hC dX4_init_119 (by decide) ?_
        refine aw_sub hC [some (.inr (.inr v0)), some (.inl v1), some (.inl v2), some (.inl (w32 (v3 + 1))), none] ⟨rfl, ⟨rfl, ⟨rfl, ⟨rfl, trivial⟩⟩⟩⟩ (Nat.le_of_ble_eq_true rfl) ?_
        cases h
        exact hL _ rfl
      · replace h := it_p c43 h
        refine aw_aload_n (pc' := 93) (i := 0) hC dX4_init_92 rfl rfl rfl ?_
        obtain ⟨g44, h⟩ := gd_s h
        refine aw_getfield (pc' := 96) (v := (.inr (.inr (M v0 0)))) hC dX4_init_93 rfl fl_X4_9 g44 rfl ?_
        refine aw_iload_n (pc' := 97) (i := 1) hC dX4_init_96 rfl rfl rfl ?_
        refine aw_dup2 (pc' := 98) hC dX4_init_97 rfl rfl rfl ?_
        obtain ⟨g45, h⟩ := gd_s h
        refine aw_laload (pc' := 99) hC dX4_init_98 rfl g45 ?_
        refine aw_iload (pc' := 101) hC dX4_init_99 rfl rfl ?_
        refine aw_bipush (pc' := 103) hC dX4_init_101 rfl (by decide) ?_
        refine aw_isub (pc' := 104) hC dX4_init_103 rfl  ?_
        refine aw_iconst (pc' := 105) hC dX4_init_104 rfl (by decide) ?_
        refine aw_iadd (pc' := 106) hC dX4_init_105 rfl  ?_
        refine aw_i2l (pc' := 107) hC dX4_init_106 rfl  ?_
        refine aw_iconst (pc' := 108) hC dX4_init_107 rfl (by decide) ?_
        refine aw_iload_n (pc' := 109) (i := 2) hC dX4_init_108 rfl rfl rfl ?_
        refine aw_imul (pc' := 110) hC dX4_init_109 rfl  ?_
        refine aw_lshl (pc' := 111) hC dX4_init_110 rfl  ?_
        refine aw_lor (pc' := 112) hC dX4_init_111 rfl  ?_
        obtain ⟨M46, e47, h⟩ := bd_s h
        refine aw_las (pc' := 113) hC dX4_init_112 rfl g45 e47 ?_
        refine aw_iinc (pc' := 116) (ls' := [some (.inr (.inr v0)), some (.inl v1), some (.inl (w32 (v2 + 1))), some (.inl v3), some (.inl x41)]) hC dX4_init_113 rfl rfl rfl rfl ?_
        refine aw_iinc (pc' := 119) (ls' := [some (.inr (.inr v0)), some (.inl v1), some (.inl (w32 (v2 + 1))), some (.inl (w32 (v3 + 1))), some (.inl x41)]) hC dX4_init_116 rfl rfl rfl rfl ?_
        refine aw_goto (tgt := 54) hC dX4_init_119 (by decide) ?_
        refine aw_sub hC [some (.inr (.inr v0)), some (.inl v1), some (.inl (w32 (v2 + 1))), some (.inl (w32 (v3 + 1))), none] ⟨rfl, ⟨rfl, ⟨rfl, ⟨rfl, trivial⟩⟩⟩⟩ (Nat.le_of_ble_eq_true rfl) ?_
        cases h
        exact hL _ rfl
    · replace h := it_p c42 h
      refine aw_iinc (pc' := 81) (ls' := [some (.inr (.inr v0)), some (.inl (w32 (v1 + 1))), some (.inl v2), some (.inl v3), some (.inl x41)]) hC dX4_init_78 rfl rfl rfl rfl ?_
      refine aw_iconst (pc' := 82) hC dX4_init_81 rfl (by decide) ?_
      refine aw_istore_n (pc' := 83) (i := 2) (ls' := [some (.inr (.inr v0)), some (.inl (w32 (v1 + 1))), some (.inl 0), some (.inl v3), some (.inl x41)]) hC dX4_init_82 rfl rfl (Nat.le_of_ble_eq_true rfl) rfl rfl ?_
      refine aw_goto (tgt := 116) hC dX4_init_83 (by decide) ?_
      refine aw_iinc (pc' := 119) (ls' := [some (.inr (.inr v0)), some (.inl (w32 (v1 + 1))), some (.inl 0), some (.inl (w32 (v3 + 1))), some (.inl x41)]) hC dX4_init_116 rfl rfl rfl rfl ?_
      refine aw_goto (tgt := 54) hC dX4_init_119 (by decide) ?_
      refine aw_sub hC [some (.inr (.inr v0)), some (.inl (w32 (v1 + 1))), some (.inl 0), some (.inl (w32 (v3 + 1))), none] ⟨rfl, ⟨rfl, ⟨rfl, ⟨rfl, trivial⟩⟩⟩⟩ (Nat.le_of_ble_eq_true rfl) ?_
      cases h
      exact hL _ rfl
set_option maxRecDepth 100000 in
set_option maxHeartbeats 4000000 in
theorem mX4_init {sh : AwS} {M : AwM} {v0 : Int} {sh' : AwS} {M' : AwM} (h : fX4_init sh M v0 = some (sh', M')) : AMet yX4_init cX4_init 5 none 6 5 6427 [.inr (.inr v0)] sh M none sh' M' := by
  refine amet_of (by decide +kernel) (Nat.le_of_ble_eq_true rfl) (fun Γ hC => ?_)
  replace hC : AOK Γ RX4 cX4_init 5 6 5 6427 "<init>" none := hC
  unfold fX4_init at h
  refine aw_sub hC [some (.inr (.inr v0)), none, none, none, none] ⟨rfl, trivial⟩ (Nat.le_of_ble_eq_true rfl) ?_
  refine aw_aload_n (pc' := 1) (i := 0) hC dX4_init_0 rfl rfl rfl ?_
  obtain ⟨g1, h⟩ := gd_s h
  refine aw_obj (pc' := 4) hC lo_X4_3 g1 dX4_init_1 rfl (Nat.le_of_ble_eq_true rfl) (Nat.le_of_ble_eq_true rfl) ?_
  refine aw_aload_n (pc' := 5) (i := 0) hC dX4_init_4 rfl rfl rfl ?_
  refine aw_bipush (pc' := 7) hC dX4_init_5 rfl (by decide) ?_
  obtain ⟨p2, e3, h⟩ := bd_s h
  obtain ⟨sh4, e5, h⟩ := bd_s h
  refine aw_na_long (pc' := 9) (k2 := 1) (n2 := 23) hC dX4_init_7 rfl la_long rfl (Nat.le_of_ble_eq_true rfl) rfl rfl (Nat.le_of_ble_eq_true rfl) (Nat.le_of_ble_eq_true rfl) e3 e5 ?_
  obtain ⟨g6, h⟩ := gd_s h
  obtain ⟨M7, e8, h⟩ := bd_s h
  refine aw_pff (pc' := 12) hC dX4_init_9 rfl ff_X4_9 g6 rfl trivial e8 ?_
  refine aw_aload_n (pc' := 13) (i := 0) hC dX4_init_12 rfl rfl rfl ?_
  refine aw_sipush (pc' := 16) hC dX4_init_13 rfl (by decide) ?_
  obtain ⟨p9, e10, h⟩ := bd_s h
  obtain ⟨sh11, e12, h⟩ := bd_s h
  refine aw_na_int (pc' := 18) (k2 := 2) (n2 := 1624) hC dX4_init_16 rfl la_int rfl (Nat.le_of_ble_eq_true rfl) rfl rfl (Nat.le_of_ble_eq_true rfl) (Nat.le_of_ble_eq_true rfl) e10 e12 ?_
  obtain ⟨g13, h⟩ := gd_s h
  obtain ⟨M14, e15, h⟩ := bd_s h
  refine aw_pff (pc' := 21) hC dX4_init_18 rfl ff_X4_15 g13 rfl trivial e15 ?_
  refine aw_aload_n (pc' := 22) (i := 0) hC dX4_init_21 rfl rfl rfl ?_
  refine aw_sipush (pc' := 25) hC dX4_init_22 rfl (by decide) ?_
  obtain ⟨p16, e17, h⟩ := bd_s h
  obtain ⟨sh18, e19, h⟩ := bd_s h
  refine aw_na_int (pc' := 27) (k2 := 3) (n2 := 3225) hC dX4_init_25 rfl la_int rfl (Nat.le_of_ble_eq_true rfl) rfl rfl (Nat.le_of_ble_eq_true rfl) (Nat.le_of_ble_eq_true rfl) e17 e19 ?_
  obtain ⟨g20, h⟩ := gd_s h
  obtain ⟨M21, e22, h⟩ := bd_s h
  refine aw_pff (pc' := 30) hC dX4_init_27 rfl ff_X4_19 g20 rfl trivial e22 ?_
  refine aw_aload_n (pc' := 31) (i := 0) hC dX4_init_30 rfl rfl rfl ?_
  refine aw_sipush (pc' := 34) hC dX4_init_31 rfl (by decide) ?_
  obtain ⟨p23, e24, h⟩ := bd_s h
  obtain ⟨sh25, e26, h⟩ := bd_s h
  refine aw_na_int (pc' := 36) (k2 := 4) (n2 := 4826) hC dX4_init_34 rfl la_int rfl (Nat.le_of_ble_eq_true rfl) rfl rfl (Nat.le_of_ble_eq_true rfl) (Nat.le_of_ble_eq_true rfl) e24 e26 ?_
  obtain ⟨g27, h⟩ := gd_s h
  obtain ⟨M28, e29, h⟩ := bd_s h
  refine aw_pff (pc' := 39) hC dX4_init_36 rfl ff_X4_22 g27 rfl trivial e29 ?_
  refine aw_aload_n (pc' := 40) (i := 0) hC dX4_init_39 rfl rfl rfl ?_
  refine aw_sipush (pc' := 43) hC dX4_init_40 rfl (by decide) ?_
  obtain ⟨p30, e31, h⟩ := bd_s h
  obtain ⟨sh32, e33, h⟩ := bd_s h
  refine aw_na_int (pc' := 45) (k2 := 5) (n2 := 6427) hC dX4_init_43 rfl la_int rfl (Nat.le_of_ble_eq_true rfl) rfl rfl (Nat.le_of_ble_eq_true rfl) (Nat.le_of_ble_eq_true rfl) e31 e33 ?_
  obtain ⟨g34, h⟩ := gd_s h
  obtain ⟨M35, e36, h⟩ := bd_s h
  refine aw_pff (pc' := 48) hC dX4_init_45 rfl ff_X4_25 g34 rfl trivial e36 ?_
  refine aw_iconst (pc' := 49) hC dX4_init_48 rfl (by decide) ?_
  refine aw_istore_n (pc' := 50) (i := 1) (ls' := [some (.inr (.inr v0)), some (.inl 0), none, none, none]) hC dX4_init_49 rfl rfl (Nat.le_of_ble_eq_true rfl) rfl rfl ?_
  refine aw_iconst (pc' := 51) hC dX4_init_50 rfl (by decide) ?_
  refine aw_istore_n (pc' := 52) (i := 2) (ls' := [some (.inr (.inr v0)), some (.inl 0), some (.inl 0), none, none]) hC dX4_init_51 rfl rfl (Nat.le_of_ble_eq_true rfl) rfl rfl ?_
  refine aw_iconst (pc' := 53) hC dX4_init_52 rfl (by decide) ?_
  refine aw_istore_n (pc' := 54) (i := 3) (ls' := [some (.inr (.inr v0)), some (.inl 0), some (.inl 0), some (.inl 0), none]) hC dX4_init_53 rfl rfl (Nat.le_of_ble_eq_true rfl) rfl rfl ?_
  obtain ⟨tq48, q48, h⟩ := pb_s h
  refine aw_sub hC [some (.inr (.inr v0)), some (.inl 0), some (.inl 0), some (.inl 0), none] ⟨rfl, ⟨rfl, ⟨rfl, ⟨rfl, trivial⟩⟩⟩⟩ (Nat.le_of_ble_eq_true rfl) ?_
  refine (lp_aw (p_X4_init_L54 Γ sh32 v0 (fin_ Γ 5 6427 none sh' M')) (x_X4_init_L54 Γ sh32 v0 (fin_ Γ 5 6427 none sh' M')) (w_X4_init_L54 hC ) FU _ _ q48 ?_ : p_X4_init_L54 Γ sh32 v0 (fin_ Γ 5 6427 none sh' M') (0, 0, 0, M35))
  replace h := u1_s h
  show AW Γ sh32 tq48 5 6427 122 [none, none, none, none, none] [] _
  cases h
  exact aw_vret hC dX4_init_122 (Nat.le_of_ble_eq_true rfl) (Nat.le_of_ble_eq_true rfl)
-- CoinCircle$Formula.<init>()V
def fX1_init (sh : AwS) (M : AwM) (v0 : Int) : Option (AwS × AwM) :=
  gd_ ((0 : Int) < v0) (bd_ ((sh.length : Nat) : Int) fun (p2 : Int) => (bd_ (sh ++ [(1, 1600)]) fun (sh4 : AwS) => (gd_ (kd_ sh4 v0 = (0, 1)) (bd_ (up_ M v0 0 p2) fun (M7 : AwM) => (bd_ ((sh4.length : Nat) : Int) fun (p9 : Int) => (bd_ (sh4 ++ [(1, 64)]) fun (sh11 : AwS) => (gd_ (kd_ sh11 v0 = (0, 1)) (bd_ (up_ M7 v0 2 p9) fun (M14 : AwM) => (some (sh11, M14))))))))))
set_option maxRecDepth 100000 in
set_option maxHeartbeats 4000000 in
theorem mX1_init {sh : AwS} {M : AwM} {v0 : Int} {sh' : AwS} {M' : AwM} (h : fX1_init sh M v0 = some (sh', M')) : AMet yX1_init cX1_init 1 none 2 2 1664 [.inr (.inr v0)] sh M none sh' M' := by
  refine amet_of (by decide +kernel) (Nat.le_of_ble_eq_true rfl) (fun Γ hC => ?_)
  replace hC : AOK Γ RX1 cX1_init 1 2 2 1664 "<init>" none := hC
  unfold fX1_init at h
  refine aw_sub hC [some (.inr (.inr v0))] ⟨rfl, trivial⟩ (Nat.le_of_ble_eq_true rfl) ?_
  refine aw_aload_n (pc' := 1) (i := 0) hC dX1_init_0 rfl rfl rfl ?_
  obtain ⟨g1, h⟩ := gd_s h
  refine aw_obj (pc' := 4) hC lo_X1_3 g1 dX1_init_1 rfl (Nat.le_of_ble_eq_true rfl) (Nat.le_of_ble_eq_true rfl) ?_
  refine aw_aload_n (pc' := 5) (i := 0) hC dX1_init_4 rfl rfl rfl ?_
  refine aw_sipush (pc' := 8) hC dX1_init_5 rfl (by decide) ?_
  obtain ⟨p2, e3, h⟩ := bd_s h
  obtain ⟨sh4, e5, h⟩ := bd_s h
  refine aw_na_int (pc' := 10) (k2 := 1) (n2 := 1600) hC dX1_init_8 rfl la_int rfl (Nat.le_of_ble_eq_true rfl) rfl rfl (Nat.le_of_ble_eq_true rfl) (Nat.le_of_ble_eq_true rfl) e3 e5 ?_
  obtain ⟨g6, h⟩ := gd_s h
  obtain ⟨M7, e8, h⟩ := bd_s h
  refine aw_pff (pc' := 13) hC dX1_init_10 rfl ff_X1_9 g6 rfl trivial e8 ?_
  refine aw_aload_n (pc' := 14) (i := 0) hC dX1_init_13 rfl rfl rfl ?_
  refine aw_bipush (pc' := 16) hC dX1_init_14 rfl (by decide) ?_
  obtain ⟨p9, e10, h⟩ := bd_s h
  obtain ⟨sh11, e12, h⟩ := bd_s h
  refine aw_na_int (pc' := 18) (k2 := 2) (n2 := 1664) hC dX1_init_16 rfl la_int rfl (Nat.le_of_ble_eq_true rfl) rfl rfl (Nat.le_of_ble_eq_true rfl) (Nat.le_of_ble_eq_true rfl) e10 e12 ?_
  obtain ⟨g13, h⟩ := gd_s h
  obtain ⟨M14, e15, h⟩ := bd_s h
  refine aw_pff (pc' := 21) hC dX1_init_18 rfl ff_X1_15 g13 rfl trivial e15 ?_
  cases h
  exact aw_vret hC dX1_init_21 (Nat.le_of_ble_eq_true rfl) (Nat.le_of_ble_eq_true rfl)
-- CoinCircle$Society.<init>()V
def fX5_init (sh : AwS) (M : AwM) (v0 : Int) : Option (AwS × AwM) :=
  gd_ ((0 : Int) < v0) (bd_ ((sh.length : Nat) : Int) fun (p2 : Int) => (bd_ (sh ++ [(1, 3)]) fun (sh4 : AwS) => (gd_ (kd_ sh4 v0 = (0, 5)) (bd_ (up_ M v0 0 p2) fun (M7 : AwM) => (bd_ ((sh4.length : Nat) : Int) fun (p9 : Int) => (bd_ (sh4 ++ [(1, 36)]) fun (sh11 : AwS) => (gd_ (kd_ sh11 v0 = (0, 5)) (bd_ (up_ M7 v0 1 p9) fun (M14 : AwM) => (bd_ ((sh11.length : Nat) : Int) fun (p16 : Int) => (bd_ (sh11 ++ [(1, 10)]) fun (sh18 : AwS) => (gd_ (kd_ sh18 v0 = (0, 5)) (bd_ (up_ M14 v0 2 p16) fun (M21 : AwM) => (bd_ ((sh18.length : Nat) : Int) fun (p23 : Int) => (bd_ (sh18 ++ [(1, 12)]) fun (sh25 : AwS) => (gd_ (kd_ sh25 v0 = (0, 5)) (bd_ (up_ M21 v0 3 p23) fun (M28 : AwM) => (bd_ ((sh25.length : Nat) : Int) fun (p30 : Int) => (bd_ (sh25 ++ [(1, 12)]) fun (sh32 : AwS) => (gd_ (kd_ sh32 v0 = (0, 5)) (bd_ (up_ M28 v0 4 p30) fun (M35 : AwM) => (bd_ ((sh32.length : Nat) : Int) fun (p37 : Int) => (bd_ (sh32 ++ [(1, 12)]) fun (sh39 : AwS) => (gd_ (kd_ sh39 v0 = (0, 5)) (bd_ (up_ M35 v0 5 p37) fun (M42 : AwM) => (bd_ ((sh39.length : Nat) : Int) fun (p44 : Int) => (bd_ (sh39 ++ [(1, 12)]) fun (sh46 : AwS) => (gd_ (kd_ sh46 v0 = (0, 5)) (bd_ (up_ M42 v0 6 p44) fun (M49 : AwM) => (bd_ ((sh46.length : Nat) : Int) fun (p51 : Int) => (bd_ (sh46 ++ [(1, 10)]) fun (sh53 : AwS) => (gd_ (kd_ sh53 v0 = (0, 5)) (bd_ (up_ M49 v0 7 p51) fun (M56 : AwM) => (bd_ ((sh53.length : Nat) : Int) fun (p58 : Int) => (bd_ (sh53 ++ [(1, 10)]) fun (sh60 : AwS) => (gd_ (kd_ sh60 v0 = (0, 5)) (bd_ (up_ M56 v0 8 p58) fun (M63 : AwM) => (bd_ ((sh60.length : Nat) : Int) fun (p65 : Int) => (bd_ (sh60 ++ [(0, 1)]) fun (sh67 : AwS) => (gd_ ((0 : Int) < p65) (pb (fX1_init sh67 M63 p65) <| u2 fun (sh71 : AwS) (M72 : AwM) => (gd_ (kd_ sh71 v0 = (0, 5)) (bd_ (up_ M72 v0 9 p65) fun (M74 : AwM) => (bd_ ((sh71.length : Nat) : Int) fun (p76 : Int) => (bd_ (sh71 ++ [(0, 1)]) fun (sh78 : AwS) => (gd_ ((0 : Int) < p76) (pb (fX1_init sh78 M74 p76) <| u2 fun (sh82 : AwS) (M83 : AwM) => (gd_ (kd_ sh82 v0 = (0, 5)) (bd_ (up_ M83 v0 10 p76) fun (M85 : AwM) => (some (sh82, M85))))))))))))))))))))))))))))))))))))))))))))))))))
set_option maxRecDepth 100000 in
set_option maxHeartbeats 4000000 in
theorem mX5_init {sh : AwS} {M : AwM} {v0 : Int} {sh' : AwS} {M' : AwM} (h : fX5_init sh M v0 = some (sh', M')) : AMet yX5_init cX5_init 1 none 3 15 3451 [.inr (.inr v0)] sh M none sh' M' := by
  refine amet_of (by decide +kernel) (Nat.le_of_ble_eq_true rfl) (fun Γ hC => ?_)
  replace hC : AOK Γ RX5 cX5_init 1 3 15 3451 "<init>" none := hC
  unfold fX5_init at h
  refine aw_sub hC [some (.inr (.inr v0))] ⟨rfl, trivial⟩ (Nat.le_of_ble_eq_true rfl) ?_
  refine aw_aload_n (pc' := 1) (i := 0) hC dX5_init_0 rfl rfl rfl ?_
  obtain ⟨g1, h⟩ := gd_s h
  refine aw_obj (pc' := 4) hC lo_X5_3 g1 dX5_init_1 rfl (Nat.le_of_ble_eq_true rfl) (Nat.le_of_ble_eq_true rfl) ?_
  refine aw_aload_n (pc' := 5) (i := 0) hC dX5_init_4 rfl rfl rfl ?_
  refine aw_iconst (pc' := 6) hC dX5_init_5 rfl (by decide) ?_
  obtain ⟨p2, e3, h⟩ := bd_s h
  obtain ⟨sh4, e5, h⟩ := bd_s h
  refine aw_na_int (pc' := 8) (k2 := 1) (n2 := 3) hC dX5_init_6 rfl la_int rfl (Nat.le_of_ble_eq_true rfl) rfl rfl (Nat.le_of_ble_eq_true rfl) (Nat.le_of_ble_eq_true rfl) e3 e5 ?_
  obtain ⟨g6, h⟩ := gd_s h
  obtain ⟨M7, e8, h⟩ := bd_s h
  refine aw_pff (pc' := 11) hC dX5_init_8 rfl ff_X5_9 g6 rfl trivial e8 ?_
  refine aw_aload_n (pc' := 12) (i := 0) hC dX5_init_11 rfl rfl rfl ?_
  refine aw_bipush (pc' := 14) hC dX5_init_12 rfl (by decide) ?_
  obtain ⟨p9, e10, h⟩ := bd_s h
  obtain ⟨sh11, e12, h⟩ := bd_s h
  refine aw_na_int (pc' := 16) (k2 := 2) (n2 := 39) hC dX5_init_14 rfl la_int rfl (Nat.le_of_ble_eq_true rfl) rfl rfl (Nat.le_of_ble_eq_true rfl) (Nat.le_of_ble_eq_true rfl) e10 e12 ?_
  obtain ⟨g13, h⟩ := gd_s h
  obtain ⟨M14, e15, h⟩ := bd_s h
  refine aw_pff (pc' := 19) hC dX5_init_16 rfl ff_X5_15 g13 rfl trivial e15 ?_
  refine aw_aload_n (pc' := 20) (i := 0) hC dX5_init_19 rfl rfl rfl ?_
  refine aw_bipush (pc' := 22) hC dX5_init_20 rfl (by decide) ?_
  obtain ⟨p16, e17, h⟩ := bd_s h
  obtain ⟨sh18, e19, h⟩ := bd_s h
  refine aw_na_int (pc' := 24) (k2 := 3) (n2 := 49) hC dX5_init_22 rfl la_int rfl (Nat.le_of_ble_eq_true rfl) rfl rfl (Nat.le_of_ble_eq_true rfl) (Nat.le_of_ble_eq_true rfl) e17 e19 ?_
  obtain ⟨g20, h⟩ := gd_s h
  obtain ⟨M21, e22, h⟩ := bd_s h
  refine aw_pff (pc' := 27) hC dX5_init_24 rfl ff_X5_18 g20 rfl trivial e22 ?_
  refine aw_aload_n (pc' := 28) (i := 0) hC dX5_init_27 rfl rfl rfl ?_
  refine aw_bipush (pc' := 30) hC dX5_init_28 rfl (by decide) ?_
  obtain ⟨p23, e24, h⟩ := bd_s h
  obtain ⟨sh25, e26, h⟩ := bd_s h
  refine aw_na_int (pc' := 32) (k2 := 4) (n2 := 61) hC dX5_init_30 rfl la_int rfl (Nat.le_of_ble_eq_true rfl) rfl rfl (Nat.le_of_ble_eq_true rfl) (Nat.le_of_ble_eq_true rfl) e24 e26 ?_
  obtain ⟨g27, h⟩ := gd_s h
  obtain ⟨M28, e29, h⟩ := bd_s h
  refine aw_pff (pc' := 35) hC dX5_init_32 rfl ff_X5_21 g27 rfl trivial e29 ?_
  refine aw_aload_n (pc' := 36) (i := 0) hC dX5_init_35 rfl rfl rfl ?_
  refine aw_bipush (pc' := 38) hC dX5_init_36 rfl (by decide) ?_
  obtain ⟨p30, e31, h⟩ := bd_s h
  obtain ⟨sh32, e33, h⟩ := bd_s h
  refine aw_na_int (pc' := 40) (k2 := 5) (n2 := 73) hC dX5_init_38 rfl la_int rfl (Nat.le_of_ble_eq_true rfl) rfl rfl (Nat.le_of_ble_eq_true rfl) (Nat.le_of_ble_eq_true rfl) e31 e33 ?_
  obtain ⟨g34, h⟩ := gd_s h
  obtain ⟨M35, e36, h⟩ := bd_s h
  refine aw_pff (pc' := 43) hC dX5_init_40 rfl ff_X5_24 g34 rfl trivial e36 ?_
  refine aw_aload_n (pc' := 44) (i := 0) hC dX5_init_43 rfl rfl rfl ?_
  refine aw_bipush (pc' := 46) hC dX5_init_44 rfl (by decide) ?_
  obtain ⟨p37, e38, h⟩ := bd_s h
  obtain ⟨sh39, e40, h⟩ := bd_s h
  refine aw_na_int (pc' := 48) (k2 := 6) (n2 := 85) hC dX5_init_46 rfl la_int rfl (Nat.le_of_ble_eq_true rfl) rfl rfl (Nat.le_of_ble_eq_true rfl) (Nat.le_of_ble_eq_true rfl) e38 e40 ?_
  obtain ⟨g41, h⟩ := gd_s h
  obtain ⟨M42, e43, h⟩ := bd_s h
  refine aw_pff (pc' := 51) hC dX5_init_48 rfl ff_X5_27 g41 rfl trivial e43 ?_
  refine aw_aload_n (pc' := 52) (i := 0) hC dX5_init_51 rfl rfl rfl ?_
  refine aw_bipush (pc' := 54) hC dX5_init_52 rfl (by decide) ?_
  obtain ⟨p44, e45, h⟩ := bd_s h
  obtain ⟨sh46, e47, h⟩ := bd_s h
  refine aw_na_int (pc' := 56) (k2 := 7) (n2 := 97) hC dX5_init_54 rfl la_int rfl (Nat.le_of_ble_eq_true rfl) rfl rfl (Nat.le_of_ble_eq_true rfl) (Nat.le_of_ble_eq_true rfl) e45 e47 ?_
  obtain ⟨g48, h⟩ := gd_s h
  obtain ⟨M49, e50, h⟩ := bd_s h
  refine aw_pff (pc' := 59) hC dX5_init_56 rfl ff_X5_30 g48 rfl trivial e50 ?_
  refine aw_aload_n (pc' := 60) (i := 0) hC dX5_init_59 rfl rfl rfl ?_
  refine aw_bipush (pc' := 62) hC dX5_init_60 rfl (by decide) ?_
  obtain ⟨p51, e52, h⟩ := bd_s h
  obtain ⟨sh53, e54, h⟩ := bd_s h
  refine aw_na_int (pc' := 64) (k2 := 8) (n2 := 107) hC dX5_init_62 rfl la_int rfl (Nat.le_of_ble_eq_true rfl) rfl rfl (Nat.le_of_ble_eq_true rfl) (Nat.le_of_ble_eq_true rfl) e52 e54 ?_
  obtain ⟨g55, h⟩ := gd_s h
  obtain ⟨M56, e57, h⟩ := bd_s h
  refine aw_pff (pc' := 67) hC dX5_init_64 rfl ff_X5_33 g55 rfl trivial e57 ?_
  refine aw_aload_n (pc' := 68) (i := 0) hC dX5_init_67 rfl rfl rfl ?_
  refine aw_bipush (pc' := 70) hC dX5_init_68 rfl (by decide) ?_
  obtain ⟨p58, e59, h⟩ := bd_s h
  obtain ⟨sh60, e61, h⟩ := bd_s h
  refine aw_na_int (pc' := 72) (k2 := 9) (n2 := 117) hC dX5_init_70 rfl la_int rfl (Nat.le_of_ble_eq_true rfl) rfl rfl (Nat.le_of_ble_eq_true rfl) (Nat.le_of_ble_eq_true rfl) e59 e61 ?_
  obtain ⟨g62, h⟩ := gd_s h
  obtain ⟨M63, e64, h⟩ := bd_s h
  refine aw_pff (pc' := 75) hC dX5_init_72 rfl ff_X5_36 g62 rfl trivial e64 ?_
  refine aw_aload_n (pc' := 76) (i := 0) hC dX5_init_75 rfl rfl rfl ?_
  obtain ⟨p65, e66, h⟩ := bd_s h
  obtain ⟨sh67, e68, h⟩ := bd_s h
  refine aw_nw (pc' := 79) (k2 := 10) (n2 := 120) hC dX5_init_76 rfl nw_X5_39 rfl rfl (Nat.le_of_ble_eq_true rfl) (Nat.le_of_ble_eq_true rfl) e66 e68 ?_
  refine aw_dup (pc' := 80) hC dX5_init_79 rfl rfl ?_
  obtain ⟨g70, h⟩ := gd_s h
  obtain ⟨⟨sh71, M72⟩, q69, h⟩ := pb_s h
  replace h := u2_s h
  refine aw_cIN (pc' := 83) (k2 := 12) (n2 := 1784) (st := [.inr (.inr p65), .inr (.inr v0)]) (stN := [.inr (.inr p65), .inr (.inr v0)]) hC [] (mX1_init q69) lk_X5_41 g70 dX5_init_80 rfl rfl (Nat.le_of_ble_eq_true rfl) (Nat.le_of_ble_eq_true rfl) (Nat.le_of_ble_eq_true rfl) rfl (Nat.le_of_ble_eq_true rfl) rfl rfl rfl ?_
  obtain ⟨g73, h⟩ := gd_s h
  obtain ⟨M74, e75, h⟩ := bd_s h
  refine aw_pff (pc' := 86) hC dX5_init_83 rfl ff_X5_42 g73 rfl trivial e75 ?_
  refine aw_aload_n (pc' := 87) (i := 0) hC dX5_init_86 rfl rfl rfl ?_
  obtain ⟨p76, e77, h⟩ := bd_s h
  obtain ⟨sh78, e79, h⟩ := bd_s h
  refine aw_nw (pc' := 90) (k2 := 13) (n2 := 1787) hC dX5_init_87 rfl nw_X5_39 rfl rfl (Nat.le_of_ble_eq_true rfl) (Nat.le_of_ble_eq_true rfl) e77 e79 ?_
  refine aw_dup (pc' := 91) hC dX5_init_90 rfl rfl ?_
  obtain ⟨g81, h⟩ := gd_s h
  obtain ⟨⟨sh82, M83⟩, q80, h⟩ := pb_s h
  replace h := u2_s h
  refine aw_cIN (pc' := 94) (k2 := 15) (n2 := 3451) (st := [.inr (.inr p76), .inr (.inr v0)]) (stN := [.inr (.inr p76), .inr (.inr v0)]) hC [] (mX1_init q80) lk_X5_41 g81 dX5_init_91 rfl rfl (Nat.le_of_ble_eq_true rfl) (Nat.le_of_ble_eq_true rfl) (Nat.le_of_ble_eq_true rfl) rfl (Nat.le_of_ble_eq_true rfl) rfl rfl rfl ?_
  obtain ⟨g84, h⟩ := gd_s h
  obtain ⟨M85, e86, h⟩ := bd_s h
  refine aw_pff (pc' := 97) hC dX5_init_94 rfl ff_X5_46 g84 rfl trivial e86 ?_
  cases h
  exact aw_vret hC dX5_init_97 (Nat.le_of_ble_eq_true rfl) (Nat.le_of_ble_eq_true rfl)
-- CoinCircle$Teller.<init>()V
def fX6_init (sh : AwS) (M : AwM) (v0 : Int) : Option (AwS × AwM) :=
  gd_ ((0 : Int) < v0) (bd_ ((sh.length : Nat) : Int) fun (p2 : Int) => (bd_ (sh ++ [(0, 4)]) fun (sh4 : AwS) => (gd_ ((0 : Int) < p2) (pb (fX4_init sh4 M p2) <| u2 fun (sh8 : AwS) (M9 : AwM) => (gd_ (kd_ sh8 v0 = (0, 6)) (bd_ (up_ M9 v0 0 p2) fun (M11 : AwM) => (bd_ ((sh8.length : Nat) : Int) fun (p13 : Int) => (bd_ (sh8 ++ [(0, 5)]) fun (sh15 : AwS) => (gd_ ((0 : Int) < p13) (pb (fX5_init sh15 M11 p13) <| u2 fun (sh19 : AwS) (M20 : AwM) => (gd_ (kd_ sh19 v0 = (0, 6)) (bd_ (up_ M20 v0 1 p13) fun (M22 : AwM) => (gd_ (kd_ sh19 (M22 v0 1) = (0, 5)) (bd_ (up_ M22 v0 2 (M22 (M22 v0 1) 9)) fun (M25 : AwM) => (bd_ (up_ M25 v0 5 (-1)) fun (M27 : AwM) => (some (sh19, M27)))))))))))))))))
set_option maxRecDepth 100000 in
set_option maxHeartbeats 4000000 in
theorem mX6_init {sh : AwS} {M : AwM} {v0 : Int} {sh' : AwS} {M' : AwM} (h : fX6_init sh M v0 = some (sh', M')) : AMet yX6_init cX6_init 1 none 7 22 9903 [.inr (.inr v0)] sh M none sh' M' := by
  refine amet_of (by decide +kernel) (Nat.le_of_ble_eq_true rfl) (fun Γ hC => ?_)
  replace hC : AOK Γ RX6 cX6_init 1 7 22 9903 "<init>" none := hC
  unfold fX6_init at h
  refine aw_sub hC [some (.inr (.inr v0))] ⟨rfl, trivial⟩ (Nat.le_of_ble_eq_true rfl) ?_
  refine aw_aload_n (pc' := 1) (i := 0) hC dX6_init_0 rfl rfl rfl ?_
  obtain ⟨g1, h⟩ := gd_s h
  refine aw_obj (pc' := 4) hC lo_X6_3 g1 dX6_init_1 rfl (Nat.le_of_ble_eq_true rfl) (Nat.le_of_ble_eq_true rfl) ?_
  refine aw_aload_n (pc' := 5) (i := 0) hC dX6_init_4 rfl rfl rfl ?_
  obtain ⟨p2, e3, h⟩ := bd_s h
  obtain ⟨sh4, e5, h⟩ := bd_s h
  refine aw_nw (pc' := 8) (k2 := 1) (n2 := 12) hC dX6_init_5 rfl nw_X6_9 rfl rfl (Nat.le_of_ble_eq_true rfl) (Nat.le_of_ble_eq_true rfl) e3 e5 ?_
  refine aw_dup (pc' := 9) hC dX6_init_8 rfl rfl ?_
  obtain ⟨g7, h⟩ := gd_s h
  obtain ⟨⟨sh8, M9⟩, q6, h⟩ := pb_s h
  replace h := u2_s h
  refine aw_cI (pc' := 12) (k2 := 6) (n2 := 6439) (st := [.inr (.inr p2), .inr (.inr v0)]) (stN := [.inr (.inr p2), .inr (.inr v0)]) hC [] (mX4_init q6) lk_X6_11 g7 dX6_init_9 rfl rfl (Nat.le_of_ble_eq_true rfl) (Nat.le_of_ble_eq_true rfl) (Nat.le_of_ble_eq_true rfl) rfl (Nat.le_of_ble_eq_true rfl) rfl rfl rfl ?_
  obtain ⟨g10, h⟩ := gd_s h
  obtain ⟨M11, e12, h⟩ := bd_s h
  refine aw_pff (pc' := 15) hC dX6_init_12 rfl ff_X6_12 g10 rfl trivial e12 ?_
  refine aw_aload_n (pc' := 16) (i := 0) hC dX6_init_15 rfl rfl rfl ?_
  obtain ⟨p13, e14, h⟩ := bd_s h
  obtain ⟨sh15, e16, h⟩ := bd_s h
  refine aw_nw (pc' := 19) (k2 := 7) (n2 := 6452) hC dX6_init_16 rfl nw_X6_18 rfl rfl (Nat.le_of_ble_eq_true rfl) (Nat.le_of_ble_eq_true rfl) e14 e16 ?_
  refine aw_dup (pc' := 20) hC dX6_init_19 rfl rfl ?_
  obtain ⟨g18, h⟩ := gd_s h
  obtain ⟨⟨sh19, M20⟩, q17, h⟩ := pb_s h
  replace h := u2_s h
  refine aw_cIN (pc' := 23) (k2 := 22) (n2 := 9903) (st := [.inr (.inr p13), .inr (.inr v0)]) (stN := [.inr (.inr p13), .inr (.inr v0)]) hC [] (mX5_init q17) lk_X6_20 g18 dX6_init_20 rfl rfl (Nat.le_of_ble_eq_true rfl) (Nat.le_of_ble_eq_true rfl) (Nat.le_of_ble_eq_true rfl) rfl (Nat.le_of_ble_eq_true rfl) rfl rfl rfl ?_
  obtain ⟨g21, h⟩ := gd_s h
  obtain ⟨M22, e23, h⟩ := bd_s h
  refine aw_pf (pc' := 26) hC dX6_init_23 rfl fp_X6_21 g21 rfl trivial e23 ?_
  refine aw_aload_n (pc' := 27) (i := 0) hC dX6_init_26 rfl rfl rfl ?_
  refine aw_aload_n (pc' := 28) (i := 0) hC dX6_init_27 rfl rfl rfl ?_
  refine aw_getfield (pc' := 31) (v := (.inr (.inr (M22 v0 1)))) hC dX6_init_28 rfl fl_X6_21 g21 rfl ?_
  obtain ⟨g24, h⟩ := gd_s h
  refine aw_getfield (pc' := 34) (v := (.inr (.inr (M22 (M22 v0 1) 9)))) hC dX6_init_31 rfl fl_X6_25 g24 rfl ?_
  obtain ⟨M25, e26, h⟩ := bd_s h
  refine aw_pf (pc' := 37) hC dX6_init_34 rfl fp_X6_29 g21 rfl trivial e26 ?_
  refine aw_aload_n (pc' := 38) (i := 0) hC dX6_init_37 rfl rfl rfl ?_
  refine aw_iconst (pc' := 39) hC dX6_init_38 rfl (by decide) ?_
  obtain ⟨M27, e28, h⟩ := bd_s h
  refine aw_pf (pc' := 42) hC dX6_init_39 rfl fp_X6_32 g21 rfl trivial e28 ?_
  cases h
  exact aw_vret hC dX6_init_42 (Nat.le_of_ble_eq_true rfl) (Nat.le_of_ble_eq_true rfl)
-- CoinCircle$Ledger.<init>()V
def fX3_init (sh : AwS) (M : AwM) (v0 : Int) : Option (AwS × AwM) :=
  gd_ ((0 : Int) < v0) (bd_ ((sh.length : Nat) : Int) fun (p2 : Int) => (bd_ (sh ++ [(1, 12)]) fun (sh4 : AwS) => (gd_ (kd_ sh4 v0 = (0, 3)) (bd_ (up_ M v0 1 p2) fun (M7 : AwM) => (bd_ ((sh4.length : Nat) : Int) fun (p9 : Int) => (bd_ (sh4 ++ [(1, 12)]) fun (sh11 : AwS) => (gd_ (kd_ sh11 v0 = (0, 3)) (bd_ (up_ M7 v0 2 p9) fun (M14 : AwM) => (bd_ ((sh11.length : Nat) : Int) fun (p16 : Int) => (bd_ (sh11 ++ [(1, 12)]) fun (sh18 : AwS) => (gd_ (kd_ sh18 v0 = (0, 3)) (bd_ (up_ M14 v0 3 p16) fun (M21 : AwM) => (bd_ ((sh18.length : Nat) : Int) fun (p23 : Int) => (bd_ (sh18 ++ [(1, 120)]) fun (sh25 : AwS) => (gd_ (kd_ sh25 v0 = (0, 3)) (bd_ (up_ M21 v0 4 p23) fun (M28 : AwM) => (some (sh25, M28))))))))))))))))))
set_option maxRecDepth 100000 in
set_option maxHeartbeats 4000000 in
theorem mX3_init {sh : AwS} {M : AwM} {v0 : Int} {sh' : AwS} {M' : AwM} (h : fX3_init sh M v0 = some (sh', M')) : AMet yX3_init cX3_init 1 none 2 4 156 [.inr (.inr v0)] sh M none sh' M' := by
  refine amet_of (by decide +kernel) (Nat.le_of_ble_eq_true rfl) (fun Γ hC => ?_)
  replace hC : AOK Γ RX3 cX3_init 1 2 4 156 "<init>" none := hC
  unfold fX3_init at h
  refine aw_sub hC [some (.inr (.inr v0))] ⟨rfl, trivial⟩ (Nat.le_of_ble_eq_true rfl) ?_
  refine aw_aload_n (pc' := 1) (i := 0) hC dX3_init_0 rfl rfl rfl ?_
  obtain ⟨g1, h⟩ := gd_s h
  refine aw_obj (pc' := 4) hC lo_X3_3 g1 dX3_init_1 rfl (Nat.le_of_ble_eq_true rfl) (Nat.le_of_ble_eq_true rfl) ?_
  refine aw_aload_n (pc' := 5) (i := 0) hC dX3_init_4 rfl rfl rfl ?_
  refine aw_bipush (pc' := 7) hC dX3_init_5 rfl (by decide) ?_
  obtain ⟨p2, e3, h⟩ := bd_s h
  obtain ⟨sh4, e5, h⟩ := bd_s h
  refine aw_na_int (pc' := 9) (k2 := 1) (n2 := 12) hC dX3_init_7 rfl la_int rfl (Nat.le_of_ble_eq_true rfl) rfl rfl (Nat.le_of_ble_eq_true rfl) (Nat.le_of_ble_eq_true rfl) e3 e5 ?_
  obtain ⟨g6, h⟩ := gd_s h
  obtain ⟨M7, e8, h⟩ := bd_s h
  refine aw_pff (pc' := 12) hC dX3_init_9 rfl ff_X3_9 g6 rfl trivial e8 ?_
  refine aw_aload_n (pc' := 13) (i := 0) hC dX3_init_12 rfl rfl rfl ?_
  refine aw_bipush (pc' := 15) hC dX3_init_13 rfl (by decide) ?_
  obtain ⟨p9, e10, h⟩ := bd_s h
  obtain ⟨sh11, e12, h⟩ := bd_s h
  refine aw_na_int (pc' := 17) (k2 := 2) (n2 := 24) hC dX3_init_15 rfl la_int rfl (Nat.le_of_ble_eq_true rfl) rfl rfl (Nat.le_of_ble_eq_true rfl) (Nat.le_of_ble_eq_true rfl) e10 e12 ?_
  obtain ⟨g13, h⟩ := gd_s h
  obtain ⟨M14, e15, h⟩ := bd_s h
  refine aw_pff (pc' := 20) hC dX3_init_17 rfl ff_X3_15 g13 rfl trivial e15 ?_
  refine aw_aload_n (pc' := 21) (i := 0) hC dX3_init_20 rfl rfl rfl ?_
  refine aw_bipush (pc' := 23) hC dX3_init_21 rfl (by decide) ?_
  obtain ⟨p16, e17, h⟩ := bd_s h
  obtain ⟨sh18, e19, h⟩ := bd_s h
  refine aw_na_int (pc' := 25) (k2 := 3) (n2 := 36) hC dX3_init_23 rfl la_int rfl (Nat.le_of_ble_eq_true rfl) rfl rfl (Nat.le_of_ble_eq_true rfl) (Nat.le_of_ble_eq_true rfl) e17 e19 ?_
  obtain ⟨g20, h⟩ := gd_s h
  obtain ⟨M21, e22, h⟩ := bd_s h
  refine aw_pff (pc' := 28) hC dX3_init_25 rfl ff_X3_18 g20 rfl trivial e22 ?_
  refine aw_aload_n (pc' := 29) (i := 0) hC dX3_init_28 rfl rfl rfl ?_
  refine aw_bipush (pc' := 31) hC dX3_init_29 rfl (by decide) ?_
  obtain ⟨p23, e24, h⟩ := bd_s h
  obtain ⟨sh25, e26, h⟩ := bd_s h
  refine aw_na_int (pc' := 33) (k2 := 4) (n2 := 156) hC dX3_init_31 rfl la_int rfl (Nat.le_of_ble_eq_true rfl) rfl rfl (Nat.le_of_ble_eq_true rfl) (Nat.le_of_ble_eq_true rfl) e24 e26 ?_
  obtain ⟨g27, h⟩ := gd_s h
  obtain ⟨M28, e29, h⟩ := bd_s h
  refine aw_pff (pc' := 36) hC dX3_init_33 rfl ff_X3_21 g27 rfl trivial e29 ?_
  cases h
  exact aw_vret hC dX3_init_36 (Nat.le_of_ble_eq_true rfl) (Nat.le_of_ble_eq_true rfl)
-- CoinCircle$History.<init>()V
set_option maxRecDepth 100000 in
set_option maxHeartbeats 4000000 in
def fX2_init (sh : AwS) (M : AwM) (v0 : Int) : Option (AwS × AwM) :=
  gd_ ((0 : Int) < v0) (bd_ ((sh.length : Nat) : Int) fun (p2 : Int) => (bd_ (sh ++ [(5, 20)]) fun (sh4 : AwS) => (gd_ (kd_ sh4 v0 = (0, 2)) (bd_ (up_ M v0 0 p2) fun (M7 : AwM) => (bd_ ((sh4.length : Nat) : Int) fun (p10 : Int) => (bd_ (sh4 ++ [(0, 3)]) fun (sh12 : AwS) => (gd_ ((0 : Int) < p10) (pb (fX3_init sh12 M7 p10) <| u2 fun (sh16 : AwS) (M17 : AwM) => (gd_ ((kd_ sh16 (M7 v0 0)).1 = 5 ∧ (0 : Int) ≤ 0 ∧ 0 < ((kd_ sh16 (M7 v0 0)).2 : Int)) (gd_ (kd_ sh16 p10 = (0, 3)) (bd_ (up_ M17 (M7 v0 0) 0 p10) fun (M20 : AwM) => (gd_ (kd_ sh16 v0 = (0, 2)) (bd_ ((sh16.length : Nat) : Int) fun (p24 : Int) => (bd_ (sh16 ++ [(0, 3)]) fun (sh26 : AwS) => (gd_ ((0 : Int) < p24) (pb (fX3_init sh26 M20 p24) <| u2 fun (sh30 : AwS) (M31 : AwM) => (gd_ ((kd_ sh30 (M20 v0 0)).1 = 5 ∧ (0 : Int) ≤ 1 ∧ 1 < ((kd_ sh30 (M20 v0 0)).2 : Int)) (gd_ (kd_ sh30 p24 = (0, 3)) (bd_ (up_ M31 (M20 v0 0) 1 p24) fun (M34 : AwM) => (gd_ (kd_ sh30 v0 = (0, 2)) (bd_ ((sh30.length : Nat) : Int) fun (p38 : Int) => (bd_ (sh30 ++ [(0, 3)]) fun (sh40 : AwS) => (gd_ ((0 : Int) < p38) (pb (fX3_init sh40 M34 p38) <| u2 fun (sh44 : AwS) (M45 : AwM) => (gd_ ((kd_ sh44 (M34 v0 0)).1 = 5 ∧ (0 : Int) ≤ 2 ∧ 2 < ((kd_ sh44 (M34 v0 0)).2 : Int)) (gd_ (kd_ sh44 p38 = (0, 3)) (bd_ (up_ M45 (M34 v0 0) 2 p38) fun (M48 : AwM) => (gd_ (kd_ sh44 v0 = (0, 2)) (bd_ ((sh44.length : Nat) : Int) fun (p52 : Int) => (bd_ (sh44 ++ [(0, 3)]) fun (sh54 : AwS) => (gd_ ((0 : Int) < p52) (pb (fX3_init sh54 M48 p52) <| u2 fun (sh58 : AwS) (M59 : AwM) => (gd_ ((kd_ sh58 (M48 v0 0)).1 = 5 ∧ (0 : Int) ≤ 3 ∧ 3 < ((kd_ sh58 (M48 v0 0)).2 : Int)) (gd_ (kd_ sh58 p52 = (0, 3)) (bd_ (up_ M59 (M48 v0 0) 3 p52) fun (M62 : AwM) => (gd_ (kd_ sh58 v0 = (0, 2)) (bd_ ((sh58.length : Nat) : Int) fun (p66 : Int) => (bd_ (sh58 ++ [(0, 3)]) fun (sh68 : AwS) => (gd_ ((0 : Int) < p66) (pb (fX3_init sh68 M62 p66) <| u2 fun (sh72 : AwS) (M73 : AwM) => (gd_ ((kd_ sh72 (M62 v0 0)).1 = 5 ∧ (0 : Int) ≤ 4 ∧ 4 < ((kd_ sh72 (M62 v0 0)).2 : Int)) (gd_ (kd_ sh72 p66 = (0, 3)) (bd_ (up_ M73 (M62 v0 0) 4 p66) fun (M76 : AwM) => (gd_ (kd_ sh72 v0 = (0, 2)) (bd_ ((sh72.length : Nat) : Int) fun (p80 : Int) => (bd_ (sh72 ++ [(0, 3)]) fun (sh82 : AwS) => (gd_ ((0 : Int) < p80) (pb (fX3_init sh82 M76 p80) <| u2 fun (sh86 : AwS) (M87 : AwM) => (gd_ ((kd_ sh86 (M76 v0 0)).1 = 5 ∧ (0 : Int) ≤ 5 ∧ 5 < ((kd_ sh86 (M76 v0 0)).2 : Int)) (gd_ (kd_ sh86 p80 = (0, 3)) (bd_ (up_ M87 (M76 v0 0) 5 p80) fun (M90 : AwM) => (gd_ (kd_ sh86 v0 = (0, 2)) (bd_ ((sh86.length : Nat) : Int) fun (p94 : Int) => (bd_ (sh86 ++ [(0, 3)]) fun (sh96 : AwS) => (gd_ ((0 : Int) < p94) (pb (fX3_init sh96 M90 p94) <| u2 fun (sh100 : AwS) (M101 : AwM) => (gd_ ((kd_ sh100 (M90 v0 0)).1 = 5 ∧ (0 : Int) ≤ 6 ∧ 6 < ((kd_ sh100 (M90 v0 0)).2 : Int)) (gd_ (kd_ sh100 p94 = (0, 3)) (bd_ (up_ M101 (M90 v0 0) 6 p94) fun (M104 : AwM) => (gd_ (kd_ sh100 v0 = (0, 2)) (bd_ ((sh100.length : Nat) : Int) fun (p108 : Int) => (bd_ (sh100 ++ [(0, 3)]) fun (sh110 : AwS) => (gd_ ((0 : Int) < p108) (pb (fX3_init sh110 M104 p108) <| u2 fun (sh114 : AwS) (M115 : AwM) => (gd_ ((kd_ sh114 (M104 v0 0)).1 = 5 ∧ (0 : Int) ≤ 7 ∧ 7 < ((kd_ sh114 (M104 v0 0)).2 : Int)) (gd_ (kd_ sh114 p108 = (0, 3)) (bd_ (up_ M115 (M104 v0 0) 7 p108) fun (M118 : AwM) => (gd_ (kd_ sh114 v0 = (0, 2)) (bd_ ((sh114.length : Nat) : Int) fun (p122 : Int) => (bd_ (sh114 ++ [(0, 3)]) fun (sh124 : AwS) => (gd_ ((0 : Int) < p122) (pb (fX3_init sh124 M118 p122) <| u2 fun (sh128 : AwS) (M129 : AwM) => (gd_ ((kd_ sh128 (M118 v0 0)).1 = 5 ∧ (0 : Int) ≤ 8 ∧ 8 < ((kd_ sh128 (M118 v0 0)).2 : Int)) (gd_ (kd_ sh128 p122 = (0, 3)) (bd_ (up_ M129 (M118 v0 0) 8 p122) fun (M132 : AwM) => (gd_ (kd_ sh128 v0 = (0, 2)) (bd_ ((sh128.length : Nat) : Int) fun (p136 : Int) => (bd_ (sh128 ++ [(0, 3)]) fun (sh138 : AwS) => (gd_ ((0 : Int) < p136) (pb (fX3_init sh138 M132 p136) <| u2 fun (sh142 : AwS) (M143 : AwM) => (gd_ ((kd_ sh142 (M132 v0 0)).1 = 5 ∧ (0 : Int) ≤ 9 ∧ 9 < ((kd_ sh142 (M132 v0 0)).2 : Int)) (gd_ (kd_ sh142 p136 = (0, 3)) (bd_ (up_ M143 (M132 v0 0) 9 p136) fun (M146 : AwM) => (gd_ (kd_ sh142 v0 = (0, 2)) (bd_ ((sh142.length : Nat) : Int) fun (p150 : Int) => (bd_ (sh142 ++ [(0, 3)]) fun (sh152 : AwS) => (gd_ ((0 : Int) < p150) (pb (fX3_init sh152 M146 p150) <| u2 fun (sh156 : AwS) (M157 : AwM) => (gd_ ((kd_ sh156 (M146 v0 0)).1 = 5 ∧ (0 : Int) ≤ 10 ∧ 10 < ((kd_ sh156 (M146 v0 0)).2 : Int)) (gd_ (kd_ sh156 p150 = (0, 3)) (bd_ (up_ M157 (M146 v0 0) 10 p150) fun (M160 : AwM) => (gd_ (kd_ sh156 v0 = (0, 2)) (bd_ ((sh156.length : Nat) : Int) fun (p164 : Int) => (bd_ (sh156 ++ [(0, 3)]) fun (sh166 : AwS) => (gd_ ((0 : Int) < p164) (pb (fX3_init sh166 M160 p164) <| u2 fun (sh170 : AwS) (M171 : AwM) => (gd_ ((kd_ sh170 (M160 v0 0)).1 = 5 ∧ (0 : Int) ≤ 11 ∧ 11 < ((kd_ sh170 (M160 v0 0)).2 : Int)) (gd_ (kd_ sh170 p164 = (0, 3)) (bd_ (up_ M171 (M160 v0 0) 11 p164) fun (M174 : AwM) => (gd_ (kd_ sh170 v0 = (0, 2)) (bd_ ((sh170.length : Nat) : Int) fun (p178 : Int) => (bd_ (sh170 ++ [(0, 3)]) fun (sh180 : AwS) => (gd_ ((0 : Int) < p178) (pb (fX3_init sh180 M174 p178) <| u2 fun (sh184 : AwS) (M185 : AwM) => (gd_ ((kd_ sh184 (M174 v0 0)).1 = 5 ∧ (0 : Int) ≤ 12 ∧ 12 < ((kd_ sh184 (M174 v0 0)).2 : Int)) (gd_ (kd_ sh184 p178 = (0, 3)) (bd_ (up_ M185 (M174 v0 0) 12 p178) fun (M188 : AwM) => (gd_ (kd_ sh184 v0 = (0, 2)) (bd_ ((sh184.length : Nat) : Int) fun (p192 : Int) => (bd_ (sh184 ++ [(0, 3)]) fun (sh194 : AwS) => (gd_ ((0 : Int) < p192) (pb (fX3_init sh194 M188 p192) <| u2 fun (sh198 : AwS) (M199 : AwM) => (gd_ ((kd_ sh198 (M188 v0 0)).1 = 5 ∧ (0 : Int) ≤ 13 ∧ 13 < ((kd_ sh198 (M188 v0 0)).2 : Int)) (gd_ (kd_ sh198 p192 = (0, 3)) (bd_ (up_ M199 (M188 v0 0) 13 p192) fun (M202 : AwM) => (gd_ (kd_ sh198 v0 = (0, 2)) (bd_ ((sh198.length : Nat) : Int) fun (p206 : Int) => (bd_ (sh198 ++ [(0, 3)]) fun (sh208 : AwS) => (gd_ ((0 : Int) < p206) (pb (fX3_init sh208 M202 p206) <| u2 fun (sh212 : AwS) (M213 : AwM) => (gd_ ((kd_ sh212 (M202 v0 0)).1 = 5 ∧ (0 : Int) ≤ 14 ∧ 14 < ((kd_ sh212 (M202 v0 0)).2 : Int)) (gd_ (kd_ sh212 p206 = (0, 3)) (bd_ (up_ M213 (M202 v0 0) 14 p206) fun (M216 : AwM) => (gd_ (kd_ sh212 v0 = (0, 2)) (bd_ ((sh212.length : Nat) : Int) fun (p220 : Int) => (bd_ (sh212 ++ [(0, 3)]) fun (sh222 : AwS) => (gd_ ((0 : Int) < p220) (pb (fX3_init sh222 M216 p220) <| u2 fun (sh226 : AwS) (M227 : AwM) => (gd_ ((kd_ sh226 (M216 v0 0)).1 = 5 ∧ (0 : Int) ≤ 15 ∧ 15 < ((kd_ sh226 (M216 v0 0)).2 : Int)) (gd_ (kd_ sh226 p220 = (0, 3)) (bd_ (up_ M227 (M216 v0 0) 15 p220) fun (M230 : AwM) => (gd_ (kd_ sh226 v0 = (0, 2)) (bd_ ((sh226.length : Nat) : Int) fun (p234 : Int) => (bd_ (sh226 ++ [(0, 3)]) fun (sh236 : AwS) => (gd_ ((0 : Int) < p234) (pb (fX3_init sh236 M230 p234) <| u2 fun (sh240 : AwS) (M241 : AwM) => (gd_ ((kd_ sh240 (M230 v0 0)).1 = 5 ∧ (0 : Int) ≤ 16 ∧ 16 < ((kd_ sh240 (M230 v0 0)).2 : Int)) (gd_ (kd_ sh240 p234 = (0, 3)) (bd_ (up_ M241 (M230 v0 0) 16 p234) fun (M244 : AwM) => (gd_ (kd_ sh240 v0 = (0, 2)) (bd_ ((sh240.length : Nat) : Int) fun (p248 : Int) => (bd_ (sh240 ++ [(0, 3)]) fun (sh250 : AwS) => (gd_ ((0 : Int) < p248) (pb (fX3_init sh250 M244 p248) <| u2 fun (sh254 : AwS) (M255 : AwM) => (gd_ ((kd_ sh254 (M244 v0 0)).1 = 5 ∧ (0 : Int) ≤ 17 ∧ 17 < ((kd_ sh254 (M244 v0 0)).2 : Int)) (gd_ (kd_ sh254 p248 = (0, 3)) (bd_ (up_ M255 (M244 v0 0) 17 p248) fun (M258 : AwM) => (gd_ (kd_ sh254 v0 = (0, 2)) (bd_ ((sh254.length : Nat) : Int) fun (p262 : Int) => (bd_ (sh254 ++ [(0, 3)]) fun (sh264 : AwS) => (gd_ ((0 : Int) < p262) (pb (fX3_init sh264 M258 p262) <| u2 fun (sh268 : AwS) (M269 : AwM) => (gd_ ((kd_ sh268 (M258 v0 0)).1 = 5 ∧ (0 : Int) ≤ 18 ∧ 18 < ((kd_ sh268 (M258 v0 0)).2 : Int)) (gd_ (kd_ sh268 p262 = (0, 3)) (bd_ (up_ M269 (M258 v0 0) 18 p262) fun (M272 : AwM) => (gd_ (kd_ sh268 v0 = (0, 2)) (bd_ ((sh268.length : Nat) : Int) fun (p276 : Int) => (bd_ (sh268 ++ [(0, 3)]) fun (sh278 : AwS) => (gd_ ((0 : Int) < p276) (pb (fX3_init sh278 M272 p276) <| u2 fun (sh282 : AwS) (M283 : AwM) => (gd_ ((kd_ sh282 (M272 v0 0)).1 = 5 ∧ (0 : Int) ≤ 19 ∧ 19 < ((kd_ sh282 (M272 v0 0)).2 : Int)) (gd_ (kd_ sh282 p276 = (0, 3)) (bd_ (up_ M283 (M272 v0 0) 19 p276) fun (M286 : AwM) => (some (sh282, M286)))))))))))))))))))))))))))))))))))))))))))))))))))))))))))))))))))))))))))))))))))))))))))))))))))))))))))))))))))))))))))))))))))))))))))))))))))))))))))))))))))))
set_option maxRecDepth 100000 in
set_option maxHeartbeats 4000000 in
theorem mX2_init {sh : AwS} {M : AwM} {v0 : Int} {sh' : AwS} {M' : AwM} (h : fX2_init sh M v0 = some (sh', M')) : AMet yX2_init cX2_init 2 none 3 101 3240 [.inr (.inr v0)] sh M none sh' M' := by
  refine amet_of (by decide +kernel) (Nat.le_of_ble_eq_true rfl) (fun Γ hC => ?_)
  replace hC : AOK Γ RX2 cX2_init 2 3 101 3240 "<init>" none := hC
  unfold fX2_init at h
  refine aw_sub hC [some (.inr (.inr v0)), none] ⟨rfl, trivial⟩ (Nat.le_of_ble_eq_true rfl) ?_
  refine aw_aload_n (pc' := 1) (i := 0) hC dX2_init_0 rfl rfl rfl ?_
  obtain ⟨g1, h⟩ := gd_s h
  refine aw_obj (pc' := 4) hC lo_X2_3 g1 dX2_init_1 rfl (Nat.le_of_ble_eq_true rfl) (Nat.le_of_ble_eq_true rfl) ?_
  refine aw_aload_n (pc' := 5) (i := 0) hC dX2_init_4 rfl rfl rfl ?_
  refine aw_bipush (pc' := 7) hC dX2_init_5 rfl (by decide) ?_
  obtain ⟨p2, e3, h⟩ := bd_s h
  obtain ⟨sh4, e5, h⟩ := bd_s h
  refine aw_anewL (pc' := 10) (k2 := 1) (n2 := 20) hC lw_X2_9.1 lw_X2_9.2 dX2_init_7 rfl rfl (Nat.le_of_ble_eq_true rfl) rfl rfl (Nat.le_of_ble_eq_true rfl) (Nat.le_of_ble_eq_true rfl) e3 e5 ?_
  obtain ⟨g6, h⟩ := gd_s h
  obtain ⟨M7, e8, h⟩ := bd_s h
  refine aw_pff (pc' := 13) hC dX2_init_10 rfl ff_X2_11 g6 rfl trivial e8 ?_
  refine aw_iconst (pc' := 14) hC dX2_init_13 rfl (by decide) ?_
  refine aw_istore_n (pc' := 15) (i := 1) (ls' := [some (.inr (.inr v0)), some (.inl 0)]) hC dX2_init_14 rfl rfl (Nat.le_of_ble_eq_true rfl) rfl rfl ?_
  refine aw_iload_n (pc' := 16) (i := 1) hC dX2_init_15 rfl rfl rfl ?_
  refine aw_bipush (pc' := 18) hC dX2_init_16 rfl (by decide) ?_
  refine aw_icmp_ge (tgt := 40) (pc' := 21) hC dX2_init_18 (by decide) rfl (fun c9 => ?_) (fun c9 => ?_)
  · exact absurd c9 (by decide)
  · refine aw_aload_n (pc' := 22) (i := 0) hC dX2_init_21 rfl rfl rfl ?_
    refine aw_getfield (pc' := 25) (v := (.inr (.inr (M7 v0 0)))) hC dX2_init_22 rfl fl_X2_11 g6 rfl ?_
    refine aw_iload_n (pc' := 26) (i := 1) hC dX2_init_25 rfl rfl rfl ?_
    obtain ⟨p10, e11, h⟩ := bd_s h
    obtain ⟨sh12, e13, h⟩ := bd_s h
    refine aw_nw (pc' := 29) (k2 := 2) (n2 := 25) hC dX2_init_26 rfl nw_X2_9 rfl rfl (Nat.le_of_ble_eq_true rfl) (Nat.le_of_ble_eq_true rfl) e11 e13 ?_
    refine aw_dup (pc' := 30) hC dX2_init_29 rfl rfl ?_
    obtain ⟨g15, h⟩ := gd_s h
    obtain ⟨⟨sh16, M17⟩, q14, h⟩ := pb_s h
    replace h := u2_s h
    refine aw_cIN (pc' := 33) (k2 := 6) (n2 := 181) (st := [.inr (.inr p10), .inl 0, .inr (.inr (M7 v0 0))]) (stN := [.inr (.inr p10), .inl 0, .inr (.inr (M7 v0 0))]) hC [] (mX3_init q14) lk_X2_17 g15 dX2_init_30 rfl rfl (Nat.le_of_ble_eq_true rfl) (Nat.le_of_ble_eq_true rfl) (Nat.le_of_ble_eq_true rfl) rfl (Nat.le_of_ble_eq_true rfl) rfl rfl rfl ?_
    obtain ⟨g18, h⟩ := gd_s h
    obtain ⟨g19, h⟩ := gd_s h
    obtain ⟨M20, e21, h⟩ := bd_s h
    refine aw_aast (pc' := 34) hC dX2_init_33 rfl g18 g19 e21 ?_
    refine aw_iinc (pc' := 37) (ls' := [some (.inr (.inr v0)), some (.inl 1)]) hC dX2_init_34 rfl rfl rfl rfl ?_
    refine aw_goto (tgt := 15) hC dX2_init_37 (by decide) ?_
    refine aw_iload_n (pc' := 16) (i := 1) hC dX2_init_15 rfl rfl rfl ?_
    refine aw_bipush (pc' := 18) hC dX2_init_16 rfl (by decide) ?_
    refine aw_icmp_ge (tgt := 40) (pc' := 21) hC dX2_init_18 (by decide) rfl (fun c22 => ?_) (fun c22 => ?_)
    · exact absurd c22 (by decide)
    · refine aw_aload_n (pc' := 22) (i := 0) hC dX2_init_21 rfl rfl rfl ?_
      obtain ⟨g23, h⟩ := gd_s h
      refine aw_getfield (pc' := 25) (v := (.inr (.inr (M20 v0 0)))) hC dX2_init_22 rfl fl_X2_11 g23 rfl ?_
      refine aw_iload_n (pc' := 26) (i := 1) hC dX2_init_25 rfl rfl rfl ?_
      obtain ⟨p24, e25, h⟩ := bd_s h
      obtain ⟨sh26, e27, h⟩ := bd_s h
      refine aw_nw (pc' := 29) (k2 := 7) (n2 := 186) hC dX2_init_26 rfl nw_X2_9 rfl rfl (Nat.le_of_ble_eq_true rfl) (Nat.le_of_ble_eq_true rfl) e25 e27 ?_
      refine aw_dup (pc' := 30) hC dX2_init_29 rfl rfl ?_
      obtain ⟨g29, h⟩ := gd_s h
      obtain ⟨⟨sh30, M31⟩, q28, h⟩ := pb_s h
      replace h := u2_s h
      refine aw_cIN (pc' := 33) (k2 := 11) (n2 := 342) (st := [.inr (.inr p24), .inl 1, .inr (.inr (M20 v0 0))]) (stN := [.inr (.inr p24), .inl 1, .inr (.inr (M20 v0 0))]) hC [] (mX3_init q28) lk_X2_17 g29 dX2_init_30 rfl rfl (Nat.le_of_ble_eq_true rfl) (Nat.le_of_ble_eq_true rfl) (Nat.le_of_ble_eq_true rfl) rfl (Nat.le_of_ble_eq_true rfl) rfl rfl rfl ?_
      obtain ⟨g32, h⟩ := gd_s h
      obtain ⟨g33, h⟩ := gd_s h
      obtain ⟨M34, e35, h⟩ := bd_s h
      refine aw_aast (pc' := 34) hC dX2_init_33 rfl g32 g33 e35 ?_
      refine aw_iinc (pc' := 37) (ls' := [some (.inr (.inr v0)), some (.inl 2)]) hC dX2_init_34 rfl rfl rfl rfl ?_
      refine aw_goto (tgt := 15) hC dX2_init_37 (by decide) ?_
      refine aw_iload_n (pc' := 16) (i := 1) hC dX2_init_15 rfl rfl rfl ?_
      refine aw_bipush (pc' := 18) hC dX2_init_16 rfl (by decide) ?_
      refine aw_icmp_ge (tgt := 40) (pc' := 21) hC dX2_init_18 (by decide) rfl (fun c36 => ?_) (fun c36 => ?_)
      · exact absurd c36 (by decide)
      · refine aw_aload_n (pc' := 22) (i := 0) hC dX2_init_21 rfl rfl rfl ?_
        obtain ⟨g37, h⟩ := gd_s h
        refine aw_getfield (pc' := 25) (v := (.inr (.inr (M34 v0 0)))) hC dX2_init_22 rfl fl_X2_11 g37 rfl ?_
        refine aw_iload_n (pc' := 26) (i := 1) hC dX2_init_25 rfl rfl rfl ?_
        obtain ⟨p38, e39, h⟩ := bd_s h
        obtain ⟨sh40, e41, h⟩ := bd_s h
        refine aw_nw (pc' := 29) (k2 := 12) (n2 := 347) hC dX2_init_26 rfl nw_X2_9 rfl rfl (Nat.le_of_ble_eq_true rfl) (Nat.le_of_ble_eq_true rfl) e39 e41 ?_
        refine aw_dup (pc' := 30) hC dX2_init_29 rfl rfl ?_
        obtain ⟨g43, h⟩ := gd_s h
        obtain ⟨⟨sh44, M45⟩, q42, h⟩ := pb_s h
        replace h := u2_s h
        refine aw_cIN (pc' := 33) (k2 := 16) (n2 := 503) (st := [.inr (.inr p38), .inl 2, .inr (.inr (M34 v0 0))]) (stN := [.inr (.inr p38), .inl 2, .inr (.inr (M34 v0 0))]) hC [] (mX3_init q42) lk_X2_17 g43 dX2_init_30 rfl rfl (Nat.le_of_ble_eq_true rfl) (Nat.le_of_ble_eq_true rfl) (Nat.le_of_ble_eq_true rfl) rfl (Nat.le_of_ble_eq_true rfl) rfl rfl rfl ?_
        obtain ⟨g46, h⟩ := gd_s h
        obtain ⟨g47, h⟩ := gd_s h
        obtain ⟨M48, e49, h⟩ := bd_s h
        refine aw_aast (pc' := 34) hC dX2_init_33 rfl g46 g47 e49 ?_
        refine aw_iinc (pc' := 37) (ls' := [some (.inr (.inr v0)), some (.inl 3)]) hC dX2_init_34 rfl rfl rfl rfl ?_
        refine aw_goto (tgt := 15) hC dX2_init_37 (by decide) ?_
        refine aw_iload_n (pc' := 16) (i := 1) hC dX2_init_15 rfl rfl rfl ?_
        refine aw_bipush (pc' := 18) hC dX2_init_16 rfl (by decide) ?_
        refine aw_icmp_ge (tgt := 40) (pc' := 21) hC dX2_init_18 (by decide) rfl (fun c50 => ?_) (fun c50 => ?_)
        · exact absurd c50 (by decide)
        · refine aw_aload_n (pc' := 22) (i := 0) hC dX2_init_21 rfl rfl rfl ?_
          obtain ⟨g51, h⟩ := gd_s h
          refine aw_getfield (pc' := 25) (v := (.inr (.inr (M48 v0 0)))) hC dX2_init_22 rfl fl_X2_11 g51 rfl ?_
          refine aw_iload_n (pc' := 26) (i := 1) hC dX2_init_25 rfl rfl rfl ?_
          obtain ⟨p52, e53, h⟩ := bd_s h
          obtain ⟨sh54, e55, h⟩ := bd_s h
          refine aw_nw (pc' := 29) (k2 := 17) (n2 := 508) hC dX2_init_26 rfl nw_X2_9 rfl rfl (Nat.le_of_ble_eq_true rfl) (Nat.le_of_ble_eq_true rfl) e53 e55 ?_
          refine aw_dup (pc' := 30) hC dX2_init_29 rfl rfl ?_
          obtain ⟨g57, h⟩ := gd_s h
          obtain ⟨⟨sh58, M59⟩, q56, h⟩ := pb_s h
          replace h := u2_s h
          refine aw_cIN (pc' := 33) (k2 := 21) (n2 := 664) (st := [.inr (.inr p52), .inl 3, .inr (.inr (M48 v0 0))]) (stN := [.inr (.inr p52), .inl 3, .inr (.inr (M48 v0 0))]) hC [] (mX3_init q56) lk_X2_17 g57 dX2_init_30 rfl rfl (Nat.le_of_ble_eq_true rfl) (Nat.le_of_ble_eq_true rfl) (Nat.le_of_ble_eq_true rfl) rfl (Nat.le_of_ble_eq_true rfl) rfl rfl rfl ?_
          obtain ⟨g60, h⟩ := gd_s h
          obtain ⟨g61, h⟩ := gd_s h
          obtain ⟨M62, e63, h⟩ := bd_s h
          refine aw_aast (pc' := 34) hC dX2_init_33 rfl g60 g61 e63 ?_
          refine aw_iinc (pc' := 37) (ls' := [some (.inr (.inr v0)), some (.inl 4)]) hC dX2_init_34 rfl rfl rfl rfl ?_
          refine aw_goto (tgt := 15) hC dX2_init_37 (by decide) ?_
          refine aw_iload_n (pc' := 16) (i := 1) hC dX2_init_15 rfl rfl rfl ?_
          refine aw_bipush (pc' := 18) hC dX2_init_16 rfl (by decide) ?_
          refine aw_icmp_ge (tgt := 40) (pc' := 21) hC dX2_init_18 (by decide) rfl (fun c64 => ?_) (fun c64 => ?_)
          · exact absurd c64 (by decide)
          · refine aw_aload_n (pc' := 22) (i := 0) hC dX2_init_21 rfl rfl rfl ?_
            obtain ⟨g65, h⟩ := gd_s h
            refine aw_getfield (pc' := 25) (v := (.inr (.inr (M62 v0 0)))) hC dX2_init_22 rfl fl_X2_11 g65 rfl ?_
            refine aw_iload_n (pc' := 26) (i := 1) hC dX2_init_25 rfl rfl rfl ?_
            obtain ⟨p66, e67, h⟩ := bd_s h
            obtain ⟨sh68, e69, h⟩ := bd_s h
            refine aw_nw (pc' := 29) (k2 := 22) (n2 := 669) hC dX2_init_26 rfl nw_X2_9 rfl rfl (Nat.le_of_ble_eq_true rfl) (Nat.le_of_ble_eq_true rfl) e67 e69 ?_
            refine aw_dup (pc' := 30) hC dX2_init_29 rfl rfl ?_
            obtain ⟨g71, h⟩ := gd_s h
            obtain ⟨⟨sh72, M73⟩, q70, h⟩ := pb_s h
            replace h := u2_s h
            refine aw_cIN (pc' := 33) (k2 := 26) (n2 := 825) (st := [.inr (.inr p66), .inl 4, .inr (.inr (M62 v0 0))]) (stN := [.inr (.inr p66), .inl 4, .inr (.inr (M62 v0 0))]) hC [] (mX3_init q70) lk_X2_17 g71 dX2_init_30 rfl rfl (Nat.le_of_ble_eq_true rfl) (Nat.le_of_ble_eq_true rfl) (Nat.le_of_ble_eq_true rfl) rfl (Nat.le_of_ble_eq_true rfl) rfl rfl rfl ?_
            obtain ⟨g74, h⟩ := gd_s h
            obtain ⟨g75, h⟩ := gd_s h
            obtain ⟨M76, e77, h⟩ := bd_s h
            refine aw_aast (pc' := 34) hC dX2_init_33 rfl g74 g75 e77 ?_
            refine aw_iinc (pc' := 37) (ls' := [some (.inr (.inr v0)), some (.inl 5)]) hC dX2_init_34 rfl rfl rfl rfl ?_
            refine aw_goto (tgt := 15) hC dX2_init_37 (by decide) ?_
            refine aw_iload_n (pc' := 16) (i := 1) hC dX2_init_15 rfl rfl rfl ?_
            refine aw_bipush (pc' := 18) hC dX2_init_16 rfl (by decide) ?_
            refine aw_icmp_ge (tgt := 40) (pc' := 21) hC dX2_init_18 (by decide) rfl (fun c78 => ?_) (fun c78 => ?_)
            · exact absurd c78 (by decide)
            · refine aw_aload_n (pc' := 22) (i := 0) hC dX2_init_21 rfl rfl rfl ?_
              obtain ⟨g79, h⟩ := gd_s h
              refine aw_getfield (pc' := 25) (v := (.inr (.inr (M76 v0 0)))) hC dX2_init_22 rfl fl_X2_11 g79 rfl ?_
              refine aw_iload_n (pc' := 26) (i := 1) hC dX2_init_25 rfl rfl rfl ?_
              obtain ⟨p80, e81, h⟩ := bd_s h
              obtain ⟨sh82, e83, h⟩ := bd_s h
              refine aw_nw (pc' := 29) (k2 := 27) (n2 := 830) hC dX2_init_26 rfl nw_X2_9 rfl rfl (Nat.le_of_ble_eq_true rfl) (Nat.le_of_ble_eq_true rfl) e81 e83 ?_
              refine aw_dup (pc' := 30) hC dX2_init_29 rfl rfl ?_
              obtain ⟨g85, h⟩ := gd_s h
              obtain ⟨⟨sh86, M87⟩, q84, h⟩ := pb_s h
              replace h := u2_s h
              refine aw_cIN (pc' := 33) (k2 := 31) (n2 := 986) (st := [.inr (.inr p80), .inl 5, .inr (.inr (M76 v0 0))]) (stN := [.inr (.inr p80), .inl 5, .inr (.inr (M76 v0 0))]) hC [] (mX3_init q84) lk_X2_17 g85 dX2_init_30 rfl rfl (Nat.le_of_ble_eq_true rfl) (Nat.le_of_ble_eq_true rfl) (Nat.le_of_ble_eq_true rfl) rfl (Nat.le_of_ble_eq_true rfl) rfl rfl rfl ?_
              obtain ⟨g88, h⟩ := gd_s h
              obtain ⟨g89, h⟩ := gd_s h
              obtain ⟨M90, e91, h⟩ := bd_s h
              refine aw_aast (pc' := 34) hC dX2_init_33 rfl g88 g89 e91 ?_
              refine aw_iinc (pc' := 37) (ls' := [some (.inr (.inr v0)), some (.inl 6)]) hC dX2_init_34 rfl rfl rfl rfl ?_
              refine aw_goto (tgt := 15) hC dX2_init_37 (by decide) ?_
              refine aw_iload_n (pc' := 16) (i := 1) hC dX2_init_15 rfl rfl rfl ?_
              refine aw_bipush (pc' := 18) hC dX2_init_16 rfl (by decide) ?_
              refine aw_icmp_ge (tgt := 40) (pc' := 21) hC dX2_init_18 (by decide) rfl (fun c92 => ?_) (fun c92 => ?_)
              · exact absurd c92 (by decide)
              · refine aw_aload_n (pc' := 22) (i := 0) hC dX2_init_21 rfl rfl rfl ?_
                obtain ⟨g93, h⟩ := gd_s h
                refine aw_getfield (pc' := 25) (v := (.inr (.inr (M90 v0 0)))) hC dX2_init_22 rfl fl_X2_11 g93 rfl ?_
                refine aw_iload_n (pc' := 26) (i := 1) hC dX2_init_25 rfl rfl rfl ?_
                obtain ⟨p94, e95, h⟩ := bd_s h
                obtain ⟨sh96, e97, h⟩ := bd_s h
                refine aw_nw (pc' := 29) (k2 := 32) (n2 := 991) hC dX2_init_26 rfl nw_X2_9 rfl rfl (Nat.le_of_ble_eq_true rfl) (Nat.le_of_ble_eq_true rfl) e95 e97 ?_
                refine aw_dup (pc' := 30) hC dX2_init_29 rfl rfl ?_
                obtain ⟨g99, h⟩ := gd_s h
                obtain ⟨⟨sh100, M101⟩, q98, h⟩ := pb_s h
                replace h := u2_s h
                refine aw_cIN (pc' := 33) (k2 := 36) (n2 := 1147) (st := [.inr (.inr p94), .inl 6, .inr (.inr (M90 v0 0))]) (stN := [.inr (.inr p94), .inl 6, .inr (.inr (M90 v0 0))]) hC [] (mX3_init q98) lk_X2_17 g99 dX2_init_30 rfl rfl (Nat.le_of_ble_eq_true rfl) (Nat.le_of_ble_eq_true rfl) (Nat.le_of_ble_eq_true rfl) rfl (Nat.le_of_ble_eq_true rfl) rfl rfl rfl ?_
                obtain ⟨g102, h⟩ := gd_s h
                obtain ⟨g103, h⟩ := gd_s h
                obtain ⟨M104, e105, h⟩ := bd_s h
                refine aw_aast (pc' := 34) hC dX2_init_33 rfl g102 g103 e105 ?_
                refine aw_iinc (pc' := 37) (ls' := [some (.inr (.inr v0)), some (.inl 7)]) hC dX2_init_34 rfl rfl rfl rfl ?_
                refine aw_goto (tgt := 15) hC dX2_init_37 (by decide) ?_
                refine aw_iload_n (pc' := 16) (i := 1) hC dX2_init_15 rfl rfl rfl ?_
                refine aw_bipush (pc' := 18) hC dX2_init_16 rfl (by decide) ?_
                refine aw_icmp_ge (tgt := 40) (pc' := 21) hC dX2_init_18 (by decide) rfl (fun c106 => ?_) (fun c106 => ?_)
                · exact absurd c106 (by decide)
                · refine aw_aload_n (pc' := 22) (i := 0) hC dX2_init_21 rfl rfl rfl ?_
                  obtain ⟨g107, h⟩ := gd_s h
                  refine aw_getfield (pc' := 25) (v := (.inr (.inr (M104 v0 0)))) hC dX2_init_22 rfl fl_X2_11 g107 rfl ?_
                  refine aw_iload_n (pc' := 26) (i := 1) hC dX2_init_25 rfl rfl rfl ?_
                  obtain ⟨p108, e109, h⟩ := bd_s h
                  obtain ⟨sh110, e111, h⟩ := bd_s h
                  refine aw_nw (pc' := 29) (k2 := 37) (n2 := 1152) hC dX2_init_26 rfl nw_X2_9 rfl rfl (Nat.le_of_ble_eq_true rfl) (Nat.le_of_ble_eq_true rfl) e109 e111 ?_
                  refine aw_dup (pc' := 30) hC dX2_init_29 rfl rfl ?_
                  obtain ⟨g113, h⟩ := gd_s h
                  obtain ⟨⟨sh114, M115⟩, q112, h⟩ := pb_s h
                  replace h := u2_s h
                  refine aw_cIN (pc' := 33) (k2 := 41) (n2 := 1308) (st := [.inr (.inr p108), .inl 7, .inr (.inr (M104 v0 0))]) (stN := [.inr (.inr p108), .inl 7, .inr (.inr (M104 v0 0))]) hC [] (mX3_init q112) lk_X2_17 g113 dX2_init_30 rfl rfl (Nat.le_of_ble_eq_true rfl) (Nat.le_of_ble_eq_true rfl) (Nat.le_of_ble_eq_true rfl) rfl (Nat.le_of_ble_eq_true rfl) rfl rfl rfl ?_
                  obtain ⟨g116, h⟩ := gd_s h
                  obtain ⟨g117, h⟩ := gd_s h
                  obtain ⟨M118, e119, h⟩ := bd_s h
                  refine aw_aast (pc' := 34) hC dX2_init_33 rfl g116 g117 e119 ?_
                  refine aw_iinc (pc' := 37) (ls' := [some (.inr (.inr v0)), some (.inl 8)]) hC dX2_init_34 rfl rfl rfl rfl ?_
                  refine aw_goto (tgt := 15) hC dX2_init_37 (by decide) ?_
                  refine aw_iload_n (pc' := 16) (i := 1) hC dX2_init_15 rfl rfl rfl ?_
                  refine aw_bipush (pc' := 18) hC dX2_init_16 rfl (by decide) ?_
                  refine aw_icmp_ge (tgt := 40) (pc' := 21) hC dX2_init_18 (by decide) rfl (fun c120 => ?_) (fun c120 => ?_)
                  · exact absurd c120 (by decide)
                  · refine aw_aload_n (pc' := 22) (i := 0) hC dX2_init_21 rfl rfl rfl ?_
                    obtain ⟨g121, h⟩ := gd_s h
                    refine aw_getfield (pc' := 25) (v := (.inr (.inr (M118 v0 0)))) hC dX2_init_22 rfl fl_X2_11 g121 rfl ?_
                    refine aw_iload_n (pc' := 26) (i := 1) hC dX2_init_25 rfl rfl rfl ?_
                    obtain ⟨p122, e123, h⟩ := bd_s h
                    obtain ⟨sh124, e125, h⟩ := bd_s h
                    refine aw_nw (pc' := 29) (k2 := 42) (n2 := 1313) hC dX2_init_26 rfl nw_X2_9 rfl rfl (Nat.le_of_ble_eq_true rfl) (Nat.le_of_ble_eq_true rfl) e123 e125 ?_
                    refine aw_dup (pc' := 30) hC dX2_init_29 rfl rfl ?_
                    obtain ⟨g127, h⟩ := gd_s h
                    obtain ⟨⟨sh128, M129⟩, q126, h⟩ := pb_s h
                    replace h := u2_s h
                    refine aw_cIN (pc' := 33) (k2 := 46) (n2 := 1469) (st := [.inr (.inr p122), .inl 8, .inr (.inr (M118 v0 0))]) (stN := [.inr (.inr p122), .inl 8, .inr (.inr (M118 v0 0))]) hC [] (mX3_init q126) lk_X2_17 g127 dX2_init_30 rfl rfl (Nat.le_of_ble_eq_true rfl) (Nat.le_of_ble_eq_true rfl) (Nat.le_of_ble_eq_true rfl) rfl (Nat.le_of_ble_eq_true rfl) rfl rfl rfl ?_
                    obtain ⟨g130, h⟩ := gd_s h
                    obtain ⟨g131, h⟩ := gd_s h
                    obtain ⟨M132, e133, h⟩ := bd_s h
                    refine aw_aast (pc' := 34) hC dX2_init_33 rfl g130 g131 e133 ?_
                    refine aw_iinc (pc' := 37) (ls' := [some (.inr (.inr v0)), some (.inl 9)]) hC dX2_init_34 rfl rfl rfl rfl ?_
                    refine aw_goto (tgt := 15) hC dX2_init_37 (by decide) ?_
                    refine aw_iload_n (pc' := 16) (i := 1) hC dX2_init_15 rfl rfl rfl ?_
                    refine aw_bipush (pc' := 18) hC dX2_init_16 rfl (by decide) ?_
                    refine aw_icmp_ge (tgt := 40) (pc' := 21) hC dX2_init_18 (by decide) rfl (fun c134 => ?_) (fun c134 => ?_)
                    · exact absurd c134 (by decide)
                    · refine aw_aload_n (pc' := 22) (i := 0) hC dX2_init_21 rfl rfl rfl ?_
                      obtain ⟨g135, h⟩ := gd_s h
                      refine aw_getfield (pc' := 25) (v := (.inr (.inr (M132 v0 0)))) hC dX2_init_22 rfl fl_X2_11 g135 rfl ?_
                      refine aw_iload_n (pc' := 26) (i := 1) hC dX2_init_25 rfl rfl rfl ?_
                      obtain ⟨p136, e137, h⟩ := bd_s h
                      obtain ⟨sh138, e139, h⟩ := bd_s h
                      refine aw_nw (pc' := 29) (k2 := 47) (n2 := 1474) hC dX2_init_26 rfl nw_X2_9 rfl rfl (Nat.le_of_ble_eq_true rfl) (Nat.le_of_ble_eq_true rfl) e137 e139 ?_
                      refine aw_dup (pc' := 30) hC dX2_init_29 rfl rfl ?_
                      obtain ⟨g141, h⟩ := gd_s h
                      obtain ⟨⟨sh142, M143⟩, q140, h⟩ := pb_s h
                      replace h := u2_s h
                      refine aw_cIN (pc' := 33) (k2 := 51) (n2 := 1630) (st := [.inr (.inr p136), .inl 9, .inr (.inr (M132 v0 0))]) (stN := [.inr (.inr p136), .inl 9, .inr (.inr (M132 v0 0))]) hC [] (mX3_init q140) lk_X2_17 g141 dX2_init_30 rfl rfl (Nat.le_of_ble_eq_true rfl) (Nat.le_of_ble_eq_true rfl) (Nat.le_of_ble_eq_true rfl) rfl (Nat.le_of_ble_eq_true rfl) rfl rfl rfl ?_
                      obtain ⟨g144, h⟩ := gd_s h
                      obtain ⟨g145, h⟩ := gd_s h
                      obtain ⟨M146, e147, h⟩ := bd_s h
                      refine aw_aast (pc' := 34) hC dX2_init_33 rfl g144 g145 e147 ?_
                      refine aw_iinc (pc' := 37) (ls' := [some (.inr (.inr v0)), some (.inl 10)]) hC dX2_init_34 rfl rfl rfl rfl ?_
                      refine aw_goto (tgt := 15) hC dX2_init_37 (by decide) ?_
                      refine aw_iload_n (pc' := 16) (i := 1) hC dX2_init_15 rfl rfl rfl ?_
                      refine aw_bipush (pc' := 18) hC dX2_init_16 rfl (by decide) ?_
                      refine aw_icmp_ge (tgt := 40) (pc' := 21) hC dX2_init_18 (by decide) rfl (fun c148 => ?_) (fun c148 => ?_)
                      · exact absurd c148 (by decide)
                      · refine aw_aload_n (pc' := 22) (i := 0) hC dX2_init_21 rfl rfl rfl ?_
                        obtain ⟨g149, h⟩ := gd_s h
                        refine aw_getfield (pc' := 25) (v := (.inr (.inr (M146 v0 0)))) hC dX2_init_22 rfl fl_X2_11 g149 rfl ?_
                        refine aw_iload_n (pc' := 26) (i := 1) hC dX2_init_25 rfl rfl rfl ?_
                        obtain ⟨p150, e151, h⟩ := bd_s h
                        obtain ⟨sh152, e153, h⟩ := bd_s h
                        refine aw_nw (pc' := 29) (k2 := 52) (n2 := 1635) hC dX2_init_26 rfl nw_X2_9 rfl rfl (Nat.le_of_ble_eq_true rfl) (Nat.le_of_ble_eq_true rfl) e151 e153 ?_
                        refine aw_dup (pc' := 30) hC dX2_init_29 rfl rfl ?_
                        obtain ⟨g155, h⟩ := gd_s h
                        obtain ⟨⟨sh156, M157⟩, q154, h⟩ := pb_s h
                        replace h := u2_s h
                        refine aw_cIN (pc' := 33) (k2 := 56) (n2 := 1791) (st := [.inr (.inr p150), .inl 10, .inr (.inr (M146 v0 0))]) (stN := [.inr (.inr p150), .inl 10, .inr (.inr (M146 v0 0))]) hC [] (mX3_init q154) lk_X2_17 g155 dX2_init_30 rfl rfl (Nat.le_of_ble_eq_true rfl) (Nat.le_of_ble_eq_true rfl) (Nat.le_of_ble_eq_true rfl) rfl (Nat.le_of_ble_eq_true rfl) rfl rfl rfl ?_
                        obtain ⟨g158, h⟩ := gd_s h
                        obtain ⟨g159, h⟩ := gd_s h
                        obtain ⟨M160, e161, h⟩ := bd_s h
                        refine aw_aast (pc' := 34) hC dX2_init_33 rfl g158 g159 e161 ?_
                        refine aw_iinc (pc' := 37) (ls' := [some (.inr (.inr v0)), some (.inl 11)]) hC dX2_init_34 rfl rfl rfl rfl ?_
                        refine aw_goto (tgt := 15) hC dX2_init_37 (by decide) ?_
                        refine aw_iload_n (pc' := 16) (i := 1) hC dX2_init_15 rfl rfl rfl ?_
                        refine aw_bipush (pc' := 18) hC dX2_init_16 rfl (by decide) ?_
                        refine aw_icmp_ge (tgt := 40) (pc' := 21) hC dX2_init_18 (by decide) rfl (fun c162 => ?_) (fun c162 => ?_)
                        · exact absurd c162 (by decide)
                        · refine aw_aload_n (pc' := 22) (i := 0) hC dX2_init_21 rfl rfl rfl ?_
                          obtain ⟨g163, h⟩ := gd_s h
                          refine aw_getfield (pc' := 25) (v := (.inr (.inr (M160 v0 0)))) hC dX2_init_22 rfl fl_X2_11 g163 rfl ?_
                          refine aw_iload_n (pc' := 26) (i := 1) hC dX2_init_25 rfl rfl rfl ?_
                          obtain ⟨p164, e165, h⟩ := bd_s h
                          obtain ⟨sh166, e167, h⟩ := bd_s h
                          refine aw_nw (pc' := 29) (k2 := 57) (n2 := 1796) hC dX2_init_26 rfl nw_X2_9 rfl rfl (Nat.le_of_ble_eq_true rfl) (Nat.le_of_ble_eq_true rfl) e165 e167 ?_
                          refine aw_dup (pc' := 30) hC dX2_init_29 rfl rfl ?_
                          obtain ⟨g169, h⟩ := gd_s h
                          obtain ⟨⟨sh170, M171⟩, q168, h⟩ := pb_s h
                          replace h := u2_s h
                          refine aw_cIN (pc' := 33) (k2 := 61) (n2 := 1952) (st := [.inr (.inr p164), .inl 11, .inr (.inr (M160 v0 0))]) (stN := [.inr (.inr p164), .inl 11, .inr (.inr (M160 v0 0))]) hC [] (mX3_init q168) lk_X2_17 g169 dX2_init_30 rfl rfl (Nat.le_of_ble_eq_true rfl) (Nat.le_of_ble_eq_true rfl) (Nat.le_of_ble_eq_true rfl) rfl (Nat.le_of_ble_eq_true rfl) rfl rfl rfl ?_
                          obtain ⟨g172, h⟩ := gd_s h
                          obtain ⟨g173, h⟩ := gd_s h
                          obtain ⟨M174, e175, h⟩ := bd_s h
                          refine aw_aast (pc' := 34) hC dX2_init_33 rfl g172 g173 e175 ?_
                          refine aw_iinc (pc' := 37) (ls' := [some (.inr (.inr v0)), some (.inl 12)]) hC dX2_init_34 rfl rfl rfl rfl ?_
                          refine aw_goto (tgt := 15) hC dX2_init_37 (by decide) ?_
                          refine aw_iload_n (pc' := 16) (i := 1) hC dX2_init_15 rfl rfl rfl ?_
                          refine aw_bipush (pc' := 18) hC dX2_init_16 rfl (by decide) ?_
                          refine aw_icmp_ge (tgt := 40) (pc' := 21) hC dX2_init_18 (by decide) rfl (fun c176 => ?_) (fun c176 => ?_)
                          · exact absurd c176 (by decide)
                          · refine aw_aload_n (pc' := 22) (i := 0) hC dX2_init_21 rfl rfl rfl ?_
                            obtain ⟨g177, h⟩ := gd_s h
                            refine aw_getfield (pc' := 25) (v := (.inr (.inr (M174 v0 0)))) hC dX2_init_22 rfl fl_X2_11 g177 rfl ?_
                            refine aw_iload_n (pc' := 26) (i := 1) hC dX2_init_25 rfl rfl rfl ?_
                            obtain ⟨p178, e179, h⟩ := bd_s h
                            obtain ⟨sh180, e181, h⟩ := bd_s h
                            refine aw_nw (pc' := 29) (k2 := 62) (n2 := 1957) hC dX2_init_26 rfl nw_X2_9 rfl rfl (Nat.le_of_ble_eq_true rfl) (Nat.le_of_ble_eq_true rfl) e179 e181 ?_
                            refine aw_dup (pc' := 30) hC dX2_init_29 rfl rfl ?_
                            obtain ⟨g183, h⟩ := gd_s h
                            obtain ⟨⟨sh184, M185⟩, q182, h⟩ := pb_s h
                            replace h := u2_s h
                            refine aw_cIN (pc' := 33) (k2 := 66) (n2 := 2113) (st := [.inr (.inr p178), .inl 12, .inr (.inr (M174 v0 0))]) (stN := [.inr (.inr p178), .inl 12, .inr (.inr (M174 v0 0))]) hC [] (mX3_init q182) lk_X2_17 g183 dX2_init_30 rfl rfl (Nat.le_of_ble_eq_true rfl) (Nat.le_of_ble_eq_true rfl) (Nat.le_of_ble_eq_true rfl) rfl (Nat.le_of_ble_eq_true rfl) rfl rfl rfl ?_
                            obtain ⟨g186, h⟩ := gd_s h
                            obtain ⟨g187, h⟩ := gd_s h
                            obtain ⟨M188, e189, h⟩ := bd_s h
                            refine aw_aast (pc' := 34) hC dX2_init_33 rfl g186 g187 e189 ?_
                            refine aw_iinc (pc' := 37) (ls' := [some (.inr (.inr v0)), some (.inl 13)]) hC dX2_init_34 rfl rfl rfl rfl ?_
                            refine aw_goto (tgt := 15) hC dX2_init_37 (by decide) ?_
                            refine aw_iload_n (pc' := 16) (i := 1) hC dX2_init_15 rfl rfl rfl ?_
                            refine aw_bipush (pc' := 18) hC dX2_init_16 rfl (by decide) ?_
                            refine aw_icmp_ge (tgt := 40) (pc' := 21) hC dX2_init_18 (by decide) rfl (fun c190 => ?_) (fun c190 => ?_)
                            · exact absurd c190 (by decide)
                            · refine aw_aload_n (pc' := 22) (i := 0) hC dX2_init_21 rfl rfl rfl ?_
                              obtain ⟨g191, h⟩ := gd_s h
                              refine aw_getfield (pc' := 25) (v := (.inr (.inr (M188 v0 0)))) hC dX2_init_22 rfl fl_X2_11 g191 rfl ?_
                              refine aw_iload_n (pc' := 26) (i := 1) hC dX2_init_25 rfl rfl rfl ?_
                              obtain ⟨p192, e193, h⟩ := bd_s h
                              obtain ⟨sh194, e195, h⟩ := bd_s h
                              refine aw_nw (pc' := 29) (k2 := 67) (n2 := 2118) hC dX2_init_26 rfl nw_X2_9 rfl rfl (Nat.le_of_ble_eq_true rfl) (Nat.le_of_ble_eq_true rfl) e193 e195 ?_
                              refine aw_dup (pc' := 30) hC dX2_init_29 rfl rfl ?_
                              obtain ⟨g197, h⟩ := gd_s h
                              obtain ⟨⟨sh198, M199⟩, q196, h⟩ := pb_s h
                              replace h := u2_s h
                              refine aw_cIN (pc' := 33) (k2 := 71) (n2 := 2274) (st := [.inr (.inr p192), .inl 13, .inr (.inr (M188 v0 0))]) (stN := [.inr (.inr p192), .inl 13, .inr (.inr (M188 v0 0))]) hC [] (mX3_init q196) lk_X2_17 g197 dX2_init_30 rfl rfl (Nat.le_of_ble_eq_true rfl) (Nat.le_of_ble_eq_true rfl) (Nat.le_of_ble_eq_true rfl) rfl (Nat.le_of_ble_eq_true rfl) rfl rfl rfl ?_
                              obtain ⟨g200, h⟩ := gd_s h
                              obtain ⟨g201, h⟩ := gd_s h
                              obtain ⟨M202, e203, h⟩ := bd_s h
                              refine aw_aast (pc' := 34) hC dX2_init_33 rfl g200 g201 e203 ?_
                              refine aw_iinc (pc' := 37) (ls' := [some (.inr (.inr v0)), some (.inl 14)]) hC dX2_init_34 rfl rfl rfl rfl ?_
                              refine aw_goto (tgt := 15) hC dX2_init_37 (by decide) ?_
                              refine aw_iload_n (pc' := 16) (i := 1) hC dX2_init_15 rfl rfl rfl ?_
                              refine aw_bipush (pc' := 18) hC dX2_init_16 rfl (by decide) ?_
                              refine aw_icmp_ge (tgt := 40) (pc' := 21) hC dX2_init_18 (by decide) rfl (fun c204 => ?_) (fun c204 => ?_)
                              · exact absurd c204 (by decide)
                              · refine aw_aload_n (pc' := 22) (i := 0) hC dX2_init_21 rfl rfl rfl ?_
                                obtain ⟨g205, h⟩ := gd_s h
                                refine aw_getfield (pc' := 25) (v := (.inr (.inr (M202 v0 0)))) hC dX2_init_22 rfl fl_X2_11 g205 rfl ?_
                                refine aw_iload_n (pc' := 26) (i := 1) hC dX2_init_25 rfl rfl rfl ?_
                                obtain ⟨p206, e207, h⟩ := bd_s h
                                obtain ⟨sh208, e209, h⟩ := bd_s h
                                refine aw_nw (pc' := 29) (k2 := 72) (n2 := 2279) hC dX2_init_26 rfl nw_X2_9 rfl rfl (Nat.le_of_ble_eq_true rfl) (Nat.le_of_ble_eq_true rfl) e207 e209 ?_
                                refine aw_dup (pc' := 30) hC dX2_init_29 rfl rfl ?_
                                obtain ⟨g211, h⟩ := gd_s h
                                obtain ⟨⟨sh212, M213⟩, q210, h⟩ := pb_s h
                                replace h := u2_s h
                                refine aw_cIN (pc' := 33) (k2 := 76) (n2 := 2435) (st := [.inr (.inr p206), .inl 14, .inr (.inr (M202 v0 0))]) (stN := [.inr (.inr p206), .inl 14, .inr (.inr (M202 v0 0))]) hC [] (mX3_init q210) lk_X2_17 g211 dX2_init_30 rfl rfl (Nat.le_of_ble_eq_true rfl) (Nat.le_of_ble_eq_true rfl) (Nat.le_of_ble_eq_true rfl) rfl (Nat.le_of_ble_eq_true rfl) rfl rfl rfl ?_
                                obtain ⟨g214, h⟩ := gd_s h
                                obtain ⟨g215, h⟩ := gd_s h
                                obtain ⟨M216, e217, h⟩ := bd_s h
                                refine aw_aast (pc' := 34) hC dX2_init_33 rfl g214 g215 e217 ?_
                                refine aw_iinc (pc' := 37) (ls' := [some (.inr (.inr v0)), some (.inl 15)]) hC dX2_init_34 rfl rfl rfl rfl ?_
                                refine aw_goto (tgt := 15) hC dX2_init_37 (by decide) ?_
                                refine aw_iload_n (pc' := 16) (i := 1) hC dX2_init_15 rfl rfl rfl ?_
                                refine aw_bipush (pc' := 18) hC dX2_init_16 rfl (by decide) ?_
                                refine aw_icmp_ge (tgt := 40) (pc' := 21) hC dX2_init_18 (by decide) rfl (fun c218 => ?_) (fun c218 => ?_)
                                · exact absurd c218 (by decide)
                                · refine aw_aload_n (pc' := 22) (i := 0) hC dX2_init_21 rfl rfl rfl ?_
                                  obtain ⟨g219, h⟩ := gd_s h
                                  refine aw_getfield (pc' := 25) (v := (.inr (.inr (M216 v0 0)))) hC dX2_init_22 rfl fl_X2_11 g219 rfl ?_
                                  refine aw_iload_n (pc' := 26) (i := 1) hC dX2_init_25 rfl rfl rfl ?_
                                  obtain ⟨p220, e221, h⟩ := bd_s h
                                  obtain ⟨sh222, e223, h⟩ := bd_s h
                                  refine aw_nw (pc' := 29) (k2 := 77) (n2 := 2440) hC dX2_init_26 rfl nw_X2_9 rfl rfl (Nat.le_of_ble_eq_true rfl) (Nat.le_of_ble_eq_true rfl) e221 e223 ?_
                                  refine aw_dup (pc' := 30) hC dX2_init_29 rfl rfl ?_
                                  obtain ⟨g225, h⟩ := gd_s h
                                  obtain ⟨⟨sh226, M227⟩, q224, h⟩ := pb_s h
                                  replace h := u2_s h
                                  refine aw_cIN (pc' := 33) (k2 := 81) (n2 := 2596) (st := [.inr (.inr p220), .inl 15, .inr (.inr (M216 v0 0))]) (stN := [.inr (.inr p220), .inl 15, .inr (.inr (M216 v0 0))]) hC [] (mX3_init q224) lk_X2_17 g225 dX2_init_30 rfl rfl (Nat.le_of_ble_eq_true rfl) (Nat.le_of_ble_eq_true rfl) (Nat.le_of_ble_eq_true rfl) rfl (Nat.le_of_ble_eq_true rfl) rfl rfl rfl ?_
                                  obtain ⟨g228, h⟩ := gd_s h
                                  obtain ⟨g229, h⟩ := gd_s h
                                  obtain ⟨M230, e231, h⟩ := bd_s h
                                  refine aw_aast (pc' := 34) hC dX2_init_33 rfl g228 g229 e231 ?_
                                  refine aw_iinc (pc' := 37) (ls' := [some (.inr (.inr v0)), some (.inl 16)]) hC dX2_init_34 rfl rfl rfl rfl ?_
                                  refine aw_goto (tgt := 15) hC dX2_init_37 (by decide) ?_
                                  refine aw_iload_n (pc' := 16) (i := 1) hC dX2_init_15 rfl rfl rfl ?_
                                  refine aw_bipush (pc' := 18) hC dX2_init_16 rfl (by decide) ?_
                                  refine aw_icmp_ge (tgt := 40) (pc' := 21) hC dX2_init_18 (by decide) rfl (fun c232 => ?_) (fun c232 => ?_)
                                  · exact absurd c232 (by decide)
                                  · refine aw_aload_n (pc' := 22) (i := 0) hC dX2_init_21 rfl rfl rfl ?_
                                    obtain ⟨g233, h⟩ := gd_s h
                                    refine aw_getfield (pc' := 25) (v := (.inr (.inr (M230 v0 0)))) hC dX2_init_22 rfl fl_X2_11 g233 rfl ?_
                                    refine aw_iload_n (pc' := 26) (i := 1) hC dX2_init_25 rfl rfl rfl ?_
                                    obtain ⟨p234, e235, h⟩ := bd_s h
                                    obtain ⟨sh236, e237, h⟩ := bd_s h
                                    refine aw_nw (pc' := 29) (k2 := 82) (n2 := 2601) hC dX2_init_26 rfl nw_X2_9 rfl rfl (Nat.le_of_ble_eq_true rfl) (Nat.le_of_ble_eq_true rfl) e235 e237 ?_
                                    refine aw_dup (pc' := 30) hC dX2_init_29 rfl rfl ?_
                                    obtain ⟨g239, h⟩ := gd_s h
                                    obtain ⟨⟨sh240, M241⟩, q238, h⟩ := pb_s h
                                    replace h := u2_s h
                                    refine aw_cIN (pc' := 33) (k2 := 86) (n2 := 2757) (st := [.inr (.inr p234), .inl 16, .inr (.inr (M230 v0 0))]) (stN := [.inr (.inr p234), .inl 16, .inr (.inr (M230 v0 0))]) hC [] (mX3_init q238) lk_X2_17 g239 dX2_init_30 rfl rfl (Nat.le_of_ble_eq_true rfl) (Nat.le_of_ble_eq_true rfl) (Nat.le_of_ble_eq_true rfl) rfl (Nat.le_of_ble_eq_true rfl) rfl rfl rfl ?_
                                    obtain ⟨g242, h⟩ := gd_s h
                                    obtain ⟨g243, h⟩ := gd_s h
                                    obtain ⟨M244, e245, h⟩ := bd_s h
                                    refine aw_aast (pc' := 34) hC dX2_init_33 rfl g242 g243 e245 ?_
                                    refine aw_iinc (pc' := 37) (ls' := [some (.inr (.inr v0)), some (.inl 17)]) hC dX2_init_34 rfl rfl rfl rfl ?_
                                    refine aw_goto (tgt := 15) hC dX2_init_37 (by decide) ?_
                                    refine aw_iload_n (pc' := 16) (i := 1) hC dX2_init_15 rfl rfl rfl ?_
                                    refine aw_bipush (pc' := 18) hC dX2_init_16 rfl (by decide) ?_
                                    refine aw_icmp_ge (tgt := 40) (pc' := 21) hC dX2_init_18 (by decide) rfl (fun c246 => ?_) (fun c246 => ?_)
                                    · exact absurd c246 (by decide)
                                    · refine aw_aload_n (pc' := 22) (i := 0) hC dX2_init_21 rfl rfl rfl ?_
                                      obtain ⟨g247, h⟩ := gd_s h
                                      refine aw_getfield (pc' := 25) (v := (.inr (.inr (M244 v0 0)))) hC dX2_init_22 rfl fl_X2_11 g247 rfl ?_
                                      refine aw_iload_n (pc' := 26) (i := 1) hC dX2_init_25 rfl rfl rfl ?_
                                      obtain ⟨p248, e249, h⟩ := bd_s h
                                      obtain ⟨sh250, e251, h⟩ := bd_s h
                                      refine aw_nw (pc' := 29) (k2 := 87) (n2 := 2762) hC dX2_init_26 rfl nw_X2_9 rfl rfl (Nat.le_of_ble_eq_true rfl) (Nat.le_of_ble_eq_true rfl) e249 e251 ?_
                                      refine aw_dup (pc' := 30) hC dX2_init_29 rfl rfl ?_
                                      obtain ⟨g253, h⟩ := gd_s h
                                      obtain ⟨⟨sh254, M255⟩, q252, h⟩ := pb_s h
                                      replace h := u2_s h
                                      refine aw_cIN (pc' := 33) (k2 := 91) (n2 := 2918) (st := [.inr (.inr p248), .inl 17, .inr (.inr (M244 v0 0))]) (stN := [.inr (.inr p248), .inl 17, .inr (.inr (M244 v0 0))]) hC [] (mX3_init q252) lk_X2_17 g253 dX2_init_30 rfl rfl (Nat.le_of_ble_eq_true rfl) (Nat.le_of_ble_eq_true rfl) (Nat.le_of_ble_eq_true rfl) rfl (Nat.le_of_ble_eq_true rfl) rfl rfl rfl ?_
                                      obtain ⟨g256, h⟩ := gd_s h
                                      obtain ⟨g257, h⟩ := gd_s h
                                      obtain ⟨M258, e259, h⟩ := bd_s h
                                      refine aw_aast (pc' := 34) hC dX2_init_33 rfl g256 g257 e259 ?_
                                      refine aw_iinc (pc' := 37) (ls' := [some (.inr (.inr v0)), some (.inl 18)]) hC dX2_init_34 rfl rfl rfl rfl ?_
                                      refine aw_goto (tgt := 15) hC dX2_init_37 (by decide) ?_
                                      refine aw_iload_n (pc' := 16) (i := 1) hC dX2_init_15 rfl rfl rfl ?_
                                      refine aw_bipush (pc' := 18) hC dX2_init_16 rfl (by decide) ?_
                                      refine aw_icmp_ge (tgt := 40) (pc' := 21) hC dX2_init_18 (by decide) rfl (fun c260 => ?_) (fun c260 => ?_)
                                      · exact absurd c260 (by decide)
                                      · refine aw_aload_n (pc' := 22) (i := 0) hC dX2_init_21 rfl rfl rfl ?_
                                        obtain ⟨g261, h⟩ := gd_s h
                                        refine aw_getfield (pc' := 25) (v := (.inr (.inr (M258 v0 0)))) hC dX2_init_22 rfl fl_X2_11 g261 rfl ?_
                                        refine aw_iload_n (pc' := 26) (i := 1) hC dX2_init_25 rfl rfl rfl ?_
                                        obtain ⟨p262, e263, h⟩ := bd_s h
                                        obtain ⟨sh264, e265, h⟩ := bd_s h
                                        refine aw_nw (pc' := 29) (k2 := 92) (n2 := 2923) hC dX2_init_26 rfl nw_X2_9 rfl rfl (Nat.le_of_ble_eq_true rfl) (Nat.le_of_ble_eq_true rfl) e263 e265 ?_
                                        refine aw_dup (pc' := 30) hC dX2_init_29 rfl rfl ?_
                                        obtain ⟨g267, h⟩ := gd_s h
                                        obtain ⟨⟨sh268, M269⟩, q266, h⟩ := pb_s h
                                        replace h := u2_s h
                                        refine aw_cIN (pc' := 33) (k2 := 96) (n2 := 3079) (st := [.inr (.inr p262), .inl 18, .inr (.inr (M258 v0 0))]) (stN := [.inr (.inr p262), .inl 18, .inr (.inr (M258 v0 0))]) hC [] (mX3_init q266) lk_X2_17 g267 dX2_init_30 rfl rfl (Nat.le_of_ble_eq_true rfl) (Nat.le_of_ble_eq_true rfl) (Nat.le_of_ble_eq_true rfl) rfl (Nat.le_of_ble_eq_true rfl) rfl rfl rfl ?_
                                        obtain ⟨g270, h⟩ := gd_s h
                                        obtain ⟨g271, h⟩ := gd_s h
                                        obtain ⟨M272, e273, h⟩ := bd_s h
                                        refine aw_aast (pc' := 34) hC dX2_init_33 rfl g270 g271 e273 ?_
                                        refine aw_iinc (pc' := 37) (ls' := [some (.inr (.inr v0)), some (.inl 19)]) hC dX2_init_34 rfl rfl rfl rfl ?_
                                        refine aw_goto (tgt := 15) hC dX2_init_37 (by decide) ?_
                                        refine aw_iload_n (pc' := 16) (i := 1) hC dX2_init_15 rfl rfl rfl ?_
                                        refine aw_bipush (pc' := 18) hC dX2_init_16 rfl (by decide) ?_
                                        refine aw_icmp_ge (tgt := 40) (pc' := 21) hC dX2_init_18 (by decide) rfl (fun c274 => ?_) (fun c274 => ?_)
                                        · exact absurd c274 (by decide)
                                        · refine aw_aload_n (pc' := 22) (i := 0) hC dX2_init_21 rfl rfl rfl ?_
                                          obtain ⟨g275, h⟩ := gd_s h
                                          refine aw_getfield (pc' := 25) (v := (.inr (.inr (M272 v0 0)))) hC dX2_init_22 rfl fl_X2_11 g275 rfl ?_
                                          refine aw_iload_n (pc' := 26) (i := 1) hC dX2_init_25 rfl rfl rfl ?_
                                          obtain ⟨p276, e277, h⟩ := bd_s h
                                          obtain ⟨sh278, e279, h⟩ := bd_s h
                                          refine aw_nw (pc' := 29) (k2 := 97) (n2 := 3084) hC dX2_init_26 rfl nw_X2_9 rfl rfl (Nat.le_of_ble_eq_true rfl) (Nat.le_of_ble_eq_true rfl) e277 e279 ?_
                                          refine aw_dup (pc' := 30) hC dX2_init_29 rfl rfl ?_
                                          obtain ⟨g281, h⟩ := gd_s h
                                          obtain ⟨⟨sh282, M283⟩, q280, h⟩ := pb_s h
                                          replace h := u2_s h
                                          refine aw_cIN (pc' := 33) (k2 := 101) (n2 := 3240) (st := [.inr (.inr p276), .inl 19, .inr (.inr (M272 v0 0))]) (stN := [.inr (.inr p276), .inl 19, .inr (.inr (M272 v0 0))]) hC [] (mX3_init q280) lk_X2_17 g281 dX2_init_30 rfl rfl (Nat.le_of_ble_eq_true rfl) (Nat.le_of_ble_eq_true rfl) (Nat.le_of_ble_eq_true rfl) rfl (Nat.le_of_ble_eq_true rfl) rfl rfl rfl ?_
                                          obtain ⟨g284, h⟩ := gd_s h
                                          obtain ⟨g285, h⟩ := gd_s h
                                          obtain ⟨M286, e287, h⟩ := bd_s h
                                          refine aw_aast (pc' := 34) hC dX2_init_33 rfl g284 g285 e287 ?_
                                          refine aw_iinc (pc' := 37) (ls' := [some (.inr (.inr v0)), some (.inl 20)]) hC dX2_init_34 rfl rfl rfl rfl ?_
                                          refine aw_goto (tgt := 15) hC dX2_init_37 (by decide) ?_
                                          refine aw_iload_n (pc' := 16) (i := 1) hC dX2_init_15 rfl rfl rfl ?_
                                          refine aw_bipush (pc' := 18) hC dX2_init_16 rfl (by decide) ?_
                                          refine aw_icmp_ge (tgt := 40) (pc' := 21) hC dX2_init_18 (by decide) rfl (fun c288 => ?_) (fun c288 => ?_)
                                          · cases h
                                            exact aw_vret hC dX2_init_40 (Nat.le_of_ble_eq_true rfl) (Nat.le_of_ble_eq_true rfl)
                                          · exact absurd c288 (by decide)
-- CoinCircle$Ways.<init>()V
def fX7_init (sh : AwS) (M : AwM) (v0 : Int) : Option (AwS × AwM) :=
  gd_ ((0 : Int) < v0) (bd_ ((sh.length : Nat) : Int) fun (p2 : Int) => (bd_ (sh ++ [(1, 10240)]) fun (sh4 : AwS) => (gd_ (kd_ sh4 v0 = (0, 7)) (bd_ (up_ M v0 0 p2) fun (M7 : AwM) => (bd_ ((sh4.length : Nat) : Int) fun (p9 : Int) => (bd_ (sh4 ++ [(1, 10240)]) fun (sh11 : AwS) => (gd_ (kd_ sh11 v0 = (0, 7)) (bd_ (up_ M7 v0 1 p9) fun (M14 : AwM) => (bd_ ((sh11.length : Nat) : Int) fun (p16 : Int) => (bd_ (sh11 ++ [(1, 1000)]) fun (sh18 : AwS) => (gd_ (kd_ sh18 v0 = (0, 7)) (bd_ (up_ M14 v0 3 p16) fun (M21 : AwM) => (bd_ ((sh18.length : Nat) : Int) fun (p23 : Int) => (bd_ (sh18 ++ [(1, 10)]) fun (sh25 : AwS) => (gd_ (kd_ sh25 v0 = (0, 7)) (bd_ (up_ M21 v0 4 p23) fun (M28 : AwM) => (bd_ ((sh25.length : Nat) : Int) fun (p30 : Int) => (bd_ (sh25 ++ [(1, 20)]) fun (sh32 : AwS) => (gd_ (kd_ sh32 v0 = (0, 7)) (bd_ (up_ M28 v0 6 p30) fun (M35 : AwM) => (bd_ (up_ M35 v0 7 (-1)) fun (M37 : AwM) => (some (sh32, M37)))))))))))))))))))))))
set_option maxRecDepth 100000 in
set_option maxHeartbeats 4000000 in
theorem mX7_init {sh : AwS} {M : AwM} {v0 : Int} {sh' : AwS} {M' : AwM} (h : fX7_init sh M v0 = some (sh', M')) : AMet yX7_init cX7_init 1 none 2 5 21510 [.inr (.inr v0)] sh M none sh' M' := by
  refine amet_of (by decide +kernel) (Nat.le_of_ble_eq_true rfl) (fun Γ hC => ?_)
  replace hC : AOK Γ RX7 cX7_init 1 2 5 21510 "<init>" none := hC
  unfold fX7_init at h
  refine aw_sub hC [some (.inr (.inr v0))] ⟨rfl, trivial⟩ (Nat.le_of_ble_eq_true rfl) ?_
  refine aw_aload_n (pc' := 1) (i := 0) hC dX7_init_0 rfl rfl rfl ?_
  obtain ⟨g1, h⟩ := gd_s h
  refine aw_obj (pc' := 4) hC lo_X7_3 g1 dX7_init_1 rfl (Nat.le_of_ble_eq_true rfl) (Nat.le_of_ble_eq_true rfl) ?_
  refine aw_aload_n (pc' := 5) (i := 0) hC dX7_init_4 rfl rfl rfl ?_
  refine aw_sipush (pc' := 8) hC dX7_init_5 rfl (by decide) ?_
  obtain ⟨p2, e3, h⟩ := bd_s h
  obtain ⟨sh4, e5, h⟩ := bd_s h
  refine aw_na_int (pc' := 10) (k2 := 1) (n2 := 10240) hC dX7_init_8 rfl la_int rfl (Nat.le_of_ble_eq_true rfl) rfl rfl (Nat.le_of_ble_eq_true rfl) (Nat.le_of_ble_eq_true rfl) e3 e5 ?_
  obtain ⟨g6, h⟩ := gd_s h
  obtain ⟨M7, e8, h⟩ := bd_s h
  refine aw_pff (pc' := 13) hC dX7_init_10 rfl ff_X7_11 g6 rfl trivial e8 ?_
  refine aw_aload_n (pc' := 14) (i := 0) hC dX7_init_13 rfl rfl rfl ?_
  refine aw_sipush (pc' := 17) hC dX7_init_14 rfl (by decide) ?_
  obtain ⟨p9, e10, h⟩ := bd_s h
  obtain ⟨sh11, e12, h⟩ := bd_s h
  refine aw_na_int (pc' := 19) (k2 := 2) (n2 := 20480) hC dX7_init_17 rfl la_int rfl (Nat.le_of_ble_eq_true rfl) rfl rfl (Nat.le_of_ble_eq_true rfl) (Nat.le_of_ble_eq_true rfl) e10 e12 ?_
  obtain ⟨g13, h⟩ := gd_s h
  obtain ⟨M14, e15, h⟩ := bd_s h
  refine aw_pff (pc' := 22) hC dX7_init_19 rfl ff_X7_15 g13 rfl trivial e15 ?_
  refine aw_aload_n (pc' := 23) (i := 0) hC dX7_init_22 rfl rfl rfl ?_
  refine aw_sipush (pc' := 26) hC dX7_init_23 rfl (by decide) ?_
  obtain ⟨p16, e17, h⟩ := bd_s h
  obtain ⟨sh18, e19, h⟩ := bd_s h
  refine aw_na_int (pc' := 28) (k2 := 3) (n2 := 21480) hC dX7_init_26 rfl la_int rfl (Nat.le_of_ble_eq_true rfl) rfl rfl (Nat.le_of_ble_eq_true rfl) (Nat.le_of_ble_eq_true rfl) e17 e19 ?_
  obtain ⟨g20, h⟩ := gd_s h
  obtain ⟨M21, e22, h⟩ := bd_s h
  refine aw_pff (pc' := 31) hC dX7_init_28 rfl ff_X7_18 g20 rfl trivial e22 ?_
  refine aw_aload_n (pc' := 32) (i := 0) hC dX7_init_31 rfl rfl rfl ?_
  refine aw_bipush (pc' := 34) hC dX7_init_32 rfl (by decide) ?_
  obtain ⟨p23, e24, h⟩ := bd_s h
  obtain ⟨sh25, e26, h⟩ := bd_s h
  refine aw_na_int (pc' := 36) (k2 := 4) (n2 := 21490) hC dX7_init_34 rfl la_int rfl (Nat.le_of_ble_eq_true rfl) rfl rfl (Nat.le_of_ble_eq_true rfl) (Nat.le_of_ble_eq_true rfl) e24 e26 ?_
  obtain ⟨g27, h⟩ := gd_s h
  obtain ⟨M28, e29, h⟩ := bd_s h
  refine aw_pff (pc' := 39) hC dX7_init_36 rfl ff_X7_21 g27 rfl trivial e29 ?_
  refine aw_aload_n (pc' := 40) (i := 0) hC dX7_init_39 rfl rfl rfl ?_
  refine aw_bipush (pc' := 42) hC dX7_init_40 rfl (by decide) ?_
  obtain ⟨p30, e31, h⟩ := bd_s h
  obtain ⟨sh32, e33, h⟩ := bd_s h
  refine aw_na_int (pc' := 44) (k2 := 5) (n2 := 21510) hC dX7_init_42 rfl la_int rfl (Nat.le_of_ble_eq_true rfl) rfl rfl (Nat.le_of_ble_eq_true rfl) (Nat.le_of_ble_eq_true rfl) e31 e33 ?_
  obtain ⟨g34, h⟩ := gd_s h
  obtain ⟨M35, e36, h⟩ := bd_s h
  refine aw_pff (pc' := 47) hC dX7_init_44 rfl ff_X7_24 g34 rfl trivial e36 ?_
  refine aw_aload_n (pc' := 48) (i := 0) hC dX7_init_47 rfl rfl rfl ?_
  refine aw_iconst (pc' := 49) hC dX7_init_48 rfl (by decide) ?_
  obtain ⟨M37, e38, h⟩ := bd_s h
  refine aw_pf (pc' := 52) hC dX7_init_49 rfl fp_X7_27 g34 rfl trivial e38 ?_
  cases h
  exact aw_vret hC dX7_init_52 (Nat.le_of_ble_eq_true rfl) (Nat.le_of_ble_eq_true rfl)
-- CoinCircle$Circle.<init>(LCoinCircle$Society;)V
def fX0_init (sh : AwS) (M : AwM) (v0 : Int) (v1 : Int) : Option (AwS × AwM) :=
  gd_ ((0 : Int) < v0) (bd_ ((sh.length : Nat) : Int) fun (p2 : Int) => (bd_ (sh ++ [(0, 3)]) fun (sh4 : AwS) => (gd_ ((0 : Int) < p2) (pb (fX3_init sh4 M p2) <| u2 fun (sh8 : AwS) (M9 : AwM) => (gd_ (kd_ sh8 v0 = (0, 0)) (bd_ (up_ M9 v0 0 p2) fun (M11 : AwM) => (bd_ ((sh8.length : Nat) : Int) fun (p13 : Int) => (bd_ (sh8 ++ [(1, 6)]) fun (sh15 : AwS) => (gd_ (kd_ sh15 v0 = (0, 0)) (bd_ (up_ M11 v0 2 p13) fun (M18 : AwM) => (bd_ (up_ M18 v0 1 v1) fun (M20 : AwM) => (some (sh15, M20)))))))))))))
set_option maxRecDepth 100000 in
set_option maxHeartbeats 4000000 in
theorem mX0_init {sh : AwS} {M : AwM} {v0 : Int} {v1 : Int} {sh' : AwS} {M' : AwM} (h : fX0_init sh M v0 v1 = some (sh', M')) : AMet yX0_init cX0_init 2 none 3 6 167 [.inr (.inr v0), .inr (.inr v1)] sh M none sh' M' := by
  refine amet_of (by decide +kernel) (Nat.le_of_ble_eq_true rfl) (fun Γ hC => ?_)
  replace hC : AOK Γ RX0 cX0_init 2 3 6 167 "<init>" none := hC
  unfold fX0_init at h
  refine aw_sub hC [some (.inr (.inr v0)), some (.inr (.inr v1))] ⟨rfl, ⟨rfl, trivial⟩⟩ (Nat.le_of_ble_eq_true rfl) ?_
  refine aw_aload_n (pc' := 1) (i := 0) hC dX0_init_0 rfl rfl rfl ?_
  obtain ⟨g1, h⟩ := gd_s h
  refine aw_obj (pc' := 4) hC lo_X0_3 g1 dX0_init_1 rfl (Nat.le_of_ble_eq_true rfl) (Nat.le_of_ble_eq_true rfl) ?_
  refine aw_aload_n (pc' := 5) (i := 0) hC dX0_init_4 rfl rfl rfl ?_
  obtain ⟨p2, e3, h⟩ := bd_s h
  obtain ⟨sh4, e5, h⟩ := bd_s h
  refine aw_nw (pc' := 8) (k2 := 1) (n2 := 5) hC dX0_init_5 rfl nw_X0_9 rfl rfl (Nat.le_of_ble_eq_true rfl) (Nat.le_of_ble_eq_true rfl) e3 e5 ?_
  refine aw_dup (pc' := 9) hC dX0_init_8 rfl rfl ?_
  obtain ⟨g7, h⟩ := gd_s h
  obtain ⟨⟨sh8, M9⟩, q6, h⟩ := pb_s h
  replace h := u2_s h
  refine aw_cIN (pc' := 12) (k2 := 5) (n2 := 161) (st := [.inr (.inr p2), .inr (.inr v0)]) (stN := [.inr (.inr p2), .inr (.inr v0)]) hC [] (mX3_init q6) lk_X0_11 g7 dX0_init_9 rfl rfl (Nat.le_of_ble_eq_true rfl) (Nat.le_of_ble_eq_true rfl) (Nat.le_of_ble_eq_true rfl) rfl (Nat.le_of_ble_eq_true rfl) rfl rfl rfl ?_
  obtain ⟨g10, h⟩ := gd_s h
  obtain ⟨M11, e12, h⟩ := bd_s h
  refine aw_pff (pc' := 15) hC dX0_init_12 rfl ff_X0_12 g10 rfl trivial e12 ?_
  refine aw_aload_n (pc' := 16) (i := 0) hC dX0_init_15 rfl rfl rfl ?_
  refine aw_bipush (pc' := 18) hC dX0_init_16 rfl (by decide) ?_
  obtain ⟨p13, e14, h⟩ := bd_s h
  obtain ⟨sh15, e16, h⟩ := bd_s h
  refine aw_na_int (pc' := 20) (k2 := 6) (n2 := 167) hC dX0_init_18 rfl la_int rfl (Nat.le_of_ble_eq_true rfl) rfl rfl (Nat.le_of_ble_eq_true rfl) (Nat.le_of_ble_eq_true rfl) e14 e16 ?_
  obtain ⟨g17, h⟩ := gd_s h
  obtain ⟨M18, e19, h⟩ := bd_s h
  refine aw_pff (pc' := 23) hC dX0_init_20 rfl ff_X0_18 g17 rfl trivial e19 ?_
  refine aw_aload_n (pc' := 24) (i := 0) hC dX0_init_23 rfl rfl rfl ?_
  refine aw_aload_n (pc' := 25) (i := 1) hC dX0_init_24 rfl rfl rfl ?_
  obtain ⟨M20, e21, h⟩ := bd_s h
  refine aw_pf (pc' := 28) hC dX0_init_25 rfl fp_X0_22 g17 rfl trivial e21 ?_
  cases h
  exact aw_vret hC dX0_init_28 (Nat.le_of_ble_eq_true rfl) (Nat.le_of_ble_eq_true rfl)
-- CoinCircle.<init>()V
def fX8_init (sh : AwS) (M : AwM) (v0 : Int) : Option (AwS × AwM) :=
  gd_ ((0 : Int) < v0) (bd_ ((sh.length : Nat) : Int) fun (p2 : Int) => (bd_ (sh ++ [(3, 1600)]) fun (sh4 : AwS) => (gd_ (kd_ sh4 v0 = (0, 8)) (bd_ (up_ M v0 0 p2) fun (M7 : AwM) => (bd_ ((sh4.length : Nat) : Int) fun (p9 : Int) => (bd_ (sh4 ++ [(0, 6)]) fun (sh11 : AwS) => (gd_ ((0 : Int) < p9) (pb (fX6_init sh11 M7 p9) <| u2 fun (sh15 : AwS) (M16 : AwM) => (gd_ (kd_ sh15 v0 = (0, 8)) (bd_ (up_ M16 v0 2 p9) fun (M18 : AwM) => (bd_ ((sh15.length : Nat) : Int) fun (p20 : Int) => (bd_ (sh15 ++ [(0, 2)]) fun (sh22 : AwS) => (gd_ ((0 : Int) < p20) (pb (fX2_init sh22 M18 p20) <| u2 fun (sh26 : AwS) (M27 : AwM) => (gd_ (kd_ sh26 v0 = (0, 8)) (bd_ (up_ M27 v0 6 p20) fun (M29 : AwM) => (bd_ ((sh26.length : Nat) : Int) fun (p31 : Int) => (bd_ (sh26 ++ [(0, 7)]) fun (sh33 : AwS) => (gd_ ((0 : Int) < p31) (pb (fX7_init sh33 M29 p31) <| u2 fun (sh37 : AwS) (M38 : AwM) => (gd_ (kd_ sh37 v0 = (0, 8)) (bd_ (up_ M38 v0 7 p31) fun (M40 : AwM) => (bd_ ((sh37.length : Nat) : Int) fun (p42 : Int) => (bd_ (sh37 ++ [(1, 6)]) fun (sh44 : AwS) => (gd_ (kd_ sh44 v0 = (0, 8)) (bd_ (up_ M40 v0 8 p42) fun (M47 : AwM) => (bd_ ((sh44.length : Nat) : Int) fun (p49 : Int) => (bd_ (sh44 ++ [(1, 20)]) fun (sh51 : AwS) => (gd_ (kd_ sh51 v0 = (0, 8)) (bd_ (up_ M47 v0 9 p49) fun (M54 : AwM) => (bd_ ((sh51.length : Nat) : Int) fun (p56 : Int) => (bd_ (sh51 ++ [(3, 135)]) fun (sh58 : AwS) => (gd_ (kd_ sh58 v0 = (0, 8)) (bd_ (up_ M54 v0 11 p56) fun (M61 : AwM) => (bd_ (up_ M61 v0 13 1) fun (M63 : AwM) => (bd_ ((sh58.length : Nat) : Int) fun (p65 : Int) => (bd_ (sh58 ++ [(0, 5)]) fun (sh67 : AwS) => (gd_ ((0 : Int) < p65) (pb (fX5_init sh67 M63 p65) <| u2 fun (sh71 : AwS) (M72 : AwM) => (gd_ (kd_ sh71 v0 = (0, 8)) (bd_ (up_ M72 v0 3 p65) fun (M74 : AwM) => (bd_ ((sh71.length : Nat) : Int) fun (p76 : Int) => (bd_ (sh71 ++ [(0, 0)]) fun (sh78 : AwS) => (gd_ ((0 : Int) < p76) (pb (fX0_init sh78 M74 p76 p65) <| u2 fun (sh82 : AwS) (M83 : AwM) => (gd_ (kd_ sh82 v0 = (0, 8)) (bd_ (up_ M83 v0 4 p76) fun (M85 : AwM) => (bd_ ((sh82.length : Nat) : Int) fun (p87 : Int) => (bd_ (sh82 ++ [(0, 0)]) fun (sh89 : AwS) => (gd_ ((0 : Int) < p87) (pb (fX0_init sh89 M85 p87 p65) <| u2 fun (sh93 : AwS) (M94 : AwM) => (gd_ (kd_ sh93 v0 = (0, 8)) (bd_ (up_ M94 v0 5 p87) fun (M96 : AwM) => (some (sh93, M96)))))))))))))))))))))))))))))))))))))))))))))))))))))))
set_option maxRecDepth 100000 in
set_option maxHeartbeats 4000000 in
theorem mX8_init {sh : AwS} {M : AwM} {v0 : Int} {sh' : AwS} {M' : AwM} (h : fX8_init sh M v0 = some (sh', M')) : AMet yX8_init cX8_init 2 none 8 165 40235 [.inr (.inr v0)] sh M none sh' M' := by
  refine amet_of (by decide +kernel) (Nat.le_of_ble_eq_true rfl) (fun Γ hC => ?_)
  replace hC : AOK Γ RX8 cX8_init 2 8 165 40235 "<init>" none := hC
  unfold fX8_init at h
  refine aw_sub hC [some (.inr (.inr v0)), none] ⟨rfl, trivial⟩ (Nat.le_of_ble_eq_true rfl) ?_
  refine aw_aload_n (pc' := 1) (i := 0) hC dX8_init_0 rfl rfl rfl ?_
  obtain ⟨g1, h⟩ := gd_s h
  refine aw_obj (pc' := 4) hC lo_X8_3 g1 dX8_init_1 rfl (Nat.le_of_ble_eq_true rfl) (Nat.le_of_ble_eq_true rfl) ?_
  refine aw_aload_n (pc' := 5) (i := 0) hC dX8_init_4 rfl rfl rfl ?_
  refine aw_sipush (pc' := 8) hC dX8_init_5 rfl (by decide) ?_
  obtain ⟨p2, e3, h⟩ := bd_s h
  obtain ⟨sh4, e5, h⟩ := bd_s h
  refine aw_na_byte (pc' := 10) (k2 := 1) (n2 := 1600) hC dX8_init_8 rfl la_byte rfl (Nat.le_of_ble_eq_true rfl) rfl rfl (Nat.le_of_ble_eq_true rfl) (Nat.le_of_ble_eq_true rfl) e3 e5 ?_
  obtain ⟨g6, h⟩ := gd_s h
  obtain ⟨M7, e8, h⟩ := bd_s h
  refine aw_pff (pc' := 13) hC dX8_init_10 rfl ff_X8_9 g6 rfl trivial e8 ?_
  refine aw_aload_n (pc' := 14) (i := 0) hC dX8_init_13 rfl rfl rfl ?_
  obtain ⟨p9, e10, h⟩ := bd_s h
  obtain ⟨sh11, e12, h⟩ := bd_s h
  refine aw_nw (pc' := 17) (k2 := 2) (n2 := 1606) hC dX8_init_14 rfl nw_X8_13 rfl rfl (Nat.le_of_ble_eq_true rfl) (Nat.le_of_ble_eq_true rfl) e10 e12 ?_
  refine aw_dup (pc' := 18) hC dX8_init_17 rfl rfl ?_
  obtain ⟨g14, h⟩ := gd_s h
  obtain ⟨⟨sh15, M16⟩, q13, h⟩ := pb_s h
  replace h := u2_s h
  refine aw_cIN (pc' := 21) (k2 := 24) (n2 := 11509) (st := [.inr (.inr p9), .inr (.inr v0)]) (stN := [.inr (.inr p9), .inr (.inr v0)]) hC [] (mX6_init q13) lk_X8_15 g14 dX8_init_18 rfl rfl (Nat.le_of_ble_eq_true rfl) (Nat.le_of_ble_eq_true rfl) (Nat.le_of_ble_eq_true rfl) rfl (Nat.le_of_ble_eq_true rfl) rfl rfl rfl ?_
  obtain ⟨g17, h⟩ := gd_s h
  obtain ⟨M18, e19, h⟩ := bd_s h
  refine aw_pff (pc' := 24) hC dX8_init_21 rfl ff_X8_16 g17 rfl trivial e19 ?_
  refine aw_aload_n (pc' := 25) (i := 0) hC dX8_init_24 rfl rfl rfl ?_
  obtain ⟨p20, e21, h⟩ := bd_s h
  obtain ⟨sh22, e23, h⟩ := bd_s h
  refine aw_nw (pc' := 28) (k2 := 25) (n2 := 11512) hC dX8_init_25 rfl nw_X8_20 rfl rfl (Nat.le_of_ble_eq_true rfl) (Nat.le_of_ble_eq_true rfl) e21 e23 ?_
  refine aw_dup (pc' := 29) hC dX8_init_28 rfl rfl ?_
  obtain ⟨g25, h⟩ := gd_s h
  obtain ⟨⟨sh26, M27⟩, q24, h⟩ := pb_s h
  replace h := u2_s h
  refine aw_cI (pc' := 32) (k2 := 126) (n2 := 14752) (st := [.inr (.inr p20), .inr (.inr v0)]) (stN := [.inr (.inr p20), .inr (.inr v0)]) hC [] (mX2_init q24) lk_X8_22 g25 dX8_init_29 rfl rfl (Nat.le_of_ble_eq_true rfl) (Nat.le_of_ble_eq_true rfl) (Nat.le_of_ble_eq_true rfl) rfl (Nat.le_of_ble_eq_true rfl) rfl rfl rfl ?_
  obtain ⟨g28, h⟩ := gd_s h
  obtain ⟨M29, e30, h⟩ := bd_s h
  refine aw_pff (pc' := 35) hC dX8_init_32 rfl ff_X8_23 g28 rfl trivial e30 ?_
  refine aw_aload_n (pc' := 36) (i := 0) hC dX8_init_35 rfl rfl rfl ?_
  obtain ⟨p31, e32, h⟩ := bd_s h
  obtain ⟨sh33, e34, h⟩ := bd_s h
  refine aw_nw (pc' := 39) (k2 := 127) (n2 := 14760) hC dX8_init_36 rfl nw_X8_27 rfl rfl (Nat.le_of_ble_eq_true rfl) (Nat.le_of_ble_eq_true rfl) e32 e34 ?_
  refine aw_dup (pc' := 40) hC dX8_init_39 rfl rfl ?_
  obtain ⟨g36, h⟩ := gd_s h
  obtain ⟨⟨sh37, M38⟩, q35, h⟩ := pb_s h
  replace h := u2_s h
  refine aw_cIN (pc' := 43) (k2 := 132) (n2 := 36270) (st := [.inr (.inr p31), .inr (.inr v0)]) (stN := [.inr (.inr p31), .inr (.inr v0)]) hC [] (mX7_init q35) lk_X8_29 g36 dX8_init_40 rfl rfl (Nat.le_of_ble_eq_true rfl) (Nat.le_of_ble_eq_true rfl) (Nat.le_of_ble_eq_true rfl) rfl (Nat.le_of_ble_eq_true rfl) rfl rfl rfl ?_
  obtain ⟨g39, h⟩ := gd_s h
  obtain ⟨M40, e41, h⟩ := bd_s h
  refine aw_pff (pc' := 46) hC dX8_init_43 rfl ff_X8_30 g39 rfl trivial e41 ?_
  refine aw_aload_n (pc' := 47) (i := 0) hC dX8_init_46 rfl rfl rfl ?_
  refine aw_bipush (pc' := 49) hC dX8_init_47 rfl (by decide) ?_
  obtain ⟨p42, e43, h⟩ := bd_s h
  obtain ⟨sh44, e45, h⟩ := bd_s h
  refine aw_na_int (pc' := 51) (k2 := 133) (n2 := 36276) hC dX8_init_49 rfl la_int rfl (Nat.le_of_ble_eq_true rfl) rfl rfl (Nat.le_of_ble_eq_true rfl) (Nat.le_of_ble_eq_true rfl) e43 e45 ?_
  obtain ⟨g46, h⟩ := gd_s h
  obtain ⟨M47, e48, h⟩ := bd_s h
  refine aw_pff (pc' := 54) hC dX8_init_51 rfl ff_X8_34 g46 rfl trivial e48 ?_
  refine aw_aload_n (pc' := 55) (i := 0) hC dX8_init_54 rfl rfl rfl ?_
  refine aw_bipush (pc' := 57) hC dX8_init_55 rfl (by decide) ?_
  obtain ⟨p49, e50, h⟩ := bd_s h
  obtain ⟨sh51, e52, h⟩ := bd_s h
  refine aw_na_int (pc' := 59) (k2 := 134) (n2 := 36296) hC dX8_init_57 rfl la_int rfl (Nat.le_of_ble_eq_true rfl) rfl rfl (Nat.le_of_ble_eq_true rfl) (Nat.le_of_ble_eq_true rfl) e50 e52 ?_
  obtain ⟨g53, h⟩ := gd_s h
  obtain ⟨M54, e55, h⟩ := bd_s h
  refine aw_pff (pc' := 62) hC dX8_init_59 rfl ff_X8_38 g53 rfl trivial e55 ?_
  refine aw_aload_n (pc' := 63) (i := 0) hC dX8_init_62 rfl rfl rfl ?_
  refine aw_sipush (pc' := 66) hC dX8_init_63 rfl (by decide) ?_
  obtain ⟨p56, e57, h⟩ := bd_s h
  obtain ⟨sh58, e59, h⟩ := bd_s h
  refine aw_na_byte (pc' := 68) (k2 := 135) (n2 := 36431) hC dX8_init_66 rfl la_byte rfl (Nat.le_of_ble_eq_true rfl) rfl rfl (Nat.le_of_ble_eq_true rfl) (Nat.le_of_ble_eq_true rfl) e57 e59 ?_
  obtain ⟨g60, h⟩ := gd_s h
  obtain ⟨M61, e62, h⟩ := bd_s h
  refine aw_pff (pc' := 71) hC dX8_init_68 rfl ff_X8_41 g60 rfl trivial e62 ?_
  refine aw_aload_n (pc' := 72) (i := 0) hC dX8_init_71 rfl rfl rfl ?_
  refine aw_iconst (pc' := 73) hC dX8_init_72 rfl (by decide) ?_
  obtain ⟨M63, e64, h⟩ := bd_s h
  refine aw_pf (pc' := 76) hC dX8_init_73 rfl fp_X8_44 g60 rfl trivial e64 ?_
  obtain ⟨p65, e66, h⟩ := bd_s h
  obtain ⟨sh67, e68, h⟩ := bd_s h
  refine aw_nw (pc' := 79) (k2 := 136) (n2 := 36444) hC dX8_init_76 rfl nw_X8_48 rfl rfl (Nat.le_of_ble_eq_true rfl) (Nat.le_of_ble_eq_true rfl) e66 e68 ?_
  refine aw_dup (pc' := 80) hC dX8_init_79 rfl rfl ?_
  obtain ⟨g70, h⟩ := gd_s h
  obtain ⟨⟨sh71, M72⟩, q69, h⟩ := pb_s h
  replace h := u2_s h
  refine aw_cIN (pc' := 83) (k2 := 151) (n2 := 39895) (st := [.inr (.inr p65)]) (stN := [.inr (.inr p65)]) hC [] (mX5_init q69) lk_X8_50 g70 dX8_init_80 rfl rfl (Nat.le_of_ble_eq_true rfl) (Nat.le_of_ble_eq_true rfl) (Nat.le_of_ble_eq_true rfl) rfl (Nat.le_of_ble_eq_true rfl) rfl rfl rfl ?_
  refine aw_astore_n (pc' := 84) (i := 1) (ls' := [some (.inr (.inr v0)), some (.inr (.inr p65))]) hC dX8_init_83 rfl rfl (Nat.le_of_ble_eq_true rfl) rfl rfl ?_
  refine aw_aload_n (pc' := 85) (i := 0) hC dX8_init_84 rfl rfl rfl ?_
  refine aw_aload_n (pc' := 86) (i := 1) hC dX8_init_85 rfl rfl rfl ?_
  obtain ⟨g73, h⟩ := gd_s h
  obtain ⟨M74, e75, h⟩ := bd_s h
  refine aw_pf (pc' := 89) hC dX8_init_86 rfl fp_X8_51 g73 rfl trivial e75 ?_
  refine aw_aload_n (pc' := 90) (i := 0) hC dX8_init_89 rfl rfl rfl ?_
  obtain ⟨p76, e77, h⟩ := bd_s h
  obtain ⟨sh78, e79, h⟩ := bd_s h
  refine aw_nw (pc' := 93) (k2 := 152) (n2 := 39898) hC dX8_init_90 rfl nw_X8_55 rfl rfl (Nat.le_of_ble_eq_true rfl) (Nat.le_of_ble_eq_true rfl) e77 e79 ?_
  refine aw_dup (pc' := 94) hC dX8_init_93 rfl rfl ?_
  refine aw_aload_n (pc' := 95) (i := 1) hC dX8_init_94 rfl rfl rfl ?_
  obtain ⟨g81, h⟩ := gd_s h
  obtain ⟨⟨sh82, M83⟩, q80, h⟩ := pb_s h
  replace h := u2_s h
  refine aw_cI (pc' := 98) (k2 := 158) (n2 := 40065) (st := [.inr (.inr p76), .inr (.inr v0)]) (stN := [.inr (.inr p76), .inr (.inr v0)]) hC [.inr (.inr p65)] (mX0_init q80) lk_X8_57 g81 dX8_init_95 rfl rfl (Nat.le_of_ble_eq_true rfl) (Nat.le_of_ble_eq_true rfl) (Nat.le_of_ble_eq_true rfl) rfl (Nat.le_of_ble_eq_true rfl) rfl rfl rfl ?_
  obtain ⟨g84, h⟩ := gd_s h
  obtain ⟨M85, e86, h⟩ := bd_s h
  refine aw_pff (pc' := 101) hC dX8_init_98 rfl ff_X8_60 g84 rfl trivial e86 ?_
  refine aw_aload_n (pc' := 102) (i := 0) hC dX8_init_101 rfl rfl rfl ?_
  obtain ⟨p87, e88, h⟩ := bd_s h
  obtain ⟨sh89, e90, h⟩ := bd_s h
  refine aw_nw (pc' := 105) (k2 := 159) (n2 := 40068) hC dX8_init_102 rfl nw_X8_55 rfl rfl (Nat.le_of_ble_eq_true rfl) (Nat.le_of_ble_eq_true rfl) e88 e90 ?_
  refine aw_dup (pc' := 106) hC dX8_init_105 rfl rfl ?_
  refine aw_aload_n (pc' := 107) (i := 1) hC dX8_init_106 rfl rfl rfl ?_
  obtain ⟨g92, h⟩ := gd_s h
  obtain ⟨⟨sh93, M94⟩, q91, h⟩ := pb_s h
  replace h := u2_s h
  refine aw_cI (pc' := 110) (k2 := 165) (n2 := 40235) (st := [.inr (.inr p87), .inr (.inr v0)]) (stN := [.inr (.inr p87), .inr (.inr v0)]) hC [.inr (.inr p65)] (mX0_init q91) lk_X8_57 g92 dX8_init_107 rfl rfl (Nat.le_of_ble_eq_true rfl) (Nat.le_of_ble_eq_true rfl) (Nat.le_of_ble_eq_true rfl) rfl (Nat.le_of_ble_eq_true rfl) rfl rfl rfl ?_
  obtain ⟨g95, h⟩ := gd_s h
  obtain ⟨M96, e97, h⟩ := bd_s h
  refine aw_pff (pc' := 113) hC dX8_init_110 rfl ff_X8_64 g95 rfl trivial e97 ?_
  cases h
  exact aw_vret hC dX8_init_113 (Nat.le_of_ble_eq_true rfl) (Nat.le_of_ble_eq_true rfl)
-- CoinCircle.refuse(I)I
def fX8_refuse (sh : AwS) (M : AwM) (v0 : Int) (v1 : Int) : Option (Int × AwM) :=
  (if v1 < 0 then some ((-1), M) else (if v1 < 6 then gd_ (kd_ sh v0 = (0, 8)) (gd_ ((kd_ sh (M v0 8)).1 = 1 ∧ (0 : Int) ≤ v1 ∧ v1 < ((kd_ sh (M v0 8)).2 : Int)) (bd_ (up_ M (M v0 8) v1 (w32 ((M (M v0 8) v1) + 1))) fun (M5 : AwM) => (some ((-1), M5)))) else some ((-1), M)))
set_option maxRecDepth 100000 in
set_option maxHeartbeats 4000000 in
theorem mX8_refuse {sh : AwS} {M : AwM} {v0 : Int} {v1 : Int} {r : Int} {M' : AwM} (h : fX8_refuse sh M v0 v1 = some (r, M')) : AMet yX8_refuse cX8_refuse 2 (some .int) 1 0 0 [.inr (.inr v0), .inl v1] sh M (some (.inl r)) sh M' := by
  refine amet_of (by decide +kernel) (Nat.le_of_ble_eq_true rfl) (fun Γ hC => ?_)
  replace hC : AOK Γ RX8 cX8_refuse 2 1 0 0 "refuse" (some .int) := hC
  unfold fX8_refuse at h
  refine aw_sub hC [some (.inr (.inr v0)), some (.inl v1)] ⟨rfl, ⟨rfl, trivial⟩⟩ (Nat.le_of_ble_eq_true rfl) ?_
  refine aw_iload_n (pc' := 1) (i := 1) hC dX8_refuse_0 rfl rfl rfl ?_
  refine aw_if_lt (tgt := 20) (pc' := 4) hC dX8_refuse_1 (by decide) rfl (fun c1 => ?_) (fun c1 => ?_)
  · replace h := it_p c1 h
    refine aw_iconst (pc' := 21) hC dX8_refuse_20 rfl (by decide) ?_
    cases h
    exact aw_iret hC dX8_refuse_21 (Nat.le_of_ble_eq_true rfl) (Nat.le_of_ble_eq_true rfl)
  · replace h := it_n c1 h
    refine aw_iload_n (pc' := 5) (i := 1) hC dX8_refuse_4 rfl rfl rfl ?_
    refine aw_bipush (pc' := 7) hC dX8_refuse_5 rfl (by decide) ?_
    refine aw_icmp_ge (tgt := 20) (pc' := 10) hC dX8_refuse_7 (by decide) rfl (fun c2 => ?_) (fun c2 => ?_)
    · replace h := it_n c2 h
      refine aw_iconst (pc' := 21) hC dX8_refuse_20 rfl (by decide) ?_
      cases h
      exact aw_iret hC dX8_refuse_21 (Nat.le_of_ble_eq_true rfl) (Nat.le_of_ble_eq_true rfl)
    · replace h := it_p c2 h
      refine aw_aload_n (pc' := 11) (i := 0) hC dX8_refuse_10 rfl rfl rfl ?_
      obtain ⟨g3, h⟩ := gd_s h
      refine aw_getfield (pc' := 14) (v := (.inr (.inr (M v0 8)))) hC dX8_refuse_11 rfl fl_X8_34 g3 rfl ?_
      refine aw_iload_n (pc' := 15) (i := 1) hC dX8_refuse_14 rfl rfl rfl ?_
      refine aw_dup2 (pc' := 16) hC dX8_refuse_15 rfl rfl rfl ?_
      obtain ⟨g4, h⟩ := gd_s h
      refine aw_iaload (pc' := 17) hC dX8_refuse_16 rfl g4 ?_
      refine aw_iconst (pc' := 18) hC dX8_refuse_17 rfl (by decide) ?_
      refine aw_iadd (pc' := 19) hC dX8_refuse_18 rfl  ?_
      obtain ⟨M5, e6, h⟩ := bd_s h
      refine aw_ias (pc' := 20) hC dX8_refuse_19 rfl g4 e6 ?_
      refine aw_iconst (pc' := 21) hC dX8_refuse_20 rfl (by decide) ?_
      cases h
      exact aw_iret hC dX8_refuse_21 (Nat.le_of_ble_eq_true rfl) (Nat.le_of_ble_eq_true rfl)
-- CoinCircle.putNumber(II)V
def fX8_putNumber_L2 (sh : AwS) (v0 : Int) (v1 : Int) (v2 : Int) (v3 : Int) (M : AwM) : Option ((Int × AwM) ⊕ (AwM)) :=
  (if v3 < 4 then (if v1 < 0 then some (.inl ((w32 (v3 + 1)), M)) else (if (w32 (v1 + v3)) < 1600 then gd_ (kd_ sh v0 = (0, 8)) (gd_ ((kd_ sh (M v0 0)).1 = 3 ∧ (0 : Int) ≤ (w32 (v1 + v3)) ∧ (w32 (v1 + v3)) < ((kd_ sh (M v0 0)).2 : Int)) (bd_ (up_ M (M v0 0) (w32 (v1 + v3)) (w8_ (w8_ (sr_ v2 (w32 (24 - (w32 (8 * v3)))))))) fun (M6 : AwM) => (some (.inl ((w32 (v3 + 1)), M6))))) else some (.inl ((w32 (v3 + 1)), M)))) else some (.inr M))
def p_X8_putNumber_L2 (Γ : AwC) (sh : AwS) (v0 : Int) (v1 : Int) (v2 : Int) (Q : State → Prop) (s : Int × AwM) : Prop := AW Γ sh (s.2) 0 0 2 [some (.inr (.inr v0)), some (.inl v1), some (.inl v2), some (.inl (s.1))] [] Q
def x_X8_putNumber_L2 (Γ : AwC) (sh : AwS) (v0 : Int) (v1 : Int) (v2 : Int) (Q : State → Prop) : (AwM) → Prop := (fun (t : AwM) => AW Γ sh (t) 0 0 44 [none, none, none, none] [] Q)
def fX8_putNumber (sh : AwS) (M : AwM) (v0 : Int) (v1 : Int) (v2 : Int) : Option (AwM) :=
  pb (lp (u2 (fX8_putNumber_L2 sh v0 v1 v2)) FU (0, M)) (u1 (fun (tq8 : AwM) => some tq8))
set_option maxRecDepth 100000 in
set_option maxHeartbeats 4000000 in
theorem w_X8_putNumber_L2 {Γ : AwC} (hC : AOK Γ RX8 cX8_putNumber 4 1 0 0 "putNumber" none) {sh : AwS} {v0 : Int} {v1 : Int} {v2 : Int} {Q : State → Prop} : ∀ s r, u2 (fX8_putNumber_L2 sh v0 v1 v2) s = some r → (∀ s', r = .inl s' → p_X8_putNumber_L2 Γ sh v0 v1 v2 Q s') → (∀ t, r = .inr t → x_X8_putNumber_L2 Γ sh v0 v1 v2 Q t) → p_X8_putNumber_L2 Γ sh v0 v1 v2 Q s := by
  intro s r h hL hX
  obtain ⟨v3, M⟩ := s
  replace h := u2_s h
  unfold fX8_putNumber_L2 at h
  show AW Γ sh M 0 0 2 [some (.inr (.inr v0)), some (.inl v1), some (.inl v2), some (.inl v3)] [] Q
  refine aw_iload_n (pc' := 3) (i := 3) hC dX8_putNumber_2 rfl rfl rfl ?_
  refine aw_iconst (pc' := 4) hC dX8_putNumber_3 rfl (by decide) ?_
  refine aw_icmp_ge (tgt := 44) (pc' := 7) hC dX8_putNumber_4 (by decide) rfl (fun c1 => ?_) (fun c1 => ?_)
  · replace h := it_n c1 h
    refine aw_sub hC [none, none, none, none] trivial (Nat.le_of_ble_eq_true rfl) ?_
    cases h
    exact hX _ rfl
  · replace h := it_p c1 h
    refine aw_iload_n (pc' := 8) (i := 1) hC dX8_putNumber_7 rfl rfl rfl ?_
    refine aw_if_lt (tgt := 38) (pc' := 11) hC dX8_putNumber_8 (by decide) rfl (fun c2 => ?_) (fun c2 => ?_)
    · replace h := it_p c2 h
      refine aw_iinc (pc' := 41) (ls' := [some (.inr (.inr v0)), some (.inl v1), some (.inl v2), some (.inl (w32 (v3 + 1)))]) hC dX8_putNumber_38 rfl rfl rfl rfl ?_
      refine aw_goto (tgt := 2) hC dX8_putNumber_41 (by decide) ?_
      refine aw_sub hC [some (.inr (.inr v0)), some (.inl v1), some (.inl v2), some (.inl (w32 (v3 + 1)))] ⟨rfl, ⟨rfl, ⟨rfl, ⟨rfl, trivial⟩⟩⟩⟩ (Nat.le_of_ble_eq_true rfl) ?_
      cases h
      exact hL _ rfl
    · replace h := it_n c2 h
      refine aw_iload_n (pc' := 12) (i := 1) hC dX8_putNumber_11 rfl rfl rfl ?_
      refine aw_iload_n (pc' := 13) (i := 3) hC dX8_putNumber_12 rfl rfl rfl ?_
      refine aw_iadd (pc' := 14) hC dX8_putNumber_13 rfl  ?_
      refine aw_sipush (pc' := 17) hC dX8_putNumber_14 rfl (by decide) ?_
      refine aw_icmp_ge (tgt := 38) (pc' := 20) hC dX8_putNumber_17 (by decide) rfl (fun c3 => ?_) (fun c3 => ?_)
      · replace h := it_n c3 h
        refine aw_iinc (pc' := 41) (ls' := [some (.inr (.inr v0)), some (.inl v1), some (.inl v2), some (.inl (w32 (v3 + 1)))]) hC dX8_putNumber_38 rfl rfl rfl rfl ?_
        refine aw_goto (tgt := 2) hC dX8_putNumber_41 (by decide) ?_
        refine aw_sub hC [some (.inr (.inr v0)), some (.inl v1), some (.inl v2), some (.inl (w32 (v3 + 1)))] ⟨rfl, ⟨rfl, ⟨rfl, ⟨rfl, trivial⟩⟩⟩⟩ (Nat.le_of_ble_eq_true rfl) ?_
        cases h
        exact hL _ rfl
      · replace h := it_p c3 h
        refine aw_aload_n (pc' := 21) (i := 0) hC dX8_putNumber_20 rfl rfl rfl ?_
        obtain ⟨g4, h⟩ := gd_s h
        refine aw_getfield (pc' := 24) (v := (.inr (.inr (M v0 0)))) hC dX8_putNumber_21 rfl fl_X8_9 g4 rfl ?_
        refine aw_iload_n (pc' := 25) (i := 1) hC dX8_putNumber_24 rfl rfl rfl ?_
        refine aw_iload_n (pc' := 26) (i := 3) hC dX8_putNumber_25 rfl rfl rfl ?_
        refine aw_iadd (pc' := 27) hC dX8_putNumber_26 rfl  ?_
        refine aw_iload_n (pc' := 28) (i := 2) hC dX8_putNumber_27 rfl rfl rfl ?_
        refine aw_bipush (pc' := 30) hC dX8_putNumber_28 rfl (by decide) ?_
        refine aw_bipush (pc' := 32) hC dX8_putNumber_30 rfl (by decide) ?_
        refine aw_iload_n (pc' := 33) (i := 3) hC dX8_putNumber_32 rfl rfl rfl ?_
        refine aw_imul (pc' := 34) hC dX8_putNumber_33 rfl  ?_
        refine aw_isub (pc' := 35) hC dX8_putNumber_34 rfl  ?_
        refine aw_ishr (pc' := 36) hC dX8_putNumber_35 rfl  ?_
        refine aw_i2b (pc' := 37) hC dX8_putNumber_36 rfl  ?_
        obtain ⟨g5, h⟩ := gd_s h
        obtain ⟨M6, e7, h⟩ := bd_s h
        refine aw_bas (pc' := 38) hC dX8_putNumber_37 rfl g5 e7 ?_
        refine aw_iinc (pc' := 41) (ls' := [some (.inr (.inr v0)), some (.inl v1), some (.inl v2), some (.inl (w32 (v3 + 1)))]) hC dX8_putNumber_38 rfl rfl rfl rfl ?_
        refine aw_goto (tgt := 2) hC dX8_putNumber_41 (by decide) ?_
        refine aw_sub hC [some (.inr (.inr v0)), some (.inl v1), some (.inl v2), some (.inl (w32 (v3 + 1)))] ⟨rfl, ⟨rfl, ⟨rfl, ⟨rfl, trivial⟩⟩⟩⟩ (Nat.le_of_ble_eq_true rfl) ?_
        cases h
        exact hL _ rfl
set_option maxRecDepth 100000 in
set_option maxHeartbeats 4000000 in
theorem mX8_putNumber {sh : AwS} {M : AwM} {v0 : Int} {v1 : Int} {v2 : Int} {M' : AwM} (h : fX8_putNumber sh M v0 v1 v2 = some M') : AMet yX8_putNumber cX8_putNumber 4 none 1 0 0 [.inr (.inr v0), .inl v1, .inl v2] sh M none sh M' := by
  refine amet_of (by decide +kernel) (Nat.le_of_ble_eq_true rfl) (fun Γ hC => ?_)
  replace hC : AOK Γ RX8 cX8_putNumber 4 1 0 0 "putNumber" none := hC
  unfold fX8_putNumber at h
  refine aw_sub hC [some (.inr (.inr v0)), some (.inl v1), some (.inl v2), none] ⟨rfl, ⟨rfl, ⟨rfl, trivial⟩⟩⟩ (Nat.le_of_ble_eq_true rfl) ?_
  refine aw_iconst (pc' := 1) hC dX8_putNumber_0 rfl (by decide) ?_
  refine aw_istore_n (pc' := 2) (i := 3) (ls' := [some (.inr (.inr v0)), some (.inl v1), some (.inl v2), some (.inl 0)]) hC dX8_putNumber_1 rfl rfl (Nat.le_of_ble_eq_true rfl) rfl rfl ?_
  obtain ⟨tq8, q8, h⟩ := pb_s h
  refine aw_sub hC [some (.inr (.inr v0)), some (.inl v1), some (.inl v2), some (.inl 0)] ⟨rfl, ⟨rfl, ⟨rfl, ⟨rfl, trivial⟩⟩⟩⟩ (Nat.le_of_ble_eq_true rfl) ?_
  refine (lp_aw (p_X8_putNumber_L2 Γ sh v0 v1 v2 (fin_ Γ 0 0 none sh M')) (x_X8_putNumber_L2 Γ sh v0 v1 v2 (fin_ Γ 0 0 none sh M')) (w_X8_putNumber_L2 hC ) FU _ _ q8 ?_ : p_X8_putNumber_L2 Γ sh v0 v1 v2 (fin_ Γ 0 0 none sh M') (0, M))
  replace h := u1_s h
  show AW Γ sh tq8 0 0 44 [none, none, none, none] [] _
  cases h
  exact aw_vret hC dX8_putNumber_44 (Nat.le_of_ble_eq_true rfl) (Nat.le_of_ble_eq_true rfl)
-- CoinCircle.feed(IIIII)I
def fX8_feed (sh : AwS) (M : AwM) (v0 : Int) (v1 : Int) (v2 : Int) (v3 : Int) (v4 : Int) (v5 : Int) : Option (Int × AwM) :=
  gd_ (kd_ sh v0 = (0, 8)) ((if 1600 < (w32 ((M v0 1) + 20)) then pb (fX8_refuse sh M v0 0) <| u2 fun (x16 : Int) (M17 : AwM) => (some (x16, M17)) else pb (fX8_putNumber sh M v0 (M v0 1) v1) <| u1 fun (M4 : AwM) => (pb (fX8_putNumber sh M4 v0 (w32 ((M4 v0 1) + 4)) v2) <| u1 fun (M6 : AwM) => (pb (fX8_putNumber sh M6 v0 (w32 ((M6 v0 1) + 8)) v3) <| u1 fun (M8 : AwM) => (pb (fX8_putNumber sh M8 v0 (w32 ((M8 v0 1) + 12)) v4) <| u1 fun (M10 : AwM) => (pb (fX8_putNumber sh M10 v0 (w32 ((M10 v0 1) + 16)) v5) <| u1 fun (M12 : AwM) => (bd_ (up_ M12 v0 1 (w32 ((M12 v0 1) + 20))) fun (M13 : AwM) => (some ((M13 v0 1), M13)))))))))
set_option maxRecDepth 100000 in
set_option maxHeartbeats 4000000 in
theorem mX8_feed {sh : AwS} {M : AwM} {v0 : Int} {v1 : Int} {v2 : Int} {v3 : Int} {v4 : Int} {v5 : Int} {r : Int} {M' : AwM} (h : fX8_feed sh M v0 v1 v2 v3 v4 v5 = some (r, M')) : AMet yX8_feed cX8_feed 6 (some .int) 2 0 0 [.inr (.inr v0), .inl v1, .inl v2, .inl v3, .inl v4, .inl v5] sh M (some (.inl r)) sh M' := by
  refine amet_of (by decide +kernel) (Nat.le_of_ble_eq_true rfl) (fun Γ hC => ?_)
  replace hC : AOK Γ RX8 cX8_feed 6 2 0 0 "feed" (some .int) := hC
  unfold fX8_feed at h
  refine aw_sub hC [some (.inr (.inr v0)), some (.inl v1), some (.inl v2), some (.inl v3), some (.inl v4), some (.inl v5)] ⟨rfl, ⟨rfl, ⟨rfl, ⟨rfl, ⟨rfl, ⟨rfl, trivial⟩⟩⟩⟩⟩⟩ (Nat.le_of_ble_eq_true rfl) ?_
  refine aw_aload_n (pc' := 1) (i := 0) hC dX8_feed_0 rfl rfl rfl ?_
  obtain ⟨g1, h⟩ := gd_s h
  refine aw_getfield (pc' := 4) (v := (.inl (M v0 1))) hC dX8_feed_1 rfl fl_X8_67 g1 rfl ?_
  refine aw_bipush (pc' := 6) hC dX8_feed_4 rfl (by decide) ?_
  refine aw_iadd (pc' := 7) hC dX8_feed_6 rfl  ?_
  refine aw_sipush (pc' := 10) hC dX8_feed_7 rfl (by decide) ?_
  refine aw_icmp_le (tgt := 19) (pc' := 13) hC dX8_feed_10 (by decide) rfl (fun c2 => ?_) (fun c2 => ?_)
  · replace h := it_n c2 h
    refine aw_aload_n (pc' := 20) (i := 0) hC dX8_feed_19 rfl rfl rfl ?_
    refine aw_aload_n (pc' := 21) (i := 0) hC dX8_feed_20 rfl rfl rfl ?_
    refine aw_getfield (pc' := 24) (v := (.inl (M v0 1))) hC dX8_feed_21 rfl fl_X8_67 g1 rfl ?_
    refine aw_iload_n (pc' := 25) (i := 1) hC dX8_feed_24 rfl rfl rfl ?_
    obtain ⟨M4, q3, h⟩ := pb_s h
    replace h := u1_s h
    refine aw_cV (pc' := 28) (k2 := 0) (n2 := 0) (st := []) (stN := []) hC [.inl (M v0 1), .inl v1] (mX8_putNumber q3) lk_X8_74 g1 dX8_feed_25 rfl rfl (Nat.le_of_ble_eq_true rfl) (Nat.le_of_ble_eq_true rfl) (Nat.le_of_ble_eq_true rfl) rfl (Nat.le_of_ble_eq_true rfl) rfl rfl rfl ?_
    refine aw_aload_n (pc' := 29) (i := 0) hC dX8_feed_28 rfl rfl rfl ?_
    refine aw_aload_n (pc' := 30) (i := 0) hC dX8_feed_29 rfl rfl rfl ?_
    refine aw_getfield (pc' := 33) (v := (.inl (M4 v0 1))) hC dX8_feed_30 rfl fl_X8_67 g1 rfl ?_
    refine aw_iconst (pc' := 34) hC dX8_feed_33 rfl (by decide) ?_
    refine aw_iadd (pc' := 35) hC dX8_feed_34 rfl  ?_
    refine aw_iload_n (pc' := 36) (i := 2) hC dX8_feed_35 rfl rfl rfl ?_
    obtain ⟨M6, q5, h⟩ := pb_s h
    replace h := u1_s h
    refine aw_cV (pc' := 39) (k2 := 0) (n2 := 0) (st := []) (stN := []) hC [.inl (w32 ((M4 v0 1) + 4)), .inl v2] (mX8_putNumber q5) lk_X8_74 g1 dX8_feed_36 rfl rfl (Nat.le_of_ble_eq_true rfl) (Nat.le_of_ble_eq_true rfl) (Nat.le_of_ble_eq_true rfl) rfl (Nat.le_of_ble_eq_true rfl) rfl rfl rfl ?_
    refine aw_aload_n (pc' := 40) (i := 0) hC dX8_feed_39 rfl rfl rfl ?_
    refine aw_aload_n (pc' := 41) (i := 0) hC dX8_feed_40 rfl rfl rfl ?_
    refine aw_getfield (pc' := 44) (v := (.inl (M6 v0 1))) hC dX8_feed_41 rfl fl_X8_67 g1 rfl ?_
    refine aw_bipush (pc' := 46) hC dX8_feed_44 rfl (by decide) ?_
    refine aw_iadd (pc' := 47) hC dX8_feed_46 rfl  ?_
    refine aw_iload_n (pc' := 48) (i := 3) hC dX8_feed_47 rfl rfl rfl ?_
    obtain ⟨M8, q7, h⟩ := pb_s h
    replace h := u1_s h
    refine aw_cV (pc' := 51) (k2 := 0) (n2 := 0) (st := []) (stN := []) hC [.inl (w32 ((M6 v0 1) + 8)), .inl v3] (mX8_putNumber q7) lk_X8_74 g1 dX8_feed_48 rfl rfl (Nat.le_of_ble_eq_true rfl) (Nat.le_of_ble_eq_true rfl) (Nat.le_of_ble_eq_true rfl) rfl (Nat.le_of_ble_eq_true rfl) rfl rfl rfl ?_
    refine aw_aload_n (pc' := 52) (i := 0) hC dX8_feed_51 rfl rfl rfl ?_
    refine aw_aload_n (pc' := 53) (i := 0) hC dX8_feed_52 rfl rfl rfl ?_
    refine aw_getfield (pc' := 56) (v := (.inl (M8 v0 1))) hC dX8_feed_53 rfl fl_X8_67 g1 rfl ?_
    refine aw_bipush (pc' := 58) hC dX8_feed_56 rfl (by decide) ?_
    refine aw_iadd (pc' := 59) hC dX8_feed_58 rfl  ?_
    refine aw_iload (pc' := 61) hC dX8_feed_59 rfl rfl ?_
    obtain ⟨M10, q9, h⟩ := pb_s h
    replace h := u1_s h
    refine aw_cV (pc' := 64) (k2 := 0) (n2 := 0) (st := []) (stN := []) hC [.inl (w32 ((M8 v0 1) + 12)), .inl v4] (mX8_putNumber q9) lk_X8_74 g1 dX8_feed_61 rfl rfl (Nat.le_of_ble_eq_true rfl) (Nat.le_of_ble_eq_true rfl) (Nat.le_of_ble_eq_true rfl) rfl (Nat.le_of_ble_eq_true rfl) rfl rfl rfl ?_
    refine aw_aload_n (pc' := 65) (i := 0) hC dX8_feed_64 rfl rfl rfl ?_
    refine aw_aload_n (pc' := 66) (i := 0) hC dX8_feed_65 rfl rfl rfl ?_
    refine aw_getfield (pc' := 69) (v := (.inl (M10 v0 1))) hC dX8_feed_66 rfl fl_X8_67 g1 rfl ?_
    refine aw_bipush (pc' := 71) hC dX8_feed_69 rfl (by decide) ?_
    refine aw_iadd (pc' := 72) hC dX8_feed_71 rfl  ?_
    refine aw_iload (pc' := 74) hC dX8_feed_72 rfl rfl ?_
    obtain ⟨M12, q11, h⟩ := pb_s h
    replace h := u1_s h
    refine aw_cV (pc' := 77) (k2 := 0) (n2 := 0) (st := []) (stN := []) hC [.inl (w32 ((M10 v0 1) + 16)), .inl v5] (mX8_putNumber q11) lk_X8_74 g1 dX8_feed_74 rfl rfl (Nat.le_of_ble_eq_true rfl) (Nat.le_of_ble_eq_true rfl) (Nat.le_of_ble_eq_true rfl) rfl (Nat.le_of_ble_eq_true rfl) rfl rfl rfl ?_
    refine aw_aload_n (pc' := 78) (i := 0) hC dX8_feed_77 rfl rfl rfl ?_
    refine aw_dup (pc' := 79) hC dX8_feed_78 rfl rfl ?_
    refine aw_getfield (pc' := 82) (v := (.inl (M12 v0 1))) hC dX8_feed_79 rfl fl_X8_67 g1 rfl ?_
    refine aw_bipush (pc' := 84) hC dX8_feed_82 rfl (by decide) ?_
    refine aw_iadd (pc' := 85) hC dX8_feed_84 rfl  ?_
    obtain ⟨M13, e14, h⟩ := bd_s h
    refine aw_pf (pc' := 88) hC dX8_feed_85 rfl fp_X8_67 g1 rfl trivial e14 ?_
    refine aw_aload_n (pc' := 89) (i := 0) hC dX8_feed_88 rfl rfl rfl ?_
    refine aw_getfield (pc' := 92) (v := (.inl (M13 v0 1))) hC dX8_feed_89 rfl fl_X8_67 g1 rfl ?_
    cases h
    exact aw_iret hC dX8_feed_92 (Nat.le_of_ble_eq_true rfl) (Nat.le_of_ble_eq_true rfl)
  · replace h := it_p c2 h
    refine aw_aload_n (pc' := 14) (i := 0) hC dX8_feed_13 rfl rfl rfl ?_
    refine aw_iconst (pc' := 15) hC dX8_feed_14 rfl (by decide) ?_
    obtain ⟨⟨x16, M17⟩, q15, h⟩ := pb_s h
    replace h := u2_s h
    refine aw_cV (pc' := 18) (k2 := 0) (n2 := 0) (st := []) (stN := [.inl x16]) hC [.inl 0] (mX8_refuse q15) lk_X8_70 g1 dX8_feed_15 rfl rfl (Nat.le_of_ble_eq_true rfl) (Nat.le_of_ble_eq_true rfl) (Nat.le_of_ble_eq_true rfl) rfl (Nat.le_of_ble_eq_true rfl) rfl rfl rfl ?_
    cases h
    exact aw_iret hC dX8_feed_18 (Nat.le_of_ble_eq_true rfl) (Nat.le_of_ble_eq_true rfl)
-- CoinCircle.tapeByte(I)I
def fX8_tapeByte (sh : AwS) (M : AwM) (v0 : Int) (v1 : Int) : Option Int :=
  (if v1 < 0 then some 0 else (if v1 < 1600 then gd_ (kd_ sh v0 = (0, 8)) (gd_ ((kd_ sh (M v0 0)).1 = 3 ∧ (0 : Int) ≤ v1 ∧ v1 < ((kd_ sh (M v0 0)).2 : Int)) (some (an_ (M (M v0 0) v1) 255))) else some 0))
set_option maxRecDepth 100000 in
set_option maxHeartbeats 4000000 in
theorem mX8_tapeByte {sh : AwS} {M : AwM} {v0 : Int} {v1 : Int} {r : Int} (h : fX8_tapeByte sh M v0 v1 = some r) : AMet yX8_tapeByte cX8_tapeByte 2 (some .int) 1 0 0 [.inr (.inr v0), .inl v1] sh M (some (.inl r)) sh M := by
  refine amet_of (by decide +kernel) (Nat.le_of_ble_eq_true rfl) (fun Γ hC => ?_)
  replace hC : AOK Γ RX8 cX8_tapeByte 2 1 0 0 "tapeByte" (some .int) := hC
  unfold fX8_tapeByte at h
  refine aw_sub hC [some (.inr (.inr v0)), some (.inl v1)] ⟨rfl, ⟨rfl, trivial⟩⟩ (Nat.le_of_ble_eq_true rfl) ?_
  refine aw_iload_n (pc' := 1) (i := 1) hC dX8_tapeByte_0 rfl rfl rfl ?_
  refine aw_if_lt (tgt := 24) (pc' := 4) hC dX8_tapeByte_1 (by decide) rfl (fun c1 => ?_) (fun c1 => ?_)
  · replace h := it_p c1 h
    refine aw_iconst (pc' := 25) hC dX8_tapeByte_24 rfl (by decide) ?_
    cases h
    exact aw_iret hC dX8_tapeByte_25 (Nat.le_of_ble_eq_true rfl) (Nat.le_of_ble_eq_true rfl)
  · replace h := it_n c1 h
    refine aw_iload_n (pc' := 5) (i := 1) hC dX8_tapeByte_4 rfl rfl rfl ?_
    refine aw_sipush (pc' := 8) hC dX8_tapeByte_5 rfl (by decide) ?_
    refine aw_icmp_ge (tgt := 24) (pc' := 11) hC dX8_tapeByte_8 (by decide) rfl (fun c2 => ?_) (fun c2 => ?_)
    · replace h := it_n c2 h
      refine aw_iconst (pc' := 25) hC dX8_tapeByte_24 rfl (by decide) ?_
      cases h
      exact aw_iret hC dX8_tapeByte_25 (Nat.le_of_ble_eq_true rfl) (Nat.le_of_ble_eq_true rfl)
    · replace h := it_p c2 h
      refine aw_aload_n (pc' := 12) (i := 0) hC dX8_tapeByte_11 rfl rfl rfl ?_
      obtain ⟨g3, h⟩ := gd_s h
      refine aw_getfield (pc' := 15) (v := (.inr (.inr (M v0 0)))) hC dX8_tapeByte_12 rfl fl_X8_9 g3 rfl ?_
      refine aw_iload_n (pc' := 16) (i := 1) hC dX8_tapeByte_15 rfl rfl rfl ?_
      obtain ⟨g4, h⟩ := gd_s h
      refine aw_baload (pc' := 17) hC dX8_tapeByte_16 rfl g4 ?_
      refine aw_sipush (pc' := 20) hC dX8_tapeByte_17 rfl (by decide) ?_
      refine aw_iand (pc' := 21) hC dX8_tapeByte_20 rfl  ?_
      refine aw_goto (tgt := 25) hC dX8_tapeByte_21 (by decide) ?_
      cases h
      exact aw_iret hC dX8_tapeByte_25 (Nat.le_of_ble_eq_true rfl) (Nat.le_of_ble_eq_true rfl)
-- CoinCircle.end(I)Z
def fX8_end (sh : AwS) (M : AwM) (v0 : Int) (v1 : Int) : Option (Int × AwM) :=
  (if v1 < 0 then gd_ (kd_ sh v0 = (0, 8)) (pb (fX8_refuse sh M v0 0) <| u2 fun (x4 : Int) (M5 : AwM) => (some (0, M5))) else gd_ (kd_ sh v0 = (0, 8)) ((if (M v0 1) < v1 then pb (fX8_refuse sh M v0 0) <| u2 fun (x11 : Int) (M12 : AwM) => (some (0, M12)) else bd_ (up_ M v0 1 v1) fun (M8 : AwM) => (some (1, M8)))))
set_option maxRecDepth 100000 in
set_option maxHeartbeats 4000000 in
theorem mX8_end {sh : AwS} {M : AwM} {v0 : Int} {v1 : Int} {r : Int} {M' : AwM} (h : fX8_end sh M v0 v1 = some (r, M')) : AMet yX8_end cX8_end 2 (some .boolean) 2 0 0 [.inr (.inr v0), .inl v1] sh M (some (.inl r)) sh M' := by
  refine amet_of (by decide +kernel) (Nat.le_of_ble_eq_true rfl) (fun Γ hC => ?_)
  replace hC : AOK Γ RX8 cX8_end 2 2 0 0 "end" (some .boolean) := hC
  unfold fX8_end at h
  refine aw_sub hC [some (.inr (.inr v0)), some (.inl v1)] ⟨rfl, ⟨rfl, trivial⟩⟩ (Nat.le_of_ble_eq_true rfl) ?_
  refine aw_iload_n (pc' := 1) (i := 1) hC dX8_end_0 rfl rfl rfl ?_
  refine aw_if_lt (tgt := 12) (pc' := 4) hC dX8_end_1 (by decide) rfl (fun c1 => ?_) (fun c1 => ?_)
  · replace h := it_p c1 h
    refine aw_aload_n (pc' := 13) (i := 0) hC dX8_end_12 rfl rfl rfl ?_
    refine aw_iconst (pc' := 14) hC dX8_end_13 rfl (by decide) ?_
    obtain ⟨g3, h⟩ := gd_s h
    obtain ⟨⟨x4, M5⟩, q2, h⟩ := pb_s h
    replace h := u2_s h
    refine aw_cV (pc' := 17) (k2 := 0) (n2 := 0) (st := []) (stN := [.inl x4]) hC [.inl 0] (mX8_refuse q2) lk_X8_70 g3 dX8_end_14 rfl rfl (Nat.le_of_ble_eq_true rfl) (Nat.le_of_ble_eq_true rfl) (Nat.le_of_ble_eq_true rfl) rfl (Nat.le_of_ble_eq_true rfl) rfl rfl rfl ?_
    refine aw_pop (pc' := 18) hC dX8_end_17 rfl rfl ?_
    refine aw_iconst (pc' := 19) hC dX8_end_18 rfl (by decide) ?_
    cases h
    exact aw_zret hC (Or.inl rfl) dX8_end_19 (Nat.le_of_ble_eq_true rfl) (Nat.le_of_ble_eq_true rfl)
  · replace h := it_n c1 h
    refine aw_iload_n (pc' := 5) (i := 1) hC dX8_end_4 rfl rfl rfl ?_
    refine aw_aload_n (pc' := 6) (i := 0) hC dX8_end_5 rfl rfl rfl ?_
    obtain ⟨g6, h⟩ := gd_s h
    refine aw_getfield (pc' := 9) (v := (.inl (M v0 1))) hC dX8_end_6 rfl fl_X8_67 g6 rfl ?_
    refine aw_icmp_le (tgt := 20) (pc' := 12) hC dX8_end_9 (by decide) rfl (fun c7 => ?_) (fun c7 => ?_)
    · replace h := it_n c7 h
      refine aw_aload_n (pc' := 21) (i := 0) hC dX8_end_20 rfl rfl rfl ?_
      refine aw_iload_n (pc' := 22) (i := 1) hC dX8_end_21 rfl rfl rfl ?_
      obtain ⟨M8, e9, h⟩ := bd_s h
      refine aw_pf (pc' := 25) hC dX8_end_22 rfl fp_X8_67 g6 rfl trivial e9 ?_
      refine aw_iconst (pc' := 26) hC dX8_end_25 rfl (by decide) ?_
      cases h
      exact aw_zret hC (Or.inr rfl) dX8_end_26 (Nat.le_of_ble_eq_true rfl) (Nat.le_of_ble_eq_true rfl)
    · replace h := it_p c7 h
      refine aw_aload_n (pc' := 13) (i := 0) hC dX8_end_12 rfl rfl rfl ?_
      refine aw_iconst (pc' := 14) hC dX8_end_13 rfl (by decide) ?_
      obtain ⟨⟨x11, M12⟩, q10, h⟩ := pb_s h
      replace h := u2_s h
      refine aw_cV (pc' := 17) (k2 := 0) (n2 := 0) (st := []) (stN := [.inl x11]) hC [.inl 0] (mX8_refuse q10) lk_X8_70 g6 dX8_end_14 rfl rfl (Nat.le_of_ble_eq_true rfl) (Nat.le_of_ble_eq_true rfl) (Nat.le_of_ble_eq_true rfl) rfl (Nat.le_of_ble_eq_true rfl) rfl rfl rfl ?_
      refine aw_pop (pc' := 18) hC dX8_end_17 rfl rfl ?_
      refine aw_iconst (pc' := 19) hC dX8_end_18 rfl (by decide) ?_
      cases h
      exact aw_zret hC (Or.inl rfl) dX8_end_19 (Nat.le_of_ble_eq_true rfl) (Nat.le_of_ble_eq_true rfl)
-- CoinCircle$Formula.clear()V
def fX1_clear (sh : AwS) (M : AwM) (v0 : Int) : Option (AwM) :=
  gd_ (kd_ sh v0 = (0, 1)) (bd_ (up_ M v0 1 0) fun (M2 : AwM) => (some M2))
set_option maxRecDepth 100000 in
set_option maxHeartbeats 4000000 in
theorem mX1_clear {sh : AwS} {M : AwM} {v0 : Int} {M' : AwM} (h : fX1_clear sh M v0 = some M') : AMet yX1_clear cX1_clear 1 none 1 0 0 [.inr (.inr v0)] sh M none sh M' := by
  refine amet_of (by decide +kernel) (Nat.le_of_ble_eq_true rfl) (fun Γ hC => ?_)
  replace hC : AOK Γ RX1 cX1_clear 1 1 0 0 "clear" none := hC
  unfold fX1_clear at h
  refine aw_sub hC [some (.inr (.inr v0))] ⟨rfl, trivial⟩ (Nat.le_of_ble_eq_true rfl) ?_
  refine aw_aload_n (pc' := 1) (i := 0) hC dX1_clear_0 rfl rfl rfl ?_
  refine aw_iconst (pc' := 2) hC dX1_clear_1 rfl (by decide) ?_
  obtain ⟨g1, h⟩ := gd_s h
  obtain ⟨M2, e3, h⟩ := bd_s h
  refine aw_pf (pc' := 5) hC dX1_clear_2 rfl fp_X1_18 g1 rfl trivial e3 ?_
  cases h
  exact aw_vret hC dX1_clear_5 (Nat.le_of_ble_eq_true rfl) (Nat.le_of_ble_eq_true rfl)
-- CoinCircle$Society.clear()V
def fX5_clear (sh : AwS) (M : AwM) (v0 : Int) : Option (AwM) :=
  gd_ (kd_ sh v0 = (0, 5)) (gd_ ((kd_ sh (M v0 0)).1 = 1 ∧ (0 : Int) ≤ 0 ∧ 0 < ((kd_ sh (M v0 0)).2 : Int)) (bd_ (up_ M (M v0 0) 0 0) fun (M3 : AwM) => (gd_ ((kd_ sh (M3 v0 0)).1 = 1 ∧ (0 : Int) ≤ 1 ∧ 1 < ((kd_ sh (M3 v0 0)).2 : Int)) (bd_ (up_ M3 (M3 v0 0) 1 0) fun (M6 : AwM) => (gd_ ((kd_ sh (M6 v0 0)).1 = 1 ∧ (0 : Int) ≤ 2 ∧ 2 < ((kd_ sh (M6 v0 0)).2 : Int)) (bd_ (up_ M6 (M6 v0 0) 2 0) fun (M9 : AwM) => (gd_ (kd_ sh (M9 v0 9) = (0, 1)) (pb (fX1_clear sh M9 (M9 v0 9)) <| u1 fun (M13 : AwM) => (gd_ (kd_ sh (M13 v0 10) = (0, 1)) (pb (fX1_clear sh M13 (M13 v0 10)) <| u1 fun (M16 : AwM) => (bd_ (up_ M16 v0 11 0) fun (M17 : AwM) => (bd_ (up_ M17 v0 12 0) fun (M19 : AwM) => (some M19)))))))))))))
set_option maxRecDepth 100000 in
set_option maxHeartbeats 4000000 in
theorem mX5_clear {sh : AwS} {M : AwM} {v0 : Int} {M' : AwM} (h : fX5_clear sh M v0 = some M') : AMet yX5_clear cX5_clear 1 none 2 0 0 [.inr (.inr v0)] sh M none sh M' := by
  refine amet_of (by decide +kernel) (Nat.le_of_ble_eq_true rfl) (fun Γ hC => ?_)
  replace hC : AOK Γ RX5 cX5_clear 1 2 0 0 "clear" none := hC
  unfold fX5_clear at h
  refine aw_sub hC [some (.inr (.inr v0))] ⟨rfl, trivial⟩ (Nat.le_of_ble_eq_true rfl) ?_
  refine aw_aload_n (pc' := 1) (i := 0) hC dX5_clear_0 rfl rfl rfl ?_
  obtain ⟨g1, h⟩ := gd_s h
  refine aw_getfield (pc' := 4) (v := (.inr (.inr (M v0 0)))) hC dX5_clear_1 rfl fl_X5_9 g1 rfl ?_
  refine aw_iconst (pc' := 5) hC dX5_clear_4 rfl (by decide) ?_
  refine aw_iconst (pc' := 6) hC dX5_clear_5 rfl (by decide) ?_
  obtain ⟨g2, h⟩ := gd_s h
  obtain ⟨M3, e4, h⟩ := bd_s h
  refine aw_ias (pc' := 7) hC dX5_clear_6 rfl g2 e4 ?_
  refine aw_aload_n (pc' := 8) (i := 0) hC dX5_clear_7 rfl rfl rfl ?_
  refine aw_getfield (pc' := 11) (v := (.inr (.inr (M3 v0 0)))) hC dX5_clear_8 rfl fl_X5_9 g1 rfl ?_
  refine aw_iconst (pc' := 12) hC dX5_clear_11 rfl (by decide) ?_
  refine aw_iconst (pc' := 13) hC dX5_clear_12 rfl (by decide) ?_
  obtain ⟨g5, h⟩ := gd_s h
  obtain ⟨M6, e7, h⟩ := bd_s h
  refine aw_ias (pc' := 14) hC dX5_clear_13 rfl g5 e7 ?_
  refine aw_aload_n (pc' := 15) (i := 0) hC dX5_clear_14 rfl rfl rfl ?_
  refine aw_getfield (pc' := 18) (v := (.inr (.inr (M6 v0 0)))) hC dX5_clear_15 rfl fl_X5_9 g1 rfl ?_
  refine aw_iconst (pc' := 19) hC dX5_clear_18 rfl (by decide) ?_
  refine aw_iconst (pc' := 20) hC dX5_clear_19 rfl (by decide) ?_
  obtain ⟨g8, h⟩ := gd_s h
  obtain ⟨M9, e10, h⟩ := bd_s h
  refine aw_ias (pc' := 21) hC dX5_clear_20 rfl g8 e10 ?_
  refine aw_aload_n (pc' := 22) (i := 0) hC dX5_clear_21 rfl rfl rfl ?_
  refine aw_getfield (pc' := 25) (v := (.inr (.inr (M9 v0 9)))) hC dX5_clear_22 rfl fl_X5_42 g1 rfl ?_
  obtain ⟨g12, h⟩ := gd_s h
  obtain ⟨M13, q11, h⟩ := pb_s h
  replace h := u1_s h
  refine aw_cV (pc' := 28) (k2 := 0) (n2 := 0) (st := []) (stN := []) hC [] (mX1_clear q11) lk_X5_49 g12 dX5_clear_25 rfl rfl (Nat.le_of_ble_eq_true rfl) (Nat.le_of_ble_eq_true rfl) (Nat.le_of_ble_eq_true rfl) rfl (Nat.le_of_ble_eq_true rfl) rfl rfl rfl ?_
  refine aw_aload_n (pc' := 29) (i := 0) hC dX5_clear_28 rfl rfl rfl ?_
  refine aw_getfield (pc' := 32) (v := (.inr (.inr (M13 v0 10)))) hC dX5_clear_29 rfl fl_X5_46 g1 rfl ?_
  obtain ⟨g15, h⟩ := gd_s h
  obtain ⟨M16, q14, h⟩ := pb_s h
  replace h := u1_s h
  refine aw_cV (pc' := 35) (k2 := 0) (n2 := 0) (st := []) (stN := []) hC [] (mX1_clear q14) lk_X5_49 g15 dX5_clear_32 rfl rfl (Nat.le_of_ble_eq_true rfl) (Nat.le_of_ble_eq_true rfl) (Nat.le_of_ble_eq_true rfl) rfl (Nat.le_of_ble_eq_true rfl) rfl rfl rfl ?_
  refine aw_aload_n (pc' := 36) (i := 0) hC dX5_clear_35 rfl rfl rfl ?_
  refine aw_iconst (pc' := 37) hC dX5_clear_36 rfl (by decide) ?_
  obtain ⟨M17, e18, h⟩ := bd_s h
  refine aw_pf (pc' := 40) hC dX5_clear_37 rfl fp_X5_52 g1 rfl trivial e18 ?_
  refine aw_aload_n (pc' := 41) (i := 0) hC dX5_clear_40 rfl rfl rfl ?_
  refine aw_iconst (pc' := 42) hC dX5_clear_41 rfl (by decide) ?_
  obtain ⟨M19, e20, h⟩ := bd_s h
  refine aw_pf (pc' := 45) hC dX5_clear_42 rfl fp_X5_56 g1 rfl trivial e20 ?_
  cases h
  exact aw_vret hC dX5_clear_45 (Nat.le_of_ble_eq_true rfl) (Nat.le_of_ble_eq_true rfl)
