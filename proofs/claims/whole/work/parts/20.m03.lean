-- CoinCircle$Teller.product()Z
def fX6_product_L16 (rec : RecT_0) (sh : AwS) (v0 : Int) (v1 : Int) (v2 : Int) (M : AwM) : Option ((Int × Int × AwM) ⊕ ((AwM) ⊕ (AwM))) :=
  (if v2 < 1600 then (if v1 = (-1) then some (.inr (.inl M)) else gd_ (kd_ sh v0 = (0, 6)) (gd_ (kd_ sh (M v0 0) = (0, 4)) (pb (fX4_next sh M (M v0 0)) <| u1 fun (M13 : AwM) => (pb (rec 2 sh M13 v0 0) <| u2 fun (x15 : Int) (M16 : AwM) => ((if x15 = 0 then some (.inr (.inr M16)) else gd_ (kd_ sh (M16 v0 2) = (0, 1)) (pb (fX1_add sh M16 (M16 v0 2) v1) <| u1 fun (M20 : AwM) => (pb (fX6_productDeed sh M20 v0) <| u1 fun (x22 : Int) => (some (.inl (x22, (w32 (v2 + 1)), M20))))))))))) else some (.inr (.inl M)))
def p_X6_product_L16 (Γ : AwC) (sh : AwS) (v0 : Int) (Q : State → Prop) (s : Int × Int × AwM) : Prop := AW Γ sh (s.2.2) 0 0 16 [some (.inr (.inr v0)), some (.inl (s.1)), some (.inl (s.2.1))] [] Q
def x_X6_product_L16 (Γ : AwC) (sh : AwS) (v0 : Int) (Q : State → Prop) : ((AwM) ⊕ (AwM)) → Prop := (Sum.elim (fun (t : AwM) => AW Γ sh (t) 0 0 63 [none, none, none] [] Q) (fun (t : AwM) => AW Γ sh (t) 0 0 42 [none, none, none] [] Q))
def fX6_product_B (rec : RecT_0) (sh : AwS) (M : AwM) (v0 : Int) : Option (Int × AwM) :=
  gd_ (kd_ sh v0 = (0, 6)) (pb (rec 2 sh M v0 0) <| u2 fun (x3 : Int) (M4 : AwM) => ((if x3 = 0 then some (0, M4) else pb (fX6_productDeed sh M4 v0) <| u1 fun (x7 : Int) => (pb (lp (u3 (fX6_product_L16 rec sh v0)) FU (x7, 0, M4)) (Sum.elim (u1 (fun (tq23 : AwM) => some (1, tq23))) (u1 (fun (tq23 : AwM) => some (0, tq23))))))))
set_option maxRecDepth 100000 in
set_option maxHeartbeats 4000000 in
theorem w_X6_product_L16 {Γ : AwC} {dr : Nat} {rec : RecT_0} (hC : AOK Γ RX6 cX6_product 3 (2 + (dr + 1)) 0 0 "product" (some .boolean)) (hrec : RecH_0 rec dr) {sh : AwS} {v0 : Int} {Q : State → Prop} : ∀ s r, u3 (fX6_product_L16 rec sh v0) s = some r → (∀ s', r = .inl s' → p_X6_product_L16 Γ sh v0 Q s') → (∀ t, r = .inr t → x_X6_product_L16 Γ sh v0 Q t) → p_X6_product_L16 Γ sh v0 Q s := by
  intro s r h hL hX
  obtain ⟨v1, v2, M⟩ := s
  replace h := u3_s h
  unfold fX6_product_L16 at h
  show AW Γ sh M 0 0 16 [some (.inr (.inr v0)), some (.inl v1), some (.inl v2)] [] Q
  refine aw_iload_n (pc' := 17) (i := 2) hC dX6_product_16 rfl rfl rfl ?_
  refine aw_sipush (pc' := 20) hC dX6_product_17 rfl (by decide) ?_
  refine aw_icmp_ge (tgt := 63) (pc' := 23) hC dX6_product_20 (by decide) rfl (fun c8 => ?_) (fun c8 => ?_)
  · replace h := it_n c8 h
    refine aw_sub hC [none, none, none] trivial (Nat.le_of_ble_eq_true rfl) ?_
    cases h
    exact hX _ rfl
  · replace h := it_p c8 h
    refine aw_iload_n (pc' := 24) (i := 1) hC dX6_product_23 rfl rfl rfl ?_
    refine aw_iconst (pc' := 25) hC dX6_product_24 rfl (by decide) ?_
    refine aw_icmp_eq (tgt := 63) (pc' := 28) hC dX6_product_25 (by decide) rfl (fun c9 => ?_) (fun c9 => ?_)
    · replace h := it_p c9 h
      refine aw_sub hC [none, none, none] trivial (Nat.le_of_ble_eq_true rfl) ?_
      cases h
      exact hX _ rfl
    · replace h := it_n c9 h
      refine aw_aload_n (pc' := 29) (i := 0) hC dX6_product_28 rfl rfl rfl ?_
      obtain ⟨g10, h⟩ := gd_s h
      refine aw_getfield (pc' := 32) (v := (.inr (.inr (M v0 0)))) hC dX6_product_29 rfl fl_X6_12 g10 rfl ?_
      obtain ⟨g12, h⟩ := gd_s h
      obtain ⟨M13, q11, h⟩ := pb_s h
      replace h := u1_s h
      refine aw_cV (pc' := 35) (k2 := 0) (n2 := 0) (st := []) (stN := []) hC [] (mX4_next q11) lk_X6_127 g12 dX6_product_32 rfl rfl (by omega) (Nat.le_of_ble_eq_true rfl) (Nat.le_of_ble_eq_true rfl) rfl (Nat.le_of_ble_eq_true rfl) rfl rfl rfl ?_
      refine aw_aload_n (pc' := 36) (i := 0) hC dX6_product_35 rfl rfl rfl ?_
      obtain ⟨⟨x15, M16⟩, q14, h⟩ := pb_s h
      replace h := u2_s h
      refine aw_cV (pc' := 39) (k2 := 0) (n2 := 0) (st := []) (stN := [.inl x15]) hC [] (rh_0_2 hrec q14) lk_X6_205 g10 dX6_product_36 rfl rfl (by omega) (Nat.le_of_ble_eq_true rfl) (Nat.le_of_ble_eq_true rfl) rfl (Nat.le_of_ble_eq_true rfl) rfl rfl rfl ?_
      refine aw_if_ne (tgt := 44) (pc' := 42) hC dX6_product_39 (by decide) rfl (fun c17 => ?_) (fun c17 => ?_)
      · replace h := it_n c17 h
        refine aw_aload_n (pc' := 45) (i := 0) hC dX6_product_44 rfl rfl rfl ?_
        refine aw_getfield (pc' := 48) (v := (.inr (.inr (M16 v0 2)))) hC dX6_product_45 rfl fl_X6_29 g10 rfl ?_
        refine aw_iload_n (pc' := 49) (i := 1) hC dX6_product_48 rfl rfl rfl ?_
        obtain ⟨g19, h⟩ := gd_s h
        obtain ⟨M20, q18, h⟩ := pb_s h
        replace h := u1_s h
        refine aw_cV (pc' := 52) (k2 := 0) (n2 := 0) (st := []) (stN := []) hC [.inl v1] (mX1_add q18) lk_X6_182 g19 dX6_product_49 rfl rfl (by omega) (Nat.le_of_ble_eq_true rfl) (Nat.le_of_ble_eq_true rfl) rfl (Nat.le_of_ble_eq_true rfl) rfl rfl rfl ?_
        refine aw_aload_n (pc' := 53) (i := 0) hC dX6_product_52 rfl rfl rfl ?_
        obtain ⟨x22, q21, h⟩ := pb_s h
        replace h := u1_s h
        refine aw_cV (pc' := 56) (k2 := 0) (n2 := 0) (st := []) (stN := [.inl x22]) hC [] (mX6_productDeed q21) lk_X6_208 g10 dX6_product_53 rfl rfl (by omega) (Nat.le_of_ble_eq_true rfl) (Nat.le_of_ble_eq_true rfl) rfl (Nat.le_of_ble_eq_true rfl) rfl rfl rfl ?_
        refine aw_istore_n (pc' := 57) (i := 1) (ls' := [some (.inr (.inr v0)), some (.inl x22), some (.inl v2)]) hC dX6_product_56 rfl rfl (Nat.le_of_ble_eq_true rfl) rfl rfl ?_
        refine aw_iinc (pc' := 60) (ls' := [some (.inr (.inr v0)), some (.inl x22), some (.inl (w32 (v2 + 1)))]) hC dX6_product_57 rfl rfl rfl rfl ?_
        refine aw_goto (tgt := 16) hC dX6_product_60 (by decide) ?_
        refine aw_sub hC [some (.inr (.inr v0)), some (.inl x22), some (.inl (w32 (v2 + 1)))] ⟨rfl, ⟨rfl, ⟨rfl, trivial⟩⟩⟩ (Nat.le_of_ble_eq_true rfl) ?_
        cases h
        exact hL _ rfl
      · replace h := it_p c17 h
        refine aw_sub hC [none, none, none] trivial (Nat.le_of_ble_eq_true rfl) ?_
        cases h
        exact hX _ rfl
set_option maxRecDepth 100000 in
set_option maxHeartbeats 4000000 in
theorem mX6_product_B {dr : Nat} {rec : RecT_0} (hrec : RecH_0 rec dr) {sh : AwS} {M : AwM} {v0 : Int} {r : Int} {M' : AwM} (h : fX6_product_B rec sh M v0 = some (r, M')) : AMet yX6_product cX6_product 3 (some .boolean) (2 + (dr + 1)) 0 0 [.inr (.inr v0)] sh M (some (.inl r)) sh M' := by
  refine amet_of (by decide +kernel) (Nat.le_of_ble_eq_true rfl) (fun Γ hC => ?_)
  replace hC : AOK Γ RX6 cX6_product 3 (2 + (dr + 1)) 0 0 "product" (some .boolean) := hC
  unfold fX6_product_B at h
  refine aw_sub hC [some (.inr (.inr v0)), none, none] ⟨rfl, trivial⟩ (Nat.le_of_ble_eq_true rfl) ?_
  refine aw_aload_n (pc' := 1) (i := 0) hC dX6_product_0 rfl rfl rfl ?_
  obtain ⟨g2, h⟩ := gd_s h
  obtain ⟨⟨x3, M4⟩, q1, h⟩ := pb_s h
  replace h := u2_s h
  refine aw_cV (pc' := 4) (k2 := 0) (n2 := 0) (st := []) (stN := [.inl x3]) hC [] (rh_0_2 hrec q1) lk_X6_205 g2 dX6_product_1 rfl rfl (by omega) (Nat.le_of_ble_eq_true rfl) (Nat.le_of_ble_eq_true rfl) rfl (Nat.le_of_ble_eq_true rfl) rfl rfl rfl ?_
  refine aw_if_ne (tgt := 9) (pc' := 7) hC dX6_product_4 (by decide) rfl (fun c5 => ?_) (fun c5 => ?_)
  · replace h := it_n c5 h
    refine aw_aload_n (pc' := 10) (i := 0) hC dX6_product_9 rfl rfl rfl ?_
    obtain ⟨x7, q6, h⟩ := pb_s h
    replace h := u1_s h
    refine aw_cV (pc' := 13) (k2 := 0) (n2 := 0) (st := []) (stN := [.inl x7]) hC [] (mX6_productDeed q6) lk_X6_208 g2 dX6_product_10 rfl rfl (by omega) (Nat.le_of_ble_eq_true rfl) (Nat.le_of_ble_eq_true rfl) rfl (Nat.le_of_ble_eq_true rfl) rfl rfl rfl ?_
    refine aw_istore_n (pc' := 14) (i := 1) (ls' := [some (.inr (.inr v0)), some (.inl x7), none]) hC dX6_product_13 rfl rfl (Nat.le_of_ble_eq_true rfl) rfl rfl ?_
    refine aw_iconst (pc' := 15) hC dX6_product_14 rfl (by decide) ?_
    refine aw_istore_n (pc' := 16) (i := 2) (ls' := [some (.inr (.inr v0)), some (.inl x7), some (.inl 0)]) hC dX6_product_15 rfl rfl (Nat.le_of_ble_eq_true rfl) rfl rfl ?_
    obtain ⟨tq23, q23, h⟩ := pb_s h
    refine aw_sub hC [some (.inr (.inr v0)), some (.inl x7), some (.inl 0)] ⟨rfl, ⟨rfl, ⟨rfl, trivial⟩⟩⟩ (Nat.le_of_ble_eq_true rfl) ?_
    refine (lp_aw (p_X6_product_L16 Γ sh v0 (fin_ Γ 0 0 (some (.inl r)) sh M')) (x_X6_product_L16 Γ sh v0 (fin_ Γ 0 0 (some (.inl r)) sh M')) (w_X6_product_L16 hC hrec) FU _ _ q23 ?_ : p_X6_product_L16 Γ sh v0 (fin_ Γ 0 0 (some (.inl r)) sh M') (x7, 0, M4))
    rcases tq23 with tq23 | tq23
    · replace h := se_l h
      replace h := u1_s h
      show AW Γ sh tq23 0 0 63 [none, none, none] [] _
      refine aw_iconst (pc' := 64) hC dX6_product_63 rfl (by decide) ?_
      cases h
      exact aw_zret hC (Or.inr rfl) dX6_product_64 (Nat.le_of_ble_eq_true rfl) (Nat.le_of_ble_eq_true rfl)
    · replace h := se_r h
      replace h := u1_s h
      show AW Γ sh tq23 0 0 42 [none, none, none] [] _
      refine aw_iconst (pc' := 43) hC dX6_product_42 rfl (by decide) ?_
      cases h
      exact aw_zret hC (Or.inl rfl) dX6_product_43 (Nat.le_of_ble_eq_true rfl) (Nat.le_of_ble_eq_true rfl)
  · replace h := it_p c5 h
    refine aw_iconst (pc' := 8) hC dX6_product_7 rfl (by decide) ?_
    cases h
    exact aw_zret hC (Or.inl rfl) dX6_product_8 (Nat.le_of_ble_eq_true rfl) (Nat.le_of_ble_eq_true rfl)
-- CoinCircle$Teller.sum()Z
def fX6_sum_J61_11 (rec : RecT_0) (sh : AwS) (M : AwM) (v0 : Int) (v1 : Int) (s0 : Int) : Option ((Int × AwM) ⊕ ((AwM) ⊕ (AwM))) :=
  gd_ (kd_ sh v0 = (0, 6)) (gd_ (kd_ sh (M v0 0) = (0, 4)) (pb (fX4_next sh M (M v0 0)) <| u1 fun (M20 : AwM) => (pb (rec 3 sh M20 v0 0) <| u2 fun (x22 : Int) (M23 : AwM) => ((if x22 = 0 then some (.inr (.inr M23)) else gd_ (kd_ sh (M23 v0 2) = (0, 1)) (pb (fX1_add sh M23 (M23 v0 2) s0) <| u1 fun (M27 : AwM) => (some (.inl ((w32 (v1 + 1)), M27)))))))))
def fX6_sum_J42_11 (rec : RecT_0) (sh : AwS) (M : AwM) (v0 : Int) (v1 : Int) : Option ((Int × AwM) ⊕ ((AwM) ⊕ (AwM))) :=
  gd_ (kd_ sh v0 = (0, 6)) (gd_ (kd_ sh (M v0 0) = (0, 4)) (pb (fX4_isSign sh M (M v0 0) 43) <| u1 fun (x15 : Int) => ((if x15 = 0 then fX6_sum_J61_11 rec sh M v0 v1 (-16) else fX6_sum_J61_11 rec sh M v0 v1 (-15)))))
def fX6_sum_L11 (rec : RecT_0) (sh : AwS) (v0 : Int) (v1 : Int) (M : AwM) : Option ((Int × AwM) ⊕ ((AwM) ⊕ (AwM))) :=
  (if v1 < 1600 then gd_ (kd_ sh v0 = (0, 6)) (gd_ (kd_ sh (M v0 0) = (0, 4)) (pb (fX4_isSign sh M (M v0 0) 43) <| u1 fun (x10 : Int) => ((if x10 = 0 then pb (fX4_isSign sh M (M v0 0) 45) <| u1 fun (x29 : Int) => ((if x29 = 0 then some (.inr (.inl M)) else fX6_sum_J42_11 rec sh M v0 v1)) else fX6_sum_J42_11 rec sh M v0 v1)))) else some (.inr (.inl M)))
def p_X6_sum_L11 (Γ : AwC) (sh : AwS) (v0 : Int) (Q : State → Prop) (s : Int × AwM) : Prop := AW Γ sh (s.2) 0 0 11 [some (.inr (.inr v0)), some (.inl (s.1)), none] [] Q
def x_X6_sum_L11 (Γ : AwC) (sh : AwS) (v0 : Int) (Q : State → Prop) : ((AwM) ⊕ (AwM)) → Prop := (Sum.elim (fun (t : AwM) => AW Γ sh (t) 0 0 92 [none, none, none] [] Q) (fun (t : AwM) => AW Γ sh (t) 0 0 76 [none, none, none] [] Q))
def fX6_sum_B (rec : RecT_0) (sh : AwS) (M : AwM) (v0 : Int) : Option (Int × AwM) :=
  gd_ (kd_ sh v0 = (0, 6)) (pb (rec 3 sh M v0 0) <| u2 fun (x3 : Int) (M4 : AwM) => ((if x3 = 0 then some (0, M4) else pb (lp (u2 (fX6_sum_L11 rec sh v0)) FU (0, M4)) (Sum.elim (u1 (fun (tq31 : AwM) => some (1, tq31))) (u1 (fun (tq31 : AwM) => some (0, tq31)))))))
set_option maxRecDepth 100000 in
set_option maxHeartbeats 4000000 in
theorem w_X6_sum_J61_11 {Γ : AwC} {dr : Nat} {rec : RecT_0} (hC : AOK Γ RX6 cX6_sum 3 (2 + (dr + 1)) 0 0 "sum" (some .boolean)) (hrec : RecH_0 rec dr) {sh : AwS} {M : AwM} {v0 : Int} {v1 : Int} {s0 : Int} {Q : State → Prop} {r : (Int × AwM) ⊕ ((AwM) ⊕ (AwM))} (h : fX6_sum_J61_11 rec sh M v0 v1 s0 = some r) (hL : ∀ s', r = .inl s' → p_X6_sum_L11 Γ sh v0 Q s') (hX : ∀ t, r = .inr t → x_X6_sum_L11 Γ sh v0 Q t) : AW Γ sh M 0 0 61 [some (.inr (.inr v0)), some (.inl v1), none] [.inl s0] Q := by
  unfold fX6_sum_J61_11 at h
  refine aw_istore_n (pc' := 62) (i := 2) (ls' := [some (.inr (.inr v0)), some (.inl v1), some (.inl s0)]) hC dX6_sum_61 rfl rfl (Nat.le_of_ble_eq_true rfl) rfl rfl ?_
  refine aw_aload_n (pc' := 63) (i := 0) hC dX6_sum_62 rfl rfl rfl ?_
  obtain ⟨g17, h⟩ := gd_s h
  refine aw_getfield (pc' := 66) (v := (.inr (.inr (M v0 0)))) hC dX6_sum_63 rfl fl_X6_12 g17 rfl ?_
  obtain ⟨g19, h⟩ := gd_s h
  obtain ⟨M20, q18, h⟩ := pb_s h
  replace h := u1_s h
  refine aw_cV (pc' := 69) (k2 := 0) (n2 := 0) (st := []) (stN := []) hC [] (mX4_next q18) lk_X6_127 g19 dX6_sum_66 rfl rfl (by omega) (Nat.le_of_ble_eq_true rfl) (Nat.le_of_ble_eq_true rfl) rfl (Nat.le_of_ble_eq_true rfl) rfl rfl rfl ?_
  refine aw_aload_n (pc' := 70) (i := 0) hC dX6_sum_69 rfl rfl rfl ?_
  obtain ⟨⟨x22, M23⟩, q21, h⟩ := pb_s h
  replace h := u2_s h
  refine aw_cV (pc' := 73) (k2 := 0) (n2 := 0) (st := []) (stN := [.inl x22]) hC [] (rh_0_3 hrec q21) lk_X6_202 g17 dX6_sum_70 rfl rfl (by omega) (Nat.le_of_ble_eq_true rfl) (Nat.le_of_ble_eq_true rfl) rfl (Nat.le_of_ble_eq_true rfl) rfl rfl rfl ?_
  refine aw_if_ne (tgt := 78) (pc' := 76) hC dX6_sum_73 (by decide) rfl (fun c24 => ?_) (fun c24 => ?_)
  · replace h := it_n c24 h
    refine aw_aload_n (pc' := 79) (i := 0) hC dX6_sum_78 rfl rfl rfl ?_
    refine aw_getfield (pc' := 82) (v := (.inr (.inr (M23 v0 2)))) hC dX6_sum_79 rfl fl_X6_29 g17 rfl ?_
    refine aw_iload_n (pc' := 83) (i := 2) hC dX6_sum_82 rfl rfl rfl ?_
    obtain ⟨g26, h⟩ := gd_s h
    obtain ⟨M27, q25, h⟩ := pb_s h
    replace h := u1_s h
    refine aw_cV (pc' := 86) (k2 := 0) (n2 := 0) (st := []) (stN := []) hC [.inl s0] (mX1_add q25) lk_X6_182 g26 dX6_sum_83 rfl rfl (by omega) (Nat.le_of_ble_eq_true rfl) (Nat.le_of_ble_eq_true rfl) rfl (Nat.le_of_ble_eq_true rfl) rfl rfl rfl ?_
    refine aw_iinc (pc' := 89) (ls' := [some (.inr (.inr v0)), some (.inl (w32 (v1 + 1))), some (.inl s0)]) hC dX6_sum_86 rfl rfl rfl rfl ?_
    refine aw_goto (tgt := 11) hC dX6_sum_89 (by decide) ?_
    refine aw_sub hC [some (.inr (.inr v0)), some (.inl (w32 (v1 + 1))), none] ⟨rfl, ⟨rfl, trivial⟩⟩ (Nat.le_of_ble_eq_true rfl) ?_
    cases h
    exact hL _ rfl
  · replace h := it_p c24 h
    refine aw_sub hC [none, none, none] trivial (Nat.le_of_ble_eq_true rfl) ?_
    cases h
    exact hX _ rfl
set_option maxRecDepth 100000 in
set_option maxHeartbeats 4000000 in
theorem w_X6_sum_J42_11 {Γ : AwC} {dr : Nat} {rec : RecT_0} (hC : AOK Γ RX6 cX6_sum 3 (2 + (dr + 1)) 0 0 "sum" (some .boolean)) (hrec : RecH_0 rec dr) {sh : AwS} {M : AwM} {v0 : Int} {v1 : Int} {Q : State → Prop} {r : (Int × AwM) ⊕ ((AwM) ⊕ (AwM))} (h : fX6_sum_J42_11 rec sh M v0 v1 = some r) (hL : ∀ s', r = .inl s' → p_X6_sum_L11 Γ sh v0 Q s') (hX : ∀ t, r = .inr t → x_X6_sum_L11 Γ sh v0 Q t) : AW Γ sh M 0 0 42 [some (.inr (.inr v0)), some (.inl v1), none] [] Q := by
  unfold fX6_sum_J42_11 at h
  refine aw_aload_n (pc' := 43) (i := 0) hC dX6_sum_42 rfl rfl rfl ?_
  obtain ⟨g12, h⟩ := gd_s h
  refine aw_getfield (pc' := 46) (v := (.inr (.inr (M v0 0)))) hC dX6_sum_43 rfl fl_X6_12 g12 rfl ?_
  refine aw_bipush (pc' := 48) hC dX6_sum_46 rfl (by decide) ?_
  obtain ⟨g14, h⟩ := gd_s h
  obtain ⟨x15, q13, h⟩ := pb_s h
  replace h := u1_s h
  refine aw_cV (pc' := 51) (k2 := 0) (n2 := 0) (st := []) (stN := [.inl x15]) hC [.inl 43] (mX4_isSign q13) lk_X6_160 g14 dX6_sum_48 rfl rfl (by omega) (Nat.le_of_ble_eq_true rfl) (Nat.le_of_ble_eq_true rfl) rfl (Nat.le_of_ble_eq_true rfl) rfl rfl rfl ?_
  refine aw_if_eq (tgt := 59) (pc' := 54) hC dX6_sum_51 (by decide) rfl (fun c16 => ?_) (fun c16 => ?_)
  · replace h := it_p c16 h
    refine aw_bipush (pc' := 61) hC dX6_sum_59 rfl (by decide) ?_
    refine aw_sub hC [some (.inr (.inr v0)), some (.inl v1), none] ⟨rfl, ⟨rfl, trivial⟩⟩ (Nat.le_of_ble_eq_true rfl) ?_
    exact w_X6_sum_J61_11 hC hrec h hL hX
  · replace h := it_n c16 h
    refine aw_bipush (pc' := 56) hC dX6_sum_54 rfl (by decide) ?_
    refine aw_goto (tgt := 61) hC dX6_sum_56 (by decide) ?_
    refine aw_sub hC [some (.inr (.inr v0)), some (.inl v1), none] ⟨rfl, ⟨rfl, trivial⟩⟩ (Nat.le_of_ble_eq_true rfl) ?_
    exact w_X6_sum_J61_11 hC hrec h hL hX
set_option maxRecDepth 100000 in
set_option maxHeartbeats 4000000 in
theorem w_X6_sum_L11 {Γ : AwC} {dr : Nat} {rec : RecT_0} (hC : AOK Γ RX6 cX6_sum 3 (2 + (dr + 1)) 0 0 "sum" (some .boolean)) (hrec : RecH_0 rec dr) {sh : AwS} {v0 : Int} {Q : State → Prop} : ∀ s r, u2 (fX6_sum_L11 rec sh v0) s = some r → (∀ s', r = .inl s' → p_X6_sum_L11 Γ sh v0 Q s') → (∀ t, r = .inr t → x_X6_sum_L11 Γ sh v0 Q t) → p_X6_sum_L11 Γ sh v0 Q s := by
  intro s r h hL hX
  obtain ⟨v1, M⟩ := s
  replace h := u2_s h
  unfold fX6_sum_L11 at h
  show AW Γ sh M 0 0 11 [some (.inr (.inr v0)), some (.inl v1), none] [] Q
  refine aw_iload_n (pc' := 12) (i := 1) hC dX6_sum_11 rfl rfl rfl ?_
  refine aw_sipush (pc' := 15) hC dX6_sum_12 rfl (by decide) ?_
  refine aw_icmp_ge (tgt := 92) (pc' := 18) hC dX6_sum_15 (by decide) rfl (fun c6 => ?_) (fun c6 => ?_)
  · replace h := it_n c6 h
    refine aw_sub hC [none, none, none] trivial (Nat.le_of_ble_eq_true rfl) ?_
    cases h
    exact hX _ rfl
  · replace h := it_p c6 h
    refine aw_aload_n (pc' := 19) (i := 0) hC dX6_sum_18 rfl rfl rfl ?_
    obtain ⟨g7, h⟩ := gd_s h
    refine aw_getfield (pc' := 22) (v := (.inr (.inr (M v0 0)))) hC dX6_sum_19 rfl fl_X6_12 g7 rfl ?_
    refine aw_bipush (pc' := 24) hC dX6_sum_22 rfl (by decide) ?_
    obtain ⟨g9, h⟩ := gd_s h
    obtain ⟨x10, q8, h⟩ := pb_s h
    replace h := u1_s h
    refine aw_cV (pc' := 27) (k2 := 0) (n2 := 0) (st := []) (stN := [.inl x10]) hC [.inl 43] (mX4_isSign q8) lk_X6_160 g9 dX6_sum_24 rfl rfl (by omega) (Nat.le_of_ble_eq_true rfl) (Nat.le_of_ble_eq_true rfl) rfl (Nat.le_of_ble_eq_true rfl) rfl rfl rfl ?_
    refine aw_if_ne (tgt := 42) (pc' := 30) hC dX6_sum_27 (by decide) rfl (fun c11 => ?_) (fun c11 => ?_)
    · replace h := it_n c11 h
      refine aw_sub hC [some (.inr (.inr v0)), some (.inl v1), none] ⟨rfl, ⟨rfl, trivial⟩⟩ (Nat.le_of_ble_eq_true rfl) ?_
      exact w_X6_sum_J42_11 hC hrec h hL hX
    · replace h := it_p c11 h
      refine aw_aload_n (pc' := 31) (i := 0) hC dX6_sum_30 rfl rfl rfl ?_
      refine aw_getfield (pc' := 34) (v := (.inr (.inr (M v0 0)))) hC dX6_sum_31 rfl fl_X6_12 g7 rfl ?_
      refine aw_bipush (pc' := 36) hC dX6_sum_34 rfl (by decide) ?_
      obtain ⟨x29, q28, h⟩ := pb_s h
      replace h := u1_s h
      refine aw_cV (pc' := 39) (k2 := 0) (n2 := 0) (st := []) (stN := [.inl x29]) hC [.inl 45] (mX4_isSign q28) lk_X6_160 g9 dX6_sum_36 rfl rfl (by omega) (Nat.le_of_ble_eq_true rfl) (Nat.le_of_ble_eq_true rfl) rfl (Nat.le_of_ble_eq_true rfl) rfl rfl rfl ?_
      refine aw_if_eq (tgt := 92) (pc' := 42) hC dX6_sum_39 (by decide) rfl (fun c30 => ?_) (fun c30 => ?_)
      · replace h := it_p c30 h
        refine aw_sub hC [none, none, none] trivial (Nat.le_of_ble_eq_true rfl) ?_
        cases h
        exact hX _ rfl
      · replace h := it_n c30 h
        refine aw_sub hC [some (.inr (.inr v0)), some (.inl v1), none] ⟨rfl, ⟨rfl, trivial⟩⟩ (Nat.le_of_ble_eq_true rfl) ?_
        exact w_X6_sum_J42_11 hC hrec h hL hX
set_option maxRecDepth 100000 in
set_option maxHeartbeats 4000000 in
theorem mX6_sum_B {dr : Nat} {rec : RecT_0} (hrec : RecH_0 rec dr) {sh : AwS} {M : AwM} {v0 : Int} {r : Int} {M' : AwM} (h : fX6_sum_B rec sh M v0 = some (r, M')) : AMet yX6_sum cX6_sum 3 (some .boolean) (2 + (dr + 1)) 0 0 [.inr (.inr v0)] sh M (some (.inl r)) sh M' := by
  refine amet_of (by decide +kernel) (Nat.le_of_ble_eq_true rfl) (fun Γ hC => ?_)
  replace hC : AOK Γ RX6 cX6_sum 3 (2 + (dr + 1)) 0 0 "sum" (some .boolean) := hC
  unfold fX6_sum_B at h
  refine aw_sub hC [some (.inr (.inr v0)), none, none] ⟨rfl, trivial⟩ (Nat.le_of_ble_eq_true rfl) ?_
  refine aw_aload_n (pc' := 1) (i := 0) hC dX6_sum_0 rfl rfl rfl ?_
  obtain ⟨g2, h⟩ := gd_s h
  obtain ⟨⟨x3, M4⟩, q1, h⟩ := pb_s h
  replace h := u2_s h
  refine aw_cV (pc' := 4) (k2 := 0) (n2 := 0) (st := []) (stN := [.inl x3]) hC [] (rh_0_3 hrec q1) lk_X6_202 g2 dX6_sum_1 rfl rfl (by omega) (Nat.le_of_ble_eq_true rfl) (Nat.le_of_ble_eq_true rfl) rfl (Nat.le_of_ble_eq_true rfl) rfl rfl rfl ?_
  refine aw_if_ne (tgt := 9) (pc' := 7) hC dX6_sum_4 (by decide) rfl (fun c5 => ?_) (fun c5 => ?_)
  · replace h := it_n c5 h
    refine aw_iconst (pc' := 10) hC dX6_sum_9 rfl (by decide) ?_
    refine aw_istore_n (pc' := 11) (i := 1) (ls' := [some (.inr (.inr v0)), some (.inl 0), none]) hC dX6_sum_10 rfl rfl (Nat.le_of_ble_eq_true rfl) rfl rfl ?_
    obtain ⟨tq31, q31, h⟩ := pb_s h
    refine aw_sub hC [some (.inr (.inr v0)), some (.inl 0), none] ⟨rfl, ⟨rfl, trivial⟩⟩ (Nat.le_of_ble_eq_true rfl) ?_
    refine (lp_aw (p_X6_sum_L11 Γ sh v0 (fin_ Γ 0 0 (some (.inl r)) sh M')) (x_X6_sum_L11 Γ sh v0 (fin_ Γ 0 0 (some (.inl r)) sh M')) (w_X6_sum_L11 hC hrec) FU _ _ q31 ?_ : p_X6_sum_L11 Γ sh v0 (fin_ Γ 0 0 (some (.inl r)) sh M') (0, M4))
    rcases tq31 with tq31 | tq31
    · replace h := se_l h
      replace h := u1_s h
      show AW Γ sh tq31 0 0 92 [none, none, none] [] _
      refine aw_iconst (pc' := 93) hC dX6_sum_92 rfl (by decide) ?_
      cases h
      exact aw_zret hC (Or.inr rfl) dX6_sum_93 (Nat.le_of_ble_eq_true rfl) (Nat.le_of_ble_eq_true rfl)
    · replace h := se_r h
      replace h := u1_s h
      show AW Γ sh tq31 0 0 76 [none, none, none] [] _
      refine aw_iconst (pc' := 77) hC dX6_sum_76 rfl (by decide) ?_
      cases h
      exact aw_zret hC (Or.inl rfl) dX6_sum_77 (Nat.le_of_ble_eq_true rfl) (Nat.le_of_ble_eq_true rfl)
  · replace h := it_p c5 h
    refine aw_iconst (pc' := 8) hC dX6_sum_7 rfl (by decide) ?_
    cases h
    exact aw_zret hC (Or.inl rfl) dX6_sum_8 (Nat.le_of_ble_eq_true rfl) (Nat.le_of_ble_eq_true rfl)
set_option maxRecDepth 100000 in
set_option maxHeartbeats 4000000 in
def fRec_P0 : Nat → RecT_0
  | 0 => fun _ _ _ _ _ => none
  | D + 1 => fun j sh M v0 v1 => if j = 0 then fX6_oneOfTwo_B (fRec_P0 D) sh M v0 v1 else if j = 1 then fX6_inParentheses_B (fRec_P0 D) sh M v0 else if j = 2 then fX6_part_B (fRec_P0 D) sh M v0 else if j = 3 then fX6_product_B (fRec_P0 D) sh M v0 else if j = 4 then fX6_sum_B (fRec_P0 D) sh M v0 else none
set_option maxRecDepth 100000 in
set_option maxHeartbeats 4000000 in
theorem fRec_H0 : ∀ D : Nat, RecH_0 (fRec_P0 D) D
  | 0 => ⟨(fun h => by cases h), (fun h => by cases h), (fun h => by cases h), (fun h => by cases h), (fun h => by cases h)⟩
  | D + 1 => ⟨(fun h => mX6_oneOfTwo_B (fRec_H0 D) h), (fun h => mX6_inParentheses_B (fRec_H0 D) h), (fun h => mX6_part_B (fRec_H0 D) h), (fun h => mX6_product_B (fRec_H0 D) h), (fun h => mX6_sum_B (fRec_H0 D) h)⟩
set_option maxRecDepth 100000 in
set_option maxHeartbeats 4000000 in
def fRec_R0 : RecT_0 := fRec_P0 80
set_option maxRecDepth 100000 in
set_option maxHeartbeats 4000000 in
theorem mX6_oneOfTwo_R {sh : AwS} {M : AwM} {v0 : Int} {v1 : Int} {r : Int} {M' : AwM} (h : fRec_R0 0 sh M v0 v1 = some (r, M')) : AMet yX6_oneOfTwo cX6_oneOfTwo 2 (some .boolean) 82 0 0 [.inr (.inr v0), .inl v1] sh M (some (.inl r)) sh M' := rh_0_0 (fRec_H0 80) h
set_option maxRecDepth 100000 in
set_option maxHeartbeats 4000000 in
theorem mX6_inParentheses_R {sh : AwS} {M : AwM} {v0 : Int} {v1 : Int} {r : Int} {M' : AwM} (h : fRec_R0 1 sh M v0 v1 = some (r, M')) : AMet yX6_inParentheses cX6_inParentheses 1 (some .boolean) 82 0 0 [.inr (.inr v0)] sh M (some (.inl r)) sh M' := rh_0_1 (fRec_H0 80) h
set_option maxRecDepth 100000 in
set_option maxHeartbeats 4000000 in
theorem mX6_part_R {sh : AwS} {M : AwM} {v0 : Int} {v1 : Int} {r : Int} {M' : AwM} (h : fRec_R0 2 sh M v0 v1 = some (r, M')) : AMet yX6_part cX6_part 2 (some .boolean) 82 0 0 [.inr (.inr v0)] sh M (some (.inl r)) sh M' := rh_0_2 (fRec_H0 80) h
set_option maxRecDepth 100000 in
set_option maxHeartbeats 4000000 in
theorem mX6_product_R {sh : AwS} {M : AwM} {v0 : Int} {v1 : Int} {r : Int} {M' : AwM} (h : fRec_R0 3 sh M v0 v1 = some (r, M')) : AMet yX6_product cX6_product 3 (some .boolean) 82 0 0 [.inr (.inr v0)] sh M (some (.inl r)) sh M' := rh_0_3 (fRec_H0 80) h
set_option maxRecDepth 100000 in
set_option maxHeartbeats 4000000 in
theorem mX6_sum_R {sh : AwS} {M : AwM} {v0 : Int} {v1 : Int} {r : Int} {M' : AwM} (h : fRec_R0 4 sh M v0 v1 = some (r, M')) : AMet yX6_sum cX6_sum 3 (some .boolean) 82 0 0 [.inr (.inr v0)] sh M (some (.inl r)) sh M' := rh_0_4 (fRec_H0 80) h
-- CoinCircle$Teller.comparison()I
def fX6_comparison (sh : AwS) (M : AwM) (v0 : Int) : Option Int :=
  gd_ (kd_ sh v0 = (0, 6)) (gd_ (kd_ sh (M v0 0) = (0, 4)) (pb (fX4_isSign sh M (M v0 0) 60) <| u1 fun (x4 : Int) => ((if x4 = 0 then pb (fX4_isSign sh M (M v0 0) 62) <| u1 fun (x7 : Int) => ((if x7 = 0 then pb (fX4_isSign sh M (M v0 0) 61) <| u1 fun (x10 : Int) => ((if x10 = 0 then some (-1) else some (-14))) else some (-13))) else some (-12)))))
set_option maxRecDepth 100000 in
set_option maxHeartbeats 4000000 in
theorem mX6_comparison {sh : AwS} {M : AwM} {v0 : Int} {r : Int} (h : fX6_comparison sh M v0 = some r) : AMet yX6_comparison cX6_comparison 1 (some .int) 2 0 0 [.inr (.inr v0)] sh M (some (.inl r)) sh M := by
  refine amet_of (by decide +kernel) (Nat.le_of_ble_eq_true rfl) (fun Γ hC => ?_)
  replace hC : AOK Γ RX6 cX6_comparison 1 2 0 0 "comparison" (some .int) := hC
  unfold fX6_comparison at h
  refine aw_sub hC [some (.inr (.inr v0))] ⟨rfl, trivial⟩ (Nat.le_of_ble_eq_true rfl) ?_
  refine aw_aload_n (pc' := 1) (i := 0) hC dX6_comparison_0 rfl rfl rfl ?_
  obtain ⟨g1, h⟩ := gd_s h
  refine aw_getfield (pc' := 4) (v := (.inr (.inr (M v0 0)))) hC dX6_comparison_1 rfl fl_X6_12 g1 rfl ?_
  refine aw_bipush (pc' := 6) hC dX6_comparison_4 rfl (by decide) ?_
  obtain ⟨g3, h⟩ := gd_s h
  obtain ⟨x4, q2, h⟩ := pb_s h
  replace h := u1_s h
  refine aw_cV (pc' := 9) (k2 := 0) (n2 := 0) (st := []) (stN := [.inl x4]) hC [.inl 60] (mX4_isSign q2) lk_X6_160 g3 dX6_comparison_6 rfl rfl (Nat.le_of_ble_eq_true rfl) (Nat.le_of_ble_eq_true rfl) (Nat.le_of_ble_eq_true rfl) rfl (Nat.le_of_ble_eq_true rfl) rfl rfl rfl ?_
  refine aw_if_eq (tgt := 17) (pc' := 12) hC dX6_comparison_9 (by decide) rfl (fun c5 => ?_) (fun c5 => ?_)
  · replace h := it_p c5 h
    refine aw_aload_n (pc' := 18) (i := 0) hC dX6_comparison_17 rfl rfl rfl ?_
    refine aw_getfield (pc' := 21) (v := (.inr (.inr (M v0 0)))) hC dX6_comparison_18 rfl fl_X6_12 g1 rfl ?_
    refine aw_bipush (pc' := 23) hC dX6_comparison_21 rfl (by decide) ?_
    obtain ⟨x7, q6, h⟩ := pb_s h
    replace h := u1_s h
    refine aw_cV (pc' := 26) (k2 := 0) (n2 := 0) (st := []) (stN := [.inl x7]) hC [.inl 62] (mX4_isSign q6) lk_X6_160 g3 dX6_comparison_23 rfl rfl (Nat.le_of_ble_eq_true rfl) (Nat.le_of_ble_eq_true rfl) (Nat.le_of_ble_eq_true rfl) rfl (Nat.le_of_ble_eq_true rfl) rfl rfl rfl ?_
    refine aw_if_eq (tgt := 34) (pc' := 29) hC dX6_comparison_26 (by decide) rfl (fun c8 => ?_) (fun c8 => ?_)
    · replace h := it_p c8 h
      refine aw_aload_n (pc' := 35) (i := 0) hC dX6_comparison_34 rfl rfl rfl ?_
      refine aw_getfield (pc' := 38) (v := (.inr (.inr (M v0 0)))) hC dX6_comparison_35 rfl fl_X6_12 g1 rfl ?_
      refine aw_bipush (pc' := 40) hC dX6_comparison_38 rfl (by decide) ?_
      obtain ⟨x10, q9, h⟩ := pb_s h
      replace h := u1_s h
      refine aw_cV (pc' := 43) (k2 := 0) (n2 := 0) (st := []) (stN := [.inl x10]) hC [.inl 61] (mX4_isSign q9) lk_X6_160 g3 dX6_comparison_40 rfl rfl (Nat.le_of_ble_eq_true rfl) (Nat.le_of_ble_eq_true rfl) (Nat.le_of_ble_eq_true rfl) rfl (Nat.le_of_ble_eq_true rfl) rfl rfl rfl ?_
      refine aw_if_eq (tgt := 51) (pc' := 46) hC dX6_comparison_43 (by decide) rfl (fun c11 => ?_) (fun c11 => ?_)
      · replace h := it_p c11 h
        refine aw_iconst (pc' := 52) hC dX6_comparison_51 rfl (by decide) ?_
        cases h
        exact aw_iret hC dX6_comparison_52 (Nat.le_of_ble_eq_true rfl) (Nat.le_of_ble_eq_true rfl)
      · replace h := it_n c11 h
        refine aw_bipush (pc' := 48) hC dX6_comparison_46 rfl (by decide) ?_
        refine aw_goto (tgt := 52) hC dX6_comparison_48 (by decide) ?_
        cases h
        exact aw_iret hC dX6_comparison_52 (Nat.le_of_ble_eq_true rfl) (Nat.le_of_ble_eq_true rfl)
    · replace h := it_n c8 h
      refine aw_bipush (pc' := 31) hC dX6_comparison_29 rfl (by decide) ?_
      refine aw_goto (tgt := 52) hC dX6_comparison_31 (by decide) ?_
      cases h
      exact aw_iret hC dX6_comparison_52 (Nat.le_of_ble_eq_true rfl) (Nat.le_of_ble_eq_true rfl)
  · replace h := it_n c5 h
    refine aw_bipush (pc' := 14) hC dX6_comparison_12 rfl (by decide) ?_
    refine aw_goto (tgt := 52) hC dX6_comparison_14 (by decide) ?_
    cases h
    exact aw_iret hC dX6_comparison_52 (Nat.le_of_ble_eq_true rfl) (Nat.le_of_ble_eq_true rfl)
abbrev RecT_1 : Type := Nat → AwS → AwM → Int → Option (Int × AwM)
def RecH_1 (rec : RecT_1) (dr : Nat) : Prop := (∀ {sh : AwS} {M : AwM} {v0 : Int} {r : Int} {M' : AwM}, rec 0 sh M v0 = some (r, M') → AMet yX6_inBrackets cX6_inBrackets 1 (some .boolean) (82 + dr) 0 0 [.inr (.inr v0)] sh M (some (.inl r)) sh M') ∧ (∀ {sh : AwS} {M : AwM} {v0 : Int} {r : Int} {M' : AwM}, rec 1 sh M v0 = some (r, M') → AMet yX6_notFact cX6_notFact 1 (some .boolean) (82 + dr) 0 0 [.inr (.inr v0)] sh M (some (.inl r)) sh M') ∧ (∀ {sh : AwS} {M : AwM} {v0 : Int} {r : Int} {M' : AwM}, rec 2 sh M v0 = some (r, M') → AMet yX6_fact cX6_fact 2 (some .boolean) (82 + dr) 0 0 [.inr (.inr v0)] sh M (some (.inl r)) sh M') ∧ (∀ {sh : AwS} {M : AwM} {v0 : Int} {r : Int} {M' : AwM}, rec 3 sh M v0 = some (r, M') → AMet yX6_both cX6_both 2 (some .boolean) (82 + dr) 0 0 [.inr (.inr v0)] sh M (some (.inl r)) sh M') ∧ (∀ {sh : AwS} {M : AwM} {v0 : Int} {r : Int} {M' : AwM}, rec 4 sh M v0 = some (r, M') → AMet yX6_test cX6_test 2 (some .boolean) (82 + dr) 0 0 [.inr (.inr v0)] sh M (some (.inl r)) sh M')
set_option maxRecDepth 100000 in
set_option maxHeartbeats 4000000 in
theorem rh_1_0 {rec : RecT_1} {dr : Nat} (hrec : RecH_1 rec dr) {sh : AwS} {M : AwM} {v0 : Int} {r : Int} {M' : AwM} (h : rec 0 sh M v0 = some (r, M')) : AMet yX6_inBrackets cX6_inBrackets 1 (some .boolean) (82 + dr) 0 0 [.inr (.inr v0)] sh M (some (.inl r)) sh M' := hrec.1 h
set_option maxRecDepth 100000 in
set_option maxHeartbeats 4000000 in
theorem rh_1_1 {rec : RecT_1} {dr : Nat} (hrec : RecH_1 rec dr) {sh : AwS} {M : AwM} {v0 : Int} {r : Int} {M' : AwM} (h : rec 1 sh M v0 = some (r, M')) : AMet yX6_notFact cX6_notFact 1 (some .boolean) (82 + dr) 0 0 [.inr (.inr v0)] sh M (some (.inl r)) sh M' := hrec.2.1 h
set_option maxRecDepth 100000 in
set_option maxHeartbeats 4000000 in
theorem rh_1_2 {rec : RecT_1} {dr : Nat} (hrec : RecH_1 rec dr) {sh : AwS} {M : AwM} {v0 : Int} {r : Int} {M' : AwM} (h : rec 2 sh M v0 = some (r, M')) : AMet yX6_fact cX6_fact 2 (some .boolean) (82 + dr) 0 0 [.inr (.inr v0)] sh M (some (.inl r)) sh M' := hrec.2.2.1 h
set_option maxRecDepth 100000 in
set_option maxHeartbeats 4000000 in
theorem rh_1_3 {rec : RecT_1} {dr : Nat} (hrec : RecH_1 rec dr) {sh : AwS} {M : AwM} {v0 : Int} {r : Int} {M' : AwM} (h : rec 3 sh M v0 = some (r, M')) : AMet yX6_both cX6_both 2 (some .boolean) (82 + dr) 0 0 [.inr (.inr v0)] sh M (some (.inl r)) sh M' := hrec.2.2.2.1 h
set_option maxRecDepth 100000 in
set_option maxHeartbeats 4000000 in
theorem rh_1_4 {rec : RecT_1} {dr : Nat} (hrec : RecH_1 rec dr) {sh : AwS} {M : AwM} {v0 : Int} {r : Int} {M' : AwM} (h : rec 4 sh M v0 = some (r, M')) : AMet yX6_test cX6_test 2 (some .boolean) (82 + dr) 0 0 [.inr (.inr v0)] sh M (some (.inl r)) sh M' := hrec.2.2.2.2 h
-- CoinCircle$Teller.inBrackets()Z
def fX6_inBrackets_B (rec : RecT_1) (sh : AwS) (M : AwM) (v0 : Int) : Option (Int × AwM) :=
  gd_ (kd_ sh v0 = (0, 6)) (pb (fX6_enter sh M v0) <| u2 fun (x3 : Int) (M4 : AwM) => ((if x3 = 0 then some (0, M4) else pb (rec 4 sh M4 v0) <| u2 fun (x7 : Int) (M8 : AwM) => ((if x7 = 0 then some (0, M8) else bd_ (up_ M8 v0 3 (w32 ((M8 v0 3) - 1))) fun (M10 : AwM) => (pb (fX6_sign sh M10 v0 93) <| u2 fun (x13 : Int) (M14 : AwM) => (gd_ (x13 = 0 ∨ x13 = 1) (some (x13, M14)))))))))
set_option maxRecDepth 100000 in
set_option maxHeartbeats 4000000 in
theorem mX6_inBrackets_B {dr : Nat} {rec : RecT_1} (hrec : RecH_1 rec dr) {sh : AwS} {M : AwM} {v0 : Int} {r : Int} {M' : AwM} (h : fX6_inBrackets_B rec sh M v0 = some (r, M')) : AMet yX6_inBrackets cX6_inBrackets 1 (some .boolean) (82 + (dr + 1)) 0 0 [.inr (.inr v0)] sh M (some (.inl r)) sh M' := by
  refine amet_of (by decide +kernel) (Nat.le_of_ble_eq_true rfl) (fun Γ hC => ?_)
  replace hC : AOK Γ RX6 cX6_inBrackets 1 (82 + (dr + 1)) 0 0 "inBrackets" (some .boolean) := hC
  unfold fX6_inBrackets_B at h
  refine aw_sub hC [some (.inr (.inr v0))] ⟨rfl, trivial⟩ (Nat.le_of_ble_eq_true rfl) ?_
  refine aw_aload_n (pc' := 1) (i := 0) hC dX6_inBrackets_0 rfl rfl rfl ?_
  obtain ⟨g2, h⟩ := gd_s h
  obtain ⟨⟨x3, M4⟩, q1, h⟩ := pb_s h
  replace h := u2_s h
  refine aw_cV (pc' := 4) (k2 := 0) (n2 := 0) (st := []) (stN := [.inl x3]) hC [] (mX6_enter q1) lk_X6_199 g2 dX6_inBrackets_1 rfl rfl (by omega) (Nat.le_of_ble_eq_true rfl) (Nat.le_of_ble_eq_true rfl) rfl (Nat.le_of_ble_eq_true rfl) rfl rfl rfl ?_
  refine aw_if_eq (tgt := 14) (pc' := 7) hC dX6_inBrackets_4 (by decide) rfl (fun c5 => ?_) (fun c5 => ?_)
  · replace h := it_p c5 h
    refine aw_iconst (pc' := 15) hC dX6_inBrackets_14 rfl (by decide) ?_
    cases h
    exact aw_zret hC (Or.inl rfl) dX6_inBrackets_15 (Nat.le_of_ble_eq_true rfl) (Nat.le_of_ble_eq_true rfl)
  · replace h := it_n c5 h
    refine aw_aload_n (pc' := 8) (i := 0) hC dX6_inBrackets_7 rfl rfl rfl ?_
    obtain ⟨⟨x7, M8⟩, q6, h⟩ := pb_s h
    replace h := u2_s h
    refine aw_cV (pc' := 11) (k2 := 0) (n2 := 0) (st := []) (stN := [.inl x7]) hC [] (rh_1_4 hrec q6) lk_X6_147 g2 dX6_inBrackets_8 rfl rfl (by omega) (Nat.le_of_ble_eq_true rfl) (Nat.le_of_ble_eq_true rfl) rfl (Nat.le_of_ble_eq_true rfl) rfl rfl rfl ?_
    refine aw_if_ne (tgt := 16) (pc' := 14) hC dX6_inBrackets_11 (by decide) rfl (fun c9 => ?_) (fun c9 => ?_)
    · replace h := it_n c9 h
      refine aw_aload_n (pc' := 17) (i := 0) hC dX6_inBrackets_16 rfl rfl rfl ?_
      refine aw_dup (pc' := 18) hC dX6_inBrackets_17 rfl rfl ?_
      refine aw_getfield (pc' := 21) (v := (.inl (M8 v0 3))) hC dX6_inBrackets_18 rfl fl_X6_39 g2 rfl ?_
      refine aw_iconst (pc' := 22) hC dX6_inBrackets_21 rfl (by decide) ?_
      refine aw_isub (pc' := 23) hC dX6_inBrackets_22 rfl  ?_
      obtain ⟨M10, e11, h⟩ := bd_s h
      refine aw_pf (pc' := 26) hC dX6_inBrackets_23 rfl fp_X6_39 g2 rfl trivial e11 ?_
      refine aw_aload_n (pc' := 27) (i := 0) hC dX6_inBrackets_26 rfl rfl rfl ?_
      refine aw_bipush (pc' := 29) hC dX6_inBrackets_27 rfl (by decide) ?_
      obtain ⟨⟨x13, M14⟩, q12, h⟩ := pb_s h
      replace h := u2_s h
      refine aw_cV (pc' := 32) (k2 := 0) (n2 := 0) (st := []) (stN := [.inl x13]) hC [.inl 93] (mX6_sign q12) lk_X6_60 g2 dX6_inBrackets_29 rfl rfl (by omega) (Nat.le_of_ble_eq_true rfl) (Nat.le_of_ble_eq_true rfl) rfl (Nat.le_of_ble_eq_true rfl) rfl rfl rfl ?_
      obtain ⟨g15, h⟩ := gd_s h
      cases h
      exact aw_zret hC g15 dX6_inBrackets_32 (Nat.le_of_ble_eq_true rfl) (Nat.le_of_ble_eq_true rfl)
    · replace h := it_p c9 h
      refine aw_iconst (pc' := 15) hC dX6_inBrackets_14 rfl (by decide) ?_
      cases h
      exact aw_zret hC (Or.inl rfl) dX6_inBrackets_15 (Nat.le_of_ble_eq_true rfl) (Nat.le_of_ble_eq_true rfl)
-- CoinCircle$Teller.notFact()Z
def fX6_notFact_B (rec : RecT_1) (sh : AwS) (M : AwM) (v0 : Int) : Option (Int × AwM) :=
  gd_ (kd_ sh v0 = (0, 6)) (pb (fX6_enter sh M v0) <| u2 fun (x3 : Int) (M4 : AwM) => ((if x3 = 0 then some (0, M4) else pb (rec 2 sh M4 v0) <| u2 fun (x7 : Int) (M8 : AwM) => ((if x7 = 0 then some (0, M8) else bd_ (up_ M8 v0 3 (w32 ((M8 v0 3) - 1))) fun (M10 : AwM) => (gd_ (kd_ sh (M10 v0 2) = (0, 1)) (pb (fX1_add sh M10 (M10 v0 2) (-9)) <| u1 fun (M14 : AwM) => (some (1, M14)))))))))
set_option maxRecDepth 100000 in
set_option maxHeartbeats 4000000 in
theorem mX6_notFact_B {dr : Nat} {rec : RecT_1} (hrec : RecH_1 rec dr) {sh : AwS} {M : AwM} {v0 : Int} {r : Int} {M' : AwM} (h : fX6_notFact_B rec sh M v0 = some (r, M')) : AMet yX6_notFact cX6_notFact 1 (some .boolean) (82 + (dr + 1)) 0 0 [.inr (.inr v0)] sh M (some (.inl r)) sh M' := by
  refine amet_of (by decide +kernel) (Nat.le_of_ble_eq_true rfl) (fun Γ hC => ?_)
  replace hC : AOK Γ RX6 cX6_notFact 1 (82 + (dr + 1)) 0 0 "notFact" (some .boolean) := hC
  unfold fX6_notFact_B at h
  refine aw_sub hC [some (.inr (.inr v0))] ⟨rfl, trivial⟩ (Nat.le_of_ble_eq_true rfl) ?_
  refine aw_aload_n (pc' := 1) (i := 0) hC dX6_notFact_0 rfl rfl rfl ?_
  obtain ⟨g2, h⟩ := gd_s h
  obtain ⟨⟨x3, M4⟩, q1, h⟩ := pb_s h
  replace h := u2_s h
  refine aw_cV (pc' := 4) (k2 := 0) (n2 := 0) (st := []) (stN := [.inl x3]) hC [] (mX6_enter q1) lk_X6_199 g2 dX6_notFact_1 rfl rfl (by omega) (Nat.le_of_ble_eq_true rfl) (Nat.le_of_ble_eq_true rfl) rfl (Nat.le_of_ble_eq_true rfl) rfl rfl rfl ?_
  refine aw_if_eq (tgt := 14) (pc' := 7) hC dX6_notFact_4 (by decide) rfl (fun c5 => ?_) (fun c5 => ?_)
  · replace h := it_p c5 h
    refine aw_iconst (pc' := 15) hC dX6_notFact_14 rfl (by decide) ?_
    cases h
    exact aw_zret hC (Or.inl rfl) dX6_notFact_15 (Nat.le_of_ble_eq_true rfl) (Nat.le_of_ble_eq_true rfl)
  · replace h := it_n c5 h
    refine aw_aload_n (pc' := 8) (i := 0) hC dX6_notFact_7 rfl rfl rfl ?_
    obtain ⟨⟨x7, M8⟩, q6, h⟩ := pb_s h
    replace h := u2_s h
    refine aw_cV (pc' := 11) (k2 := 0) (n2 := 0) (st := []) (stN := [.inl x7]) hC [] (rh_1_2 hrec q6) lk_X6_186 g2 dX6_notFact_8 rfl rfl (by omega) (Nat.le_of_ble_eq_true rfl) (Nat.le_of_ble_eq_true rfl) rfl (Nat.le_of_ble_eq_true rfl) rfl rfl rfl ?_
    refine aw_if_ne (tgt := 16) (pc' := 14) hC dX6_notFact_11 (by decide) rfl (fun c9 => ?_) (fun c9 => ?_)
    · replace h := it_n c9 h
      refine aw_aload_n (pc' := 17) (i := 0) hC dX6_notFact_16 rfl rfl rfl ?_
      refine aw_dup (pc' := 18) hC dX6_notFact_17 rfl rfl ?_
      refine aw_getfield (pc' := 21) (v := (.inl (M8 v0 3))) hC dX6_notFact_18 rfl fl_X6_39 g2 rfl ?_
      refine aw_iconst (pc' := 22) hC dX6_notFact_21 rfl (by decide) ?_
      refine aw_isub (pc' := 23) hC dX6_notFact_22 rfl  ?_
      obtain ⟨M10, e11, h⟩ := bd_s h
      refine aw_pf (pc' := 26) hC dX6_notFact_23 rfl fp_X6_39 g2 rfl trivial e11 ?_
      refine aw_aload_n (pc' := 27) (i := 0) hC dX6_notFact_26 rfl rfl rfl ?_
      refine aw_getfield (pc' := 30) (v := (.inr (.inr (M10 v0 2)))) hC dX6_notFact_27 rfl fl_X6_29 g2 rfl ?_
      refine aw_bipush (pc' := 32) hC dX6_notFact_30 rfl (by decide) ?_
      obtain ⟨g13, h⟩ := gd_s h
      obtain ⟨M14, q12, h⟩ := pb_s h
      replace h := u1_s h
      refine aw_cV (pc' := 35) (k2 := 0) (n2 := 0) (st := []) (stN := []) hC [.inl (-9)] (mX1_add q12) lk_X6_182 g13 dX6_notFact_32 rfl rfl (by omega) (Nat.le_of_ble_eq_true rfl) (Nat.le_of_ble_eq_true rfl) rfl (Nat.le_of_ble_eq_true rfl) rfl rfl rfl ?_
      refine aw_iconst (pc' := 36) hC dX6_notFact_35 rfl (by decide) ?_
      cases h
      exact aw_zret hC (Or.inr rfl) dX6_notFact_36 (Nat.le_of_ble_eq_true rfl) (Nat.le_of_ble_eq_true rfl)
    · replace h := it_p c9 h
      refine aw_iconst (pc' := 15) hC dX6_notFact_14 rfl (by decide) ?_
      cases h
      exact aw_zret hC (Or.inl rfl) dX6_notFact_15 (Nat.le_of_ble_eq_true rfl) (Nat.le_of_ble_eq_true rfl)
-- CoinCircle$Teller.fact()Z
def fX6_fact_B (rec : RecT_1) (sh : AwS) (M : AwM) (v0 : Int) : Option (Int × AwM) :=
  gd_ (kd_ sh v0 = (0, 6)) (gd_ (kd_ sh (M v0 0) = (0, 4)) (pb (fX4_isOwnWord sh M (M v0 0) 19) <| u1 fun (x4 : Int) => ((if x4 = 0 then pb (fX4_isSign sh M (M v0 0) 91) <| u1 fun (x7 : Int) => ((if x7 = 0 then pb (fX4_isOwnWord sh M (M v0 0) 20) <| u1 fun (x10 : Int) => ((if x10 = 0 then pb (fRec_R0 4 sh M v0 0) <| u2 fun (x13 : Int) (M14 : AwM) => ((if x13 = 0 then some (0, M14) else pb (fX6_comparison sh M14 v0) <| u1 fun (x17 : Int) => ((if x17 = (-1) then pb (fX6_fail sh M14 v0 1) <| u2 fun (x30 : Int) (M31 : AwM) => (gd_ (x30 = 0 ∨ x30 = 1) (some (x30, M31))) else gd_ (kd_ sh (M14 v0 0) = (0, 4)) (pb (fX4_next sh M14 (M14 v0 0)) <| u1 fun (M21 : AwM) => (pb (fRec_R0 4 sh M21 v0 0) <| u2 fun (x23 : Int) (M24 : AwM) => ((if x23 = 0 then some (0, M24) else gd_ (kd_ sh (M24 v0 2) = (0, 1)) (pb (fX1_add sh M24 (M24 v0 2) x17) <| u1 fun (M28 : AwM) => (some (1, M28))))))))))) else pb (fX4_next sh M (M v0 0)) <| u1 fun (M34 : AwM) => (gd_ (kd_ sh (M34 v0 2) = (0, 1)) (pb (fX1_add sh M34 (M34 v0 2) 1) <| u1 fun (M37 : AwM) => (some (1, M37)))))) else pb (rec 0 sh M v0) <| u2 fun (x39 : Int) (M40 : AwM) => (gd_ (x39 = 0 ∨ x39 = 1) (some (x39, M40))))) else pb (rec 1 sh M v0) <| u2 fun (x43 : Int) (M44 : AwM) => (gd_ (x43 = 0 ∨ x43 = 1) (some (x43, M44)))))))
set_option maxRecDepth 100000 in
set_option maxHeartbeats 4000000 in
theorem mX6_fact_B {dr : Nat} {rec : RecT_1} (hrec : RecH_1 rec dr) {sh : AwS} {M : AwM} {v0 : Int} {r : Int} {M' : AwM} (h : fX6_fact_B rec sh M v0 = some (r, M')) : AMet yX6_fact cX6_fact 2 (some .boolean) (82 + (dr + 1)) 0 0 [.inr (.inr v0)] sh M (some (.inl r)) sh M' := by
  refine amet_of (by decide +kernel) (Nat.le_of_ble_eq_true rfl) (fun Γ hC => ?_)
  replace hC : AOK Γ RX6 cX6_fact 2 (82 + (dr + 1)) 0 0 "fact" (some .boolean) := hC
  unfold fX6_fact_B at h
  refine aw_sub hC [some (.inr (.inr v0)), none] ⟨rfl, trivial⟩ (Nat.le_of_ble_eq_true rfl) ?_
  refine aw_aload_n (pc' := 1) (i := 0) hC dX6_fact_0 rfl rfl rfl ?_
  obtain ⟨g1, h⟩ := gd_s h
  refine aw_getfield (pc' := 4) (v := (.inr (.inr (M v0 0)))) hC dX6_fact_1 rfl fl_X6_12 g1 rfl ?_
  refine aw_bipush (pc' := 6) hC dX6_fact_4 rfl (by decide) ?_
  obtain ⟨g3, h⟩ := gd_s h
  obtain ⟨x4, q2, h⟩ := pb_s h
  replace h := u1_s h
  refine aw_cV (pc' := 9) (k2 := 0) (n2 := 0) (st := []) (stN := [.inl x4]) hC [.inl 19] (mX4_isOwnWord q2) lk_X6_121 g3 dX6_fact_6 rfl rfl (by omega) (Nat.le_of_ble_eq_true rfl) (Nat.le_of_ble_eq_true rfl) rfl (Nat.le_of_ble_eq_true rfl) rfl rfl rfl ?_
  refine aw_if_eq (tgt := 17) (pc' := 12) hC dX6_fact_9 (by decide) rfl (fun c5 => ?_) (fun c5 => ?_)
  · replace h := it_p c5 h
    refine aw_aload_n (pc' := 18) (i := 0) hC dX6_fact_17 rfl rfl rfl ?_
    refine aw_getfield (pc' := 21) (v := (.inr (.inr (M v0 0)))) hC dX6_fact_18 rfl fl_X6_12 g1 rfl ?_
    refine aw_bipush (pc' := 23) hC dX6_fact_21 rfl (by decide) ?_
    obtain ⟨x7, q6, h⟩ := pb_s h
    replace h := u1_s h
    refine aw_cV (pc' := 26) (k2 := 0) (n2 := 0) (st := []) (stN := [.inl x7]) hC [.inl 91] (mX4_isSign q6) lk_X6_160 g3 dX6_fact_23 rfl rfl (by omega) (Nat.le_of_ble_eq_true rfl) (Nat.le_of_ble_eq_true rfl) rfl (Nat.le_of_ble_eq_true rfl) rfl rfl rfl ?_
    refine aw_if_eq (tgt := 34) (pc' := 29) hC dX6_fact_26 (by decide) rfl (fun c8 => ?_) (fun c8 => ?_)
    · replace h := it_p c8 h
      refine aw_aload_n (pc' := 35) (i := 0) hC dX6_fact_34 rfl rfl rfl ?_
      refine aw_getfield (pc' := 38) (v := (.inr (.inr (M v0 0)))) hC dX6_fact_35 rfl fl_X6_12 g1 rfl ?_
      refine aw_bipush (pc' := 40) hC dX6_fact_38 rfl (by decide) ?_
      obtain ⟨x10, q9, h⟩ := pb_s h
      replace h := u1_s h
      refine aw_cV (pc' := 43) (k2 := 0) (n2 := 0) (st := []) (stN := [.inl x10]) hC [.inl 20] (mX4_isOwnWord q9) lk_X6_121 g3 dX6_fact_40 rfl rfl (by omega) (Nat.le_of_ble_eq_true rfl) (Nat.le_of_ble_eq_true rfl) rfl (Nat.le_of_ble_eq_true rfl) rfl rfl rfl ?_
      refine aw_if_eq (tgt := 63) (pc' := 46) hC dX6_fact_43 (by decide) rfl (fun c11 => ?_) (fun c11 => ?_)
      · replace h := it_p c11 h
        refine aw_aload_n (pc' := 64) (i := 0) hC dX6_fact_63 rfl rfl rfl ?_
        obtain ⟨⟨x13, M14⟩, q12, h⟩ := pb_s h
        replace h := u2_s h
        refine aw_cV (pc' := 67) (k2 := 0) (n2 := 0) (st := []) (stN := [.inl x13]) hC [] (mX6_sum_R q12) lk_X6_153 g1 dX6_fact_64 rfl rfl (by omega) (Nat.le_of_ble_eq_true rfl) (Nat.le_of_ble_eq_true rfl) rfl (Nat.le_of_ble_eq_true rfl) rfl rfl rfl ?_
        refine aw_if_ne (tgt := 72) (pc' := 70) hC dX6_fact_67 (by decide) rfl (fun c15 => ?_) (fun c15 => ?_)
        · replace h := it_n c15 h
          refine aw_aload_n (pc' := 73) (i := 0) hC dX6_fact_72 rfl rfl rfl ?_
          obtain ⟨x17, q16, h⟩ := pb_s h
          replace h := u1_s h
          refine aw_cV (pc' := 76) (k2 := 0) (n2 := 0) (st := []) (stN := [.inl x17]) hC [] (mX6_comparison q16) lk_X6_195 g1 dX6_fact_73 rfl rfl (by omega) (Nat.le_of_ble_eq_true rfl) (Nat.le_of_ble_eq_true rfl) rfl (Nat.le_of_ble_eq_true rfl) rfl rfl rfl ?_
          refine aw_istore_n (pc' := 77) (i := 1) (ls' := [some (.inr (.inr v0)), some (.inl x17)]) hC dX6_fact_76 rfl rfl (Nat.le_of_ble_eq_true rfl) rfl rfl ?_
          refine aw_iload_n (pc' := 78) (i := 1) hC dX6_fact_77 rfl rfl rfl ?_
          refine aw_iconst (pc' := 79) hC dX6_fact_78 rfl (by decide) ?_
          refine aw_icmp_ne (tgt := 88) (pc' := 82) hC dX6_fact_79 (by decide) rfl (fun c18 => ?_) (fun c18 => ?_)
          · replace h := it_n c18 h
            refine aw_aload_n (pc' := 89) (i := 0) hC dX6_fact_88 rfl rfl rfl ?_
            refine aw_getfield (pc' := 92) (v := (.inr (.inr (M14 v0 0)))) hC dX6_fact_89 rfl fl_X6_12 g1 rfl ?_
            obtain ⟨g20, h⟩ := gd_s h
            obtain ⟨M21, q19, h⟩ := pb_s h
            replace h := u1_s h
            refine aw_cV (pc' := 95) (k2 := 0) (n2 := 0) (st := []) (stN := []) hC [] (mX4_next q19) lk_X6_127 g20 dX6_fact_92 rfl rfl (by omega) (Nat.le_of_ble_eq_true rfl) (Nat.le_of_ble_eq_true rfl) rfl (Nat.le_of_ble_eq_true rfl) rfl rfl rfl ?_
            refine aw_aload_n (pc' := 96) (i := 0) hC dX6_fact_95 rfl rfl rfl ?_
            obtain ⟨⟨x23, M24⟩, q22, h⟩ := pb_s h
            replace h := u2_s h
            refine aw_cV (pc' := 99) (k2 := 0) (n2 := 0) (st := []) (stN := [.inl x23]) hC [] (mX6_sum_R q22) lk_X6_153 g1 dX6_fact_96 rfl rfl (by omega) (Nat.le_of_ble_eq_true rfl) (Nat.le_of_ble_eq_true rfl) rfl (Nat.le_of_ble_eq_true rfl) rfl rfl rfl ?_
            refine aw_if_ne (tgt := 104) (pc' := 102) hC dX6_fact_99 (by decide) rfl (fun c25 => ?_) (fun c25 => ?_)
            · replace h := it_n c25 h
              refine aw_aload_n (pc' := 105) (i := 0) hC dX6_fact_104 rfl rfl rfl ?_
              refine aw_getfield (pc' := 108) (v := (.inr (.inr (M24 v0 2)))) hC dX6_fact_105 rfl fl_X6_29 g1 rfl ?_
              refine aw_iload_n (pc' := 109) (i := 1) hC dX6_fact_108 rfl rfl rfl ?_
              obtain ⟨g27, h⟩ := gd_s h
              obtain ⟨M28, q26, h⟩ := pb_s h
              replace h := u1_s h
              refine aw_cV (pc' := 112) (k2 := 0) (n2 := 0) (st := []) (stN := []) hC [.inl x17] (mX1_add q26) lk_X6_182 g27 dX6_fact_109 rfl rfl (by omega) (Nat.le_of_ble_eq_true rfl) (Nat.le_of_ble_eq_true rfl) rfl (Nat.le_of_ble_eq_true rfl) rfl rfl rfl ?_
              refine aw_iconst (pc' := 113) hC dX6_fact_112 rfl (by decide) ?_
              cases h
              exact aw_zret hC (Or.inr rfl) dX6_fact_113 (Nat.le_of_ble_eq_true rfl) (Nat.le_of_ble_eq_true rfl)
            · replace h := it_p c25 h
              refine aw_iconst (pc' := 103) hC dX6_fact_102 rfl (by decide) ?_
              cases h
              exact aw_zret hC (Or.inl rfl) dX6_fact_103 (Nat.le_of_ble_eq_true rfl) (Nat.le_of_ble_eq_true rfl)
          · replace h := it_p c18 h
            refine aw_aload_n (pc' := 83) (i := 0) hC dX6_fact_82 rfl rfl rfl ?_
            refine aw_iconst (pc' := 84) hC dX6_fact_83 rfl (by decide) ?_
            obtain ⟨⟨x30, M31⟩, q29, h⟩ := pb_s h
            replace h := u2_s h
            refine aw_cV (pc' := 87) (k2 := 0) (n2 := 0) (st := []) (stN := [.inl x30]) hC [.inl 1] (mX6_fail q29) lk_X6_52 g1 dX6_fact_84 rfl rfl (by omega) (Nat.le_of_ble_eq_true rfl) (Nat.le_of_ble_eq_true rfl) rfl (Nat.le_of_ble_eq_true rfl) rfl rfl rfl ?_
            obtain ⟨g32, h⟩ := gd_s h
            cases h
            exact aw_zret hC g32 dX6_fact_87 (Nat.le_of_ble_eq_true rfl) (Nat.le_of_ble_eq_true rfl)
        · replace h := it_p c15 h
          refine aw_iconst (pc' := 71) hC dX6_fact_70 rfl (by decide) ?_
          cases h
          exact aw_zret hC (Or.inl rfl) dX6_fact_71 (Nat.le_of_ble_eq_true rfl) (Nat.le_of_ble_eq_true rfl)
      · replace h := it_n c11 h
        refine aw_aload_n (pc' := 47) (i := 0) hC dX6_fact_46 rfl rfl rfl ?_
        refine aw_getfield (pc' := 50) (v := (.inr (.inr (M v0 0)))) hC dX6_fact_47 rfl fl_X6_12 g1 rfl ?_
        obtain ⟨M34, q33, h⟩ := pb_s h
        replace h := u1_s h
        refine aw_cV (pc' := 53) (k2 := 0) (n2 := 0) (st := []) (stN := []) hC [] (mX4_next q33) lk_X6_127 g3 dX6_fact_50 rfl rfl (by omega) (Nat.le_of_ble_eq_true rfl) (Nat.le_of_ble_eq_true rfl) rfl (Nat.le_of_ble_eq_true rfl) rfl rfl rfl ?_
        refine aw_aload_n (pc' := 54) (i := 0) hC dX6_fact_53 rfl rfl rfl ?_
        refine aw_getfield (pc' := 57) (v := (.inr (.inr (M34 v0 2)))) hC dX6_fact_54 rfl fl_X6_29 g1 rfl ?_
        refine aw_iconst (pc' := 58) hC dX6_fact_57 rfl (by decide) ?_
        obtain ⟨g36, h⟩ := gd_s h
        obtain ⟨M37, q35, h⟩ := pb_s h
        replace h := u1_s h
        refine aw_cV (pc' := 61) (k2 := 0) (n2 := 0) (st := []) (stN := []) hC [.inl 1] (mX1_add q35) lk_X6_182 g36 dX6_fact_58 rfl rfl (by omega) (Nat.le_of_ble_eq_true rfl) (Nat.le_of_ble_eq_true rfl) rfl (Nat.le_of_ble_eq_true rfl) rfl rfl rfl ?_
        refine aw_iconst (pc' := 62) hC dX6_fact_61 rfl (by decide) ?_
        cases h
        exact aw_zret hC (Or.inr rfl) dX6_fact_62 (Nat.le_of_ble_eq_true rfl) (Nat.le_of_ble_eq_true rfl)
    · replace h := it_n c8 h
      refine aw_aload_n (pc' := 30) (i := 0) hC dX6_fact_29 rfl rfl rfl ?_
      obtain ⟨⟨x39, M40⟩, q38, h⟩ := pb_s h
      replace h := u2_s h
      refine aw_cV (pc' := 33) (k2 := 0) (n2 := 0) (st := []) (stN := [.inl x39]) hC [] (rh_1_0 hrec q38) lk_X6_192 g1 dX6_fact_30 rfl rfl (by omega) (Nat.le_of_ble_eq_true rfl) (Nat.le_of_ble_eq_true rfl) rfl (Nat.le_of_ble_eq_true rfl) rfl rfl rfl ?_
      obtain ⟨g41, h⟩ := gd_s h
      cases h
      exact aw_zret hC g41 dX6_fact_33 (Nat.le_of_ble_eq_true rfl) (Nat.le_of_ble_eq_true rfl)
  · replace h := it_n c5 h
    refine aw_aload_n (pc' := 13) (i := 0) hC dX6_fact_12 rfl rfl rfl ?_
    obtain ⟨⟨x43, M44⟩, q42, h⟩ := pb_s h
    replace h := u2_s h
    refine aw_cV (pc' := 16) (k2 := 0) (n2 := 0) (st := []) (stN := [.inl x43]) hC [] (rh_1_1 hrec q42) lk_X6_189 g1 dX6_fact_13 rfl rfl (by omega) (Nat.le_of_ble_eq_true rfl) (Nat.le_of_ble_eq_true rfl) rfl (Nat.le_of_ble_eq_true rfl) rfl rfl rfl ?_
    obtain ⟨g45, h⟩ := gd_s h
    cases h
    exact aw_zret hC g45 dX6_fact_16 (Nat.le_of_ble_eq_true rfl) (Nat.le_of_ble_eq_true rfl)
-- CoinCircle$Teller.both()Z
def fX6_both_L11 (rec : RecT_1) (sh : AwS) (v0 : Int) (v1 : Int) (M : AwM) : Option ((Int × AwM) ⊕ ((AwM) ⊕ (AwM))) :=
  (if v1 < 1600 then gd_ (kd_ sh v0 = (0, 6)) (gd_ (kd_ sh (M v0 0) = (0, 4)) (pb (fX4_isOwnWord sh M (M v0 0) 18) <| u1 fun (x10 : Int) => ((if x10 = 0 then some (.inr (.inl M)) else pb (fX4_next sh M (M v0 0)) <| u1 fun (M13 : AwM) => (pb (rec 2 sh M13 v0) <| u2 fun (x15 : Int) (M16 : AwM) => ((if x15 = 0 then some (.inr (.inr M16)) else gd_ (kd_ sh (M16 v0 2) = (0, 1)) (pb (fX1_add sh M16 (M16 v0 2) (-7)) <| u1 fun (M20 : AwM) => (some (.inl ((w32 (v1 + 1)), M20))))))))))) else some (.inr (.inl M)))
def p_X6_both_L11 (Γ : AwC) (sh : AwS) (v0 : Int) (Q : State → Prop) (s : Int × AwM) : Prop := AW Γ sh (s.2) 0 0 11 [some (.inr (.inr v0)), some (.inl (s.1))] [] Q
def x_X6_both_L11 (Γ : AwC) (sh : AwS) (v0 : Int) (Q : State → Prop) : ((AwM) ⊕ (AwM)) → Prop := (Sum.elim (fun (t : AwM) => AW Γ sh (t) 0 0 61 [none, none] [] Q) (fun (t : AwM) => AW Γ sh (t) 0 0 44 [none, none] [] Q))
def fX6_both_B (rec : RecT_1) (sh : AwS) (M : AwM) (v0 : Int) : Option (Int × AwM) :=
  gd_ (kd_ sh v0 = (0, 6)) (pb (rec 2 sh M v0) <| u2 fun (x3 : Int) (M4 : AwM) => ((if x3 = 0 then some (0, M4) else pb (lp (u2 (fX6_both_L11 rec sh v0)) FU (0, M4)) (Sum.elim (u1 (fun (tq21 : AwM) => some (1, tq21))) (u1 (fun (tq21 : AwM) => some (0, tq21)))))))
set_option maxRecDepth 100000 in
set_option maxHeartbeats 4000000 in
theorem w_X6_both_L11 {Γ : AwC} {dr : Nat} {rec : RecT_1} (hC : AOK Γ RX6 cX6_both 2 (82 + (dr + 1)) 0 0 "both" (some .boolean)) (hrec : RecH_1 rec dr) {sh : AwS} {v0 : Int} {Q : State → Prop} : ∀ s r, u2 (fX6_both_L11 rec sh v0) s = some r → (∀ s', r = .inl s' → p_X6_both_L11 Γ sh v0 Q s') → (∀ t, r = .inr t → x_X6_both_L11 Γ sh v0 Q t) → p_X6_both_L11 Γ sh v0 Q s := by
  intro s r h hL hX
  obtain ⟨v1, M⟩ := s
  replace h := u2_s h
  unfold fX6_both_L11 at h
  show AW Γ sh M 0 0 11 [some (.inr (.inr v0)), some (.inl v1)] [] Q
  refine aw_iload_n (pc' := 12) (i := 1) hC dX6_both_11 rfl rfl rfl ?_
  refine aw_sipush (pc' := 15) hC dX6_both_12 rfl (by decide) ?_
  refine aw_icmp_ge (tgt := 61) (pc' := 18) hC dX6_both_15 (by decide) rfl (fun c6 => ?_) (fun c6 => ?_)
  · replace h := it_n c6 h
    refine aw_sub hC [none, none] trivial (Nat.le_of_ble_eq_true rfl) ?_
    cases h
    exact hX _ rfl
  · replace h := it_p c6 h
    refine aw_aload_n (pc' := 19) (i := 0) hC dX6_both_18 rfl rfl rfl ?_
    obtain ⟨g7, h⟩ := gd_s h
    refine aw_getfield (pc' := 22) (v := (.inr (.inr (M v0 0)))) hC dX6_both_19 rfl fl_X6_12 g7 rfl ?_
    refine aw_bipush (pc' := 24) hC dX6_both_22 rfl (by decide) ?_
    obtain ⟨g9, h⟩ := gd_s h
    obtain ⟨x10, q8, h⟩ := pb_s h
    replace h := u1_s h
    refine aw_cV (pc' := 27) (k2 := 0) (n2 := 0) (st := []) (stN := [.inl x10]) hC [.inl 18] (mX4_isOwnWord q8) lk_X6_121 g9 dX6_both_24 rfl rfl (by omega) (Nat.le_of_ble_eq_true rfl) (Nat.le_of_ble_eq_true rfl) rfl (Nat.le_of_ble_eq_true rfl) rfl rfl rfl ?_
    refine aw_if_eq (tgt := 61) (pc' := 30) hC dX6_both_27 (by decide) rfl (fun c11 => ?_) (fun c11 => ?_)
    · replace h := it_p c11 h
      refine aw_sub hC [none, none] trivial (Nat.le_of_ble_eq_true rfl) ?_
      cases h
      exact hX _ rfl
    · replace h := it_n c11 h
      refine aw_aload_n (pc' := 31) (i := 0) hC dX6_both_30 rfl rfl rfl ?_
      refine aw_getfield (pc' := 34) (v := (.inr (.inr (M v0 0)))) hC dX6_both_31 rfl fl_X6_12 g7 rfl ?_
      obtain ⟨M13, q12, h⟩ := pb_s h
      replace h := u1_s h
      refine aw_cV (pc' := 37) (k2 := 0) (n2 := 0) (st := []) (stN := []) hC [] (mX4_next q12) lk_X6_127 g9 dX6_both_34 rfl rfl (by omega) (Nat.le_of_ble_eq_true rfl) (Nat.le_of_ble_eq_true rfl) rfl (Nat.le_of_ble_eq_true rfl) rfl rfl rfl ?_
      refine aw_aload_n (pc' := 38) (i := 0) hC dX6_both_37 rfl rfl rfl ?_
      obtain ⟨⟨x15, M16⟩, q14, h⟩ := pb_s h
      replace h := u2_s h
      refine aw_cV (pc' := 41) (k2 := 0) (n2 := 0) (st := []) (stN := [.inl x15]) hC [] (rh_1_2 hrec q14) lk_X6_186 g7 dX6_both_38 rfl rfl (by omega) (Nat.le_of_ble_eq_true rfl) (Nat.le_of_ble_eq_true rfl) rfl (Nat.le_of_ble_eq_true rfl) rfl rfl rfl ?_
      refine aw_if_ne (tgt := 46) (pc' := 44) hC dX6_both_41 (by decide) rfl (fun c17 => ?_) (fun c17 => ?_)
      · replace h := it_n c17 h
        refine aw_aload_n (pc' := 47) (i := 0) hC dX6_both_46 rfl rfl rfl ?_
        refine aw_getfield (pc' := 50) (v := (.inr (.inr (M16 v0 2)))) hC dX6_both_47 rfl fl_X6_29 g7 rfl ?_
        refine aw_bipush (pc' := 52) hC dX6_both_50 rfl (by decide) ?_
        obtain ⟨g19, h⟩ := gd_s h
        obtain ⟨M20, q18, h⟩ := pb_s h
        replace h := u1_s h
        refine aw_cV (pc' := 55) (k2 := 0) (n2 := 0) (st := []) (stN := []) hC [.inl (-7)] (mX1_add q18) lk_X6_182 g19 dX6_both_52 rfl rfl (by omega) (Nat.le_of_ble_eq_true rfl) (Nat.le_of_ble_eq_true rfl) rfl (Nat.le_of_ble_eq_true rfl) rfl rfl rfl ?_
        refine aw_iinc (pc' := 58) (ls' := [some (.inr (.inr v0)), some (.inl (w32 (v1 + 1)))]) hC dX6_both_55 rfl rfl rfl rfl ?_
        refine aw_goto (tgt := 11) hC dX6_both_58 (by decide) ?_
        refine aw_sub hC [some (.inr (.inr v0)), some (.inl (w32 (v1 + 1)))] ⟨rfl, ⟨rfl, trivial⟩⟩ (Nat.le_of_ble_eq_true rfl) ?_
        cases h
        exact hL _ rfl
      · replace h := it_p c17 h
        refine aw_sub hC [none, none] trivial (Nat.le_of_ble_eq_true rfl) ?_
        cases h
        exact hX _ rfl
set_option maxRecDepth 100000 in
set_option maxHeartbeats 4000000 in
theorem mX6_both_B {dr : Nat} {rec : RecT_1} (hrec : RecH_1 rec dr) {sh : AwS} {M : AwM} {v0 : Int} {r : Int} {M' : AwM} (h : fX6_both_B rec sh M v0 = some (r, M')) : AMet yX6_both cX6_both 2 (some .boolean) (82 + (dr + 1)) 0 0 [.inr (.inr v0)] sh M (some (.inl r)) sh M' := by
  refine amet_of (by decide +kernel) (Nat.le_of_ble_eq_true rfl) (fun Γ hC => ?_)
  replace hC : AOK Γ RX6 cX6_both 2 (82 + (dr + 1)) 0 0 "both" (some .boolean) := hC
  unfold fX6_both_B at h
  refine aw_sub hC [some (.inr (.inr v0)), none] ⟨rfl, trivial⟩ (Nat.le_of_ble_eq_true rfl) ?_
  refine aw_aload_n (pc' := 1) (i := 0) hC dX6_both_0 rfl rfl rfl ?_
  obtain ⟨g2, h⟩ := gd_s h
  obtain ⟨⟨x3, M4⟩, q1, h⟩ := pb_s h
  replace h := u2_s h
  refine aw_cV (pc' := 4) (k2 := 0) (n2 := 0) (st := []) (stN := [.inl x3]) hC [] (rh_1_2 hrec q1) lk_X6_186 g2 dX6_both_1 rfl rfl (by omega) (Nat.le_of_ble_eq_true rfl) (Nat.le_of_ble_eq_true rfl) rfl (Nat.le_of_ble_eq_true rfl) rfl rfl rfl ?_
  refine aw_if_ne (tgt := 9) (pc' := 7) hC dX6_both_4 (by decide) rfl (fun c5 => ?_) (fun c5 => ?_)
  · replace h := it_n c5 h
    refine aw_iconst (pc' := 10) hC dX6_both_9 rfl (by decide) ?_
    refine aw_istore_n (pc' := 11) (i := 1) (ls' := [some (.inr (.inr v0)), some (.inl 0)]) hC dX6_both_10 rfl rfl (Nat.le_of_ble_eq_true rfl) rfl rfl ?_
    obtain ⟨tq21, q21, h⟩ := pb_s h
    refine aw_sub hC [some (.inr (.inr v0)), some (.inl 0)] ⟨rfl, ⟨rfl, trivial⟩⟩ (Nat.le_of_ble_eq_true rfl) ?_
    refine (lp_aw (p_X6_both_L11 Γ sh v0 (fin_ Γ 0 0 (some (.inl r)) sh M')) (x_X6_both_L11 Γ sh v0 (fin_ Γ 0 0 (some (.inl r)) sh M')) (w_X6_both_L11 hC hrec) FU _ _ q21 ?_ : p_X6_both_L11 Γ sh v0 (fin_ Γ 0 0 (some (.inl r)) sh M') (0, M4))
    rcases tq21 with tq21 | tq21
    · replace h := se_l h
      replace h := u1_s h
      show AW Γ sh tq21 0 0 61 [none, none] [] _
      refine aw_iconst (pc' := 62) hC dX6_both_61 rfl (by decide) ?_
      cases h
      exact aw_zret hC (Or.inr rfl) dX6_both_62 (Nat.le_of_ble_eq_true rfl) (Nat.le_of_ble_eq_true rfl)
    · replace h := se_r h
      replace h := u1_s h
      show AW Γ sh tq21 0 0 44 [none, none] [] _
      refine aw_iconst (pc' := 45) hC dX6_both_44 rfl (by decide) ?_
      cases h
      exact aw_zret hC (Or.inl rfl) dX6_both_45 (Nat.le_of_ble_eq_true rfl) (Nat.le_of_ble_eq_true rfl)
  · replace h := it_p c5 h
    refine aw_iconst (pc' := 8) hC dX6_both_7 rfl (by decide) ?_
    cases h
    exact aw_zret hC (Or.inl rfl) dX6_both_8 (Nat.le_of_ble_eq_true rfl) (Nat.le_of_ble_eq_true rfl)
-- CoinCircle$Teller.test()Z
def fX6_test_L11 (rec : RecT_1) (sh : AwS) (v0 : Int) (v1 : Int) (M : AwM) : Option ((Int × AwM) ⊕ ((AwM) ⊕ (AwM))) :=
  (if v1 < 1600 then gd_ (kd_ sh v0 = (0, 6)) (gd_ (kd_ sh (M v0 0) = (0, 4)) (pb (fX4_isOwnWord sh M (M v0 0) 17) <| u1 fun (x10 : Int) => ((if x10 = 0 then some (.inr (.inl M)) else pb (fX4_next sh M (M v0 0)) <| u1 fun (M13 : AwM) => (pb (rec 3 sh M13 v0) <| u2 fun (x15 : Int) (M16 : AwM) => ((if x15 = 0 then some (.inr (.inr M16)) else gd_ (kd_ sh (M16 v0 2) = (0, 1)) (pb (fX1_add sh M16 (M16 v0 2) (-8)) <| u1 fun (M20 : AwM) => (some (.inl ((w32 (v1 + 1)), M20))))))))))) else some (.inr (.inl M)))
def p_X6_test_L11 (Γ : AwC) (sh : AwS) (v0 : Int) (Q : State → Prop) (s : Int × AwM) : Prop := AW Γ sh (s.2) 0 0 11 [some (.inr (.inr v0)), some (.inl (s.1))] [] Q
def x_X6_test_L11 (Γ : AwC) (sh : AwS) (v0 : Int) (Q : State → Prop) : ((AwM) ⊕ (AwM)) → Prop := (Sum.elim (fun (t : AwM) => AW Γ sh (t) 0 0 61 [none, none] [] Q) (fun (t : AwM) => AW Γ sh (t) 0 0 44 [none, none] [] Q))
def fX6_test_B (rec : RecT_1) (sh : AwS) (M : AwM) (v0 : Int) : Option (Int × AwM) :=
  gd_ (kd_ sh v0 = (0, 6)) (pb (rec 3 sh M v0) <| u2 fun (x3 : Int) (M4 : AwM) => ((if x3 = 0 then some (0, M4) else pb (lp (u2 (fX6_test_L11 rec sh v0)) FU (0, M4)) (Sum.elim (u1 (fun (tq21 : AwM) => some (1, tq21))) (u1 (fun (tq21 : AwM) => some (0, tq21)))))))
set_option maxRecDepth 100000 in
set_option maxHeartbeats 4000000 in
theorem w_X6_test_L11 {Γ : AwC} {dr : Nat} {rec : RecT_1} (hC : AOK Γ RX6 cX6_test 2 (82 + (dr + 1)) 0 0 "test" (some .boolean)) (hrec : RecH_1 rec dr) {sh : AwS} {v0 : Int} {Q : State → Prop} : ∀ s r, u2 (fX6_test_L11 rec sh v0) s = some r → (∀ s', r = .inl s' → p_X6_test_L11 Γ sh v0 Q s') → (∀ t, r = .inr t → x_X6_test_L11 Γ sh v0 Q t) → p_X6_test_L11 Γ sh v0 Q s := by
  intro s r h hL hX
  obtain ⟨v1, M⟩ := s
  replace h := u2_s h
  unfold fX6_test_L11 at h
  show AW Γ sh M 0 0 11 [some (.inr (.inr v0)), some (.inl v1)] [] Q
  refine aw_iload_n (pc' := 12) (i := 1) hC dX6_test_11 rfl rfl rfl ?_
  refine aw_sipush (pc' := 15) hC dX6_test_12 rfl (by decide) ?_
  refine aw_icmp_ge (tgt := 61) (pc' := 18) hC dX6_test_15 (by decide) rfl (fun c6 => ?_) (fun c6 => ?_)
  · replace h := it_n c6 h
    refine aw_sub hC [none, none] trivial (Nat.le_of_ble_eq_true rfl) ?_
    cases h
    exact hX _ rfl
  · replace h := it_p c6 h
    refine aw_aload_n (pc' := 19) (i := 0) hC dX6_test_18 rfl rfl rfl ?_
    obtain ⟨g7, h⟩ := gd_s h
    refine aw_getfield (pc' := 22) (v := (.inr (.inr (M v0 0)))) hC dX6_test_19 rfl fl_X6_12 g7 rfl ?_
    refine aw_bipush (pc' := 24) hC dX6_test_22 rfl (by decide) ?_
    obtain ⟨g9, h⟩ := gd_s h
    obtain ⟨x10, q8, h⟩ := pb_s h
    replace h := u1_s h
    refine aw_cV (pc' := 27) (k2 := 0) (n2 := 0) (st := []) (stN := [.inl x10]) hC [.inl 17] (mX4_isOwnWord q8) lk_X6_121 g9 dX6_test_24 rfl rfl (by omega) (Nat.le_of_ble_eq_true rfl) (Nat.le_of_ble_eq_true rfl) rfl (Nat.le_of_ble_eq_true rfl) rfl rfl rfl ?_
    refine aw_if_eq (tgt := 61) (pc' := 30) hC dX6_test_27 (by decide) rfl (fun c11 => ?_) (fun c11 => ?_)
    · replace h := it_p c11 h
      refine aw_sub hC [none, none] trivial (Nat.le_of_ble_eq_true rfl) ?_
      cases h
      exact hX _ rfl
    · replace h := it_n c11 h
      refine aw_aload_n (pc' := 31) (i := 0) hC dX6_test_30 rfl rfl rfl ?_
      refine aw_getfield (pc' := 34) (v := (.inr (.inr (M v0 0)))) hC dX6_test_31 rfl fl_X6_12 g7 rfl ?_
      obtain ⟨M13, q12, h⟩ := pb_s h
      replace h := u1_s h
      refine aw_cV (pc' := 37) (k2 := 0) (n2 := 0) (st := []) (stN := []) hC [] (mX4_next q12) lk_X6_127 g9 dX6_test_34 rfl rfl (by omega) (Nat.le_of_ble_eq_true rfl) (Nat.le_of_ble_eq_true rfl) rfl (Nat.le_of_ble_eq_true rfl) rfl rfl rfl ?_
      refine aw_aload_n (pc' := 38) (i := 0) hC dX6_test_37 rfl rfl rfl ?_
      obtain ⟨⟨x15, M16⟩, q14, h⟩ := pb_s h
      replace h := u2_s h
      refine aw_cV (pc' := 41) (k2 := 0) (n2 := 0) (st := []) (stN := [.inl x15]) hC [] (rh_1_3 hrec q14) lk_X6_179 g7 dX6_test_38 rfl rfl (by omega) (Nat.le_of_ble_eq_true rfl) (Nat.le_of_ble_eq_true rfl) rfl (Nat.le_of_ble_eq_true rfl) rfl rfl rfl ?_
      refine aw_if_ne (tgt := 46) (pc' := 44) hC dX6_test_41 (by decide) rfl (fun c17 => ?_) (fun c17 => ?_)
      · replace h := it_n c17 h
        refine aw_aload_n (pc' := 47) (i := 0) hC dX6_test_46 rfl rfl rfl ?_
        refine aw_getfield (pc' := 50) (v := (.inr (.inr (M16 v0 2)))) hC dX6_test_47 rfl fl_X6_29 g7 rfl ?_
        refine aw_bipush (pc' := 52) hC dX6_test_50 rfl (by decide) ?_
        obtain ⟨g19, h⟩ := gd_s h
        obtain ⟨M20, q18, h⟩ := pb_s h
        replace h := u1_s h
        refine aw_cV (pc' := 55) (k2 := 0) (n2 := 0) (st := []) (stN := []) hC [.inl (-8)] (mX1_add q18) lk_X6_182 g19 dX6_test_52 rfl rfl (by omega) (Nat.le_of_ble_eq_true rfl) (Nat.le_of_ble_eq_true rfl) rfl (Nat.le_of_ble_eq_true rfl) rfl rfl rfl ?_
        refine aw_iinc (pc' := 58) (ls' := [some (.inr (.inr v0)), some (.inl (w32 (v1 + 1)))]) hC dX6_test_55 rfl rfl rfl rfl ?_
        refine aw_goto (tgt := 11) hC dX6_test_58 (by decide) ?_
        refine aw_sub hC [some (.inr (.inr v0)), some (.inl (w32 (v1 + 1)))] ⟨rfl, ⟨rfl, trivial⟩⟩ (Nat.le_of_ble_eq_true rfl) ?_
        cases h
        exact hL _ rfl
      · replace h := it_p c17 h
        refine aw_sub hC [none, none] trivial (Nat.le_of_ble_eq_true rfl) ?_
        cases h
        exact hX _ rfl
set_option maxRecDepth 100000 in
set_option maxHeartbeats 4000000 in
theorem mX6_test_B {dr : Nat} {rec : RecT_1} (hrec : RecH_1 rec dr) {sh : AwS} {M : AwM} {v0 : Int} {r : Int} {M' : AwM} (h : fX6_test_B rec sh M v0 = some (r, M')) : AMet yX6_test cX6_test 2 (some .boolean) (82 + (dr + 1)) 0 0 [.inr (.inr v0)] sh M (some (.inl r)) sh M' := by
  refine amet_of (by decide +kernel) (Nat.le_of_ble_eq_true rfl) (fun Γ hC => ?_)
  replace hC : AOK Γ RX6 cX6_test 2 (82 + (dr + 1)) 0 0 "test" (some .boolean) := hC
  unfold fX6_test_B at h
  refine aw_sub hC [some (.inr (.inr v0)), none] ⟨rfl, trivial⟩ (Nat.le_of_ble_eq_true rfl) ?_
  refine aw_aload_n (pc' := 1) (i := 0) hC dX6_test_0 rfl rfl rfl ?_
  obtain ⟨g2, h⟩ := gd_s h
  obtain ⟨⟨x3, M4⟩, q1, h⟩ := pb_s h
  replace h := u2_s h
  refine aw_cV (pc' := 4) (k2 := 0) (n2 := 0) (st := []) (stN := [.inl x3]) hC [] (rh_1_3 hrec q1) lk_X6_179 g2 dX6_test_1 rfl rfl (by omega) (Nat.le_of_ble_eq_true rfl) (Nat.le_of_ble_eq_true rfl) rfl (Nat.le_of_ble_eq_true rfl) rfl rfl rfl ?_
  refine aw_if_ne (tgt := 9) (pc' := 7) hC dX6_test_4 (by decide) rfl (fun c5 => ?_) (fun c5 => ?_)
  · replace h := it_n c5 h
    refine aw_iconst (pc' := 10) hC dX6_test_9 rfl (by decide) ?_
    refine aw_istore_n (pc' := 11) (i := 1) (ls' := [some (.inr (.inr v0)), some (.inl 0)]) hC dX6_test_10 rfl rfl (Nat.le_of_ble_eq_true rfl) rfl rfl ?_
    obtain ⟨tq21, q21, h⟩ := pb_s h
    refine aw_sub hC [some (.inr (.inr v0)), some (.inl 0)] ⟨rfl, ⟨rfl, trivial⟩⟩ (Nat.le_of_ble_eq_true rfl) ?_
    refine (lp_aw (p_X6_test_L11 Γ sh v0 (fin_ Γ 0 0 (some (.inl r)) sh M')) (x_X6_test_L11 Γ sh v0 (fin_ Γ 0 0 (some (.inl r)) sh M')) (w_X6_test_L11 hC hrec) FU _ _ q21 ?_ : p_X6_test_L11 Γ sh v0 (fin_ Γ 0 0 (some (.inl r)) sh M') (0, M4))
    rcases tq21 with tq21 | tq21
    · replace h := se_l h
      replace h := u1_s h
      show AW Γ sh tq21 0 0 61 [none, none] [] _
      refine aw_iconst (pc' := 62) hC dX6_test_61 rfl (by decide) ?_
      cases h
      exact aw_zret hC (Or.inr rfl) dX6_test_62 (Nat.le_of_ble_eq_true rfl) (Nat.le_of_ble_eq_true rfl)
    · replace h := se_r h
      replace h := u1_s h
      show AW Γ sh tq21 0 0 44 [none, none] [] _
      refine aw_iconst (pc' := 45) hC dX6_test_44 rfl (by decide) ?_
      cases h
      exact aw_zret hC (Or.inl rfl) dX6_test_45 (Nat.le_of_ble_eq_true rfl) (Nat.le_of_ble_eq_true rfl)
  · replace h := it_p c5 h
    refine aw_iconst (pc' := 8) hC dX6_test_7 rfl (by decide) ?_
    cases h
    exact aw_zret hC (Or.inl rfl) dX6_test_8 (Nat.le_of_ble_eq_true rfl) (Nat.le_of_ble_eq_true rfl)
set_option maxRecDepth 100000 in
set_option maxHeartbeats 4000000 in
def fRec_P1 : Nat → RecT_1
  | 0 => fun _ _ _ _ => none
  | D + 1 => fun j sh M v0 => if j = 0 then fX6_inBrackets_B (fRec_P1 D) sh M v0 else if j = 1 then fX6_notFact_B (fRec_P1 D) sh M v0 else if j = 2 then fX6_fact_B (fRec_P1 D) sh M v0 else if j = 3 then fX6_both_B (fRec_P1 D) sh M v0 else if j = 4 then fX6_test_B (fRec_P1 D) sh M v0 else none
set_option maxRecDepth 100000 in
set_option maxHeartbeats 4000000 in
theorem fRec_H1 : ∀ D : Nat, RecH_1 (fRec_P1 D) D
  | 0 => ⟨(fun h => by cases h), (fun h => by cases h), (fun h => by cases h), (fun h => by cases h), (fun h => by cases h)⟩
  | D + 1 => ⟨(fun h => mX6_inBrackets_B (fRec_H1 D) h), (fun h => mX6_notFact_B (fRec_H1 D) h), (fun h => mX6_fact_B (fRec_H1 D) h), (fun h => mX6_both_B (fRec_H1 D) h), (fun h => mX6_test_B (fRec_H1 D) h)⟩
set_option maxRecDepth 100000 in
set_option maxHeartbeats 4000000 in
def fRec_R1 : RecT_1 := fRec_P1 80
set_option maxRecDepth 100000 in
set_option maxHeartbeats 4000000 in
theorem mX6_inBrackets_R {sh : AwS} {M : AwM} {v0 : Int} {r : Int} {M' : AwM} (h : fRec_R1 0 sh M v0 = some (r, M')) : AMet yX6_inBrackets cX6_inBrackets 1 (some .boolean) 162 0 0 [.inr (.inr v0)] sh M (some (.inl r)) sh M' := rh_1_0 (fRec_H1 80) h
set_option maxRecDepth 100000 in
set_option maxHeartbeats 4000000 in
theorem mX6_notFact_R {sh : AwS} {M : AwM} {v0 : Int} {r : Int} {M' : AwM} (h : fRec_R1 1 sh M v0 = some (r, M')) : AMet yX6_notFact cX6_notFact 1 (some .boolean) 162 0 0 [.inr (.inr v0)] sh M (some (.inl r)) sh M' := rh_1_1 (fRec_H1 80) h
set_option maxRecDepth 100000 in
set_option maxHeartbeats 4000000 in
theorem mX6_fact_R {sh : AwS} {M : AwM} {v0 : Int} {r : Int} {M' : AwM} (h : fRec_R1 2 sh M v0 = some (r, M')) : AMet yX6_fact cX6_fact 2 (some .boolean) 162 0 0 [.inr (.inr v0)] sh M (some (.inl r)) sh M' := rh_1_2 (fRec_H1 80) h
set_option maxRecDepth 100000 in
set_option maxHeartbeats 4000000 in
theorem mX6_both_R {sh : AwS} {M : AwM} {v0 : Int} {r : Int} {M' : AwM} (h : fRec_R1 3 sh M v0 = some (r, M')) : AMet yX6_both cX6_both 2 (some .boolean) 162 0 0 [.inr (.inr v0)] sh M (some (.inl r)) sh M' := rh_1_3 (fRec_H1 80) h
set_option maxRecDepth 100000 in
set_option maxHeartbeats 4000000 in
theorem mX6_test_R {sh : AwS} {M : AwM} {v0 : Int} {r : Int} {M' : AwM} (h : fRec_R1 4 sh M v0 = some (r, M')) : AMet yX6_test cX6_test 2 (some .boolean) 162 0 0 [.inr (.inr v0)] sh M (some (.inl r)) sh M' := rh_1_4 (fRec_H1 80) h
-- CoinCircle$Teller.tellPresents()Z
def fX6_tellPresents (sh : AwS) (M : AwM) (v0 : Int) : Option (Int × AwM) :=
  gd_ (kd_ sh v0 = (0, 6)) (gd_ (kd_ sh (M v0 1) = (0, 5)) (gd_ (kd_ sh (M (M v0 1) 9) = (0, 1)) (pb (fX1_isTold sh M (M (M v0 1) 9)) <| u1 fun (x5 : Int) => ((if x5 = 0 then gd_ (kd_ sh (M v0 0) = (0, 4)) (pb (fX4_next sh M (M v0 0)) <| u1 fun (M9 : AwM) => (gd_ (kd_ sh (M9 v0 1) = (0, 5)) (bd_ (up_ M9 v0 2 (M9 (M9 v0 1) 9)) fun (M11 : AwM) => (pb (fRec_R1 4 sh M11 v0) <| u2 fun (x14 : Int) (M15 : AwM) => (gd_ (x14 = 0 ∨ x14 = 1) (some (x14, M15))))))) else pb (fX6_fail sh M v0 6) <| u2 fun (x18 : Int) (M19 : AwM) => (gd_ (x18 = 0 ∨ x18 = 1) (some (x18, M19))))))))
set_option maxRecDepth 100000 in
set_option maxHeartbeats 4000000 in
theorem mX6_tellPresents {sh : AwS} {M : AwM} {v0 : Int} {r : Int} {M' : AwM} (h : fX6_tellPresents sh M v0 = some (r, M')) : AMet yX6_tellPresents cX6_tellPresents 1 (some .boolean) 163 0 0 [.inr (.inr v0)] sh M (some (.inl r)) sh M' := by
  refine amet_of (by decide +kernel) (Nat.le_of_ble_eq_true rfl) (fun Γ hC => ?_)
  replace hC : AOK Γ RX6 cX6_tellPresents 1 163 0 0 "tellPresents" (some .boolean) := hC
  unfold fX6_tellPresents at h
  refine aw_sub hC [some (.inr (.inr v0))] ⟨rfl, trivial⟩ (Nat.le_of_ble_eq_true rfl) ?_
  refine aw_aload_n (pc' := 1) (i := 0) hC dX6_tellPresents_0 rfl rfl rfl ?_
  obtain ⟨g1, h⟩ := gd_s h
  refine aw_getfield (pc' := 4) (v := (.inr (.inr (M v0 1)))) hC dX6_tellPresents_1 rfl fl_X6_21 g1 rfl ?_
  obtain ⟨g2, h⟩ := gd_s h
  refine aw_getfield (pc' := 7) (v := (.inr (.inr (M (M v0 1) 9)))) hC dX6_tellPresents_4 rfl fl_X6_25 g2 rfl ?_
  obtain ⟨g4, h⟩ := gd_s h
  obtain ⟨x5, q3, h⟩ := pb_s h
  replace h := u1_s h
  refine aw_cV (pc' := 10) (k2 := 0) (n2 := 0) (st := []) (stN := [.inl x5]) hC [] (mX1_isTold q3) lk_X6_142 g4 dX6_tellPresents_7 rfl rfl (Nat.le_of_ble_eq_true rfl) (Nat.le_of_ble_eq_true rfl) (Nat.le_of_ble_eq_true rfl) rfl (Nat.le_of_ble_eq_true rfl) rfl rfl rfl ?_
  refine aw_if_eq (tgt := 20) (pc' := 13) hC dX6_tellPresents_10 (by decide) rfl (fun c6 => ?_) (fun c6 => ?_)
  · replace h := it_p c6 h
    refine aw_aload_n (pc' := 21) (i := 0) hC dX6_tellPresents_20 rfl rfl rfl ?_
    refine aw_getfield (pc' := 24) (v := (.inr (.inr (M v0 0)))) hC dX6_tellPresents_21 rfl fl_X6_12 g1 rfl ?_
    obtain ⟨g8, h⟩ := gd_s h
    obtain ⟨M9, q7, h⟩ := pb_s h
    replace h := u1_s h
    refine aw_cV (pc' := 27) (k2 := 0) (n2 := 0) (st := []) (stN := []) hC [] (mX4_next q7) lk_X6_127 g8 dX6_tellPresents_24 rfl rfl (Nat.le_of_ble_eq_true rfl) (Nat.le_of_ble_eq_true rfl) (Nat.le_of_ble_eq_true rfl) rfl (Nat.le_of_ble_eq_true rfl) rfl rfl rfl ?_
    refine aw_aload_n (pc' := 28) (i := 0) hC dX6_tellPresents_27 rfl rfl rfl ?_
    refine aw_aload_n (pc' := 29) (i := 0) hC dX6_tellPresents_28 rfl rfl rfl ?_
    refine aw_getfield (pc' := 32) (v := (.inr (.inr (M9 v0 1)))) hC dX6_tellPresents_29 rfl fl_X6_21 g1 rfl ?_
    obtain ⟨g10, h⟩ := gd_s h
    refine aw_getfield (pc' := 35) (v := (.inr (.inr (M9 (M9 v0 1) 9)))) hC dX6_tellPresents_32 rfl fl_X6_25 g10 rfl ?_
    obtain ⟨M11, e12, h⟩ := bd_s h
    refine aw_pf (pc' := 38) hC dX6_tellPresents_35 rfl fp_X6_29 g1 rfl trivial e12 ?_
    refine aw_aload_n (pc' := 39) (i := 0) hC dX6_tellPresents_38 rfl rfl rfl ?_
    obtain ⟨⟨x14, M15⟩, q13, h⟩ := pb_s h
    replace h := u2_s h
    refine aw_cV (pc' := 42) (k2 := 0) (n2 := 0) (st := []) (stN := [.inl x14]) hC [] (mX6_test_R q13) lk_X6_147 g1 dX6_tellPresents_39 rfl rfl (Nat.le_of_ble_eq_true rfl) (Nat.le_of_ble_eq_true rfl) (Nat.le_of_ble_eq_true rfl) rfl (Nat.le_of_ble_eq_true rfl) rfl rfl rfl ?_
    obtain ⟨g16, h⟩ := gd_s h
    cases h
    exact aw_zret hC g16 dX6_tellPresents_42 (Nat.le_of_ble_eq_true rfl) (Nat.le_of_ble_eq_true rfl)
  · replace h := it_n c6 h
    refine aw_aload_n (pc' := 14) (i := 0) hC dX6_tellPresents_13 rfl rfl rfl ?_
    refine aw_bipush (pc' := 16) hC dX6_tellPresents_14 rfl (by decide) ?_
    obtain ⟨⟨x18, M19⟩, q17, h⟩ := pb_s h
    replace h := u2_s h
    refine aw_cV (pc' := 19) (k2 := 0) (n2 := 0) (st := []) (stN := [.inl x18]) hC [.inl 6] (mX6_fail q17) lk_X6_52 g1 dX6_tellPresents_16 rfl rfl (Nat.le_of_ble_eq_true rfl) (Nat.le_of_ble_eq_true rfl) (Nat.le_of_ble_eq_true rfl) rfl (Nat.le_of_ble_eq_true rfl) rfl rfl rfl ?_
    obtain ⟨g20, h⟩ := gd_s h
    cases h
    exact aw_zret hC g20 dX6_tellPresents_19 (Nat.le_of_ble_eq_true rfl) (Nat.le_of_ble_eq_true rfl)
-- CoinCircle$Teller.tellPrice()Z
def fX6_tellPrice (sh : AwS) (M : AwM) (v0 : Int) : Option (Int × AwM) :=
  gd_ (kd_ sh v0 = (0, 6)) (gd_ (kd_ sh (M v0 1) = (0, 5)) (gd_ (kd_ sh (M (M v0 1) 10) = (0, 1)) (pb (fX1_isTold sh M (M (M v0 1) 10)) <| u1 fun (x5 : Int) => ((if x5 = 0 then gd_ (kd_ sh (M v0 0) = (0, 4)) (pb (fX4_next sh M (M v0 0)) <| u1 fun (M9 : AwM) => (gd_ (kd_ sh (M9 v0 1) = (0, 5)) (bd_ (up_ M9 v0 2 (M9 (M9 v0 1) 10)) fun (M11 : AwM) => (pb (fRec_R0 4 sh M11 v0 0) <| u2 fun (x14 : Int) (M15 : AwM) => (gd_ (x14 = 0 ∨ x14 = 1) (some (x14, M15))))))) else pb (fX6_fail sh M v0 6) <| u2 fun (x18 : Int) (M19 : AwM) => (gd_ (x18 = 0 ∨ x18 = 1) (some (x18, M19))))))))
set_option maxRecDepth 100000 in
set_option maxHeartbeats 4000000 in
theorem mX6_tellPrice {sh : AwS} {M : AwM} {v0 : Int} {r : Int} {M' : AwM} (h : fX6_tellPrice sh M v0 = some (r, M')) : AMet yX6_tellPrice cX6_tellPrice 1 (some .boolean) 83 0 0 [.inr (.inr v0)] sh M (some (.inl r)) sh M' := by
  refine amet_of (by decide +kernel) (Nat.le_of_ble_eq_true rfl) (fun Γ hC => ?_)
  replace hC : AOK Γ RX6 cX6_tellPrice 1 83 0 0 "tellPrice" (some .boolean) := hC
  unfold fX6_tellPrice at h
  refine aw_sub hC [some (.inr (.inr v0))] ⟨rfl, trivial⟩ (Nat.le_of_ble_eq_true rfl) ?_
  refine aw_aload_n (pc' := 1) (i := 0) hC dX6_tellPrice_0 rfl rfl rfl ?_
  obtain ⟨g1, h⟩ := gd_s h
  refine aw_getfield (pc' := 4) (v := (.inr (.inr (M v0 1)))) hC dX6_tellPrice_1 rfl fl_X6_21 g1 rfl ?_
  obtain ⟨g2, h⟩ := gd_s h
  refine aw_getfield (pc' := 7) (v := (.inr (.inr (M (M v0 1) 10)))) hC dX6_tellPrice_4 rfl fl_X6_150 g2 rfl ?_
  obtain ⟨g4, h⟩ := gd_s h
  obtain ⟨x5, q3, h⟩ := pb_s h
  replace h := u1_s h
  refine aw_cV (pc' := 10) (k2 := 0) (n2 := 0) (st := []) (stN := [.inl x5]) hC [] (mX1_isTold q3) lk_X6_142 g4 dX6_tellPrice_7 rfl rfl (Nat.le_of_ble_eq_true rfl) (Nat.le_of_ble_eq_true rfl) (Nat.le_of_ble_eq_true rfl) rfl (Nat.le_of_ble_eq_true rfl) rfl rfl rfl ?_
  refine aw_if_eq (tgt := 20) (pc' := 13) hC dX6_tellPrice_10 (by decide) rfl (fun c6 => ?_) (fun c6 => ?_)
  · replace h := it_p c6 h
    refine aw_aload_n (pc' := 21) (i := 0) hC dX6_tellPrice_20 rfl rfl rfl ?_
    refine aw_getfield (pc' := 24) (v := (.inr (.inr (M v0 0)))) hC dX6_tellPrice_21 rfl fl_X6_12 g1 rfl ?_
    obtain ⟨g8, h⟩ := gd_s h
    obtain ⟨M9, q7, h⟩ := pb_s h
    replace h := u1_s h
    refine aw_cV (pc' := 27) (k2 := 0) (n2 := 0) (st := []) (stN := []) hC [] (mX4_next q7) lk_X6_127 g8 dX6_tellPrice_24 rfl rfl (Nat.le_of_ble_eq_true rfl) (Nat.le_of_ble_eq_true rfl) (Nat.le_of_ble_eq_true rfl) rfl (Nat.le_of_ble_eq_true rfl) rfl rfl rfl ?_
    refine aw_aload_n (pc' := 28) (i := 0) hC dX6_tellPrice_27 rfl rfl rfl ?_
    refine aw_aload_n (pc' := 29) (i := 0) hC dX6_tellPrice_28 rfl rfl rfl ?_
    refine aw_getfield (pc' := 32) (v := (.inr (.inr (M9 v0 1)))) hC dX6_tellPrice_29 rfl fl_X6_21 g1 rfl ?_
    obtain ⟨g10, h⟩ := gd_s h
    refine aw_getfield (pc' := 35) (v := (.inr (.inr (M9 (M9 v0 1) 10)))) hC dX6_tellPrice_32 rfl fl_X6_150 g10 rfl ?_
    obtain ⟨M11, e12, h⟩ := bd_s h
    refine aw_pf (pc' := 38) hC dX6_tellPrice_35 rfl fp_X6_29 g1 rfl trivial e12 ?_
    refine aw_aload_n (pc' := 39) (i := 0) hC dX6_tellPrice_38 rfl rfl rfl ?_
    obtain ⟨⟨x14, M15⟩, q13, h⟩ := pb_s h
    replace h := u2_s h
    refine aw_cV (pc' := 42) (k2 := 0) (n2 := 0) (st := []) (stN := [.inl x14]) hC [] (mX6_sum_R q13) lk_X6_153 g1 dX6_tellPrice_39 rfl rfl (Nat.le_of_ble_eq_true rfl) (Nat.le_of_ble_eq_true rfl) (Nat.le_of_ble_eq_true rfl) rfl (Nat.le_of_ble_eq_true rfl) rfl rfl rfl ?_
    obtain ⟨g16, h⟩ := gd_s h
    cases h
    exact aw_zret hC g16 dX6_tellPrice_42 (Nat.le_of_ble_eq_true rfl) (Nat.le_of_ble_eq_true rfl)
  · replace h := it_n c6 h
    refine aw_aload_n (pc' := 14) (i := 0) hC dX6_tellPrice_13 rfl rfl rfl ?_
    refine aw_bipush (pc' := 16) hC dX6_tellPrice_14 rfl (by decide) ?_
    obtain ⟨⟨x18, M19⟩, q17, h⟩ := pb_s h
    replace h := u2_s h
    refine aw_cV (pc' := 19) (k2 := 0) (n2 := 0) (st := []) (stN := [.inl x18]) hC [.inl 6] (mX6_fail q17) lk_X6_52 g1 dX6_tellPrice_16 rfl rfl (Nat.le_of_ble_eq_true rfl) (Nat.le_of_ble_eq_true rfl) (Nat.le_of_ble_eq_true rfl) rfl (Nat.le_of_ble_eq_true rfl) rfl rfl rfl ?_
    obtain ⟨g20, h⟩ := gd_s h
    cases h
    exact aw_zret hC g20 dX6_tellPrice_19 (Nat.le_of_ble_eq_true rfl) (Nat.le_of_ble_eq_true rfl)
-- CoinCircle$Teller.statement()Z
def fX6_statement_J22 (sh : AwS) (M : AwM) (v0 : Int) (s0 : Int) : Option (Int × AwM) :=
  (if s0 = 0 then gd_ (kd_ sh v0 = (0, 6)) (pb (fX6_tellPerson sh M v0) <| u2 fun (x19 : Int) (M20 : AwM) => (gd_ (x19 = 0 ∨ x19 = 1) (some (x19, M20)))) else (if s0 = 1 then gd_ (kd_ sh v0 = (0, 6)) (pb (fX6_fail sh M v0 1) <| u2 fun (x24 : Int) (M25 : AwM) => (gd_ (x24 = 0 ∨ x24 = 1) (some (x24, M25)))) else (if s0 = 2 then gd_ (kd_ sh v0 = (0, 6)) (pb (fX6_tellCoin sh M v0) <| u2 fun (x29 : Int) (M30 : AwM) => (gd_ (x29 = 0 ∨ x29 = 1) (some (x29, M30)))) else (if s0 = 3 then gd_ (kd_ sh v0 = (0, 6)) (pb (fX6_fail sh M v0 1) <| u2 fun (x34 : Int) (M35 : AwM) => (gd_ (x34 = 0 ∨ x34 = 1) (some (x34, M35)))) else (if s0 = 4 then gd_ (kd_ sh v0 = (0, 6)) (pb (fX6_fail sh M v0 1) <| u2 fun (x39 : Int) (M40 : AwM) => (gd_ (x39 = 0 ∨ x39 = 1) (some (x39, M40)))) else (if s0 = 5 then gd_ (kd_ sh v0 = (0, 6)) (pb (fX6_fail sh M v0 1) <| u2 fun (x44 : Int) (M45 : AwM) => (gd_ (x44 = 0 ∨ x44 = 1) (some (x44, M45)))) else (if s0 = 6 then gd_ (kd_ sh v0 = (0, 6)) (pb (fX6_tellGoods sh M v0) <| u2 fun (x49 : Int) (M50 : AwM) => (gd_ (x49 = 0 ∨ x49 = 1) (some (x49, M50)))) else (if s0 = 7 then gd_ (kd_ sh v0 = (0, 6)) (pb (fX6_fail sh M v0 1) <| u2 fun (x54 : Int) (M55 : AwM) => (gd_ (x54 = 0 ∨ x54 = 1) (some (x54, M55)))) else (if s0 = 8 then gd_ (kd_ sh v0 = (0, 6)) (pb (fX6_tellSnub sh M v0) <| u2 fun (x59 : Int) (M60 : AwM) => (gd_ (x59 = 0 ∨ x59 = 1) (some (x59, M60)))) else (if s0 = 9 then gd_ (kd_ sh v0 = (0, 6)) (pb (fX6_tellFades sh M v0) <| u2 fun (x64 : Int) (M65 : AwM) => (gd_ (x64 = 0 ∨ x64 = 1) (some (x64, M65)))) else (if s0 = 10 then gd_ (kd_ sh v0 = (0, 6)) (pb (fX6_tellVogue sh M v0) <| u2 fun (x69 : Int) (M70 : AwM) => (gd_ (x69 = 0 ∨ x69 = 1) (some (x69, M70)))) else (if s0 = 11 then gd_ (kd_ sh v0 = (0, 6)) (pb (fX6_tellPresents sh M v0) <| u2 fun (x74 : Int) (M75 : AwM) => (gd_ (x74 = 0 ∨ x74 = 1) (some (x74, M75)))) else (if s0 = 12 then gd_ (kd_ sh v0 = (0, 6)) (pb (fX6_tellPrice sh M v0) <| u2 fun (x79 : Int) (M80 : AwM) => (gd_ (x79 = 0 ∨ x79 = 1) (some (x79, M80)))) else gd_ (kd_ sh v0 = (0, 6)) (pb (fX6_fail sh M v0 1) <| u2 fun (x84 : Int) (M85 : AwM) => (gd_ (x84 = 0 ∨ x84 = 1) (some (x84, M85)))))))))))))))))
def fX6_statement (sh : AwS) (M : AwM) (v0 : Int) : Option (Int × AwM) :=
  gd_ (kd_ sh v0 = (0, 6)) (gd_ (kd_ sh (M v0 0) = (0, 4)) ((if (M (M v0 0) 8) = 4 then fX6_statement_J22 sh M v0 (M (M v0 0) 9) else fX6_statement_J22 sh M v0 (-1))))
set_option maxRecDepth 100000 in
set_option maxHeartbeats 4000000 in
theorem w_X6_statement_J22 {Γ : AwC} (hC : AOK Γ RX6 cX6_statement 1 164 0 0 "statement" (some .boolean)) {sh : AwS} {M : AwM} {v0 : Int} {s0 : Int} {r : Int} {M' : AwM} (h : fX6_statement_J22 sh M v0 s0 = some (r, M')) {Q : State → Prop} (hQ : Q = (fin_ Γ 0 0 (some (.inl r)) sh M')) : AW Γ sh M 0 0 22 [some (.inr (.inr v0))] [.inl s0] Q := by
  unfold fX6_statement_J22 at h
  by_cases c4 : s0 = 0
  · replace h := it_p c4 h
    refine aw_tsIn (tgt := 88) (off := 66) hC dX6_statement_22 ⟨by omega, by omega, by rw [c4]; rfl⟩ (by decide) ?_
    refine aw_aload_n (pc' := 89) (i := 0) hC dX6_statement_88 rfl rfl rfl ?_
    obtain ⟨g18, h⟩ := gd_s h
    obtain ⟨⟨x19, M20⟩, q17, h⟩ := pb_s h
    replace h := u2_s h
    refine aw_cV (pc' := 92) (k2 := 0) (n2 := 0) (st := []) (stN := [.inl x19]) hC [] (mX6_tellPerson q17) lk_X6_67 g18 dX6_statement_89 rfl rfl (Nat.le_of_ble_eq_true rfl) (Nat.le_of_ble_eq_true rfl) (Nat.le_of_ble_eq_true rfl) rfl (Nat.le_of_ble_eq_true rfl) rfl rfl rfl ?_
    obtain ⟨g21, h⟩ := gd_s h
    cases h
    subst hQ
    exact aw_zret hC g21 dX6_statement_92 (Nat.le_of_ble_eq_true rfl) (Nat.le_of_ble_eq_true rfl)
  · replace h := it_n c4 h
    by_cases c5 : s0 = 1
    · replace h := it_p c5 h
      refine aw_tsIn (tgt := 128) (off := 106) hC dX6_statement_22 ⟨by omega, by omega, by rw [c5]; rfl⟩ (by decide) ?_
      refine aw_aload_n (pc' := 129) (i := 0) hC dX6_statement_128 rfl rfl rfl ?_
      refine aw_iconst (pc' := 130) hC dX6_statement_129 rfl (by decide) ?_
      obtain ⟨g23, h⟩ := gd_s h
      obtain ⟨⟨x24, M25⟩, q22, h⟩ := pb_s h
      replace h := u2_s h
      refine aw_cV (pc' := 133) (k2 := 0) (n2 := 0) (st := []) (stN := [.inl x24]) hC [.inl 1] (mX6_fail q22) lk_X6_52 g23 dX6_statement_130 rfl rfl (Nat.le_of_ble_eq_true rfl) (Nat.le_of_ble_eq_true rfl) (Nat.le_of_ble_eq_true rfl) rfl (Nat.le_of_ble_eq_true rfl) rfl rfl rfl ?_
      obtain ⟨g26, h⟩ := gd_s h
      cases h
      subst hQ
      exact aw_zret hC g26 dX6_statement_133 (Nat.le_of_ble_eq_true rfl) (Nat.le_of_ble_eq_true rfl)
    · replace h := it_n c5 h
      by_cases c6 : s0 = 2
      · replace h := it_p c6 h
        refine aw_tsIn (tgt := 93) (off := 71) hC dX6_statement_22 ⟨by omega, by omega, by rw [c6]; rfl⟩ (by decide) ?_
        refine aw_aload_n (pc' := 94) (i := 0) hC dX6_statement_93 rfl rfl rfl ?_
        obtain ⟨g28, h⟩ := gd_s h
        obtain ⟨⟨x29, M30⟩, q27, h⟩ := pb_s h
        replace h := u2_s h
        refine aw_cV (pc' := 97) (k2 := 0) (n2 := 0) (st := []) (stN := [.inl x29]) hC [] (mX6_tellCoin q27) lk_X6_70 g28 dX6_statement_94 rfl rfl (Nat.le_of_ble_eq_true rfl) (Nat.le_of_ble_eq_true rfl) (Nat.le_of_ble_eq_true rfl) rfl (Nat.le_of_ble_eq_true rfl) rfl rfl rfl ?_
        obtain ⟨g31, h⟩ := gd_s h
        cases h
        subst hQ
        exact aw_zret hC g31 dX6_statement_97 (Nat.le_of_ble_eq_true rfl) (Nat.le_of_ble_eq_true rfl)
      · replace h := it_n c6 h
        by_cases c7 : s0 = 3
        · replace h := it_p c7 h
          refine aw_tsIn (tgt := 128) (off := 106) hC dX6_statement_22 ⟨by omega, by omega, by rw [c7]; rfl⟩ (by decide) ?_
          refine aw_aload_n (pc' := 129) (i := 0) hC dX6_statement_128 rfl rfl rfl ?_
          refine aw_iconst (pc' := 130) hC dX6_statement_129 rfl (by decide) ?_
          obtain ⟨g33, h⟩ := gd_s h
          obtain ⟨⟨x34, M35⟩, q32, h⟩ := pb_s h
          replace h := u2_s h
          refine aw_cV (pc' := 133) (k2 := 0) (n2 := 0) (st := []) (stN := [.inl x34]) hC [.inl 1] (mX6_fail q32) lk_X6_52 g33 dX6_statement_130 rfl rfl (Nat.le_of_ble_eq_true rfl) (Nat.le_of_ble_eq_true rfl) (Nat.le_of_ble_eq_true rfl) rfl (Nat.le_of_ble_eq_true rfl) rfl rfl rfl ?_
          obtain ⟨g36, h⟩ := gd_s h
          cases h
          subst hQ
          exact aw_zret hC g36 dX6_statement_133 (Nat.le_of_ble_eq_true rfl) (Nat.le_of_ble_eq_true rfl)
        · replace h := it_n c7 h
          by_cases c8 : s0 = 4
          · replace h := it_p c8 h
            refine aw_tsIn (tgt := 128) (off := 106) hC dX6_statement_22 ⟨by omega, by omega, by rw [c8]; rfl⟩ (by decide) ?_
            refine aw_aload_n (pc' := 129) (i := 0) hC dX6_statement_128 rfl rfl rfl ?_
            refine aw_iconst (pc' := 130) hC dX6_statement_129 rfl (by decide) ?_
            obtain ⟨g38, h⟩ := gd_s h
            obtain ⟨⟨x39, M40⟩, q37, h⟩ := pb_s h
            replace h := u2_s h
            refine aw_cV (pc' := 133) (k2 := 0) (n2 := 0) (st := []) (stN := [.inl x39]) hC [.inl 1] (mX6_fail q37) lk_X6_52 g38 dX6_statement_130 rfl rfl (Nat.le_of_ble_eq_true rfl) (Nat.le_of_ble_eq_true rfl) (Nat.le_of_ble_eq_true rfl) rfl (Nat.le_of_ble_eq_true rfl) rfl rfl rfl ?_
            obtain ⟨g41, h⟩ := gd_s h
            cases h
            subst hQ
            exact aw_zret hC g41 dX6_statement_133 (Nat.le_of_ble_eq_true rfl) (Nat.le_of_ble_eq_true rfl)
          · replace h := it_n c8 h
            by_cases c9 : s0 = 5
            · replace h := it_p c9 h
              refine aw_tsIn (tgt := 128) (off := 106) hC dX6_statement_22 ⟨by omega, by omega, by rw [c9]; rfl⟩ (by decide) ?_
              refine aw_aload_n (pc' := 129) (i := 0) hC dX6_statement_128 rfl rfl rfl ?_
              refine aw_iconst (pc' := 130) hC dX6_statement_129 rfl (by decide) ?_
              obtain ⟨g43, h⟩ := gd_s h
              obtain ⟨⟨x44, M45⟩, q42, h⟩ := pb_s h
              replace h := u2_s h
              refine aw_cV (pc' := 133) (k2 := 0) (n2 := 0) (st := []) (stN := [.inl x44]) hC [.inl 1] (mX6_fail q42) lk_X6_52 g43 dX6_statement_130 rfl rfl (Nat.le_of_ble_eq_true rfl) (Nat.le_of_ble_eq_true rfl) (Nat.le_of_ble_eq_true rfl) rfl (Nat.le_of_ble_eq_true rfl) rfl rfl rfl ?_
              obtain ⟨g46, h⟩ := gd_s h
              cases h
              subst hQ
              exact aw_zret hC g46 dX6_statement_133 (Nat.le_of_ble_eq_true rfl) (Nat.le_of_ble_eq_true rfl)
            · replace h := it_n c9 h
              by_cases c10 : s0 = 6
              · replace h := it_p c10 h
                refine aw_tsIn (tgt := 98) (off := 76) hC dX6_statement_22 ⟨by omega, by omega, by rw [c10]; rfl⟩ (by decide) ?_
                refine aw_aload_n (pc' := 99) (i := 0) hC dX6_statement_98 rfl rfl rfl ?_
                obtain ⟨g48, h⟩ := gd_s h
                obtain ⟨⟨x49, M50⟩, q47, h⟩ := pb_s h
                replace h := u2_s h
                refine aw_cV (pc' := 102) (k2 := 0) (n2 := 0) (st := []) (stN := [.inl x49]) hC [] (mX6_tellGoods q47) lk_X6_73 g48 dX6_statement_99 rfl rfl (Nat.le_of_ble_eq_true rfl) (Nat.le_of_ble_eq_true rfl) (Nat.le_of_ble_eq_true rfl) rfl (Nat.le_of_ble_eq_true rfl) rfl rfl rfl ?_
                obtain ⟨g51, h⟩ := gd_s h
                cases h
                subst hQ
                exact aw_zret hC g51 dX6_statement_102 (Nat.le_of_ble_eq_true rfl) (Nat.le_of_ble_eq_true rfl)
              · replace h := it_n c10 h
                by_cases c11 : s0 = 7
                · replace h := it_p c11 h
                  refine aw_tsIn (tgt := 128) (off := 106) hC dX6_statement_22 ⟨by omega, by omega, by rw [c11]; rfl⟩ (by decide) ?_
                  refine aw_aload_n (pc' := 129) (i := 0) hC dX6_statement_128 rfl rfl rfl ?_
                  refine aw_iconst (pc' := 130) hC dX6_statement_129 rfl (by decide) ?_
                  obtain ⟨g53, h⟩ := gd_s h
                  obtain ⟨⟨x54, M55⟩, q52, h⟩ := pb_s h
                  replace h := u2_s h
                  refine aw_cV (pc' := 133) (k2 := 0) (n2 := 0) (st := []) (stN := [.inl x54]) hC [.inl 1] (mX6_fail q52) lk_X6_52 g53 dX6_statement_130 rfl rfl (Nat.le_of_ble_eq_true rfl) (Nat.le_of_ble_eq_true rfl) (Nat.le_of_ble_eq_true rfl) rfl (Nat.le_of_ble_eq_true rfl) rfl rfl rfl ?_
                  obtain ⟨g56, h⟩ := gd_s h
                  cases h
                  subst hQ
                  exact aw_zret hC g56 dX6_statement_133 (Nat.le_of_ble_eq_true rfl) (Nat.le_of_ble_eq_true rfl)
                · replace h := it_n c11 h
                  by_cases c12 : s0 = 8
                  · replace h := it_p c12 h
                    refine aw_tsIn (tgt := 103) (off := 81) hC dX6_statement_22 ⟨by omega, by omega, by rw [c12]; rfl⟩ (by decide) ?_
                    refine aw_aload_n (pc' := 104) (i := 0) hC dX6_statement_103 rfl rfl rfl ?_
                    obtain ⟨g58, h⟩ := gd_s h
                    obtain ⟨⟨x59, M60⟩, q57, h⟩ := pb_s h
                    replace h := u2_s h
                    refine aw_cV (pc' := 107) (k2 := 0) (n2 := 0) (st := []) (stN := [.inl x59]) hC [] (mX6_tellSnub q57) lk_X6_76 g58 dX6_statement_104 rfl rfl (Nat.le_of_ble_eq_true rfl) (Nat.le_of_ble_eq_true rfl) (Nat.le_of_ble_eq_true rfl) rfl (Nat.le_of_ble_eq_true rfl) rfl rfl rfl ?_
                    obtain ⟨g61, h⟩ := gd_s h
                    cases h
                    subst hQ
                    exact aw_zret hC g61 dX6_statement_107 (Nat.le_of_ble_eq_true rfl) (Nat.le_of_ble_eq_true rfl)
                  · replace h := it_n c12 h
                    by_cases c13 : s0 = 9
                    · replace h := it_p c13 h
                      refine aw_tsIn (tgt := 108) (off := 86) hC dX6_statement_22 ⟨by omega, by omega, by rw [c13]; rfl⟩ (by decide) ?_
                      refine aw_aload_n (pc' := 109) (i := 0) hC dX6_statement_108 rfl rfl rfl ?_
                      obtain ⟨g63, h⟩ := gd_s h
                      obtain ⟨⟨x64, M65⟩, q62, h⟩ := pb_s h
                      replace h := u2_s h
                      refine aw_cV (pc' := 112) (k2 := 0) (n2 := 0) (st := []) (stN := [.inl x64]) hC [] (mX6_tellFades q62) lk_X6_79 g63 dX6_statement_109 rfl rfl (Nat.le_of_ble_eq_true rfl) (Nat.le_of_ble_eq_true rfl) (Nat.le_of_ble_eq_true rfl) rfl (Nat.le_of_ble_eq_true rfl) rfl rfl rfl ?_
                      obtain ⟨g66, h⟩ := gd_s h
                      cases h
                      subst hQ
                      exact aw_zret hC g66 dX6_statement_112 (Nat.le_of_ble_eq_true rfl) (Nat.le_of_ble_eq_true rfl)
                    · replace h := it_n c13 h
                      by_cases c14 : s0 = 10
                      · replace h := it_p c14 h
                        refine aw_tsIn (tgt := 113) (off := 91) hC dX6_statement_22 ⟨by omega, by omega, by rw [c14]; rfl⟩ (by decide) ?_
                        refine aw_aload_n (pc' := 114) (i := 0) hC dX6_statement_113 rfl rfl rfl ?_
                        obtain ⟨g68, h⟩ := gd_s h
                        obtain ⟨⟨x69, M70⟩, q67, h⟩ := pb_s h
                        replace h := u2_s h
                        refine aw_cV (pc' := 117) (k2 := 0) (n2 := 0) (st := []) (stN := [.inl x69]) hC [] (mX6_tellVogue q67) lk_X6_82 g68 dX6_statement_114 rfl rfl (Nat.le_of_ble_eq_true rfl) (Nat.le_of_ble_eq_true rfl) (Nat.le_of_ble_eq_true rfl) rfl (Nat.le_of_ble_eq_true rfl) rfl rfl rfl ?_
                        obtain ⟨g71, h⟩ := gd_s h
                        cases h
                        subst hQ
                        exact aw_zret hC g71 dX6_statement_117 (Nat.le_of_ble_eq_true rfl) (Nat.le_of_ble_eq_true rfl)
                      · replace h := it_n c14 h
                        by_cases c15 : s0 = 11
                        · replace h := it_p c15 h
                          refine aw_tsIn (tgt := 118) (off := 96) hC dX6_statement_22 ⟨by omega, by omega, by rw [c15]; rfl⟩ (by decide) ?_
                          refine aw_aload_n (pc' := 119) (i := 0) hC dX6_statement_118 rfl rfl rfl ?_
                          obtain ⟨g73, h⟩ := gd_s h
                          obtain ⟨⟨x74, M75⟩, q72, h⟩ := pb_s h
                          replace h := u2_s h
                          refine aw_cV (pc' := 122) (k2 := 0) (n2 := 0) (st := []) (stN := [.inl x74]) hC [] (mX6_tellPresents q72) lk_X6_85 g73 dX6_statement_119 rfl rfl (Nat.le_of_ble_eq_true rfl) (Nat.le_of_ble_eq_true rfl) (Nat.le_of_ble_eq_true rfl) rfl (Nat.le_of_ble_eq_true rfl) rfl rfl rfl ?_
                          obtain ⟨g76, h⟩ := gd_s h
                          cases h
                          subst hQ
                          exact aw_zret hC g76 dX6_statement_122 (Nat.le_of_ble_eq_true rfl) (Nat.le_of_ble_eq_true rfl)
                        · replace h := it_n c15 h
                          by_cases c16 : s0 = 12
                          · replace h := it_p c16 h
                            refine aw_tsIn (tgt := 123) (off := 101) hC dX6_statement_22 ⟨by omega, by omega, by rw [c16]; rfl⟩ (by decide) ?_
                            refine aw_aload_n (pc' := 124) (i := 0) hC dX6_statement_123 rfl rfl rfl ?_
                            obtain ⟨g78, h⟩ := gd_s h
                            obtain ⟨⟨x79, M80⟩, q77, h⟩ := pb_s h
                            replace h := u2_s h
                            refine aw_cV (pc' := 127) (k2 := 0) (n2 := 0) (st := []) (stN := [.inl x79]) hC [] (mX6_tellPrice q77) lk_X6_88 g78 dX6_statement_124 rfl rfl (Nat.le_of_ble_eq_true rfl) (Nat.le_of_ble_eq_true rfl) (Nat.le_of_ble_eq_true rfl) rfl (Nat.le_of_ble_eq_true rfl) rfl rfl rfl ?_
                            obtain ⟨g81, h⟩ := gd_s h
                            cases h
                            subst hQ
                            exact aw_zret hC g81 dX6_statement_127 (Nat.le_of_ble_eq_true rfl) (Nat.le_of_ble_eq_true rfl)
                          · replace h := it_n c16 h
                            refine aw_tsOut (tgt := 128) hC dX6_statement_22 (by omega) (by decide) ?_
                            refine aw_aload_n (pc' := 129) (i := 0) hC dX6_statement_128 rfl rfl rfl ?_
                            refine aw_iconst (pc' := 130) hC dX6_statement_129 rfl (by decide) ?_
                            obtain ⟨g83, h⟩ := gd_s h
                            obtain ⟨⟨x84, M85⟩, q82, h⟩ := pb_s h
                            replace h := u2_s h
                            refine aw_cV (pc' := 133) (k2 := 0) (n2 := 0) (st := []) (stN := [.inl x84]) hC [.inl 1] (mX6_fail q82) lk_X6_52 g83 dX6_statement_130 rfl rfl (Nat.le_of_ble_eq_true rfl) (Nat.le_of_ble_eq_true rfl) (Nat.le_of_ble_eq_true rfl) rfl (Nat.le_of_ble_eq_true rfl) rfl rfl rfl ?_
                            obtain ⟨g86, h⟩ := gd_s h
                            cases h
                            subst hQ
                            exact aw_zret hC g86 dX6_statement_133 (Nat.le_of_ble_eq_true rfl) (Nat.le_of_ble_eq_true rfl)
set_option maxRecDepth 100000 in
set_option maxHeartbeats 4000000 in
theorem mX6_statement {sh : AwS} {M : AwM} {v0 : Int} {r : Int} {M' : AwM} (h : fX6_statement sh M v0 = some (r, M')) : AMet yX6_statement cX6_statement 1 (some .boolean) 164 0 0 [.inr (.inr v0)] sh M (some (.inl r)) sh M' := by
  refine amet_of (by decide +kernel) (Nat.le_of_ble_eq_true rfl) (fun Γ hC => ?_)
  replace hC : AOK Γ RX6 cX6_statement 1 164 0 0 "statement" (some .boolean) := hC
  unfold fX6_statement at h
  refine aw_sub hC [some (.inr (.inr v0))] ⟨rfl, trivial⟩ (Nat.le_of_ble_eq_true rfl) ?_
  refine aw_aload_n (pc' := 1) (i := 0) hC dX6_statement_0 rfl rfl rfl ?_
  obtain ⟨g1, h⟩ := gd_s h
  refine aw_getfield (pc' := 4) (v := (.inr (.inr (M v0 0)))) hC dX6_statement_1 rfl fl_X6_12 g1 rfl ?_
  obtain ⟨g2, h⟩ := gd_s h
  refine aw_getfield (pc' := 7) (v := (.inl (M (M v0 0) 8))) hC dX6_statement_4 rfl fl_X6_49 g2 rfl ?_
  refine aw_iconst (pc' := 8) hC dX6_statement_7 rfl (by decide) ?_
  refine aw_icmp_ne (tgt := 21) (pc' := 11) hC dX6_statement_8 (by decide) rfl (fun c3 => ?_) (fun c3 => ?_)
  · replace h := it_n c3 h
    refine aw_iconst (pc' := 22) hC dX6_statement_21 rfl (by decide) ?_
    refine aw_sub hC [some (.inr (.inr v0))] ⟨rfl, trivial⟩ (Nat.le_of_ble_eq_true rfl) ?_
    exact w_X6_statement_J22 hC h rfl
  · replace h := it_p c3 h
    refine aw_aload_n (pc' := 12) (i := 0) hC dX6_statement_11 rfl rfl rfl ?_
    refine aw_getfield (pc' := 15) (v := (.inr (.inr (M v0 0)))) hC dX6_statement_12 rfl fl_X6_12 g1 rfl ?_
    refine aw_getfield (pc' := 18) (v := (.inl (M (M v0 0) 9))) hC dX6_statement_15 rfl fl_X6_64 g2 rfl ?_
    refine aw_goto (tgt := 22) hC dX6_statement_18 (by decide) ?_
    refine aw_sub hC [some (.inr (.inr v0))] ⟨rfl, trivial⟩ (Nat.le_of_ble_eq_true rfl) ?_
    exact w_X6_statement_J22 hC h rfl
-- CoinCircle$Teller.tell([BI)I
def fX6_tell_L33 (sh : AwS) (v0 : Int) (v3 : Int) (M : AwM) : Option ((Int × AwM) ⊕ ((Int × AwM) ⊕ ((AwM) ⊕ (AwM)))) :=
  (if v3 < 1600 then gd_ (kd_ sh v0 = (0, 6)) (gd_ (kd_ sh (M v0 0) = (0, 4)) ((if (M (M v0 0) 8) = 0 then some (.inr (.inl (v3, M))) else (if v3 = 80 then some (.inr (.inr (.inl M))) else pb (fX6_statement sh M v0) <| u2 fun (x20 : Int) (M21 : AwM) => ((if x20 = 0 then some (.inr (.inr (.inr M21))) else pb (fX6_sign sh M21 v0 59) <| u2 fun (x24 : Int) (M25 : AwM) => ((if x24 = 0 then some (.inr (.inr (.inr M25))) else some (.inl ((w32 (v3 + 1)), M25)))))))))) else some (.inr (.inl (v3, M))))
def p_X6_tell_L33 (Γ : AwC) (sh : AwS) (v0 : Int) (Q : State → Prop) (s : Int × AwM) : Prop := AW Γ sh (s.2) 0 0 33 [some (.inr (.inr v0)), none, none, some (.inl (s.1))] [] Q
def x_X6_tell_L33 (Γ : AwC) (sh : AwS) (v0 : Int) (Q : State → Prop) : ((Int × AwM) ⊕ ((AwM) ⊕ (AwM))) → Prop := (Sum.elim (fun (t : Int × AwM) => AW Γ sh (t.2) 0 0 89 [none, none, none, some (.inl (t.1))] [] Q) (Sum.elim (fun (t : AwM) => AW Γ sh (t) 0 0 56 [some (.inr (.inr v0)), none, none, none] [] Q) (fun (t : AwM) => AW Γ sh (t) 0 0 81 [none, none, none, none] [] Q)))
def fX6_tell (sh : AwS) (M : AwM) (v0 : Int) (v1 : Int) (v2 : Int) : Option (Int × AwM) :=
  gd_ (kd_ sh v0 = (0, 6)) (gd_ (kd_ sh (M v0 1) = (0, 5)) (pb (fX5_clear sh M (M v0 1)) <| u1 fun (M4 : AwM) => (bd_ (up_ M4 v0 3 0) fun (M5 : AwM) => (bd_ (up_ M5 v0 4 0) fun (M7 : AwM) => (bd_ (up_ M7 v0 5 (-1)) fun (M9 : AwM) => (gd_ (kd_ sh (M9 v0 0) = (0, 4)) (pb (fX4_read sh M9 (M9 v0 0) v1 v2) <| u1 fun (M13 : AwM) => (pb (lp (u2 (fX6_tell_L33 sh v0)) FU (0, M13)) (Sum.elim (u2 (fun (x28 : Int) (M29 : AwM) => some (x28, M29))) (Sum.elim (u1 (fun (tq27 : AwM) => pb (fX6_fail sh tq27 v0 6) <| u2 fun (x31 : Int) (M32 : AwM) => (some ((-1), M32)))) (u1 (fun (tq27 : AwM) => some ((-1), tq27)))))))))))))
set_option maxRecDepth 100000 in
set_option maxHeartbeats 4000000 in
theorem w_X6_tell_L33 {Γ : AwC} (hC : AOK Γ RX6 cX6_tell 4 165 0 0 "tell" (some .int)) {sh : AwS} {v0 : Int} {Q : State → Prop} : ∀ s r, u2 (fX6_tell_L33 sh v0) s = some r → (∀ s', r = .inl s' → p_X6_tell_L33 Γ sh v0 Q s') → (∀ t, r = .inr t → x_X6_tell_L33 Γ sh v0 Q t) → p_X6_tell_L33 Γ sh v0 Q s := by
  intro s r h hL hX
  obtain ⟨v3, M⟩ := s
  replace h := u2_s h
  unfold fX6_tell_L33 at h
  show AW Γ sh M 0 0 33 [some (.inr (.inr v0)), none, none, some (.inl v3)] [] Q
  refine aw_iload_n (pc' := 34) (i := 3) hC dX6_tell_33 rfl rfl rfl ?_
  refine aw_sipush (pc' := 37) hC dX6_tell_34 rfl (by decide) ?_
  refine aw_icmp_ge (tgt := 89) (pc' := 40) hC dX6_tell_37 (by decide) rfl (fun c14 => ?_) (fun c14 => ?_)
  · replace h := it_n c14 h
    refine aw_sub hC [none, none, none, some (.inl v3)] ⟨rfl, trivial⟩ (Nat.le_of_ble_eq_true rfl) ?_
    cases h
    exact hX _ rfl
  · replace h := it_p c14 h
    refine aw_aload_n (pc' := 41) (i := 0) hC dX6_tell_40 rfl rfl rfl ?_
    obtain ⟨g15, h⟩ := gd_s h
    refine aw_getfield (pc' := 44) (v := (.inr (.inr (M v0 0)))) hC dX6_tell_41 rfl fl_X6_12 g15 rfl ?_
    obtain ⟨g16, h⟩ := gd_s h
    refine aw_getfield (pc' := 47) (v := (.inl (M (M v0 0) 8))) hC dX6_tell_44 rfl fl_X6_49 g16 rfl ?_
    refine aw_if_eq (tgt := 89) (pc' := 50) hC dX6_tell_47 (by decide) rfl (fun c17 => ?_) (fun c17 => ?_)
    · replace h := it_p c17 h
      refine aw_sub hC [none, none, none, some (.inl v3)] ⟨rfl, trivial⟩ (Nat.le_of_ble_eq_true rfl) ?_
      cases h
      exact hX _ rfl
    · replace h := it_n c17 h
      refine aw_iload_n (pc' := 51) (i := 3) hC dX6_tell_50 rfl rfl rfl ?_
      refine aw_bipush (pc' := 53) hC dX6_tell_51 rfl (by decide) ?_
      refine aw_icmp_ne (tgt := 65) (pc' := 56) hC dX6_tell_53 (by decide) rfl (fun c18 => ?_) (fun c18 => ?_)
      · replace h := it_n c18 h
        refine aw_aload_n (pc' := 66) (i := 0) hC dX6_tell_65 rfl rfl rfl ?_
        obtain ⟨⟨x20, M21⟩, q19, h⟩ := pb_s h
        replace h := u2_s h
        refine aw_cV (pc' := 69) (k2 := 0) (n2 := 0) (st := []) (stN := [.inl x20]) hC [] (mX6_statement q19) lk_X6_56 g15 dX6_tell_66 rfl rfl (Nat.le_of_ble_eq_true rfl) (Nat.le_of_ble_eq_true rfl) (Nat.le_of_ble_eq_true rfl) rfl (Nat.le_of_ble_eq_true rfl) rfl rfl rfl ?_
        refine aw_if_eq (tgt := 81) (pc' := 72) hC dX6_tell_69 (by decide) rfl (fun c22 => ?_) (fun c22 => ?_)
        · replace h := it_p c22 h
          refine aw_sub hC [none, none, none, none] trivial (Nat.le_of_ble_eq_true rfl) ?_
          cases h
          exact hX _ rfl
        · replace h := it_n c22 h
          refine aw_aload_n (pc' := 73) (i := 0) hC dX6_tell_72 rfl rfl rfl ?_
          refine aw_bipush (pc' := 75) hC dX6_tell_73 rfl (by decide) ?_
          obtain ⟨⟨x24, M25⟩, q23, h⟩ := pb_s h
          replace h := u2_s h
          refine aw_cV (pc' := 78) (k2 := 0) (n2 := 0) (st := []) (stN := [.inl x24]) hC [.inl 59] (mX6_sign q23) lk_X6_60 g15 dX6_tell_75 rfl rfl (Nat.le_of_ble_eq_true rfl) (Nat.le_of_ble_eq_true rfl) (Nat.le_of_ble_eq_true rfl) rfl (Nat.le_of_ble_eq_true rfl) rfl rfl rfl ?_
          refine aw_if_ne (tgt := 83) (pc' := 81) hC dX6_tell_78 (by decide) rfl (fun c26 => ?_) (fun c26 => ?_)
          · replace h := it_n c26 h
            refine aw_iinc (pc' := 86) (ls' := [some (.inr (.inr v0)), none, none, some (.inl (w32 (v3 + 1)))]) hC dX6_tell_83 rfl rfl rfl rfl ?_
            refine aw_goto (tgt := 33) hC dX6_tell_86 (by decide) ?_
            refine aw_sub hC [some (.inr (.inr v0)), none, none, some (.inl (w32 (v3 + 1)))] ⟨rfl, ⟨rfl, trivial⟩⟩ (Nat.le_of_ble_eq_true rfl) ?_
            cases h
            exact hL _ rfl
          · replace h := it_p c26 h
            refine aw_sub hC [none, none, none, none] trivial (Nat.le_of_ble_eq_true rfl) ?_
            cases h
            exact hX _ rfl
      · replace h := it_p c18 h
        refine aw_sub hC [some (.inr (.inr v0)), none, none, none] ⟨rfl, trivial⟩ (Nat.le_of_ble_eq_true rfl) ?_
        cases h
        exact hX _ rfl
set_option maxRecDepth 100000 in
set_option maxHeartbeats 4000000 in
theorem mX6_tell {sh : AwS} {M : AwM} {v0 : Int} {v1 : Int} {v2 : Int} {r : Int} {M' : AwM} (h : fX6_tell sh M v0 v1 v2 = some (r, M')) : AMet yX6_tell cX6_tell 4 (some .int) 165 0 0 [.inr (.inr v0), .inr (.inr v1), .inl v2] sh M (some (.inl r)) sh M' := by
  refine amet_of (by decide +kernel) (Nat.le_of_ble_eq_true rfl) (fun Γ hC => ?_)
  replace hC : AOK Γ RX6 cX6_tell 4 165 0 0 "tell" (some .int) := hC
  unfold fX6_tell at h
  refine aw_sub hC [some (.inr (.inr v0)), some (.inr (.inr v1)), some (.inl v2), none] ⟨rfl, ⟨rfl, ⟨rfl, trivial⟩⟩⟩ (Nat.le_of_ble_eq_true rfl) ?_
  refine aw_aload_n (pc' := 1) (i := 0) hC dX6_tell_0 rfl rfl rfl ?_
  obtain ⟨g1, h⟩ := gd_s h
  refine aw_getfield (pc' := 4) (v := (.inr (.inr (M v0 1)))) hC dX6_tell_1 rfl fl_X6_21 g1 rfl ?_
  obtain ⟨g3, h⟩ := gd_s h
  obtain ⟨M4, q2, h⟩ := pb_s h
  replace h := u1_s h
  refine aw_cV (pc' := 7) (k2 := 0) (n2 := 0) (st := []) (stN := []) hC [] (mX5_clear q2) lk_X6_36 g3 dX6_tell_4 rfl rfl (Nat.le_of_ble_eq_true rfl) (Nat.le_of_ble_eq_true rfl) (Nat.le_of_ble_eq_true rfl) rfl (Nat.le_of_ble_eq_true rfl) rfl rfl rfl ?_
  refine aw_aload_n (pc' := 8) (i := 0) hC dX6_tell_7 rfl rfl rfl ?_
  refine aw_iconst (pc' := 9) hC dX6_tell_8 rfl (by decide) ?_
  obtain ⟨M5, e6, h⟩ := bd_s h
  refine aw_pf (pc' := 12) hC dX6_tell_9 rfl fp_X6_39 g1 rfl trivial e6 ?_
  refine aw_aload_n (pc' := 13) (i := 0) hC dX6_tell_12 rfl rfl rfl ?_
  refine aw_iconst (pc' := 14) hC dX6_tell_13 rfl (by decide) ?_
  obtain ⟨M7, e8, h⟩ := bd_s h
  refine aw_pf (pc' := 17) hC dX6_tell_14 rfl fp_X6_42 g1 rfl trivial e8 ?_
  refine aw_aload_n (pc' := 18) (i := 0) hC dX6_tell_17 rfl rfl rfl ?_
  refine aw_iconst (pc' := 19) hC dX6_tell_18 rfl (by decide) ?_
  obtain ⟨M9, e10, h⟩ := bd_s h
  refine aw_pf (pc' := 22) hC dX6_tell_19 rfl fp_X6_32 g1 rfl trivial e10 ?_
  refine aw_aload_n (pc' := 23) (i := 0) hC dX6_tell_22 rfl rfl rfl ?_
  refine aw_getfield (pc' := 26) (v := (.inr (.inr (M9 v0 0)))) hC dX6_tell_23 rfl fl_X6_12 g1 rfl ?_
  refine aw_aload_n (pc' := 27) (i := 1) hC dX6_tell_26 rfl rfl rfl ?_
  refine aw_iload_n (pc' := 28) (i := 2) hC dX6_tell_27 rfl rfl rfl ?_
  obtain ⟨g12, h⟩ := gd_s h
  obtain ⟨M13, q11, h⟩ := pb_s h
  replace h := u1_s h
  refine aw_cV (pc' := 31) (k2 := 0) (n2 := 0) (st := []) (stN := []) hC [.inr (.inr v1), .inl v2] (mX4_read q11) lk_X6_45 g12 dX6_tell_28 rfl rfl (Nat.le_of_ble_eq_true rfl) (Nat.le_of_ble_eq_true rfl) (Nat.le_of_ble_eq_true rfl) rfl (Nat.le_of_ble_eq_true rfl) rfl rfl rfl ?_
  refine aw_iconst (pc' := 32) hC dX6_tell_31 rfl (by decide) ?_
  refine aw_istore_n (pc' := 33) (i := 3) (ls' := [some (.inr (.inr v0)), some (.inr (.inr v1)), some (.inl v2), some (.inl 0)]) hC dX6_tell_32 rfl rfl (Nat.le_of_ble_eq_true rfl) rfl rfl ?_
  obtain ⟨tq27, q27, h⟩ := pb_s h
  refine aw_sub hC [some (.inr (.inr v0)), none, none, some (.inl 0)] ⟨rfl, ⟨rfl, trivial⟩⟩ (Nat.le_of_ble_eq_true rfl) ?_
  refine (lp_aw (p_X6_tell_L33 Γ sh v0 (fin_ Γ 0 0 (some (.inl r)) sh M')) (x_X6_tell_L33 Γ sh v0 (fin_ Γ 0 0 (some (.inl r)) sh M')) (w_X6_tell_L33 hC ) FU _ _ q27 ?_ : p_X6_tell_L33 Γ sh v0 (fin_ Γ 0 0 (some (.inl r)) sh M') (0, M13))
  rcases tq27 with tq27 | tq27
  · replace h := se_l h
    obtain ⟨x28, M29⟩ := tq27
    replace h := u2_s h
    show AW Γ sh M29 0 0 89 [none, none, none, some (.inl x28)] [] _
    refine aw_iload_n (pc' := 90) (i := 3) hC dX6_tell_89 rfl rfl rfl ?_
    cases h
    exact aw_iret hC dX6_tell_90 (Nat.le_of_ble_eq_true rfl) (Nat.le_of_ble_eq_true rfl)
  · replace h := se_r h
    rcases tq27 with tq27 | tq27
    · replace h := se_l h
      replace h := u1_s h
      show AW Γ sh tq27 0 0 56 [some (.inr (.inr v0)), none, none, none] [] _
      refine aw_aload_n (pc' := 57) (i := 0) hC dX6_tell_56 rfl rfl rfl ?_
      refine aw_bipush (pc' := 59) hC dX6_tell_57 rfl (by decide) ?_
      obtain ⟨⟨x31, M32⟩, q30, h⟩ := pb_s h
      replace h := u2_s h
      refine aw_cV (pc' := 62) (k2 := 0) (n2 := 0) (st := []) (stN := [.inl x31]) hC [.inl 6] (mX6_fail q30) lk_X6_52 g1 dX6_tell_59 rfl rfl (Nat.le_of_ble_eq_true rfl) (Nat.le_of_ble_eq_true rfl) (Nat.le_of_ble_eq_true rfl) rfl (Nat.le_of_ble_eq_true rfl) rfl rfl rfl ?_
      refine aw_pop (pc' := 63) hC dX6_tell_62 rfl rfl ?_
      refine aw_iconst (pc' := 64) hC dX6_tell_63 rfl (by decide) ?_
      cases h
      exact aw_iret hC dX6_tell_64 (Nat.le_of_ble_eq_true rfl) (Nat.le_of_ble_eq_true rfl)
    · replace h := se_r h
      replace h := u1_s h
      show AW Γ sh tq27 0 0 81 [none, none, none, none] [] _
      refine aw_iconst (pc' := 82) hC dX6_tell_81 rfl (by decide) ?_
      cases h
      exact aw_iret hC dX6_tell_82 (Nat.le_of_ble_eq_true rfl) (Nat.le_of_ble_eq_true rfl)
-- CoinCircle$Teller.exchange(LCoinCircle$Society;)LCoinCircle$Society;
def fX6_exchange (sh : AwS) (M : AwM) (v0 : Int) (v1 : Int) : Option (Int × AwM) :=
  gd_ (kd_ sh v0 = (0, 6)) (bd_ (up_ M v0 1 v1) fun (M2 : AwM) => (gd_ (kd_ sh v1 = (0, 5)) (bd_ (up_ M2 v0 2 (M2 v1 9)) fun (M5 : AwM) => (some ((M v0 1), M5)))))
set_option maxRecDepth 100000 in
set_option maxHeartbeats 4000000 in
theorem mX6_exchange {sh : AwS} {M : AwM} {v0 : Int} {v1 : Int} {r : Int} {M' : AwM} (h : fX6_exchange sh M v0 v1 = some (r, M')) : AMet yX6_exchange cX6_exchange 3 (some (.object "CoinCircle$Society")) 1 0 0 [.inr (.inr v0), .inr (.inr v1)] sh M (some (.inr (.inr r))) sh M' := by
  refine amet_of (by decide +kernel) (Nat.le_of_ble_eq_true rfl) (fun Γ hC => ?_)
  replace hC : AOK Γ RX6 cX6_exchange 3 1 0 0 "exchange" (some (.object "CoinCircle$Society")) := hC
  unfold fX6_exchange at h
  refine aw_sub hC [some (.inr (.inr v0)), some (.inr (.inr v1)), none] ⟨rfl, ⟨rfl, trivial⟩⟩ (Nat.le_of_ble_eq_true rfl) ?_
  refine aw_aload_n (pc' := 1) (i := 0) hC dX6_exchange_0 rfl rfl rfl ?_
  obtain ⟨g1, h⟩ := gd_s h
  refine aw_getfield (pc' := 4) (v := (.inr (.inr (M v0 1)))) hC dX6_exchange_1 rfl fl_X6_21 g1 rfl ?_
  refine aw_astore_n (pc' := 5) (i := 2) (ls' := [some (.inr (.inr v0)), some (.inr (.inr v1)), some (.inr (.inr (M v0 1)))]) hC dX6_exchange_4 rfl rfl (Nat.le_of_ble_eq_true rfl) rfl rfl ?_
  refine aw_aload_n (pc' := 6) (i := 0) hC dX6_exchange_5 rfl rfl rfl ?_
  refine aw_aload_n (pc' := 7) (i := 1) hC dX6_exchange_6 rfl rfl rfl ?_
  obtain ⟨M2, e3, h⟩ := bd_s h
  refine aw_pf (pc' := 10) hC dX6_exchange_7 rfl fp_X6_21 g1 rfl trivial e3 ?_
  refine aw_aload_n (pc' := 11) (i := 0) hC dX6_exchange_10 rfl rfl rfl ?_
  refine aw_aload_n (pc' := 12) (i := 1) hC dX6_exchange_11 rfl rfl rfl ?_
  obtain ⟨g4, h⟩ := gd_s h
  refine aw_getfield (pc' := 15) (v := (.inr (.inr (M2 v1 9)))) hC dX6_exchange_12 rfl fl_X6_25 g4 rfl ?_
  obtain ⟨M5, e6, h⟩ := bd_s h
  refine aw_pf (pc' := 18) hC dX6_exchange_15 rfl fp_X6_29 g1 rfl trivial e6 ?_
  refine aw_aload_n (pc' := 19) (i := 2) hC dX6_exchange_18 rfl rfl rfl ?_
  cases h
  exact aw_aret hC dX6_exchange_19 (Nat.le_of_ble_eq_true rfl) (Nat.le_of_ble_eq_true rfl)
-- CoinCircle$Ledger.setMet(III)V
def fX3_setMet (sh : AwS) (M : AwM) (v0 : Int) (v1 : Int) (v2 : Int) (v3 : Int) : Option (AwM) :=
  (if (w32 ((w32 (v1 * 10)) + v2)) < 0 then some M else (if (w32 ((w32 (v1 * 10)) + v2)) < 120 then gd_ (kd_ sh v0 = (0, 3)) (gd_ ((kd_ sh (M v0 4)).1 = 1 ∧ (0 : Int) ≤ (w32 ((w32 (v1 * 10)) + v2)) ∧ (w32 ((w32 (v1 * 10)) + v2)) < ((kd_ sh (M v0 4)).2 : Int)) (bd_ (up_ M (M v0 4) (w32 ((w32 (v1 * 10)) + v2)) v3) fun (M5 : AwM) => (some M5))) else some M))
set_option maxRecDepth 100000 in
set_option maxHeartbeats 4000000 in
theorem mX3_setMet {sh : AwS} {M : AwM} {v0 : Int} {v1 : Int} {v2 : Int} {v3 : Int} {M' : AwM} (h : fX3_setMet sh M v0 v1 v2 v3 = some M') : AMet yX3_setMet cX3_setMet 5 none 1 0 0 [.inr (.inr v0), .inl v1, .inl v2, .inl v3] sh M none sh M' := by
  refine amet_of (by decide +kernel) (Nat.le_of_ble_eq_true rfl) (fun Γ hC => ?_)
  replace hC : AOK Γ RX3 cX3_setMet 5 1 0 0 "setMet" none := hC
  unfold fX3_setMet at h
  refine aw_sub hC [some (.inr (.inr v0)), some (.inl v1), some (.inl v2), some (.inl v3), none] ⟨rfl, ⟨rfl, ⟨rfl, ⟨rfl, trivial⟩⟩⟩⟩ (Nat.le_of_ble_eq_true rfl) ?_
  refine aw_iload_n (pc' := 1) (i := 1) hC dX3_setMet_0 rfl rfl rfl ?_
  refine aw_bipush (pc' := 3) hC dX3_setMet_1 rfl (by decide) ?_
  refine aw_imul (pc' := 4) hC dX3_setMet_3 rfl  ?_
  refine aw_iload_n (pc' := 5) (i := 2) hC dX3_setMet_4 rfl rfl rfl ?_
  refine aw_iadd (pc' := 6) hC dX3_setMet_5 rfl  ?_
  refine aw_istore (pc' := 8) (ls' := [some (.inr (.inr v0)), some (.inl v1), some (.inl v2), some (.inl v3), some (.inl (w32 ((w32 (v1 * 10)) + v2)))]) hC dX3_setMet_6 rfl (Nat.le_of_ble_eq_true rfl) rfl rfl ?_
  refine aw_iload (pc' := 10) hC dX3_setMet_8 rfl rfl ?_
  refine aw_if_lt (tgt := 28) (pc' := 13) hC dX3_setMet_10 (by decide) rfl (fun c1 => ?_) (fun c1 => ?_)
  · replace h := it_p c1 h
    cases h
    exact aw_vret hC dX3_setMet_28 (Nat.le_of_ble_eq_true rfl) (Nat.le_of_ble_eq_true rfl)
  · replace h := it_n c1 h
    refine aw_iload (pc' := 15) hC dX3_setMet_13 rfl rfl ?_
    refine aw_bipush (pc' := 17) hC dX3_setMet_15 rfl (by decide) ?_
    refine aw_icmp_ge (tgt := 28) (pc' := 20) hC dX3_setMet_17 (by decide) rfl (fun c2 => ?_) (fun c2 => ?_)
    · replace h := it_n c2 h
      cases h
      exact aw_vret hC dX3_setMet_28 (Nat.le_of_ble_eq_true rfl) (Nat.le_of_ble_eq_true rfl)
    · replace h := it_p c2 h
      refine aw_aload_n (pc' := 21) (i := 0) hC dX3_setMet_20 rfl rfl rfl ?_
      obtain ⟨g3, h⟩ := gd_s h
      refine aw_getfield (pc' := 24) (v := (.inr (.inr (M v0 4)))) hC dX3_setMet_21 rfl fl_X3_21 g3 rfl ?_
      refine aw_iload (pc' := 26) hC dX3_setMet_24 rfl rfl ?_
      refine aw_iload_n (pc' := 27) (i := 3) hC dX3_setMet_26 rfl rfl rfl ?_
      obtain ⟨g4, h⟩ := gd_s h
      obtain ⟨M5, e6, h⟩ := bd_s h
      refine aw_ias (pc' := 28) hC dX3_setMet_27 rfl g4 e6 ?_
      cases h
      exact aw_vret hC dX3_setMet_28 (Nat.le_of_ble_eq_true rfl) (Nat.le_of_ble_eq_true rfl)
-- CoinCircle$Circle.begin(LCoinCircle$Society;)V
def fX0_begin_L68 (sh : AwS) (v0 : Int) (v1 : Int) (v2 : Int) (v3 : Int) (M : AwM) : Option ((Int × AwM) ⊕ (AwM)) :=
  (if v3 < 10 then gd_ (kd_ sh v0 = (0, 0)) (gd_ (kd_ sh (M v0 0) = (0, 3)) (pb (fX3_setMet sh M (M v0 0) v2 v3 0) <| u1 fun (M29 : AwM) => (some (.inl ((w32 (v3 + 1)), M29))))) else some (.inr M))
def p_X0_begin_L68 (Γ : AwC) (sh : AwS) (v0 : Int) (v1 : Int) (v2 : Int) (Q : State → Prop) (s : Int × AwM) : Prop := AW Γ sh (s.2) 0 0 68 [some (.inr (.inr v0)), some (.inr (.inr v1)), some (.inl v2), some (.inl (s.1))] [] Q
def x_X0_begin_L68 (Γ : AwC) (sh : AwS) (v0 : Int) (v1 : Int) (v2 : Int) (Q : State → Prop) : (AwM) → Prop := (fun (t : AwM) => AW Γ sh (t) 0 0 90 [some (.inr (.inr v0)), some (.inr (.inr v1)), some (.inl v2), none] [] Q)
def fX0_begin_L15 (sh : AwS) (v0 : Int) (v1 : Int) (v2 : Int) (M : AwM) : Option ((Int × AwM) ⊕ (AwM)) :=
  (if v2 < 12 then gd_ (kd_ sh v0 = (0, 0)) (gd_ (kd_ sh (M v0 0) = (0, 3)) (gd_ (kd_ sh v1 = (0, 5)) (gd_ ((kd_ sh (M v1 4)).1 = 1 ∧ (0 : Int) ≤ v2 ∧ v2 < ((kd_ sh (M v1 4)).2 : Int)) (gd_ ((kd_ sh (M (M v0 0) 1)).1 = 1 ∧ (0 : Int) ≤ v2 ∧ v2 < ((kd_ sh (M (M v0 0) 1)).2 : Int)) (bd_ (up_ M (M (M v0 0) 1) v2 (M (M v1 4) v2)) fun (M13 : AwM) => (gd_ (kd_ sh (M13 v0 0) = (0, 3)) (gd_ ((kd_ sh (M13 v1 5)).1 = 1 ∧ (0 : Int) ≤ v2 ∧ v2 < ((kd_ sh (M13 v1 5)).2 : Int)) (gd_ ((kd_ sh (M13 (M13 v0 0) 2)).1 = 1 ∧ (0 : Int) ≤ v2 ∧ v2 < ((kd_ sh (M13 (M13 v0 0) 2)).2 : Int)) (bd_ (up_ M13 (M13 (M13 v0 0) 2) v2 (M13 (M13 v1 5) v2)) fun (M18 : AwM) => (gd_ (kd_ sh (M18 v0 0) = (0, 3)) (gd_ ((kd_ sh (M18 v1 6)).1 = 1 ∧ (0 : Int) ≤ v2 ∧ v2 < ((kd_ sh (M18 v1 6)).2 : Int)) (gd_ ((kd_ sh (M18 (M18 v0 0) 3)).1 = 1 ∧ (0 : Int) ≤ v2 ∧ v2 < ((kd_ sh (M18 (M18 v0 0) 3)).2 : Int)) (bd_ (up_ M18 (M18 (M18 v0 0) 3) v2 (M18 (M18 v1 6) v2)) fun (M23 : AwM) => (pb (lp (u2 (fX0_begin_L68 sh v0 v1 v2)) FU (0, M23)) (u1 (fun (tq30 : AwM) => some (.inl ((w32 (v2 + 1)), tq30)))))))))))))))))) else some (.inr M))
def p_X0_begin_L15 (Γ : AwC) (sh : AwS) (v0 : Int) (v1 : Int) (Q : State → Prop) (s : Int × AwM) : Prop := AW Γ sh (s.2) 0 0 15 [some (.inr (.inr v0)), some (.inr (.inr v1)), some (.inl (s.1)), none] [] Q
def x_X0_begin_L15 (Γ : AwC) (sh : AwS) (v0 : Int) (v1 : Int) (Q : State → Prop) : (AwM) → Prop := (fun (t : AwM) => AW Γ sh (t) 0 0 96 [none, none, none, none] [] Q)
def fX0_begin (sh : AwS) (M : AwM) (v0 : Int) (v1 : Int) : Option (AwM) :=
  gd_ (kd_ sh v0 = (0, 0)) (bd_ (up_ M v0 1 v1) fun (M2 : AwM) => (gd_ (kd_ sh (M2 v0 0) = (0, 3)) (bd_ (up_ M2 (M2 v0 0) 0 0) fun (M5 : AwM) => (pb (lp (u2 (fX0_begin_L15 sh v0 v1)) FU (0, M5)) (u1 (fun (tq31 : AwM) => some tq31))))))
set_option maxRecDepth 100000 in
set_option maxHeartbeats 4000000 in
theorem w_X0_begin_L68 {Γ : AwC} (hC : AOK Γ RX0 cX0_begin 4 2 0 0 "begin" none) {sh : AwS} {v0 : Int} {v1 : Int} {v2 : Int} {Q : State → Prop} : ∀ s r, u2 (fX0_begin_L68 sh v0 v1 v2) s = some r → (∀ s', r = .inl s' → p_X0_begin_L68 Γ sh v0 v1 v2 Q s') → (∀ t, r = .inr t → x_X0_begin_L68 Γ sh v0 v1 v2 Q t) → p_X0_begin_L68 Γ sh v0 v1 v2 Q s := by
  intro s r h hL hX
  obtain ⟨v3, M⟩ := s
  replace h := u2_s h
  unfold fX0_begin_L68 at h
  show AW Γ sh M 0 0 68 [some (.inr (.inr v0)), some (.inr (.inr v1)), some (.inl v2), some (.inl v3)] [] Q
  refine aw_iload_n (pc' := 69) (i := 3) hC dX0_begin_68 rfl rfl rfl ?_
  refine aw_bipush (pc' := 71) hC dX0_begin_69 rfl (by decide) ?_
  refine aw_icmp_ge (tgt := 90) (pc' := 74) hC dX0_begin_71 (by decide) rfl (fun c25 => ?_) (fun c25 => ?_)
  · replace h := it_n c25 h
    refine aw_sub hC [some (.inr (.inr v0)), some (.inr (.inr v1)), some (.inl v2), none] ⟨rfl, ⟨rfl, ⟨rfl, trivial⟩⟩⟩ (Nat.le_of_ble_eq_true rfl) ?_
    cases h
    exact hX _ rfl
  · replace h := it_p c25 h
    refine aw_aload_n (pc' := 75) (i := 0) hC dX0_begin_74 rfl rfl rfl ?_
    obtain ⟨g26, h⟩ := gd_s h
    refine aw_getfield (pc' := 78) (v := (.inr (.inr (M v0 0)))) hC dX0_begin_75 rfl fl_X0_12 g26 rfl ?_
    refine aw_iload_n (pc' := 79) (i := 2) hC dX0_begin_78 rfl rfl rfl ?_
    refine aw_iload_n (pc' := 80) (i := 3) hC dX0_begin_79 rfl rfl rfl ?_
    refine aw_iconst (pc' := 81) hC dX0_begin_80 rfl (by decide) ?_
    obtain ⟨g28, h⟩ := gd_s h
    obtain ⟨M29, q27, h⟩ := pb_s h
    replace h := u1_s h
    refine aw_cV (pc' := 84) (k2 := 0) (n2 := 0) (st := []) (stN := []) hC [.inl v2, .inl v3, .inl 0] (mX3_setMet q27) lk_X0_44 g28 dX0_begin_81 rfl rfl (Nat.le_of_ble_eq_true rfl) (Nat.le_of_ble_eq_true rfl) (Nat.le_of_ble_eq_true rfl) rfl (Nat.le_of_ble_eq_true rfl) rfl rfl rfl ?_
    refine aw_iinc (pc' := 87) (ls' := [some (.inr (.inr v0)), some (.inr (.inr v1)), some (.inl v2), some (.inl (w32 (v3 + 1)))]) hC dX0_begin_84 rfl rfl rfl rfl ?_
    refine aw_goto (tgt := 68) hC dX0_begin_87 (by decide) ?_
    refine aw_sub hC [some (.inr (.inr v0)), some (.inr (.inr v1)), some (.inl v2), some (.inl (w32 (v3 + 1)))] ⟨rfl, ⟨rfl, ⟨rfl, ⟨rfl, trivial⟩⟩⟩⟩ (Nat.le_of_ble_eq_true rfl) ?_
    cases h
    exact hL _ rfl
set_option maxRecDepth 100000 in
set_option maxHeartbeats 4000000 in
theorem w_X0_begin_L15 {Γ : AwC} (hC : AOK Γ RX0 cX0_begin 4 2 0 0 "begin" none) {sh : AwS} {v0 : Int} {v1 : Int} {Q : State → Prop} : ∀ s r, u2 (fX0_begin_L15 sh v0 v1) s = some r → (∀ s', r = .inl s' → p_X0_begin_L15 Γ sh v0 v1 Q s') → (∀ t, r = .inr t → x_X0_begin_L15 Γ sh v0 v1 Q t) → p_X0_begin_L15 Γ sh v0 v1 Q s := by
  intro s r h hL hX
  obtain ⟨v2, M⟩ := s
  replace h := u2_s h
  unfold fX0_begin_L15 at h
  show AW Γ sh M 0 0 15 [some (.inr (.inr v0)), some (.inr (.inr v1)), some (.inl v2), none] [] Q
  refine aw_iload_n (pc' := 16) (i := 2) hC dX0_begin_15 rfl rfl rfl ?_
  refine aw_bipush (pc' := 18) hC dX0_begin_16 rfl (by decide) ?_
  refine aw_icmp_ge (tgt := 96) (pc' := 21) hC dX0_begin_18 (by decide) rfl (fun c7 => ?_) (fun c7 => ?_)
  · replace h := it_n c7 h
    refine aw_sub hC [none, none, none, none] trivial (Nat.le_of_ble_eq_true rfl) ?_
    cases h
    exact hX _ rfl
  · replace h := it_p c7 h
    refine aw_aload_n (pc' := 22) (i := 0) hC dX0_begin_21 rfl rfl rfl ?_
    obtain ⟨g8, h⟩ := gd_s h
    refine aw_getfield (pc' := 25) (v := (.inr (.inr (M v0 0)))) hC dX0_begin_22 rfl fl_X0_12 g8 rfl ?_
    obtain ⟨g9, h⟩ := gd_s h
    refine aw_getfield (pc' := 28) (v := (.inr (.inr (M (M v0 0) 1)))) hC dX0_begin_25 rfl fl_X0_30 g9 rfl ?_
    refine aw_iload_n (pc' := 29) (i := 2) hC dX0_begin_28 rfl rfl rfl ?_
    refine aw_aload_n (pc' := 30) (i := 1) hC dX0_begin_29 rfl rfl rfl ?_
    obtain ⟨g10, h⟩ := gd_s h
    refine aw_getfield (pc' := 33) (v := (.inr (.inr (M v1 4)))) hC dX0_begin_30 rfl fl_X0_33 g10 rfl ?_
    refine aw_iload_n (pc' := 34) (i := 2) hC dX0_begin_33 rfl rfl rfl ?_
    obtain ⟨g11, h⟩ := gd_s h
    refine aw_iaload (pc' := 35) hC dX0_begin_34 rfl g11 ?_
    obtain ⟨g12, h⟩ := gd_s h
    obtain ⟨M13, e14, h⟩ := bd_s h
    refine aw_ias (pc' := 36) hC dX0_begin_35 rfl g12 e14 ?_
    refine aw_aload_n (pc' := 37) (i := 0) hC dX0_begin_36 rfl rfl rfl ?_
    refine aw_getfield (pc' := 40) (v := (.inr (.inr (M13 v0 0)))) hC dX0_begin_37 rfl fl_X0_12 g8 rfl ?_
    obtain ⟨g15, h⟩ := gd_s h
    refine aw_getfield (pc' := 43) (v := (.inr (.inr (M13 (M13 v0 0) 2)))) hC dX0_begin_40 rfl fl_X0_36 g15 rfl ?_
    refine aw_iload_n (pc' := 44) (i := 2) hC dX0_begin_43 rfl rfl rfl ?_
    refine aw_aload_n (pc' := 45) (i := 1) hC dX0_begin_44 rfl rfl rfl ?_
    refine aw_getfield (pc' := 48) (v := (.inr (.inr (M13 v1 5)))) hC dX0_begin_45 rfl fl_X0_39 g10 rfl ?_
    refine aw_iload_n (pc' := 49) (i := 2) hC dX0_begin_48 rfl rfl rfl ?_
    obtain ⟨g16, h⟩ := gd_s h
    refine aw_iaload (pc' := 50) hC dX0_begin_49 rfl g16 ?_
    obtain ⟨g17, h⟩ := gd_s h
    obtain ⟨M18, e19, h⟩ := bd_s h
    refine aw_ias (pc' := 51) hC dX0_begin_50 rfl g17 e19 ?_
    refine aw_aload_n (pc' := 52) (i := 0) hC dX0_begin_51 rfl rfl rfl ?_
    refine aw_getfield (pc' := 55) (v := (.inr (.inr (M18 v0 0)))) hC dX0_begin_52 rfl fl_X0_12 g8 rfl ?_
    obtain ⟨g20, h⟩ := gd_s h
    refine aw_getfield (pc' := 58) (v := (.inr (.inr (M18 (M18 v0 0) 3)))) hC dX0_begin_55 rfl fl_X0_40 g20 rfl ?_
    refine aw_iload_n (pc' := 59) (i := 2) hC dX0_begin_58 rfl rfl rfl ?_
    refine aw_aload_n (pc' := 60) (i := 1) hC dX0_begin_59 rfl rfl rfl ?_
    refine aw_getfield (pc' := 63) (v := (.inr (.inr (M18 v1 6)))) hC dX0_begin_60 rfl fl_X0_43 g10 rfl ?_
    refine aw_iload_n (pc' := 64) (i := 2) hC dX0_begin_63 rfl rfl rfl ?_
    obtain ⟨g21, h⟩ := gd_s h
    refine aw_iaload (pc' := 65) hC dX0_begin_64 rfl g21 ?_
    obtain ⟨g22, h⟩ := gd_s h
    obtain ⟨M23, e24, h⟩ := bd_s h
    refine aw_ias (pc' := 66) hC dX0_begin_65 rfl g22 e24 ?_
    refine aw_iconst (pc' := 67) hC dX0_begin_66 rfl (by decide) ?_
    refine aw_istore_n (pc' := 68) (i := 3) (ls' := [some (.inr (.inr v0)), some (.inr (.inr v1)), some (.inl v2), some (.inl 0)]) hC dX0_begin_67 rfl rfl (Nat.le_of_ble_eq_true rfl) rfl rfl ?_
    obtain ⟨tq30, q30, h⟩ := pb_s h
    refine aw_sub hC [some (.inr (.inr v0)), some (.inr (.inr v1)), some (.inl v2), some (.inl 0)] ⟨rfl, ⟨rfl, ⟨rfl, ⟨rfl, trivial⟩⟩⟩⟩ (Nat.le_of_ble_eq_true rfl) ?_
    refine (lp_aw (p_X0_begin_L68 Γ sh v0 v1 v2 Q) (x_X0_begin_L68 Γ sh v0 v1 v2 Q) (w_X0_begin_L68 hC ) FU _ _ q30 ?_ : p_X0_begin_L68 Γ sh v0 v1 v2 Q (0, M23))
    replace h := u1_s h
    show AW Γ sh tq30 0 0 90 [some (.inr (.inr v0)), some (.inr (.inr v1)), some (.inl v2), none] [] _
    refine aw_iinc (pc' := 93) (ls' := [some (.inr (.inr v0)), some (.inr (.inr v1)), some (.inl (w32 (v2 + 1))), none]) hC dX0_begin_90 rfl rfl rfl rfl ?_
    refine aw_goto (tgt := 15) hC dX0_begin_93 (by decide) ?_
    refine aw_sub hC [some (.inr (.inr v0)), some (.inr (.inr v1)), some (.inl (w32 (v2 + 1))), none] ⟨rfl, ⟨rfl, ⟨rfl, trivial⟩⟩⟩ (Nat.le_of_ble_eq_true rfl) ?_
    cases h
    exact hL _ rfl
set_option maxRecDepth 100000 in
set_option maxHeartbeats 4000000 in
theorem mX0_begin {sh : AwS} {M : AwM} {v0 : Int} {v1 : Int} {M' : AwM} (h : fX0_begin sh M v0 v1 = some M') : AMet yX0_begin cX0_begin 4 none 2 0 0 [.inr (.inr v0), .inr (.inr v1)] sh M none sh M' := by
  refine amet_of (by decide +kernel) (Nat.le_of_ble_eq_true rfl) (fun Γ hC => ?_)
  replace hC : AOK Γ RX0 cX0_begin 4 2 0 0 "begin" none := hC
  unfold fX0_begin at h
  refine aw_sub hC [some (.inr (.inr v0)), some (.inr (.inr v1)), none, none] ⟨rfl, ⟨rfl, trivial⟩⟩ (Nat.le_of_ble_eq_true rfl) ?_
  refine aw_aload_n (pc' := 1) (i := 0) hC dX0_begin_0 rfl rfl rfl ?_
  refine aw_aload_n (pc' := 2) (i := 1) hC dX0_begin_1 rfl rfl rfl ?_
  obtain ⟨g1, h⟩ := gd_s h
  obtain ⟨M2, e3, h⟩ := bd_s h
  refine aw_pf (pc' := 5) hC dX0_begin_2 rfl fp_X0_22 g1 rfl trivial e3 ?_
  refine aw_aload_n (pc' := 6) (i := 0) hC dX0_begin_5 rfl rfl rfl ?_
  refine aw_getfield (pc' := 9) (v := (.inr (.inr (M2 v0 0)))) hC dX0_begin_6 rfl fl_X0_12 g1 rfl ?_
  refine aw_iconst (pc' := 10) hC dX0_begin_9 rfl (by decide) ?_
  obtain ⟨g4, h⟩ := gd_s h
  obtain ⟨M5, e6, h⟩ := bd_s h
  refine aw_pf (pc' := 13) hC dX0_begin_10 rfl fp_X0_26 g4 rfl trivial e6 ?_
  refine aw_iconst (pc' := 14) hC dX0_begin_13 rfl (by decide) ?_
  refine aw_istore_n (pc' := 15) (i := 2) (ls' := [some (.inr (.inr v0)), some (.inr (.inr v1)), some (.inl 0), none]) hC dX0_begin_14 rfl rfl (Nat.le_of_ble_eq_true rfl) rfl rfl ?_
  obtain ⟨tq31, q31, h⟩ := pb_s h
  refine aw_sub hC [some (.inr (.inr v0)), some (.inr (.inr v1)), some (.inl 0), none] ⟨rfl, ⟨rfl, ⟨rfl, trivial⟩⟩⟩ (Nat.le_of_ble_eq_true rfl) ?_
  refine (lp_aw (p_X0_begin_L15 Γ sh v0 v1 (fin_ Γ 0 0 none sh M')) (x_X0_begin_L15 Γ sh v0 v1 (fin_ Γ 0 0 none sh M')) (w_X0_begin_L15 hC ) FU _ _ q31 ?_ : p_X0_begin_L15 Γ sh v0 v1 (fin_ Γ 0 0 none sh M') (0, M5))
  replace h := u1_s h
  show AW Γ sh tq31 0 0 96 [none, none, none, none] [] _
  cases h
  exact aw_vret hC dX0_begin_96 (Nat.le_of_ble_eq_true rfl) (Nat.le_of_ble_eq_true rfl)
-- CoinCircle$History.clear()V
def fX2_clear (sh : AwS) (M : AwM) (v0 : Int) : Option (AwM) :=
  gd_ (kd_ sh v0 = (0, 2)) (bd_ (up_ M v0 2 0) fun (M2 : AwM) => (some M2))
set_option maxRecDepth 100000 in
set_option maxHeartbeats 4000000 in
theorem mX2_clear {sh : AwS} {M : AwM} {v0 : Int} {M' : AwM} (h : fX2_clear sh M v0 = some M') : AMet yX2_clear cX2_clear 1 none 1 0 0 [.inr (.inr v0)] sh M none sh M' := by
  refine amet_of (by decide +kernel) (Nat.le_of_ble_eq_true rfl) (fun Γ hC => ?_)
  replace hC : AOK Γ RX2 cX2_clear 1 1 0 0 "clear" none := hC
  unfold fX2_clear at h
  refine aw_sub hC [some (.inr (.inr v0))] ⟨rfl, trivial⟩ (Nat.le_of_ble_eq_true rfl) ?_
  refine aw_aload_n (pc' := 1) (i := 0) hC dX2_clear_0 rfl rfl rfl ?_
  refine aw_iconst (pc' := 2) hC dX2_clear_1 rfl (by decide) ?_
  obtain ⟨g1, h⟩ := gd_s h
  obtain ⟨M2, e3, h⟩ := bd_s h
  refine aw_pf (pc' := 5) hC dX2_clear_2 rfl fp_X2_18 g1 rfl trivial e3 ?_
  cases h
  exact aw_vret hC dX2_clear_5 (Nat.le_of_ble_eq_true rfl) (Nat.le_of_ble_eq_true rfl)
-- CoinCircle.society()I
def fX8_society (sh : AwS) (M : AwM) (v0 : Int) : Option (Int × AwM) :=
  gd_ (kd_ sh v0 = (0, 8)) (gd_ (kd_ sh (M v0 2) = (0, 6)) (pb (fX6_tell sh M (M v0 2) (M v0 0) (M v0 1)) <| u2 fun (x4 : Int) (M5 : AwM) => (bd_ (up_ M5 v0 1 0) fun (M6 : AwM) => ((if x4 = (-1) then pb (fX8_refuse sh M6 v0 1) <| u2 fun (x27 : Int) (M28 : AwM) => (some (x27, M28)) else gd_ (kd_ sh (M6 v0 2) = (0, 6)) (pb (fX6_exchange sh M6 (M6 v0 2) (M6 v0 3)) <| u2 fun (x11 : Int) (M12 : AwM) => (bd_ (up_ M12 v0 3 x11) fun (M13 : AwM) => (gd_ (kd_ sh (M13 v0 4) = (0, 0)) (pb (fX0_begin sh M13 (M13 v0 4) (M13 v0 3)) <| u1 fun (M17 : AwM) => (gd_ (kd_ sh (M17 v0 5) = (0, 0)) (pb (fX0_begin sh M17 (M17 v0 5) (M17 v0 3)) <| u1 fun (M20 : AwM) => (gd_ (kd_ sh (M20 v0 6) = (0, 2)) (pb (fX2_clear sh M20 (M20 v0 6)) <| u1 fun (M23 : AwM) => (bd_ (up_ M23 v0 10 0) fun (M24 : AwM) => (some (x4, M24))))))))))))))))
set_option maxRecDepth 100000 in
set_option maxHeartbeats 4000000 in
theorem mX8_society {sh : AwS} {M : AwM} {v0 : Int} {r : Int} {M' : AwM} (h : fX8_society sh M v0 = some (r, M')) : AMet yX8_society cX8_society 2 (some .int) 166 0 0 [.inr (.inr v0)] sh M (some (.inl r)) sh M' := by
  refine amet_of (by decide +kernel) (Nat.le_of_ble_eq_true rfl) (fun Γ hC => ?_)
  replace hC : AOK Γ RX8 cX8_society 2 166 0 0 "society" (some .int) := hC
  unfold fX8_society at h
  refine aw_sub hC [some (.inr (.inr v0)), none] ⟨rfl, trivial⟩ (Nat.le_of_ble_eq_true rfl) ?_
  refine aw_aload_n (pc' := 1) (i := 0) hC dX8_society_0 rfl rfl rfl ?_
  obtain ⟨g1, h⟩ := gd_s h
  refine aw_getfield (pc' := 4) (v := (.inr (.inr (M v0 2)))) hC dX8_society_1 rfl fl_X8_16 g1 rfl ?_
  refine aw_aload_n (pc' := 5) (i := 0) hC dX8_society_4 rfl rfl rfl ?_
  refine aw_getfield (pc' := 8) (v := (.inr (.inr (M v0 0)))) hC dX8_society_5 rfl fl_X8_9 g1 rfl ?_
  refine aw_aload_n (pc' := 9) (i := 0) hC dX8_society_8 rfl rfl rfl ?_
  refine aw_getfield (pc' := 12) (v := (.inl (M v0 1))) hC dX8_society_9 rfl fl_X8_67 g1 rfl ?_
  obtain ⟨g3, h⟩ := gd_s h
  obtain ⟨⟨x4, M5⟩, q2, h⟩ := pb_s h
  replace h := u2_s h
  refine aw_cV (pc' := 15) (k2 := 0) (n2 := 0) (st := []) (stN := [.inl x4]) hC [.inr (.inr (M v0 0)), .inl (M v0 1)] (mX6_tell q2) lk_X8_78 g3 dX8_society_12 rfl rfl (Nat.le_of_ble_eq_true rfl) (Nat.le_of_ble_eq_true rfl) (Nat.le_of_ble_eq_true rfl) rfl (Nat.le_of_ble_eq_true rfl) rfl rfl rfl ?_
  refine aw_istore_n (pc' := 16) (i := 1) (ls' := [some (.inr (.inr v0)), some (.inl x4)]) hC dX8_society_15 rfl rfl (Nat.le_of_ble_eq_true rfl) rfl rfl ?_
  refine aw_aload_n (pc' := 17) (i := 0) hC dX8_society_16 rfl rfl rfl ?_
  refine aw_iconst (pc' := 18) hC dX8_society_17 rfl (by decide) ?_
  obtain ⟨M6, e7, h⟩ := bd_s h
  refine aw_pf (pc' := 21) hC dX8_society_18 rfl fp_X8_67 g1 rfl trivial e7 ?_
  refine aw_iload_n (pc' := 22) (i := 1) hC dX8_society_21 rfl rfl rfl ?_
  refine aw_iconst (pc' := 23) hC dX8_society_22 rfl (by decide) ?_
  refine aw_icmp_ne (tgt := 32) (pc' := 26) hC dX8_society_23 (by decide) rfl (fun c8 => ?_) (fun c8 => ?_)
  · replace h := it_n c8 h
    refine aw_aload_n (pc' := 33) (i := 0) hC dX8_society_32 rfl rfl rfl ?_
    refine aw_aload_n (pc' := 34) (i := 0) hC dX8_society_33 rfl rfl rfl ?_
    refine aw_getfield (pc' := 37) (v := (.inr (.inr (M6 v0 2)))) hC dX8_society_34 rfl fl_X8_16 g1 rfl ?_
    refine aw_aload_n (pc' := 38) (i := 0) hC dX8_society_37 rfl rfl rfl ?_
    refine aw_getfield (pc' := 41) (v := (.inr (.inr (M6 v0 3)))) hC dX8_society_38 rfl fl_X8_51 g1 rfl ?_
    obtain ⟨g10, h⟩ := gd_s h
    obtain ⟨⟨x11, M12⟩, q9, h⟩ := pb_s h
    replace h := u2_s h
    refine aw_cV (pc' := 44) (k2 := 0) (n2 := 0) (st := [.inr (.inr v0)]) (stN := [.inr (.inr x11), .inr (.inr v0)]) hC [.inr (.inr (M6 v0 3))] (mX6_exchange q9) lk_X8_82 g10 dX8_society_41 rfl rfl (Nat.le_of_ble_eq_true rfl) (Nat.le_of_ble_eq_true rfl) (Nat.le_of_ble_eq_true rfl) rfl (Nat.le_of_ble_eq_true rfl) rfl rfl rfl ?_
    obtain ⟨M13, e14, h⟩ := bd_s h
    refine aw_pf (pc' := 47) hC dX8_society_44 rfl fp_X8_51 g1 rfl trivial e14 ?_
    refine aw_aload_n (pc' := 48) (i := 0) hC dX8_society_47 rfl rfl rfl ?_
    refine aw_getfield (pc' := 51) (v := (.inr (.inr (M13 v0 4)))) hC dX8_society_48 rfl fl_X8_60 g1 rfl ?_
    refine aw_aload_n (pc' := 52) (i := 0) hC dX8_society_51 rfl rfl rfl ?_
    refine aw_getfield (pc' := 55) (v := (.inr (.inr (M13 v0 3)))) hC dX8_society_52 rfl fl_X8_51 g1 rfl ?_
    obtain ⟨g16, h⟩ := gd_s h
    obtain ⟨M17, q15, h⟩ := pb_s h
    replace h := u1_s h
    refine aw_cV (pc' := 58) (k2 := 0) (n2 := 0) (st := []) (stN := []) hC [.inr (.inr (M13 v0 3))] (mX0_begin q15) lk_X8_86 g16 dX8_society_55 rfl rfl (Nat.le_of_ble_eq_true rfl) (Nat.le_of_ble_eq_true rfl) (Nat.le_of_ble_eq_true rfl) rfl (Nat.le_of_ble_eq_true rfl) rfl rfl rfl ?_
    refine aw_aload_n (pc' := 59) (i := 0) hC dX8_society_58 rfl rfl rfl ?_
    refine aw_getfield (pc' := 62) (v := (.inr (.inr (M17 v0 5)))) hC dX8_society_59 rfl fl_X8_64 g1 rfl ?_
    refine aw_aload_n (pc' := 63) (i := 0) hC dX8_society_62 rfl rfl rfl ?_
    refine aw_getfield (pc' := 66) (v := (.inr (.inr (M17 v0 3)))) hC dX8_society_63 rfl fl_X8_51 g1 rfl ?_
    obtain ⟨g19, h⟩ := gd_s h
    obtain ⟨M20, q18, h⟩ := pb_s h
    replace h := u1_s h
    refine aw_cV (pc' := 69) (k2 := 0) (n2 := 0) (st := []) (stN := []) hC [.inr (.inr (M17 v0 3))] (mX0_begin q18) lk_X8_86 g19 dX8_society_66 rfl rfl (Nat.le_of_ble_eq_true rfl) (Nat.le_of_ble_eq_true rfl) (Nat.le_of_ble_eq_true rfl) rfl (Nat.le_of_ble_eq_true rfl) rfl rfl rfl ?_
    refine aw_aload_n (pc' := 70) (i := 0) hC dX8_society_69 rfl rfl rfl ?_
    refine aw_getfield (pc' := 73) (v := (.inr (.inr (M20 v0 6)))) hC dX8_society_70 rfl fl_X8_23 g1 rfl ?_
    obtain ⟨g22, h⟩ := gd_s h
    obtain ⟨M23, q21, h⟩ := pb_s h
    replace h := u1_s h
    refine aw_cV (pc' := 76) (k2 := 0) (n2 := 0) (st := []) (stN := []) hC [] (mX2_clear q21) lk_X8_89 g22 dX8_society_73 rfl rfl (Nat.le_of_ble_eq_true rfl) (Nat.le_of_ble_eq_true rfl) (Nat.le_of_ble_eq_true rfl) rfl (Nat.le_of_ble_eq_true rfl) rfl rfl rfl ?_
    refine aw_aload_n (pc' := 77) (i := 0) hC dX8_society_76 rfl rfl rfl ?_
    refine aw_iconst (pc' := 78) hC dX8_society_77 rfl (by decide) ?_
    obtain ⟨M24, e25, h⟩ := bd_s h
    refine aw_pf (pc' := 81) hC dX8_society_78 rfl fp_X8_92 g1 rfl trivial e25 ?_
    refine aw_iload_n (pc' := 82) (i := 1) hC dX8_society_81 rfl rfl rfl ?_
    cases h
    exact aw_iret hC dX8_society_82 (Nat.le_of_ble_eq_true rfl) (Nat.le_of_ble_eq_true rfl)
  · replace h := it_p c8 h
    refine aw_aload_n (pc' := 27) (i := 0) hC dX8_society_26 rfl rfl rfl ?_
    refine aw_iconst (pc' := 28) hC dX8_society_27 rfl (by decide) ?_
    obtain ⟨⟨x27, M28⟩, q26, h⟩ := pb_s h
    replace h := u2_s h
    refine aw_cV (pc' := 31) (k2 := 0) (n2 := 0) (st := []) (stN := [.inl x27]) hC [.inl 1] (mX8_refuse q26) lk_X8_70 g1 dX8_society_28 rfl rfl (Nat.le_of_ble_eq_true rfl) (Nat.le_of_ble_eq_true rfl) (Nat.le_of_ble_eq_true rfl) rfl (Nat.le_of_ble_eq_true rfl) rfl rfl rfl ?_
    cases h
    exact aw_iret hC dX8_society_31 (Nat.le_of_ble_eq_true rfl) (Nat.le_of_ble_eq_true rfl)
-- CoinCircle.fault(I)I
def fX8_fault (sh : AwS) (M : AwM) (v0 : Int) (v1 : Int) : Option Int :=
  (if v1 = 0 then gd_ (kd_ sh v0 = (0, 8)) (gd_ (kd_ sh (M v0 2) = (0, 6)) (some (M (M v0 2) 4))) else (if v1 = 1 then gd_ (kd_ sh v0 = (0, 8)) (gd_ (kd_ sh (M v0 2) = (0, 6)) (some (M (M v0 2) 5))) else some (-1)))
set_option maxRecDepth 100000 in
set_option maxHeartbeats 4000000 in
theorem mX8_fault {sh : AwS} {M : AwM} {v0 : Int} {v1 : Int} {r : Int} (h : fX8_fault sh M v0 v1 = some r) : AMet yX8_fault cX8_fault 2 (some .int) 1 0 0 [.inr (.inr v0), .inl v1] sh M (some (.inl r)) sh M := by
  refine amet_of (by decide +kernel) (Nat.le_of_ble_eq_true rfl) (fun Γ hC => ?_)
  replace hC : AOK Γ RX8 cX8_fault 2 1 0 0 "fault" (some .int) := hC
  unfold fX8_fault at h
  refine aw_sub hC [some (.inr (.inr v0)), some (.inl v1)] ⟨rfl, ⟨rfl, trivial⟩⟩ (Nat.le_of_ble_eq_true rfl) ?_
  refine aw_iload_n (pc' := 1) (i := 1) hC dX8_fault_0 rfl rfl rfl ?_
  by_cases c1 : v1 = 0
  · replace h := it_p c1 h
    refine aw_ls (tgt := 28) (off := 27) hC dX8_fault_1 (by decide) (os_p c1) (by decide) ?_
    refine aw_aload_n (pc' := 29) (i := 0) hC dX8_fault_28 rfl rfl rfl ?_
    obtain ⟨g3, h⟩ := gd_s h
    refine aw_getfield (pc' := 32) (v := (.inr (.inr (M v0 2)))) hC dX8_fault_29 rfl fl_X8_16 g3 rfl ?_
    obtain ⟨g4, h⟩ := gd_s h
    refine aw_getfield (pc' := 35) (v := (.inl (M (M v0 2) 4))) hC dX8_fault_32 rfl fl_X8_95 g4 rfl ?_
    cases h
    exact aw_iret hC dX8_fault_35 (Nat.le_of_ble_eq_true rfl) (Nat.le_of_ble_eq_true rfl)
  · replace h := it_n c1 h
    by_cases c2 : v1 = 1
    · replace h := it_p c2 h
      refine aw_ls (tgt := 36) (off := 35) hC dX8_fault_1 (by decide) ((os_n c1).trans (os_p c2)) (by decide) ?_
      refine aw_aload_n (pc' := 37) (i := 0) hC dX8_fault_36 rfl rfl rfl ?_
      obtain ⟨g5, h⟩ := gd_s h
      refine aw_getfield (pc' := 40) (v := (.inr (.inr (M v0 2)))) hC dX8_fault_37 rfl fl_X8_16 g5 rfl ?_
      obtain ⟨g6, h⟩ := gd_s h
      refine aw_getfield (pc' := 43) (v := (.inl (M (M v0 2) 5))) hC dX8_fault_40 rfl fl_X8_98 g6 rfl ?_
      cases h
      exact aw_iret hC dX8_fault_43 (Nat.le_of_ble_eq_true rfl) (Nat.le_of_ble_eq_true rfl)
    · replace h := it_n c2 h
      refine aw_ls (tgt := 44) (off := 43) hC dX8_fault_1 (by decide) ((os_n c1).trans ((os_n c2).trans rfl)) (by decide) ?_
      refine aw_iconst (pc' := 45) hC dX8_fault_44 rfl (by decide) ?_
      cases h
      exact aw_iret hC dX8_fault_45 (Nat.le_of_ble_eq_true rfl) (Nat.le_of_ble_eq_true rfl)
-- CoinCircle$Circle.coins()I
def fX0_coins (sh : AwS) (M : AwM) (v0 : Int) : Option Int :=
  gd_ (kd_ sh v0 = (0, 0)) (gd_ (kd_ sh (M v0 1) = (0, 5)) (gd_ ((kd_ sh (M (M v0 1) 0)).1 = 1 ∧ (0 : Int) ≤ 1 ∧ 1 < ((kd_ sh (M (M v0 1) 0)).2 : Int)) (some (M (M (M v0 1) 0) 1))))
set_option maxRecDepth 100000 in
set_option maxHeartbeats 4000000 in
theorem mX0_coins {sh : AwS} {M : AwM} {v0 : Int} {r : Int} (h : fX0_coins sh M v0 = some r) : AMet yX0_coins cX0_coins 1 (some .int) 1 0 0 [.inr (.inr v0)] sh M (some (.inl r)) sh M := by
  refine amet_of (by decide +kernel) (Nat.le_of_ble_eq_true rfl) (fun Γ hC => ?_)
  replace hC : AOK Γ RX0 cX0_coins 1 1 0 0 "coins" (some .int) := hC
  unfold fX0_coins at h
  refine aw_sub hC [some (.inr (.inr v0))] ⟨rfl, trivial⟩ (Nat.le_of_ble_eq_true rfl) ?_
  refine aw_aload_n (pc' := 1) (i := 0) hC dX0_coins_0 rfl rfl rfl ?_
  obtain ⟨g1, h⟩ := gd_s h
  refine aw_getfield (pc' := 4) (v := (.inr (.inr (M v0 1)))) hC dX0_coins_1 rfl fl_X0_22 g1 rfl ?_
  obtain ⟨g2, h⟩ := gd_s h
  refine aw_getfield (pc' := 7) (v := (.inr (.inr (M (M v0 1) 0)))) hC dX0_coins_4 rfl fl_X0_48 g2 rfl ?_
  refine aw_iconst (pc' := 8) hC dX0_coins_7 rfl (by decide) ?_
  obtain ⟨g3, h⟩ := gd_s h
  refine aw_iaload (pc' := 9) hC dX0_coins_8 rfl g3 ?_
  cases h
  exact aw_iret hC dX0_coins_9 (Nat.le_of_ble_eq_true rfl) (Nat.le_of_ble_eq_true rfl)
-- java/lang/Integer.bitCount(I)I
def fJ6_bitCount_0f7a4 (sh : AwS) (M : AwM) (v0 : Int) : Option Int :=
  bd_ ((w32 ((an_ (w32 (v0 - (an_ (us_ v0 1) 1431655765))) 858993459) + (an_ (us_ (w32 (v0 - (an_ (us_ v0 1) 1431655765))) 2) 858993459)))) fun (x1 : Int) => (bd_ ((w32 ((an_ (w32 (x1 + (us_ x1 4))) 252645135) + (us_ (an_ (w32 (x1 + (us_ x1 4))) 252645135) 8)))) fun (x3 : Int) => (some (an_ (w32 (x3 + (us_ x3 16))) 63)))
set_option maxRecDepth 100000 in
set_option maxHeartbeats 4000000 in
theorem mJ6_bitCount_0f7a4 {sh : AwS} {M : AwM} {v0 : Int} {r : Int} (h : fJ6_bitCount_0f7a4 sh M v0 = some r) : AMet yJ6_bitCount_0f7a4 cJ6_bitCount_0f7a4 1 (some .int) 1 0 0 [.inl v0] sh M (some (.inl r)) sh M := by
  refine amet_of (by decide +kernel) (Nat.le_of_ble_eq_true rfl) (fun Γ hC => ?_)
  replace hC : AOK Γ RJ6 cJ6_bitCount_0f7a4 1 1 0 0 "bitCount" (some .int) := hC
  unfold fJ6_bitCount_0f7a4 at h
  refine aw_sub hC [some (.inl v0)] ⟨rfl, trivial⟩ (Nat.le_of_ble_eq_true rfl) ?_
  refine aw_iload_n (pc' := 1) (i := 0) hC dJ6_bitCount_0f7a4_0 rfl rfl rfl ?_
  refine aw_iload_n (pc' := 2) (i := 0) hC dJ6_bitCount_0f7a4_1 rfl rfl rfl ?_
  refine aw_iconst (pc' := 3) hC dJ6_bitCount_0f7a4_2 rfl (by decide) ?_
  refine aw_iushr (pc' := 4) hC dJ6_bitCount_0f7a4_3 rfl  ?_
  refine aw_ldcw (pc' := 7) (v := 1431655765) hC dJ6_bitCount_0f7a4_4 rfl ck_J6_265 (by unfold I32; omega) ?_
  refine aw_iand (pc' := 8) hC dJ6_bitCount_0f7a4_7 rfl  ?_
  refine aw_isub (pc' := 9) hC dJ6_bitCount_0f7a4_8 rfl  ?_
  refine aw_istore_n (pc' := 10) (i := 0) (ls' := [some (.inl (w32 (v0 - (an_ (us_ v0 1) 1431655765))))]) hC dJ6_bitCount_0f7a4_9 rfl rfl (Nat.le_of_ble_eq_true rfl) rfl rfl ?_
  refine aw_iload_n (pc' := 11) (i := 0) hC dJ6_bitCount_0f7a4_10 rfl rfl rfl ?_
  refine aw_ldcw (pc' := 14) (v := 858993459) hC dJ6_bitCount_0f7a4_11 rfl ck_J6_266 (by unfold I32; omega) ?_
  refine aw_iand (pc' := 15) hC dJ6_bitCount_0f7a4_14 rfl  ?_
  refine aw_iload_n (pc' := 16) (i := 0) hC dJ6_bitCount_0f7a4_15 rfl rfl rfl ?_
  refine aw_iconst (pc' := 17) hC dJ6_bitCount_0f7a4_16 rfl (by decide) ?_
  refine aw_iushr (pc' := 18) hC dJ6_bitCount_0f7a4_17 rfl  ?_
  refine aw_ldcw (pc' := 21) (v := 858993459) hC dJ6_bitCount_0f7a4_18 rfl ck_J6_266 (by unfold I32; omega) ?_
  refine aw_iand (pc' := 22) hC dJ6_bitCount_0f7a4_21 rfl  ?_
  refine aw_iadd (pc' := 23) hC dJ6_bitCount_0f7a4_22 rfl  ?_
  obtain ⟨x1, e2, h⟩ := bd_s h
  refine aw_reni e2 ?_
  refine aw_istore_n (pc' := 24) (i := 0) (ls' := [some (.inl x1)]) hC dJ6_bitCount_0f7a4_23 rfl rfl (Nat.le_of_ble_eq_true rfl) rfl rfl ?_
  refine aw_iload_n (pc' := 25) (i := 0) hC dJ6_bitCount_0f7a4_24 rfl rfl rfl ?_
  refine aw_iload_n (pc' := 26) (i := 0) hC dJ6_bitCount_0f7a4_25 rfl rfl rfl ?_
  refine aw_iconst (pc' := 27) hC dJ6_bitCount_0f7a4_26 rfl (by decide) ?_
  refine aw_iushr (pc' := 28) hC dJ6_bitCount_0f7a4_27 rfl  ?_
  refine aw_iadd (pc' := 29) hC dJ6_bitCount_0f7a4_28 rfl  ?_
  refine aw_ldcw (pc' := 32) (v := 252645135) hC dJ6_bitCount_0f7a4_29 rfl ck_J6_267 (by unfold I32; omega) ?_
  refine aw_iand (pc' := 33) hC dJ6_bitCount_0f7a4_32 rfl  ?_
  refine aw_istore_n (pc' := 34) (i := 0) (ls' := [some (.inl (an_ (w32 (x1 + (us_ x1 4))) 252645135))]) hC dJ6_bitCount_0f7a4_33 rfl rfl (Nat.le_of_ble_eq_true rfl) rfl rfl ?_
  refine aw_iload_n (pc' := 35) (i := 0) hC dJ6_bitCount_0f7a4_34 rfl rfl rfl ?_
  refine aw_iload_n (pc' := 36) (i := 0) hC dJ6_bitCount_0f7a4_35 rfl rfl rfl ?_
  refine aw_bipush (pc' := 38) hC dJ6_bitCount_0f7a4_36 rfl (by decide) ?_
  refine aw_iushr (pc' := 39) hC dJ6_bitCount_0f7a4_38 rfl  ?_
  refine aw_iadd (pc' := 40) hC dJ6_bitCount_0f7a4_39 rfl  ?_
  obtain ⟨x3, e4, h⟩ := bd_s h
  refine aw_reni e4 ?_
  refine aw_istore_n (pc' := 41) (i := 0) (ls' := [some (.inl x3)]) hC dJ6_bitCount_0f7a4_40 rfl rfl (Nat.le_of_ble_eq_true rfl) rfl rfl ?_
  refine aw_iload_n (pc' := 42) (i := 0) hC dJ6_bitCount_0f7a4_41 rfl rfl rfl ?_
  refine aw_iload_n (pc' := 43) (i := 0) hC dJ6_bitCount_0f7a4_42 rfl rfl rfl ?_
  refine aw_bipush (pc' := 45) hC dJ6_bitCount_0f7a4_43 rfl (by decide) ?_
  refine aw_iushr (pc' := 46) hC dJ6_bitCount_0f7a4_45 rfl  ?_
  refine aw_iadd (pc' := 47) hC dJ6_bitCount_0f7a4_46 rfl  ?_
  refine aw_istore_n (pc' := 48) (i := 0) (ls' := [some (.inl (w32 (x3 + (us_ x3 16))))]) hC dJ6_bitCount_0f7a4_47 rfl rfl (Nat.le_of_ble_eq_true rfl) rfl rfl ?_
  refine aw_iload_n (pc' := 49) (i := 0) hC dJ6_bitCount_0f7a4_48 rfl rfl rfl ?_
  refine aw_bipush (pc' := 51) hC dJ6_bitCount_0f7a4_49 rfl (by decide) ?_
  refine aw_iand (pc' := 52) hC dJ6_bitCount_0f7a4_51 rfl  ?_
  cases h
  exact aw_iret hC dJ6_bitCount_0f7a4_52 (Nat.le_of_ble_eq_true rfl) (Nat.le_of_ble_eq_true rfl)
-- CoinCircle$Circle.flow()I
def fX0_flow_L4 (sh : AwS) (M : AwM) (v0 : Int) (v1 : Int) (v2 : Int) : Option ((Int × Int) ⊕ (Int)) :=
  gd_ (kd_ sh v0 = (0, 0)) (pb (fX0_coins sh M v0) <| u1 fun (x3 : Int) => ((if v2 < x3 then gd_ (kd_ sh (M v0 1) = (0, 5)) (gd_ ((kd_ sh (M (M v0 1) 3)).1 = 1 ∧ (0 : Int) ≤ v2 ∧ v2 < ((kd_ sh (M (M v0 1) 3)).2 : Int)) (gd_ (kd_ sh (M v0 0) = (0, 3)) (gd_ ((kd_ sh (M (M v0 0) 2)).1 = 1 ∧ (0 : Int) ≤ v2 ∧ v2 < ((kd_ sh (M (M v0 0) 2)).2 : Int)) (pb (fJ6_bitCount_0f7a4 sh M (M (M (M v0 0) 2) v2)) <| u1 fun (x10 : Int) => (bd_ ((w32 (v1 + (w32 ((M (M (M v0 1) 3) v2) * (w32 (x10 - 1))))))) fun (x11 : Int) => (some (.inl (x11, (w32 (v2 + 1)))))))))) else some (.inr v1))))
def p_X0_flow_L4 (Γ : AwC) (sh : AwS) (M : AwM) (v0 : Int) (Q : State → Prop) (s : Int × Int) : Prop := AW Γ sh M 0 0 4 [some (.inr (.inr v0)), some (.inl (s.1)), some (.inl (s.2))] [] Q
def x_X0_flow_L4 (Γ : AwC) (sh : AwS) (M : AwM) (v0 : Int) (Q : State → Prop) : (Int) → Prop := (fun (t : Int) => AW Γ sh M 0 0 45 [none, some (.inl (t)), none] [] Q)
def fX0_flow (sh : AwS) (M : AwM) (v0 : Int) : Option Int :=
  pb (lp (u2 (fX0_flow_L4 sh M v0)) FU (0, 0)) (u1 (fun (tq13 : Int) => some tq13))
set_option maxRecDepth 100000 in
set_option maxHeartbeats 4000000 in
theorem w_X0_flow_L4 {Γ : AwC} (hC : AOK Γ RX0 cX0_flow 3 2 0 0 "flow" (some .int)) {sh : AwS} {M : AwM} {v0 : Int} {Q : State → Prop} : ∀ s r, u2 (fX0_flow_L4 sh M v0) s = some r → (∀ s', r = .inl s' → p_X0_flow_L4 Γ sh M v0 Q s') → (∀ t, r = .inr t → x_X0_flow_L4 Γ sh M v0 Q t) → p_X0_flow_L4 Γ sh M v0 Q s := by
  intro s r h hL hX
  obtain ⟨v1, v2⟩ := s
  replace h := u2_s h
  unfold fX0_flow_L4 at h
  show AW Γ sh M 0 0 4 [some (.inr (.inr v0)), some (.inl v1), some (.inl v2)] [] Q
  refine aw_iload_n (pc' := 5) (i := 2) hC dX0_flow_4 rfl rfl rfl ?_
  refine aw_aload_n (pc' := 6) (i := 0) hC dX0_flow_5 rfl rfl rfl ?_
  obtain ⟨g2, h⟩ := gd_s h
  obtain ⟨x3, q1, h⟩ := pb_s h
  replace h := u1_s h
  refine aw_cV (pc' := 9) (k2 := 0) (n2 := 0) (st := [.inl v2]) (stN := [.inl x3, .inl v2]) hC [] (mX0_coins q1) lk_X0_55 g2 dX0_flow_6 rfl rfl (Nat.le_of_ble_eq_true rfl) (Nat.le_of_ble_eq_true rfl) (Nat.le_of_ble_eq_true rfl) rfl (Nat.le_of_ble_eq_true rfl) rfl rfl rfl ?_
  refine aw_icmp_ge (tgt := 45) (pc' := 12) hC dX0_flow_9 (by decide) rfl (fun c4 => ?_) (fun c4 => ?_)
  · replace h := it_n c4 h
    refine aw_sub hC [none, some (.inl v1), none] ⟨rfl, trivial⟩ (Nat.le_of_ble_eq_true rfl) ?_
    cases h
    exact hX _ rfl
  · replace h := it_p c4 h
    refine aw_iload_n (pc' := 13) (i := 1) hC dX0_flow_12 rfl rfl rfl ?_
    refine aw_aload_n (pc' := 14) (i := 0) hC dX0_flow_13 rfl rfl rfl ?_
    refine aw_getfield (pc' := 17) (v := (.inr (.inr (M v0 1)))) hC dX0_flow_14 rfl fl_X0_22 g2 rfl ?_
    obtain ⟨g5, h⟩ := gd_s h
    refine aw_getfield (pc' := 20) (v := (.inr (.inr (M (M v0 1) 3)))) hC dX0_flow_17 rfl fl_X0_62 g5 rfl ?_
    refine aw_iload_n (pc' := 21) (i := 2) hC dX0_flow_20 rfl rfl rfl ?_
    obtain ⟨g6, h⟩ := gd_s h
    refine aw_iaload (pc' := 22) hC dX0_flow_21 rfl g6 ?_
    refine aw_aload_n (pc' := 23) (i := 0) hC dX0_flow_22 rfl rfl rfl ?_
    refine aw_getfield (pc' := 26) (v := (.inr (.inr (M v0 0)))) hC dX0_flow_23 rfl fl_X0_12 g2 rfl ?_
    obtain ⟨g7, h⟩ := gd_s h
    refine aw_getfield (pc' := 29) (v := (.inr (.inr (M (M v0 0) 2)))) hC dX0_flow_26 rfl fl_X0_36 g7 rfl ?_
    refine aw_iload_n (pc' := 30) (i := 2) hC dX0_flow_29 rfl rfl rfl ?_
    obtain ⟨g8, h⟩ := gd_s h
    refine aw_iaload (pc' := 31) hC dX0_flow_30 rfl g8 ?_
    obtain ⟨x10, q9, h⟩ := pb_s h
    replace h := u1_s h
    refine aw_cS (pc' := 34) (k2 := 0) (n2 := 0) (st := [.inl (M (M (M v0 1) 3) v2), .inl v1]) (stN := [.inl x10, .inl (M (M (M v0 1) 3) v2), .inl v1]) hC [.inl (M (M (M v0 0) 2) v2)] (mJ6_bitCount_0f7a4 q9) lk_X0_65 dX0_flow_31 rfl rfl (Nat.le_of_ble_eq_true rfl) (Nat.le_of_ble_eq_true rfl) (Nat.le_of_ble_eq_true rfl) rfl (Nat.le_of_ble_eq_true rfl) rfl rfl rfl ?_
    refine aw_iconst (pc' := 35) hC dX0_flow_34 rfl (by decide) ?_
    refine aw_isub (pc' := 36) hC dX0_flow_35 rfl  ?_
    refine aw_imul (pc' := 37) hC dX0_flow_36 rfl  ?_
    refine aw_iadd (pc' := 38) hC dX0_flow_37 rfl  ?_
    obtain ⟨x11, e12, h⟩ := bd_s h
    refine aw_reni e12 ?_
    refine aw_istore_n (pc' := 39) (i := 1) (ls' := [some (.inr (.inr v0)), some (.inl x11), some (.inl v2)]) hC dX0_flow_38 rfl rfl (Nat.le_of_ble_eq_true rfl) rfl rfl ?_
    refine aw_iinc (pc' := 42) (ls' := [some (.inr (.inr v0)), some (.inl x11), some (.inl (w32 (v2 + 1)))]) hC dX0_flow_39 rfl rfl rfl rfl ?_
    refine aw_goto (tgt := 4) hC dX0_flow_42 (by decide) ?_
    refine aw_sub hC [some (.inr (.inr v0)), some (.inl x11), some (.inl (w32 (v2 + 1)))] ⟨rfl, ⟨rfl, ⟨rfl, trivial⟩⟩⟩ (Nat.le_of_ble_eq_true rfl) ?_
    cases h
    exact hL _ rfl
set_option maxRecDepth 100000 in
set_option maxHeartbeats 4000000 in
theorem mX0_flow {sh : AwS} {M : AwM} {v0 : Int} {r : Int} (h : fX0_flow sh M v0 = some r) : AMet yX0_flow cX0_flow 3 (some .int) 2 0 0 [.inr (.inr v0)] sh M (some (.inl r)) sh M := by
  refine amet_of (by decide +kernel) (Nat.le_of_ble_eq_true rfl) (fun Γ hC => ?_)
  replace hC : AOK Γ RX0 cX0_flow 3 2 0 0 "flow" (some .int) := hC
  unfold fX0_flow at h
  refine aw_sub hC [some (.inr (.inr v0)), none, none] ⟨rfl, trivial⟩ (Nat.le_of_ble_eq_true rfl) ?_
  refine aw_iconst (pc' := 1) hC dX0_flow_0 rfl (by decide) ?_
  refine aw_istore_n (pc' := 2) (i := 1) (ls' := [some (.inr (.inr v0)), some (.inl 0), none]) hC dX0_flow_1 rfl rfl (Nat.le_of_ble_eq_true rfl) rfl rfl ?_
  refine aw_iconst (pc' := 3) hC dX0_flow_2 rfl (by decide) ?_
  refine aw_istore_n (pc' := 4) (i := 2) (ls' := [some (.inr (.inr v0)), some (.inl 0), some (.inl 0)]) hC dX0_flow_3 rfl rfl (Nat.le_of_ble_eq_true rfl) rfl rfl ?_
  obtain ⟨tq13, q13, h⟩ := pb_s h
  refine aw_sub hC [some (.inr (.inr v0)), some (.inl 0), some (.inl 0)] ⟨rfl, ⟨rfl, ⟨rfl, trivial⟩⟩⟩ (Nat.le_of_ble_eq_true rfl) ?_
  refine (lp_aw (p_X0_flow_L4 Γ sh M v0 (fin_ Γ 0 0 (some (.inl r)) sh M)) (x_X0_flow_L4 Γ sh M v0 (fin_ Γ 0 0 (some (.inl r)) sh M)) (w_X0_flow_L4 hC ) FU _ _ q13 ?_ : p_X0_flow_L4 Γ sh M v0 (fin_ Γ 0 0 (some (.inl r)) sh M) (0, 0))
  replace h := u1_s h
  show AW Γ sh M 0 0 45 [none, some (.inl tq13), none] [] _
  refine aw_iload_n (pc' := 46) (i := 1) hC dX0_flow_45 rfl rfl rfl ?_
  cases h
  exact aw_iret hC dX0_flow_46 (Nat.le_of_ble_eq_true rfl) (Nat.le_of_ble_eq_true rfl)
