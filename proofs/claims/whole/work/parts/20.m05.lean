-- CoinCircle$Ways.act(I)I
def fX7_act (sh : AwS) (M : AwM) (v0 : Int) (v1 : Int) : Option Int :=
  gd_ (kd_ sh v0 = (0, 7)) ((if v1 < 0 then some (-1) else (if (w32 ((w32 ((M v0 7) - 1)) - v1)) < 0 then some (-1) else (if (w32 ((w32 ((M v0 7) - 1)) - v1)) < 20 then gd_ ((kd_ sh (M v0 6)).1 = 1 ∧ (0 : Int) ≤ (w32 ((w32 ((M v0 7) - 1)) - v1)) ∧ (w32 ((w32 ((M v0 7) - 1)) - v1)) < ((kd_ sh (M v0 6)).2 : Int)) (some (M (M v0 6) (w32 ((w32 ((M v0 7) - 1)) - v1)))) else some (-1)))))
set_option maxRecDepth 100000 in
set_option maxHeartbeats 4000000 in
theorem mX7_act {sh : AwS} {M : AwM} {v0 : Int} {v1 : Int} {r : Int} (h : fX7_act sh M v0 v1 = some r) : AMet yX7_act cX7_act 3 (some .int) 1 0 0 [.inr (.inr v0), .inl v1] sh M (some (.inl r)) sh M := by
  refine amet_of (by decide +kernel) (Nat.le_of_ble_eq_true rfl) (fun Γ hC => ?_)
  replace hC : AOK Γ RX7 cX7_act 3 1 0 0 "act" (some .int) := hC
  unfold fX7_act at h
  refine aw_sub hC [some (.inr (.inr v0)), some (.inl v1), none] ⟨rfl, ⟨rfl, trivial⟩⟩ (Nat.le_of_ble_eq_true rfl) ?_
  refine aw_aload_n (pc' := 1) (i := 0) hC dX7_act_0 rfl rfl rfl ?_
  obtain ⟨g1, h⟩ := gd_s h
  refine aw_getfield (pc' := 4) (v := (.inl (M v0 7))) hC dX7_act_1 rfl fl_X7_27 g1 rfl ?_
  refine aw_iconst (pc' := 5) hC dX7_act_4 rfl (by decide) ?_
  refine aw_isub (pc' := 6) hC dX7_act_5 rfl  ?_
  refine aw_iload_n (pc' := 7) (i := 1) hC dX7_act_6 rfl rfl rfl ?_
  refine aw_isub (pc' := 8) hC dX7_act_7 rfl  ?_
  refine aw_istore_n (pc' := 9) (i := 2) (ls' := [some (.inr (.inr v0)), some (.inl v1), some (.inl (w32 ((w32 ((M v0 7) - 1)) - v1)))]) hC dX7_act_8 rfl rfl (Nat.le_of_ble_eq_true rfl) rfl rfl ?_
  refine aw_iload_n (pc' := 10) (i := 1) hC dX7_act_9 rfl rfl rfl ?_
  refine aw_if_lt (tgt := 32) (pc' := 13) hC dX7_act_10 (by decide) rfl (fun c2 => ?_) (fun c2 => ?_)
  · replace h := it_p c2 h
    refine aw_iconst (pc' := 33) hC dX7_act_32 rfl (by decide) ?_
    cases h
    exact aw_iret hC dX7_act_33 (Nat.le_of_ble_eq_true rfl) (Nat.le_of_ble_eq_true rfl)
  · replace h := it_n c2 h
    refine aw_iload_n (pc' := 14) (i := 2) hC dX7_act_13 rfl rfl rfl ?_
    refine aw_if_lt (tgt := 32) (pc' := 17) hC dX7_act_14 (by decide) rfl (fun c3 => ?_) (fun c3 => ?_)
    · replace h := it_p c3 h
      refine aw_iconst (pc' := 33) hC dX7_act_32 rfl (by decide) ?_
      cases h
      exact aw_iret hC dX7_act_33 (Nat.le_of_ble_eq_true rfl) (Nat.le_of_ble_eq_true rfl)
    · replace h := it_n c3 h
      refine aw_iload_n (pc' := 18) (i := 2) hC dX7_act_17 rfl rfl rfl ?_
      refine aw_bipush (pc' := 20) hC dX7_act_18 rfl (by decide) ?_
      refine aw_icmp_ge (tgt := 32) (pc' := 23) hC dX7_act_20 (by decide) rfl (fun c4 => ?_) (fun c4 => ?_)
      · replace h := it_n c4 h
        refine aw_iconst (pc' := 33) hC dX7_act_32 rfl (by decide) ?_
        cases h
        exact aw_iret hC dX7_act_33 (Nat.le_of_ble_eq_true rfl) (Nat.le_of_ble_eq_true rfl)
      · replace h := it_p c4 h
        refine aw_aload_n (pc' := 24) (i := 0) hC dX7_act_23 rfl rfl rfl ?_
        refine aw_getfield (pc' := 27) (v := (.inr (.inr (M v0 6)))) hC dX7_act_24 rfl fl_X7_24 g1 rfl ?_
        refine aw_iload_n (pc' := 28) (i := 2) hC dX7_act_27 rfl rfl rfl ?_
        obtain ⟨g5, h⟩ := gd_s h
        refine aw_iaload (pc' := 29) hC dX7_act_28 rfl g5 ?_
        refine aw_goto (tgt := 33) hC dX7_act_29 (by decide) ?_
        cases h
        exact aw_iret hC dX7_act_33 (Nat.le_of_ble_eq_true rfl) (Nat.le_of_ble_eq_true rfl)
-- CoinCircle.comes(III)I
def fX8_comes (sh : AwS) (M : AwM) (v0 : Int) (v1 : Int) (v2 : Int) (v3 : Int) : Option (Int × AwM) :=
  gd_ (kd_ sh v0 = (0, 8)) (pb (fX8_areThere sh M v0 v1 v2) <| u1 fun (x3 : Int) => ((if x3 = 0 then some ((-1), M) else (if v3 < (-1) then some ((-1), M) else gd_ (kd_ sh (M v0 7) = (0, 7)) (pb (fX7_find sh M (M v0 7) (M v0 4) v1 v2) <| u2 fun (x8 : Int) (M9 : AwM) => ((if v3 = (-1) then some (x8, M9) else gd_ (kd_ sh (M9 v0 7) = (0, 7)) (pb (fX7_act sh M9 (M9 v0 7) v3) <| u1 fun (x13 : Int) => (some (x13, M9))))))))))
set_option maxRecDepth 100000 in
set_option maxHeartbeats 4000000 in
theorem mX8_comes {sh : AwS} {M : AwM} {v0 : Int} {v1 : Int} {v2 : Int} {v3 : Int} {r : Int} {M' : AwM} (h : fX8_comes sh M v0 v1 v2 v3 = some (r, M')) : AMet yX8_comes cX8_comes 5 (some .int) 8 0 0 [.inr (.inr v0), .inl v1, .inl v2, .inl v3] sh M (some (.inl r)) sh M' := by
  refine amet_of (by decide +kernel) (Nat.le_of_ble_eq_true rfl) (fun Γ hC => ?_)
  replace hC : AOK Γ RX8 cX8_comes 5 8 0 0 "comes" (some .int) := hC
  unfold fX8_comes at h
  refine aw_sub hC [some (.inr (.inr v0)), some (.inl v1), some (.inl v2), some (.inl v3), none] ⟨rfl, ⟨rfl, ⟨rfl, ⟨rfl, trivial⟩⟩⟩⟩ (Nat.le_of_ble_eq_true rfl) ?_
  refine aw_aload_n (pc' := 1) (i := 0) hC dX8_comes_0 rfl rfl rfl ?_
  refine aw_iload_n (pc' := 2) (i := 1) hC dX8_comes_1 rfl rfl rfl ?_
  refine aw_iload_n (pc' := 3) (i := 2) hC dX8_comes_2 rfl rfl rfl ?_
  obtain ⟨g2, h⟩ := gd_s h
  obtain ⟨x3, q1, h⟩ := pb_s h
  replace h := u1_s h
  refine aw_cV (pc' := 6) (k2 := 0) (n2 := 0) (st := []) (stN := [.inl x3]) hC [.inl v1, .inl v2] (mX8_areThere q1) lk_X8_183 g2 dX8_comes_3 rfl rfl (Nat.le_of_ble_eq_true rfl) (Nat.le_of_ble_eq_true rfl) (Nat.le_of_ble_eq_true rfl) rfl (Nat.le_of_ble_eq_true rfl) rfl rfl rfl ?_
  refine aw_if_eq (tgt := 14) (pc' := 9) hC dX8_comes_6 (by decide) rfl (fun c4 => ?_) (fun c4 => ?_)
  · replace h := it_p c4 h
    refine aw_iconst (pc' := 15) hC dX8_comes_14 rfl (by decide) ?_
    cases h
    exact aw_iret hC dX8_comes_15 (Nat.le_of_ble_eq_true rfl) (Nat.le_of_ble_eq_true rfl)
  · replace h := it_n c4 h
    refine aw_iload_n (pc' := 10) (i := 3) hC dX8_comes_9 rfl rfl rfl ?_
    refine aw_iconst (pc' := 11) hC dX8_comes_10 rfl (by decide) ?_
    refine aw_icmp_ge (tgt := 16) (pc' := 14) hC dX8_comes_11 (by decide) rfl (fun c5 => ?_) (fun c5 => ?_)
    · replace h := it_n c5 h
      refine aw_aload_n (pc' := 17) (i := 0) hC dX8_comes_16 rfl rfl rfl ?_
      refine aw_getfield (pc' := 20) (v := (.inr (.inr (M v0 7)))) hC dX8_comes_17 rfl fl_X8_30 g2 rfl ?_
      refine aw_aload_n (pc' := 21) (i := 0) hC dX8_comes_20 rfl rfl rfl ?_
      refine aw_getfield (pc' := 24) (v := (.inr (.inr (M v0 4)))) hC dX8_comes_21 rfl fl_X8_60 g2 rfl ?_
      refine aw_iload_n (pc' := 25) (i := 1) hC dX8_comes_24 rfl rfl rfl ?_
      refine aw_iload_n (pc' := 26) (i := 2) hC dX8_comes_25 rfl rfl rfl ?_
      obtain ⟨g7, h⟩ := gd_s h
      obtain ⟨⟨x8, M9⟩, q6, h⟩ := pb_s h
      replace h := u2_s h
      refine aw_cV (pc' := 29) (k2 := 0) (n2 := 0) (st := []) (stN := [.inl x8]) hC [.inr (.inr (M v0 4)), .inl v1, .inl v2] (mX7_find q6) lk_X8_258 g7 dX8_comes_26 rfl rfl (Nat.le_of_ble_eq_true rfl) (Nat.le_of_ble_eq_true rfl) (Nat.le_of_ble_eq_true rfl) rfl (Nat.le_of_ble_eq_true rfl) rfl rfl rfl ?_
      refine aw_istore (pc' := 31) (ls' := [some (.inr (.inr v0)), some (.inl v1), some (.inl v2), some (.inl v3), some (.inl x8)]) hC dX8_comes_29 rfl (Nat.le_of_ble_eq_true rfl) rfl rfl ?_
      refine aw_iload_n (pc' := 32) (i := 3) hC dX8_comes_31 rfl rfl rfl ?_
      refine aw_iconst (pc' := 33) hC dX8_comes_32 rfl (by decide) ?_
      refine aw_icmp_ne (tgt := 41) (pc' := 36) hC dX8_comes_33 (by decide) rfl (fun c10 => ?_) (fun c10 => ?_)
      · replace h := it_n c10 h
        refine aw_aload_n (pc' := 42) (i := 0) hC dX8_comes_41 rfl rfl rfl ?_
        refine aw_getfield (pc' := 45) (v := (.inr (.inr (M9 v0 7)))) hC dX8_comes_42 rfl fl_X8_30 g2 rfl ?_
        refine aw_iload_n (pc' := 46) (i := 3) hC dX8_comes_45 rfl rfl rfl ?_
        obtain ⟨g12, h⟩ := gd_s h
        obtain ⟨x13, q11, h⟩ := pb_s h
        replace h := u1_s h
        refine aw_cV (pc' := 49) (k2 := 0) (n2 := 0) (st := []) (stN := [.inl x13]) hC [.inl v3] (mX7_act q11) lk_X8_262 g12 dX8_comes_46 rfl rfl (Nat.le_of_ble_eq_true rfl) (Nat.le_of_ble_eq_true rfl) (Nat.le_of_ble_eq_true rfl) rfl (Nat.le_of_ble_eq_true rfl) rfl rfl rfl ?_
        cases h
        exact aw_iret hC dX8_comes_49 (Nat.le_of_ble_eq_true rfl) (Nat.le_of_ble_eq_true rfl)
      · replace h := it_p c10 h
        refine aw_iload (pc' := 38) hC dX8_comes_36 rfl rfl ?_
        refine aw_goto (tgt := 49) hC dX8_comes_38 (by decide) ?_
        cases h
        exact aw_iret hC dX8_comes_49 (Nat.le_of_ble_eq_true rfl) (Nat.le_of_ble_eq_true rfl)
    · replace h := it_p c5 h
      refine aw_iconst (pc' := 15) hC dX8_comes_14 rfl (by decide) ?_
      cases h
      exact aw_iret hC dX8_comes_15 (Nat.le_of_ble_eq_true rfl) (Nat.le_of_ble_eq_true rfl)
-- CoinCircle.tellsLetters(I)Z
def fX8_tellsLetters_L21 (sh : AwS) (M : AwM) (v0 : Int) (v1 : Int) (v2 : Int) : Option ((Int) ⊕ ((Unit) ⊕ (Unit))) :=
  (if v2 < v1 then gd_ (kd_ sh v0 = (0, 8)) (pb (fX8_tapeByte sh M v0 v2) <| u1 fun (x7 : Int) => (pb (fX8_tapeByte sh M v0 (w32 (v2 + 1))) <| u1 fun (x9 : Int) => (pb (fX8_areThere sh M v0 x7 x9) <| u1 fun (x11 : Int) => ((if x11 = 0 then some (.inr (.inr ())) else some (.inl (w32 (v2 + 2)))))))) else some (.inr (.inl ())))
def p_X8_tellsLetters_L21 (Γ : AwC) (sh : AwS) (M : AwM) (v0 : Int) (v1 : Int) (Q : State → Prop) (s : Int) : Prop := AW Γ sh M 0 0 21 [some (.inr (.inr v0)), some (.inl v1), some (.inl (s))] [] Q
def x_X8_tellsLetters_L21 (Γ : AwC) (sh : AwS) (M : AwM) (v0 : Int) (v1 : Int) (Q : State → Prop) : ((Unit) ⊕ (Unit)) → Prop := (Sum.elim (fun (t : Unit) => AW Γ sh M 0 0 53 [none, none, none] [] Q) (fun (t : Unit) => AW Γ sh M 0 0 45 [none, none, none] [] Q))
def fX8_tellsLetters (sh : AwS) (M : AwM) (v0 : Int) (v1 : Int) : Option Int :=
  (if v1 < 2 then some 0 else (if 40 < v1 then some 0 else (if (v1.tmod 2) = 0 then pb (lp (u1 (fX8_tellsLetters_L21 sh M v0 v1)) FU 0) (Sum.elim (u0 (some 1)) (u0 (some 0))) else some 0)))
set_option maxRecDepth 100000 in
set_option maxHeartbeats 4000000 in
theorem w_X8_tellsLetters_L21 {Γ : AwC} (hC : AOK Γ RX8 cX8_tellsLetters 3 3 0 0 "tellsLetters" (some .boolean)) {sh : AwS} {M : AwM} {v0 : Int} {v1 : Int} {Q : State → Prop} : ∀ s r, u1 (fX8_tellsLetters_L21 sh M v0 v1) s = some r → (∀ s', r = .inl s' → p_X8_tellsLetters_L21 Γ sh M v0 v1 Q s') → (∀ t, r = .inr t → x_X8_tellsLetters_L21 Γ sh M v0 v1 Q t) → p_X8_tellsLetters_L21 Γ sh M v0 v1 Q s := by
  intro v2 r h hL hX
  replace h := u1_s h
  unfold fX8_tellsLetters_L21 at h
  show AW Γ sh M 0 0 21 [some (.inr (.inr v0)), some (.inl v1), some (.inl v2)] [] Q
  refine aw_iload_n (pc' := 22) (i := 2) hC dX8_tellsLetters_21 rfl rfl rfl ?_
  refine aw_iload_n (pc' := 23) (i := 1) hC dX8_tellsLetters_22 rfl rfl rfl ?_
  refine aw_icmp_ge (tgt := 53) (pc' := 26) hC dX8_tellsLetters_23 (by decide) rfl (fun c4 => ?_) (fun c4 => ?_)
  · replace h := it_n c4 h
    refine aw_sub hC [none, none, none] trivial (Nat.le_of_ble_eq_true rfl) ?_
    cases h
    exact hX _ rfl
  · replace h := it_p c4 h
    refine aw_aload_n (pc' := 27) (i := 0) hC dX8_tellsLetters_26 rfl rfl rfl ?_
    refine aw_aload_n (pc' := 28) (i := 0) hC dX8_tellsLetters_27 rfl rfl rfl ?_
    refine aw_iload_n (pc' := 29) (i := 2) hC dX8_tellsLetters_28 rfl rfl rfl ?_
    obtain ⟨g6, h⟩ := gd_s h
    obtain ⟨x7, q5, h⟩ := pb_s h
    replace h := u1_s h
    refine aw_cV (pc' := 32) (k2 := 0) (n2 := 0) (st := [.inr (.inr v0)]) (stN := [.inl x7, .inr (.inr v0)]) hC [.inl v2] (mX8_tapeByte q5) lk_X8_271 g6 dX8_tellsLetters_29 rfl rfl (Nat.le_of_ble_eq_true rfl) (Nat.le_of_ble_eq_true rfl) (Nat.le_of_ble_eq_true rfl) rfl (Nat.le_of_ble_eq_true rfl) rfl rfl rfl ?_
    refine aw_aload_n (pc' := 33) (i := 0) hC dX8_tellsLetters_32 rfl rfl rfl ?_
    refine aw_iload_n (pc' := 34) (i := 2) hC dX8_tellsLetters_33 rfl rfl rfl ?_
    refine aw_iconst (pc' := 35) hC dX8_tellsLetters_34 rfl (by decide) ?_
    refine aw_iadd (pc' := 36) hC dX8_tellsLetters_35 rfl  ?_
    obtain ⟨x9, q8, h⟩ := pb_s h
    replace h := u1_s h
    refine aw_cV (pc' := 39) (k2 := 0) (n2 := 0) (st := [.inl x7, .inr (.inr v0)]) (stN := [.inl x9, .inl x7, .inr (.inr v0)]) hC [.inl (w32 (v2 + 1))] (mX8_tapeByte q8) lk_X8_271 g6 dX8_tellsLetters_36 rfl rfl (Nat.le_of_ble_eq_true rfl) (Nat.le_of_ble_eq_true rfl) (Nat.le_of_ble_eq_true rfl) rfl (Nat.le_of_ble_eq_true rfl) rfl rfl rfl ?_
    obtain ⟨x11, q10, h⟩ := pb_s h
    replace h := u1_s h
    refine aw_cV (pc' := 42) (k2 := 0) (n2 := 0) (st := []) (stN := [.inl x11]) hC [.inl x7, .inl x9] (mX8_areThere q10) lk_X8_183 g6 dX8_tellsLetters_39 rfl rfl (Nat.le_of_ble_eq_true rfl) (Nat.le_of_ble_eq_true rfl) (Nat.le_of_ble_eq_true rfl) rfl (Nat.le_of_ble_eq_true rfl) rfl rfl rfl ?_
    refine aw_if_ne (tgt := 47) (pc' := 45) hC dX8_tellsLetters_42 (by decide) rfl (fun c12 => ?_) (fun c12 => ?_)
    · replace h := it_n c12 h
      refine aw_iinc (pc' := 50) (ls' := [some (.inr (.inr v0)), some (.inl v1), some (.inl (w32 (v2 + 2)))]) hC dX8_tellsLetters_47 rfl rfl rfl rfl ?_
      refine aw_goto (tgt := 21) hC dX8_tellsLetters_50 (by decide) ?_
      refine aw_sub hC [some (.inr (.inr v0)), some (.inl v1), some (.inl (w32 (v2 + 2)))] ⟨rfl, ⟨rfl, ⟨rfl, trivial⟩⟩⟩ (Nat.le_of_ble_eq_true rfl) ?_
      cases h
      exact hL _ rfl
    · replace h := it_p c12 h
      refine aw_sub hC [none, none, none] trivial (Nat.le_of_ble_eq_true rfl) ?_
      cases h
      exact hX _ rfl
set_option maxRecDepth 100000 in
set_option maxHeartbeats 4000000 in
theorem mX8_tellsLetters {sh : AwS} {M : AwM} {v0 : Int} {v1 : Int} {r : Int} (h : fX8_tellsLetters sh M v0 v1 = some r) : AMet yX8_tellsLetters cX8_tellsLetters 3 (some .boolean) 3 0 0 [.inr (.inr v0), .inl v1] sh M (some (.inl r)) sh M := by
  refine amet_of (by decide +kernel) (Nat.le_of_ble_eq_true rfl) (fun Γ hC => ?_)
  replace hC : AOK Γ RX8 cX8_tellsLetters 3 3 0 0 "tellsLetters" (some .boolean) := hC
  unfold fX8_tellsLetters at h
  refine aw_sub hC [some (.inr (.inr v0)), some (.inl v1), none] ⟨rfl, ⟨rfl, trivial⟩⟩ (Nat.le_of_ble_eq_true rfl) ?_
  refine aw_iload_n (pc' := 1) (i := 1) hC dX8_tellsLetters_0 rfl rfl rfl ?_
  refine aw_iconst (pc' := 2) hC dX8_tellsLetters_1 rfl (by decide) ?_
  refine aw_icmp_lt (tgt := 17) (pc' := 5) hC dX8_tellsLetters_2 (by decide) rfl (fun c1 => ?_) (fun c1 => ?_)
  · replace h := it_p c1 h
    refine aw_iconst (pc' := 18) hC dX8_tellsLetters_17 rfl (by decide) ?_
    cases h
    exact aw_zret hC (Or.inl rfl) dX8_tellsLetters_18 (Nat.le_of_ble_eq_true rfl) (Nat.le_of_ble_eq_true rfl)
  · replace h := it_n c1 h
    refine aw_iload_n (pc' := 6) (i := 1) hC dX8_tellsLetters_5 rfl rfl rfl ?_
    refine aw_bipush (pc' := 8) hC dX8_tellsLetters_6 rfl (by decide) ?_
    refine aw_icmp_gt (tgt := 17) (pc' := 11) hC dX8_tellsLetters_8 (by decide) rfl (fun c2 => ?_) (fun c2 => ?_)
    · replace h := it_p c2 h
      refine aw_iconst (pc' := 18) hC dX8_tellsLetters_17 rfl (by decide) ?_
      cases h
      exact aw_zret hC (Or.inl rfl) dX8_tellsLetters_18 (Nat.le_of_ble_eq_true rfl) (Nat.le_of_ble_eq_true rfl)
    · replace h := it_n c2 h
      refine aw_iload_n (pc' := 12) (i := 1) hC dX8_tellsLetters_11 rfl rfl rfl ?_
      refine aw_iconst (pc' := 13) hC dX8_tellsLetters_12 rfl (by decide) ?_
      refine aw_irem (pc' := 14) hC dX8_tellsLetters_13 rfl (by decide) ?_
      refine aw_if_eq (tgt := 19) (pc' := 17) hC dX8_tellsLetters_14 (by decide) rfl (fun c3 => ?_) (fun c3 => ?_)
      · replace h := it_p c3 h
        refine aw_iconst (pc' := 20) hC dX8_tellsLetters_19 rfl (by decide) ?_
        refine aw_istore_n (pc' := 21) (i := 2) (ls' := [some (.inr (.inr v0)), some (.inl v1), some (.inl 0)]) hC dX8_tellsLetters_20 rfl rfl (Nat.le_of_ble_eq_true rfl) rfl rfl ?_
        obtain ⟨tq13, q13, h⟩ := pb_s h
        refine aw_sub hC [some (.inr (.inr v0)), some (.inl v1), some (.inl 0)] ⟨rfl, ⟨rfl, ⟨rfl, trivial⟩⟩⟩ (Nat.le_of_ble_eq_true rfl) ?_
        refine (lp_aw (p_X8_tellsLetters_L21 Γ sh M v0 v1 (fin_ Γ 0 0 (some (.inl r)) sh M)) (x_X8_tellsLetters_L21 Γ sh M v0 v1 (fin_ Γ 0 0 (some (.inl r)) sh M)) (w_X8_tellsLetters_L21 hC ) FU _ _ q13 ?_ : p_X8_tellsLetters_L21 Γ sh M v0 v1 (fin_ Γ 0 0 (some (.inl r)) sh M) 0)
        rcases tq13 with tq13 | tq13
        · replace h := se_l h
          cases tq13
          replace h := u0_s h
          show AW Γ sh M 0 0 53 [none, none, none] [] _
          refine aw_iconst (pc' := 54) hC dX8_tellsLetters_53 rfl (by decide) ?_
          cases h
          exact aw_zret hC (Or.inr rfl) dX8_tellsLetters_54 (Nat.le_of_ble_eq_true rfl) (Nat.le_of_ble_eq_true rfl)
        · replace h := se_r h
          cases tq13
          replace h := u0_s h
          show AW Γ sh M 0 0 45 [none, none, none] [] _
          refine aw_iconst (pc' := 46) hC dX8_tellsLetters_45 rfl (by decide) ?_
          cases h
          exact aw_zret hC (Or.inl rfl) dX8_tellsLetters_46 (Nat.le_of_ble_eq_true rfl) (Nat.le_of_ble_eq_true rfl)
      · replace h := it_n c3 h
        refine aw_iconst (pc' := 18) hC dX8_tellsLetters_17 rfl (by decide) ?_
        cases h
        exact aw_zret hC (Or.inl rfl) dX8_tellsLetters_18 (Nat.le_of_ble_eq_true rfl) (Nat.le_of_ble_eq_true rfl)
-- CoinCircle$Circle.letterVerdict(II)I
def fX0_letterVerdict (sh : AwS) (M : AwM) (v0 : Int) (v1 : Int) (v2 : Int) : Option (Int × AwM) :=
  gd_ (kd_ sh v0 = (0, 0)) (pb (fX0_knows sh M v0 v1 v2) <| u1 fun (x3 : Int) => ((if x3 = 0 then gd_ (kd_ sh (M v0 0) = (0, 3)) (gd_ ((kd_ sh (M (M v0 0) 3)).1 = 1 ∧ (0 : Int) ≤ v1 ∧ v1 < ((kd_ sh (M (M v0 0) 3)).2 : Int)) (pb (fX8_isIn sh M (M (M (M v0 0) 3) v1) v2) <| u1 fun (x8 : Int) => ((if x8 = 0 then pb (fX0_testHolds sh M v0 v1 v2) <| u2 fun (x11 : Int) (M12 : AwM) => ((if x11 = 0 then some (3, M12) else some (0, M12))) else some (2, M))))) else some (1, M))))
set_option maxRecDepth 100000 in
set_option maxHeartbeats 4000000 in
theorem mX0_letterVerdict {sh : AwS} {M : AwM} {v0 : Int} {v1 : Int} {v2 : Int} {r : Int} {M' : AwM} (h : fX0_letterVerdict sh M v0 v1 v2 = some (r, M')) : AMet yX0_letterVerdict cX0_letterVerdict 3 (some .int) 6 0 0 [.inr (.inr v0), .inl v1, .inl v2] sh M (some (.inl r)) sh M' := by
  refine amet_of (by decide +kernel) (Nat.le_of_ble_eq_true rfl) (fun Γ hC => ?_)
  replace hC : AOK Γ RX0 cX0_letterVerdict 3 6 0 0 "letterVerdict" (some .int) := hC
  unfold fX0_letterVerdict at h
  refine aw_sub hC [some (.inr (.inr v0)), some (.inl v1), some (.inl v2)] ⟨rfl, ⟨rfl, ⟨rfl, trivial⟩⟩⟩ (Nat.le_of_ble_eq_true rfl) ?_
  refine aw_aload_n (pc' := 1) (i := 0) hC dX0_letterVerdict_0 rfl rfl rfl ?_
  refine aw_iload_n (pc' := 2) (i := 1) hC dX0_letterVerdict_1 rfl rfl rfl ?_
  refine aw_iload_n (pc' := 3) (i := 2) hC dX0_letterVerdict_2 rfl rfl rfl ?_
  obtain ⟨g2, h⟩ := gd_s h
  obtain ⟨x3, q1, h⟩ := pb_s h
  replace h := u1_s h
  refine aw_cV (pc' := 6) (k2 := 0) (n2 := 0) (st := []) (stN := [.inl x3]) hC [.inl v1, .inl v2] (mX0_knows q1) lk_X0_59 g2 dX0_letterVerdict_3 rfl rfl (Nat.le_of_ble_eq_true rfl) (Nat.le_of_ble_eq_true rfl) (Nat.le_of_ble_eq_true rfl) rfl (Nat.le_of_ble_eq_true rfl) rfl rfl rfl ?_
  refine aw_if_eq (tgt := 11) (pc' := 9) hC dX0_letterVerdict_6 (by decide) rfl (fun c4 => ?_) (fun c4 => ?_)
  · replace h := it_p c4 h
    refine aw_aload_n (pc' := 12) (i := 0) hC dX0_letterVerdict_11 rfl rfl rfl ?_
    refine aw_getfield (pc' := 15) (v := (.inr (.inr (M v0 0)))) hC dX0_letterVerdict_12 rfl fl_X0_12 g2 rfl ?_
    obtain ⟨g5, h⟩ := gd_s h
    refine aw_getfield (pc' := 18) (v := (.inr (.inr (M (M v0 0) 3)))) hC dX0_letterVerdict_15 rfl fl_X0_40 g5 rfl ?_
    refine aw_iload_n (pc' := 19) (i := 1) hC dX0_letterVerdict_18 rfl rfl rfl ?_
    obtain ⟨g6, h⟩ := gd_s h
    refine aw_iaload (pc' := 20) hC dX0_letterVerdict_19 rfl g6 ?_
    refine aw_iload_n (pc' := 21) (i := 2) hC dX0_letterVerdict_20 rfl rfl rfl ?_
    obtain ⟨x8, q7, h⟩ := pb_s h
    replace h := u1_s h
    refine aw_cSN (pc' := 24) (k2 := 0) (n2 := 0) (st := []) (stN := [.inl x8]) hC [.inl (M (M (M v0 0) 3) v1), .inl v2] (mX8_isIn q7) lk_X0_51 dX0_letterVerdict_21 rfl rfl (Nat.le_of_ble_eq_true rfl) (Nat.le_of_ble_eq_true rfl) (Nat.le_of_ble_eq_true rfl) rfl (Nat.le_of_ble_eq_true rfl) rfl rfl rfl ?_
    refine aw_if_eq (tgt := 29) (pc' := 27) hC dX0_letterVerdict_24 (by decide) rfl (fun c9 => ?_) (fun c9 => ?_)
    · replace h := it_p c9 h
      refine aw_aload_n (pc' := 30) (i := 0) hC dX0_letterVerdict_29 rfl rfl rfl ?_
      refine aw_iload_n (pc' := 31) (i := 1) hC dX0_letterVerdict_30 rfl rfl rfl ?_
      refine aw_iload_n (pc' := 32) (i := 2) hC dX0_letterVerdict_31 rfl rfl rfl ?_
      obtain ⟨⟨x11, M12⟩, q10, h⟩ := pb_s h
      replace h := u2_s h
      refine aw_cV (pc' := 35) (k2 := 0) (n2 := 0) (st := []) (stN := [.inl x11]) hC [.inl v1, .inl v2] (mX0_testHolds q10) lk_X0_130 g2 dX0_letterVerdict_32 rfl rfl (Nat.le_of_ble_eq_true rfl) (Nat.le_of_ble_eq_true rfl) (Nat.le_of_ble_eq_true rfl) rfl (Nat.le_of_ble_eq_true rfl) rfl rfl rfl ?_
      refine aw_if_eq (tgt := 42) (pc' := 38) hC dX0_letterVerdict_35 (by decide) rfl (fun c13 => ?_) (fun c13 => ?_)
      · replace h := it_p c13 h
        refine aw_iconst (pc' := 43) hC dX0_letterVerdict_42 rfl (by decide) ?_
        cases h
        exact aw_iret hC dX0_letterVerdict_43 (Nat.le_of_ble_eq_true rfl) (Nat.le_of_ble_eq_true rfl)
      · replace h := it_n c13 h
        refine aw_iconst (pc' := 39) hC dX0_letterVerdict_38 rfl (by decide) ?_
        refine aw_goto (tgt := 43) hC dX0_letterVerdict_39 (by decide) ?_
        cases h
        exact aw_iret hC dX0_letterVerdict_43 (Nat.le_of_ble_eq_true rfl) (Nat.le_of_ble_eq_true rfl)
    · replace h := it_n c9 h
      refine aw_iconst (pc' := 28) hC dX0_letterVerdict_27 rfl (by decide) ?_
      cases h
      exact aw_iret hC dX0_letterVerdict_28 (Nat.le_of_ble_eq_true rfl) (Nat.le_of_ble_eq_true rfl)
  · replace h := it_n c4 h
    refine aw_iconst (pc' := 10) hC dX0_letterVerdict_9 rfl (by decide) ?_
    cases h
    exact aw_iret hC dX0_letterVerdict_10 (Nat.le_of_ble_eq_true rfl) (Nat.le_of_ble_eq_true rfl)
-- CoinCircle.letters()I
def fX8_letters_L35 (sh : AwS) (v0 : Int) (v2 : Int) (v3 : Int) (M : AwM) : Option ((Int × Int × AwM) ⊕ (Int × AwM)) :=
  gd_ (kd_ sh v0 = (0, 8)) ((if v3 < (M v0 10) then (if v3 < 20 then pb (fX8_tapeByte sh M v0 (w32 (2 * v3))) <| u1 fun (x13 : Int) => (pb (fX8_tapeByte sh M v0 (w32 ((w32 (2 * v3)) + 1))) <| u1 fun (x15 : Int) => (gd_ (kd_ sh (M v0 4) = (0, 0)) (pb (fX0_letterVerdict sh M (M v0 4) x13 x15) <| u2 fun (x18 : Int) (M19 : AwM) => (gd_ ((kd_ sh (M v0 9)).1 = 1 ∧ (0 : Int) ≤ v3 ∧ v3 < ((kd_ sh (M v0 9)).2 : Int)) (bd_ (up_ M19 (M v0 9) v3 x18) fun (M21 : AwM) => (gd_ ((kd_ sh (M21 v0 9)).1 = 1 ∧ (0 : Int) ≤ v3 ∧ v3 < ((kd_ sh (M21 v0 9)).2 : Int)) ((if (M21 (M21 v0 9) v3) = 0 then some (.inl (v2, (w32 (v3 + 1)), M21)) else some (.inl ((w32 (v2 + 1)), (w32 (v3 + 1)), M21)))))))))) else some (.inr (v2, M))) else some (.inr (v2, M))))
def p_X8_letters_L35 (Γ : AwC) (sh : AwS) (v0 : Int) (Q : State → Prop) (s : Int × Int × AwM) : Prop := AW Γ sh (s.2.2) 0 0 35 [some (.inr (.inr v0)), none, some (.inl (s.1)), some (.inl (s.2.1))] [] Q
def x_X8_letters_L35 (Γ : AwC) (sh : AwS) (v0 : Int) (Q : State → Prop) : (Int × AwM) → Prop := (fun (t : Int × AwM) => AW Γ sh (t.2) 0 0 96 [none, none, some (.inl (t.1)), none] [] Q)
def fX8_letters (sh : AwS) (M : AwM) (v0 : Int) : Option (Int × AwM) :=
  gd_ (kd_ sh v0 = (0, 8)) (bd_ (up_ M v0 1 0) fun (M2 : AwM) => (pb (fX8_tellsLetters sh M2 v0 (M v0 1)) <| u1 fun (x5 : Int) => ((if x5 = 0 then pb (fX8_refuse sh M2 v0 5) <| u2 fun (x29 : Int) (M30 : AwM) => (some (x29, M30)) else bd_ (up_ M2 v0 10 (w32 (((M v0 1) : Int).tdiv 2))) fun (M7 : AwM) => (pb (lp (u3 (fX8_letters_L35 sh v0)) FU (0, 0, M7)) (u2 (fun (x26 : Int) (M27 : AwM) => some (x26, M27))))))))
set_option maxRecDepth 100000 in
set_option maxHeartbeats 4000000 in
theorem w_X8_letters_L35 {Γ : AwC} (hC : AOK Γ RX8 cX8_letters 4 7 0 0 "letters" (some .int)) {sh : AwS} {v0 : Int} {Q : State → Prop} : ∀ s r, u3 (fX8_letters_L35 sh v0) s = some r → (∀ s', r = .inl s' → p_X8_letters_L35 Γ sh v0 Q s') → (∀ t, r = .inr t → x_X8_letters_L35 Γ sh v0 Q t) → p_X8_letters_L35 Γ sh v0 Q s := by
  intro s r h hL hX
  obtain ⟨v2, v3, M⟩ := s
  replace h := u3_s h
  unfold fX8_letters_L35 at h
  show AW Γ sh M 0 0 35 [some (.inr (.inr v0)), none, some (.inl v2), some (.inl v3)] [] Q
  refine aw_iload_n (pc' := 36) (i := 3) hC dX8_letters_35 rfl rfl rfl ?_
  refine aw_aload_n (pc' := 37) (i := 0) hC dX8_letters_36 rfl rfl rfl ?_
  obtain ⟨g9, h⟩ := gd_s h
  refine aw_getfield (pc' := 40) (v := (.inl (M v0 10))) hC dX8_letters_37 rfl fl_X8_92 g9 rfl ?_
  refine aw_icmp_ge (tgt := 96) (pc' := 43) hC dX8_letters_40 (by decide) rfl (fun c10 => ?_) (fun c10 => ?_)
  · replace h := it_n c10 h
    refine aw_sub hC [none, none, some (.inl v2), none] ⟨rfl, trivial⟩ (Nat.le_of_ble_eq_true rfl) ?_
    cases h
    exact hX _ rfl
  · replace h := it_p c10 h
    refine aw_iload_n (pc' := 44) (i := 3) hC dX8_letters_43 rfl rfl rfl ?_
    refine aw_bipush (pc' := 46) hC dX8_letters_44 rfl (by decide) ?_
    refine aw_icmp_ge (tgt := 96) (pc' := 49) hC dX8_letters_46 (by decide) rfl (fun c11 => ?_) (fun c11 => ?_)
    · replace h := it_n c11 h
      refine aw_sub hC [none, none, some (.inl v2), none] ⟨rfl, trivial⟩ (Nat.le_of_ble_eq_true rfl) ?_
      cases h
      exact hX _ rfl
    · replace h := it_p c11 h
      refine aw_aload_n (pc' := 50) (i := 0) hC dX8_letters_49 rfl rfl rfl ?_
      refine aw_getfield (pc' := 53) (v := (.inr (.inr (M v0 9)))) hC dX8_letters_50 rfl fl_X8_38 g9 rfl ?_
      refine aw_iload_n (pc' := 54) (i := 3) hC dX8_letters_53 rfl rfl rfl ?_
      refine aw_aload_n (pc' := 55) (i := 0) hC dX8_letters_54 rfl rfl rfl ?_
      refine aw_getfield (pc' := 58) (v := (.inr (.inr (M v0 4)))) hC dX8_letters_55 rfl fl_X8_60 g9 rfl ?_
      refine aw_aload_n (pc' := 59) (i := 0) hC dX8_letters_58 rfl rfl rfl ?_
      refine aw_iconst (pc' := 60) hC dX8_letters_59 rfl (by decide) ?_
      refine aw_iload_n (pc' := 61) (i := 3) hC dX8_letters_60 rfl rfl rfl ?_
      refine aw_imul (pc' := 62) hC dX8_letters_61 rfl  ?_
      obtain ⟨x13, q12, h⟩ := pb_s h
      replace h := u1_s h
      refine aw_cV (pc' := 65) (k2 := 0) (n2 := 0) (st := [.inr (.inr (M v0 4)), .inl v3, .inr (.inr (M v0 9))]) (stN := [.inl x13, .inr (.inr (M v0 4)), .inl v3, .inr (.inr (M v0 9))]) hC [.inl (w32 (2 * v3))] (mX8_tapeByte q12) lk_X8_271 g9 dX8_letters_62 rfl rfl (Nat.le_of_ble_eq_true rfl) (Nat.le_of_ble_eq_true rfl) (Nat.le_of_ble_eq_true rfl) rfl (Nat.le_of_ble_eq_true rfl) rfl rfl rfl ?_
      refine aw_aload_n (pc' := 66) (i := 0) hC dX8_letters_65 rfl rfl rfl ?_
      refine aw_iconst (pc' := 67) hC dX8_letters_66 rfl (by decide) ?_
      refine aw_iload_n (pc' := 68) (i := 3) hC dX8_letters_67 rfl rfl rfl ?_
      refine aw_imul (pc' := 69) hC dX8_letters_68 rfl  ?_
      refine aw_iconst (pc' := 70) hC dX8_letters_69 rfl (by decide) ?_
      refine aw_iadd (pc' := 71) hC dX8_letters_70 rfl  ?_
      obtain ⟨x15, q14, h⟩ := pb_s h
      replace h := u1_s h
      refine aw_cV (pc' := 74) (k2 := 0) (n2 := 0) (st := [.inl x13, .inr (.inr (M v0 4)), .inl v3, .inr (.inr (M v0 9))]) (stN := [.inl x15, .inl x13, .inr (.inr (M v0 4)), .inl v3, .inr (.inr (M v0 9))]) hC [.inl (w32 ((w32 (2 * v3)) + 1))] (mX8_tapeByte q14) lk_X8_271 g9 dX8_letters_71 rfl rfl (Nat.le_of_ble_eq_true rfl) (Nat.le_of_ble_eq_true rfl) (Nat.le_of_ble_eq_true rfl) rfl (Nat.le_of_ble_eq_true rfl) rfl rfl rfl ?_
      obtain ⟨g17, h⟩ := gd_s h
      obtain ⟨⟨x18, M19⟩, q16, h⟩ := pb_s h
      replace h := u2_s h
      refine aw_cV (pc' := 77) (k2 := 0) (n2 := 0) (st := [.inl v3, .inr (.inr (M v0 9))]) (stN := [.inl x18, .inl v3, .inr (.inr (M v0 9))]) hC [.inl x13, .inl x15] (mX0_letterVerdict q16) lk_X8_274 g17 dX8_letters_74 rfl rfl (Nat.le_of_ble_eq_true rfl) (Nat.le_of_ble_eq_true rfl) (Nat.le_of_ble_eq_true rfl) rfl (Nat.le_of_ble_eq_true rfl) rfl rfl rfl ?_
      obtain ⟨g20, h⟩ := gd_s h
      obtain ⟨M21, e22, h⟩ := bd_s h
      refine aw_ias (pc' := 78) hC dX8_letters_77 rfl g20 e22 ?_
      refine aw_aload_n (pc' := 79) (i := 0) hC dX8_letters_78 rfl rfl rfl ?_
      refine aw_getfield (pc' := 82) (v := (.inr (.inr (M21 v0 9)))) hC dX8_letters_79 rfl fl_X8_38 g9 rfl ?_
      refine aw_iload_n (pc' := 83) (i := 3) hC dX8_letters_82 rfl rfl rfl ?_
      obtain ⟨g23, h⟩ := gd_s h
      refine aw_iaload (pc' := 84) hC dX8_letters_83 rfl g23 ?_
      refine aw_if_eq (tgt := 90) (pc' := 87) hC dX8_letters_84 (by decide) rfl (fun c24 => ?_) (fun c24 => ?_)
      · replace h := it_p c24 h
        refine aw_iinc (pc' := 93) (ls' := [some (.inr (.inr v0)), none, some (.inl v2), some (.inl (w32 (v3 + 1)))]) hC dX8_letters_90 rfl rfl rfl rfl ?_
        refine aw_goto (tgt := 35) hC dX8_letters_93 (by decide) ?_
        refine aw_sub hC [some (.inr (.inr v0)), none, some (.inl v2), some (.inl (w32 (v3 + 1)))] ⟨rfl, ⟨rfl, ⟨rfl, trivial⟩⟩⟩ (Nat.le_of_ble_eq_true rfl) ?_
        cases h
        exact hL _ rfl
      · replace h := it_n c24 h
        refine aw_iinc (pc' := 90) (ls' := [some (.inr (.inr v0)), none, some (.inl (w32 (v2 + 1))), some (.inl v3)]) hC dX8_letters_87 rfl rfl rfl rfl ?_
        refine aw_iinc (pc' := 93) (ls' := [some (.inr (.inr v0)), none, some (.inl (w32 (v2 + 1))), some (.inl (w32 (v3 + 1)))]) hC dX8_letters_90 rfl rfl rfl rfl ?_
        refine aw_goto (tgt := 35) hC dX8_letters_93 (by decide) ?_
        refine aw_sub hC [some (.inr (.inr v0)), none, some (.inl (w32 (v2 + 1))), some (.inl (w32 (v3 + 1)))] ⟨rfl, ⟨rfl, ⟨rfl, trivial⟩⟩⟩ (Nat.le_of_ble_eq_true rfl) ?_
        cases h
        exact hL _ rfl
set_option maxRecDepth 100000 in
set_option maxHeartbeats 4000000 in
theorem mX8_letters {sh : AwS} {M : AwM} {v0 : Int} {r : Int} {M' : AwM} (h : fX8_letters sh M v0 = some (r, M')) : AMet yX8_letters cX8_letters 4 (some .int) 7 0 0 [.inr (.inr v0)] sh M (some (.inl r)) sh M' := by
  refine amet_of (by decide +kernel) (Nat.le_of_ble_eq_true rfl) (fun Γ hC => ?_)
  replace hC : AOK Γ RX8 cX8_letters 4 7 0 0 "letters" (some .int) := hC
  unfold fX8_letters at h
  refine aw_sub hC [some (.inr (.inr v0)), none, none, none] ⟨rfl, trivial⟩ (Nat.le_of_ble_eq_true rfl) ?_
  refine aw_aload_n (pc' := 1) (i := 0) hC dX8_letters_0 rfl rfl rfl ?_
  obtain ⟨g1, h⟩ := gd_s h
  refine aw_getfield (pc' := 4) (v := (.inl (M v0 1))) hC dX8_letters_1 rfl fl_X8_67 g1 rfl ?_
  refine aw_istore_n (pc' := 5) (i := 1) (ls' := [some (.inr (.inr v0)), some (.inl (M v0 1)), none, none]) hC dX8_letters_4 rfl rfl (Nat.le_of_ble_eq_true rfl) rfl rfl ?_
  refine aw_aload_n (pc' := 6) (i := 0) hC dX8_letters_5 rfl rfl rfl ?_
  refine aw_iconst (pc' := 7) hC dX8_letters_6 rfl (by decide) ?_
  obtain ⟨M2, e3, h⟩ := bd_s h
  refine aw_pf (pc' := 10) hC dX8_letters_7 rfl fp_X8_67 g1 rfl trivial e3 ?_
  refine aw_aload_n (pc' := 11) (i := 0) hC dX8_letters_10 rfl rfl rfl ?_
  refine aw_iload_n (pc' := 12) (i := 1) hC dX8_letters_11 rfl rfl rfl ?_
  obtain ⟨x5, q4, h⟩ := pb_s h
  replace h := u1_s h
  refine aw_cV (pc' := 15) (k2 := 0) (n2 := 0) (st := []) (stN := [.inl x5]) hC [.inl (M v0 1)] (mX8_tellsLetters q4) lk_X8_268 g1 dX8_letters_12 rfl rfl (Nat.le_of_ble_eq_true rfl) (Nat.le_of_ble_eq_true rfl) (Nat.le_of_ble_eq_true rfl) rfl (Nat.le_of_ble_eq_true rfl) rfl rfl rfl ?_
  refine aw_if_ne (tgt := 24) (pc' := 18) hC dX8_letters_15 (by decide) rfl (fun c6 => ?_) (fun c6 => ?_)
  · replace h := it_n c6 h
    refine aw_aload_n (pc' := 25) (i := 0) hC dX8_letters_24 rfl rfl rfl ?_
    refine aw_iload_n (pc' := 26) (i := 1) hC dX8_letters_25 rfl rfl rfl ?_
    refine aw_iconst (pc' := 27) hC dX8_letters_26 rfl (by decide) ?_
    refine aw_idiv (pc' := 28) hC dX8_letters_27 rfl (by decide) ?_
    obtain ⟨M7, e8, h⟩ := bd_s h
    refine aw_pf (pc' := 31) hC dX8_letters_28 rfl fp_X8_92 g1 rfl trivial e8 ?_
    refine aw_iconst (pc' := 32) hC dX8_letters_31 rfl (by decide) ?_
    refine aw_istore_n (pc' := 33) (i := 2) (ls' := [some (.inr (.inr v0)), some (.inl (M v0 1)), some (.inl 0), none]) hC dX8_letters_32 rfl rfl (Nat.le_of_ble_eq_true rfl) rfl rfl ?_
    refine aw_iconst (pc' := 34) hC dX8_letters_33 rfl (by decide) ?_
    refine aw_istore_n (pc' := 35) (i := 3) (ls' := [some (.inr (.inr v0)), some (.inl (M v0 1)), some (.inl 0), some (.inl 0)]) hC dX8_letters_34 rfl rfl (Nat.le_of_ble_eq_true rfl) rfl rfl ?_
    obtain ⟨tq25, q25, h⟩ := pb_s h
    refine aw_sub hC [some (.inr (.inr v0)), none, some (.inl 0), some (.inl 0)] ⟨rfl, ⟨rfl, ⟨rfl, trivial⟩⟩⟩ (Nat.le_of_ble_eq_true rfl) ?_
    refine (lp_aw (p_X8_letters_L35 Γ sh v0 (fin_ Γ 0 0 (some (.inl r)) sh M')) (x_X8_letters_L35 Γ sh v0 (fin_ Γ 0 0 (some (.inl r)) sh M')) (w_X8_letters_L35 hC ) FU _ _ q25 ?_ : p_X8_letters_L35 Γ sh v0 (fin_ Γ 0 0 (some (.inl r)) sh M') (0, 0, M7))
    obtain ⟨x26, M27⟩ := tq25
    replace h := u2_s h
    show AW Γ sh M27 0 0 96 [none, none, some (.inl x26), none] [] _
    refine aw_iload_n (pc' := 97) (i := 2) hC dX8_letters_96 rfl rfl rfl ?_
    cases h
    exact aw_iret hC dX8_letters_97 (Nat.le_of_ble_eq_true rfl) (Nat.le_of_ble_eq_true rfl)
  · replace h := it_p c6 h
    refine aw_aload_n (pc' := 19) (i := 0) hC dX8_letters_18 rfl rfl rfl ?_
    refine aw_iconst (pc' := 20) hC dX8_letters_19 rfl (by decide) ?_
    obtain ⟨⟨x29, M30⟩, q28, h⟩ := pb_s h
    replace h := u2_s h
    refine aw_cV (pc' := 23) (k2 := 0) (n2 := 0) (st := []) (stN := [.inl x29]) hC [.inl 5] (mX8_refuse q28) lk_X8_70 g1 dX8_letters_20 rfl rfl (Nat.le_of_ble_eq_true rfl) (Nat.le_of_ble_eq_true rfl) (Nat.le_of_ble_eq_true rfl) rfl (Nat.le_of_ble_eq_true rfl) rfl rfl rfl ?_
    cases h
    exact aw_iret hC dX8_letters_23 (Nat.le_of_ble_eq_true rfl) (Nat.le_of_ble_eq_true rfl)
-- CoinCircle.letterIs(I)I
def fX8_letterIs (sh : AwS) (M : AwM) (v0 : Int) (v1 : Int) : Option Int :=
  (if v1 < 0 then some (-1) else gd_ (kd_ sh v0 = (0, 8)) ((if v1 < (M v0 10) then (if v1 < 20 then gd_ ((kd_ sh (M v0 9)).1 = 1 ∧ (0 : Int) ≤ v1 ∧ v1 < ((kd_ sh (M v0 9)).2 : Int)) (some (M (M v0 9) v1)) else some (-1)) else some (-1))))
set_option maxRecDepth 100000 in
set_option maxHeartbeats 4000000 in
theorem mX8_letterIs {sh : AwS} {M : AwM} {v0 : Int} {v1 : Int} {r : Int} (h : fX8_letterIs sh M v0 v1 = some r) : AMet yX8_letterIs cX8_letterIs 2 (some .int) 1 0 0 [.inr (.inr v0), .inl v1] sh M (some (.inl r)) sh M := by
  refine amet_of (by decide +kernel) (Nat.le_of_ble_eq_true rfl) (fun Γ hC => ?_)
  replace hC : AOK Γ RX8 cX8_letterIs 2 1 0 0 "letterIs" (some .int) := hC
  unfold fX8_letterIs at h
  refine aw_sub hC [some (.inr (.inr v0)), some (.inl v1)] ⟨rfl, ⟨rfl, trivial⟩⟩ (Nat.le_of_ble_eq_true rfl) ?_
  refine aw_iload_n (pc' := 1) (i := 1) hC dX8_letterIs_0 rfl rfl rfl ?_
  refine aw_if_lt (tgt := 27) (pc' := 4) hC dX8_letterIs_1 (by decide) rfl (fun c1 => ?_) (fun c1 => ?_)
  · replace h := it_p c1 h
    refine aw_iconst (pc' := 28) hC dX8_letterIs_27 rfl (by decide) ?_
    cases h
    exact aw_iret hC dX8_letterIs_28 (Nat.le_of_ble_eq_true rfl) (Nat.le_of_ble_eq_true rfl)
  · replace h := it_n c1 h
    refine aw_iload_n (pc' := 5) (i := 1) hC dX8_letterIs_4 rfl rfl rfl ?_
    refine aw_aload_n (pc' := 6) (i := 0) hC dX8_letterIs_5 rfl rfl rfl ?_
    obtain ⟨g2, h⟩ := gd_s h
    refine aw_getfield (pc' := 9) (v := (.inl (M v0 10))) hC dX8_letterIs_6 rfl fl_X8_92 g2 rfl ?_
    refine aw_icmp_ge (tgt := 27) (pc' := 12) hC dX8_letterIs_9 (by decide) rfl (fun c3 => ?_) (fun c3 => ?_)
    · replace h := it_n c3 h
      refine aw_iconst (pc' := 28) hC dX8_letterIs_27 rfl (by decide) ?_
      cases h
      exact aw_iret hC dX8_letterIs_28 (Nat.le_of_ble_eq_true rfl) (Nat.le_of_ble_eq_true rfl)
    · replace h := it_p c3 h
      refine aw_iload_n (pc' := 13) (i := 1) hC dX8_letterIs_12 rfl rfl rfl ?_
      refine aw_bipush (pc' := 15) hC dX8_letterIs_13 rfl (by decide) ?_
      refine aw_icmp_ge (tgt := 27) (pc' := 18) hC dX8_letterIs_15 (by decide) rfl (fun c4 => ?_) (fun c4 => ?_)
      · replace h := it_n c4 h
        refine aw_iconst (pc' := 28) hC dX8_letterIs_27 rfl (by decide) ?_
        cases h
        exact aw_iret hC dX8_letterIs_28 (Nat.le_of_ble_eq_true rfl) (Nat.le_of_ble_eq_true rfl)
      · replace h := it_p c4 h
        refine aw_aload_n (pc' := 19) (i := 0) hC dX8_letterIs_18 rfl rfl rfl ?_
        refine aw_getfield (pc' := 22) (v := (.inr (.inr (M v0 9)))) hC dX8_letterIs_19 rfl fl_X8_38 g2 rfl ?_
        refine aw_iload_n (pc' := 23) (i := 1) hC dX8_letterIs_22 rfl rfl rfl ?_
        obtain ⟨g5, h⟩ := gd_s h
        refine aw_iaload (pc' := 24) hC dX8_letterIs_23 rfl g5 ?_
        refine aw_goto (tgt := 28) hC dX8_letterIs_24 (by decide) ?_
        cases h
        exact aw_iret hC dX8_letterIs_28 (Nat.le_of_ble_eq_true rfl) (Nat.le_of_ble_eq_true rfl)
-- java/lang/Math.abs(I)I
def fJ9_abs_0f7a4 (sh : AwS) (M : AwM) (v0 : Int) : Option Int :=
  (if v0 < 0 then some (w32 (-v0)) else some v0)
set_option maxRecDepth 100000 in
set_option maxHeartbeats 4000000 in
theorem mJ9_abs_0f7a4 {sh : AwS} {M : AwM} {v0 : Int} {r : Int} (h : fJ9_abs_0f7a4 sh M v0 = some r) : AMet yJ9_abs_0f7a4 cJ9_abs_0f7a4 1 (some .int) 1 0 0 [.inl v0] sh M (some (.inl r)) sh M := by
  refine amet_of (by decide +kernel) (Nat.le_of_ble_eq_true rfl) (fun Γ hC => ?_)
  replace hC : AOK Γ RJ9 cJ9_abs_0f7a4 1 1 0 0 "abs" (some .int) := hC
  unfold fJ9_abs_0f7a4 at h
  refine aw_sub hC [some (.inl v0)] ⟨rfl, trivial⟩ (Nat.le_of_ble_eq_true rfl) ?_
  refine aw_iload_n (pc' := 1) (i := 0) hC dJ9_abs_0f7a4_0 rfl rfl rfl ?_
  refine aw_if_ge (tgt := 9) (pc' := 4) hC dJ9_abs_0f7a4_1 (by decide) rfl (fun c1 => ?_) (fun c1 => ?_)
  · replace h := it_n c1 h
    refine aw_iload_n (pc' := 10) (i := 0) hC dJ9_abs_0f7a4_9 rfl rfl rfl ?_
    cases h
    exact aw_iret hC dJ9_abs_0f7a4_10 (Nat.le_of_ble_eq_true rfl) (Nat.le_of_ble_eq_true rfl)
  · replace h := it_p c1 h
    refine aw_iload_n (pc' := 5) (i := 0) hC dJ9_abs_0f7a4_4 rfl rfl rfl ?_
    refine aw_ineg (pc' := 6) hC dJ9_abs_0f7a4_5 rfl  ?_
    refine aw_goto (tgt := 10) hC dJ9_abs_0f7a4_6 (by decide) ?_
    cases h
    exact aw_iret hC dJ9_abs_0f7a4_10 (Nat.le_of_ble_eq_true rfl) (Nat.le_of_ble_eq_true rfl)
-- CoinCircle$Society.difference(II)I
def fX5_difference (sh : AwS) (M : AwM) (v0 : Int) (v1 : Int) (v2 : Int) : Option Int :=
  gd_ (kd_ sh v0 = (0, 5)) (pb (fX5_worthOf sh M v0 v2) <| u1 fun (x3 : Int) => (pb (fX5_worthOf sh M v0 v1) <| u1 fun (x5 : Int) => (pb (fJ9_abs_0f7a4 sh M (w32 (x3 - (w32 (2 * x5))))) <| u1 fun (x7 : Int) => (some x7))))
set_option maxRecDepth 100000 in
set_option maxHeartbeats 4000000 in
theorem mX5_difference {sh : AwS} {M : AwM} {v0 : Int} {v1 : Int} {v2 : Int} {r : Int} (h : fX5_difference sh M v0 v1 v2 = some r) : AMet yX5_difference cX5_difference 3 (some .int) 3 0 0 [.inr (.inr v0), .inl v1, .inl v2] sh M (some (.inl r)) sh M := by
  refine amet_of (by decide +kernel) (Nat.le_of_ble_eq_true rfl) (fun Γ hC => ?_)
  replace hC : AOK Γ RX5 cX5_difference 3 3 0 0 "difference" (some .int) := hC
  unfold fX5_difference at h
  refine aw_sub hC [some (.inr (.inr v0)), some (.inl v1), some (.inl v2)] ⟨rfl, ⟨rfl, ⟨rfl, trivial⟩⟩⟩ (Nat.le_of_ble_eq_true rfl) ?_
  refine aw_aload_n (pc' := 1) (i := 0) hC dX5_difference_0 rfl rfl rfl ?_
  refine aw_iload_n (pc' := 2) (i := 2) hC dX5_difference_1 rfl rfl rfl ?_
  obtain ⟨g2, h⟩ := gd_s h
  obtain ⟨x3, q1, h⟩ := pb_s h
  replace h := u1_s h
  refine aw_cV (pc' := 5) (k2 := 0) (n2 := 0) (st := []) (stN := [.inl x3]) hC [.inl v2] (mX5_worthOf q1) lk_X5_78 g2 dX5_difference_2 rfl rfl (Nat.le_of_ble_eq_true rfl) (Nat.le_of_ble_eq_true rfl) (Nat.le_of_ble_eq_true rfl) rfl (Nat.le_of_ble_eq_true rfl) rfl rfl rfl ?_
  refine aw_iconst (pc' := 6) hC dX5_difference_5 rfl (by decide) ?_
  refine aw_aload_n (pc' := 7) (i := 0) hC dX5_difference_6 rfl rfl rfl ?_
  refine aw_iload_n (pc' := 8) (i := 1) hC dX5_difference_7 rfl rfl rfl ?_
  obtain ⟨x5, q4, h⟩ := pb_s h
  replace h := u1_s h
  refine aw_cV (pc' := 11) (k2 := 0) (n2 := 0) (st := [.inl 2, .inl x3]) (stN := [.inl x5, .inl 2, .inl x3]) hC [.inl v1] (mX5_worthOf q4) lk_X5_78 g2 dX5_difference_8 rfl rfl (Nat.le_of_ble_eq_true rfl) (Nat.le_of_ble_eq_true rfl) (Nat.le_of_ble_eq_true rfl) rfl (Nat.le_of_ble_eq_true rfl) rfl rfl rfl ?_
  refine aw_imul (pc' := 12) hC dX5_difference_11 rfl  ?_
  refine aw_isub (pc' := 13) hC dX5_difference_12 rfl  ?_
  obtain ⟨x7, q6, h⟩ := pb_s h
  replace h := u1_s h
  refine aw_cS (pc' := 16) (k2 := 0) (n2 := 0) (st := []) (stN := [.inl x7]) hC [.inl (w32 (x3 - (w32 (2 * x5))))] (mJ9_abs_0f7a4 q6) lk_X5_81 dX5_difference_13 rfl rfl (Nat.le_of_ble_eq_true rfl) (Nat.le_of_ble_eq_true rfl) (Nat.le_of_ble_eq_true rfl) rfl (Nat.le_of_ble_eq_true rfl) rfl rfl rfl ?_
  cases h
  exact aw_iret hC dX5_difference_16 (Nat.le_of_ble_eq_true rfl) (Nat.le_of_ble_eq_true rfl)
-- CoinCircle$Society.fairPurse(I)I
def fX5_fairPurse_L15 (sh : AwS) (M : AwM) (v0 : Int) (v1 : Int) (v2 : Int) (v3 : Int) (v4 : Int) (v5 : Int) : Option ((Int × Int × Int × Int) ⊕ ((Int) ⊕ (Int))) :=
  (if v5 < 4096 then (if (an_ (w32 (v3 - v1)) v1) = 0 then some (.inr (.inr v2)) else gd_ (kd_ sh v0 = (0, 5)) (pb (fX5_difference sh M v0 (an_ (w32 (v3 - v1)) v1) v1) <| u1 fun (x8 : Int) => ((if x8 < v4 then some (.inl ((an_ (w32 (v3 - v1)) v1), (an_ (w32 (v3 - v1)) v1), x8, (w32 (v5 + 1)))) else some (.inl (v2, (an_ (w32 (v3 - v1)) v1), v4, (w32 (v5 + 1)))))))) else some (.inr (.inl v2)))
def p_X5_fairPurse_L15 (Γ : AwC) (sh : AwS) (M : AwM) (v0 : Int) (v1 : Int) (Q : State → Prop) (s : Int × Int × Int × Int) : Prop := AW Γ sh M 0 0 15 [some (.inr (.inr v0)), some (.inl v1), some (.inl (s.1)), some (.inl (s.2.1)), some (.inl (s.2.2.1)), some (.inl (s.2.2.2)), none] [] Q
def x_X5_fairPurse_L15 (Γ : AwC) (sh : AwS) (M : AwM) (v0 : Int) (v1 : Int) (Q : State → Prop) : ((Int) ⊕ (Int)) → Prop := (Sum.elim (fun (t : Int) => AW Γ sh M 0 0 62 [none, none, some (.inl (t)), none, none, none, none] [] Q) (fun (t : Int) => AW Γ sh M 0 0 33 [none, none, some (.inl (t)), none, none, none, none] [] Q))
def fX5_fairPurse (sh : AwS) (M : AwM) (v0 : Int) (v1 : Int) : Option Int :=
  gd_ (kd_ sh v0 = (0, 5)) (pb (fX5_difference sh M v0 0 v1) <| u1 fun (x3 : Int) => (pb (lp (u4 (fX5_fairPurse_L15 sh M v0 v1)) FU (0, 0, x3, 0)) (Sum.elim (u1 (fun (tq10 : Int) => some tq10)) (u1 (fun (tq10 : Int) => some tq10)))))
set_option maxRecDepth 100000 in
set_option maxHeartbeats 4000000 in
theorem w_X5_fairPurse_L15 {Γ : AwC} (hC : AOK Γ RX5 cX5_fairPurse 7 4 0 0 "fairPurse" (some .int)) {sh : AwS} {M : AwM} {v0 : Int} {v1 : Int} {Q : State → Prop} : ∀ s r, u4 (fX5_fairPurse_L15 sh M v0 v1) s = some r → (∀ s', r = .inl s' → p_X5_fairPurse_L15 Γ sh M v0 v1 Q s') → (∀ t, r = .inr t → x_X5_fairPurse_L15 Γ sh M v0 v1 Q t) → p_X5_fairPurse_L15 Γ sh M v0 v1 Q s := by
  intro s r h hL hX
  obtain ⟨v2, v3, v4, v5⟩ := s
  replace h := u4_s h
  unfold fX5_fairPurse_L15 at h
  show AW Γ sh M 0 0 15 [some (.inr (.inr v0)), some (.inl v1), some (.inl v2), some (.inl v3), some (.inl v4), some (.inl v5), none] [] Q
  refine aw_iload (pc' := 17) hC dX5_fairPurse_15 rfl rfl ?_
  refine aw_sipush (pc' := 20) hC dX5_fairPurse_17 rfl (by decide) ?_
  refine aw_icmp_ge (tgt := 62) (pc' := 23) hC dX5_fairPurse_20 (by decide) rfl (fun c4 => ?_) (fun c4 => ?_)
  · replace h := it_n c4 h
    refine aw_sub hC [none, none, some (.inl v2), none, none, none, none] ⟨rfl, trivial⟩ (Nat.le_of_ble_eq_true rfl) ?_
    cases h
    exact hX _ rfl
  · replace h := it_p c4 h
    refine aw_iload_n (pc' := 24) (i := 3) hC dX5_fairPurse_23 rfl rfl rfl ?_
    refine aw_iload_n (pc' := 25) (i := 1) hC dX5_fairPurse_24 rfl rfl rfl ?_
    refine aw_isub (pc' := 26) hC dX5_fairPurse_25 rfl  ?_
    refine aw_iload_n (pc' := 27) (i := 1) hC dX5_fairPurse_26 rfl rfl rfl ?_
    refine aw_iand (pc' := 28) hC dX5_fairPurse_27 rfl  ?_
    refine aw_istore_n (pc' := 29) (i := 3) (ls' := [some (.inr (.inr v0)), some (.inl v1), some (.inl v2), some (.inl (an_ (w32 (v3 - v1)) v1)), some (.inl v4), some (.inl v5), none]) hC dX5_fairPurse_28 rfl rfl (Nat.le_of_ble_eq_true rfl) rfl rfl ?_
    refine aw_iload_n (pc' := 30) (i := 3) hC dX5_fairPurse_29 rfl rfl rfl ?_
    refine aw_if_ne (tgt := 35) (pc' := 33) hC dX5_fairPurse_30 (by decide) rfl (fun c5 => ?_) (fun c5 => ?_)
    · replace h := it_n c5 h
      refine aw_aload_n (pc' := 36) (i := 0) hC dX5_fairPurse_35 rfl rfl rfl ?_
      refine aw_iload_n (pc' := 37) (i := 3) hC dX5_fairPurse_36 rfl rfl rfl ?_
      refine aw_iload_n (pc' := 38) (i := 1) hC dX5_fairPurse_37 rfl rfl rfl ?_
      obtain ⟨g7, h⟩ := gd_s h
      obtain ⟨x8, q6, h⟩ := pb_s h
      replace h := u1_s h
      refine aw_cV (pc' := 41) (k2 := 0) (n2 := 0) (st := []) (stN := [.inl x8]) hC [.inl (an_ (w32 (v3 - v1)) v1), .inl v1] (mX5_difference q6) lk_X5_86 g7 dX5_fairPurse_38 rfl rfl (Nat.le_of_ble_eq_true rfl) (Nat.le_of_ble_eq_true rfl) (Nat.le_of_ble_eq_true rfl) rfl (Nat.le_of_ble_eq_true rfl) rfl rfl rfl ?_
      refine aw_istore (pc' := 43) (ls' := [some (.inr (.inr v0)), some (.inl v1), some (.inl v2), some (.inl (an_ (w32 (v3 - v1)) v1)), some (.inl v4), some (.inl v5), some (.inl x8)]) hC dX5_fairPurse_41 rfl (Nat.le_of_ble_eq_true rfl) rfl rfl ?_
      refine aw_iload (pc' := 45) hC dX5_fairPurse_43 rfl rfl ?_
      refine aw_iload (pc' := 47) hC dX5_fairPurse_45 rfl rfl ?_
      refine aw_icmp_ge (tgt := 56) (pc' := 50) hC dX5_fairPurse_47 (by decide) rfl (fun c9 => ?_) (fun c9 => ?_)
      · replace h := it_n c9 h
        refine aw_iinc (pc' := 59) (ls' := [some (.inr (.inr v0)), some (.inl v1), some (.inl v2), some (.inl (an_ (w32 (v3 - v1)) v1)), some (.inl v4), some (.inl (w32 (v5 + 1))), some (.inl x8)]) hC dX5_fairPurse_56 rfl rfl rfl rfl ?_
        refine aw_goto (tgt := 15) hC dX5_fairPurse_59 (by decide) ?_
        refine aw_sub hC [some (.inr (.inr v0)), some (.inl v1), some (.inl v2), some (.inl (an_ (w32 (v3 - v1)) v1)), some (.inl v4), some (.inl (w32 (v5 + 1))), none] ⟨rfl, ⟨rfl, ⟨rfl, ⟨rfl, ⟨rfl, ⟨rfl, trivial⟩⟩⟩⟩⟩⟩ (Nat.le_of_ble_eq_true rfl) ?_
        cases h
        exact hL _ rfl
      · replace h := it_p c9 h
        refine aw_iload (pc' := 52) hC dX5_fairPurse_50 rfl rfl ?_
        refine aw_istore (pc' := 54) (ls' := [some (.inr (.inr v0)), some (.inl v1), some (.inl v2), some (.inl (an_ (w32 (v3 - v1)) v1)), some (.inl x8), some (.inl v5), some (.inl x8)]) hC dX5_fairPurse_52 rfl (Nat.le_of_ble_eq_true rfl) rfl rfl ?_
        refine aw_iload_n (pc' := 55) (i := 3) hC dX5_fairPurse_54 rfl rfl rfl ?_
        refine aw_istore_n (pc' := 56) (i := 2) (ls' := [some (.inr (.inr v0)), some (.inl v1), some (.inl (an_ (w32 (v3 - v1)) v1)), some (.inl (an_ (w32 (v3 - v1)) v1)), some (.inl x8), some (.inl v5), some (.inl x8)]) hC dX5_fairPurse_55 rfl rfl (Nat.le_of_ble_eq_true rfl) rfl rfl ?_
        refine aw_iinc (pc' := 59) (ls' := [some (.inr (.inr v0)), some (.inl v1), some (.inl (an_ (w32 (v3 - v1)) v1)), some (.inl (an_ (w32 (v3 - v1)) v1)), some (.inl x8), some (.inl (w32 (v5 + 1))), some (.inl x8)]) hC dX5_fairPurse_56 rfl rfl rfl rfl ?_
        refine aw_goto (tgt := 15) hC dX5_fairPurse_59 (by decide) ?_
        refine aw_sub hC [some (.inr (.inr v0)), some (.inl v1), some (.inl (an_ (w32 (v3 - v1)) v1)), some (.inl (an_ (w32 (v3 - v1)) v1)), some (.inl x8), some (.inl (w32 (v5 + 1))), none] ⟨rfl, ⟨rfl, ⟨rfl, ⟨rfl, ⟨rfl, ⟨rfl, trivial⟩⟩⟩⟩⟩⟩ (Nat.le_of_ble_eq_true rfl) ?_
        cases h
        exact hL _ rfl
    · replace h := it_p c5 h
      refine aw_sub hC [none, none, some (.inl v2), none, none, none, none] ⟨rfl, trivial⟩ (Nat.le_of_ble_eq_true rfl) ?_
      cases h
      exact hX _ rfl
set_option maxRecDepth 100000 in
set_option maxHeartbeats 4000000 in
theorem mX5_fairPurse {sh : AwS} {M : AwM} {v0 : Int} {v1 : Int} {r : Int} (h : fX5_fairPurse sh M v0 v1 = some r) : AMet yX5_fairPurse cX5_fairPurse 7 (some .int) 4 0 0 [.inr (.inr v0), .inl v1] sh M (some (.inl r)) sh M := by
  refine amet_of (by decide +kernel) (Nat.le_of_ble_eq_true rfl) (fun Γ hC => ?_)
  replace hC : AOK Γ RX5 cX5_fairPurse 7 4 0 0 "fairPurse" (some .int) := hC
  unfold fX5_fairPurse at h
  refine aw_sub hC [some (.inr (.inr v0)), some (.inl v1), none, none, none, none, none] ⟨rfl, ⟨rfl, trivial⟩⟩ (Nat.le_of_ble_eq_true rfl) ?_
  refine aw_iconst (pc' := 1) hC dX5_fairPurse_0 rfl (by decide) ?_
  refine aw_istore_n (pc' := 2) (i := 2) (ls' := [some (.inr (.inr v0)), some (.inl v1), some (.inl 0), none, none, none, none]) hC dX5_fairPurse_1 rfl rfl (Nat.le_of_ble_eq_true rfl) rfl rfl ?_
  refine aw_iconst (pc' := 3) hC dX5_fairPurse_2 rfl (by decide) ?_
  refine aw_istore_n (pc' := 4) (i := 3) (ls' := [some (.inr (.inr v0)), some (.inl v1), some (.inl 0), some (.inl 0), none, none, none]) hC dX5_fairPurse_3 rfl rfl (Nat.le_of_ble_eq_true rfl) rfl rfl ?_
  refine aw_aload_n (pc' := 5) (i := 0) hC dX5_fairPurse_4 rfl rfl rfl ?_
  refine aw_iconst (pc' := 6) hC dX5_fairPurse_5 rfl (by decide) ?_
  refine aw_iload_n (pc' := 7) (i := 1) hC dX5_fairPurse_6 rfl rfl rfl ?_
  obtain ⟨g2, h⟩ := gd_s h
  obtain ⟨x3, q1, h⟩ := pb_s h
  replace h := u1_s h
  refine aw_cV (pc' := 10) (k2 := 0) (n2 := 0) (st := []) (stN := [.inl x3]) hC [.inl 0, .inl v1] (mX5_difference q1) lk_X5_86 g2 dX5_fairPurse_7 rfl rfl (Nat.le_of_ble_eq_true rfl) (Nat.le_of_ble_eq_true rfl) (Nat.le_of_ble_eq_true rfl) rfl (Nat.le_of_ble_eq_true rfl) rfl rfl rfl ?_
  refine aw_istore (pc' := 12) (ls' := [some (.inr (.inr v0)), some (.inl v1), some (.inl 0), some (.inl 0), some (.inl x3), none, none]) hC dX5_fairPurse_10 rfl (Nat.le_of_ble_eq_true rfl) rfl rfl ?_
  refine aw_iconst (pc' := 13) hC dX5_fairPurse_12 rfl (by decide) ?_
  refine aw_istore (pc' := 15) (ls' := [some (.inr (.inr v0)), some (.inl v1), some (.inl 0), some (.inl 0), some (.inl x3), some (.inl 0), none]) hC dX5_fairPurse_13 rfl (Nat.le_of_ble_eq_true rfl) rfl rfl ?_
  obtain ⟨tq10, q10, h⟩ := pb_s h
  refine aw_sub hC [some (.inr (.inr v0)), some (.inl v1), some (.inl 0), some (.inl 0), some (.inl x3), some (.inl 0), none] ⟨rfl, ⟨rfl, ⟨rfl, ⟨rfl, ⟨rfl, ⟨rfl, trivial⟩⟩⟩⟩⟩⟩ (Nat.le_of_ble_eq_true rfl) ?_
  refine (lp_aw (p_X5_fairPurse_L15 Γ sh M v0 v1 (fin_ Γ 0 0 (some (.inl r)) sh M)) (x_X5_fairPurse_L15 Γ sh M v0 v1 (fin_ Γ 0 0 (some (.inl r)) sh M)) (w_X5_fairPurse_L15 hC ) FU _ _ q10 ?_ : p_X5_fairPurse_L15 Γ sh M v0 v1 (fin_ Γ 0 0 (some (.inl r)) sh M) (0, 0, x3, 0))
  rcases tq10 with tq10 | tq10
  · replace h := se_l h
    replace h := u1_s h
    show AW Γ sh M 0 0 62 [none, none, some (.inl tq10), none, none, none, none] [] _
    refine aw_iload_n (pc' := 63) (i := 2) hC dX5_fairPurse_62 rfl rfl rfl ?_
    cases h
    exact aw_iret hC dX5_fairPurse_63 (Nat.le_of_ble_eq_true rfl) (Nat.le_of_ble_eq_true rfl)
  · replace h := se_r h
    replace h := u1_s h
    show AW Γ sh M 0 0 33 [none, none, some (.inl tq10), none, none, none, none] [] _
    refine aw_iload_n (pc' := 34) (i := 2) hC dX5_fairPurse_33 rfl rfl rfl ?_
    cases h
    exact aw_iret hC dX5_fairPurse_34 (Nat.le_of_ble_eq_true rfl) (Nat.le_of_ble_eq_true rfl)
-- CoinCircle.fair(II)I
def fX8_fair (sh : AwS) (M : AwM) (v0 : Int) (v1 : Int) (v2 : Int) : Option Int :=
  gd_ (kd_ sh v0 = (0, 8)) (gd_ (kd_ sh (M v0 3) = (0, 5)) (pb (fX5_isThere sh M (M v0 3) 0 v1) <| u1 fun (x4 : Int) => ((if x4 = 0 then some (-1) else gd_ (kd_ sh (M v0 4) = (0, 0)) (pb (fX0_heldBy sh M (M v0 4) v1) <| u1 fun (x8 : Int) => (pb (fX5_fairPurse sh M (M v0 3) x8) <| u1 fun (x10 : Int) => ((if v2 = 0 then some x10 else (if v2 = 1 then pb (fX5_difference sh M (M v0 3) x10 x8) <| u1 fun (x14 : Int) => (some x14) else some (-1))))))))))
set_option maxRecDepth 100000 in
set_option maxHeartbeats 4000000 in
theorem mX8_fair {sh : AwS} {M : AwM} {v0 : Int} {v1 : Int} {v2 : Int} {r : Int} (h : fX8_fair sh M v0 v1 v2 = some r) : AMet yX8_fair cX8_fair 5 (some .int) 5 0 0 [.inr (.inr v0), .inl v1, .inl v2] sh M (some (.inl r)) sh M := by
  refine amet_of (by decide +kernel) (Nat.le_of_ble_eq_true rfl) (fun Γ hC => ?_)
  replace hC : AOK Γ RX8 cX8_fair 5 5 0 0 "fair" (some .int) := hC
  unfold fX8_fair at h
  refine aw_sub hC [some (.inr (.inr v0)), some (.inl v1), some (.inl v2), none, none] ⟨rfl, ⟨rfl, ⟨rfl, trivial⟩⟩⟩ (Nat.le_of_ble_eq_true rfl) ?_
  refine aw_aload_n (pc' := 1) (i := 0) hC dX8_fair_0 rfl rfl rfl ?_
  obtain ⟨g1, h⟩ := gd_s h
  refine aw_getfield (pc' := 4) (v := (.inr (.inr (M v0 3)))) hC dX8_fair_1 rfl fl_X8_51 g1 rfl ?_
  refine aw_iconst (pc' := 5) hC dX8_fair_4 rfl (by decide) ?_
  refine aw_iload_n (pc' := 6) (i := 1) hC dX8_fair_5 rfl rfl rfl ?_
  obtain ⟨g3, h⟩ := gd_s h
  obtain ⟨x4, q2, h⟩ := pb_s h
  replace h := u1_s h
  refine aw_cV (pc' := 9) (k2 := 0) (n2 := 0) (st := []) (stN := [.inl x4]) hC [.inl 0, .inl v1] (mX5_isThere q2) lk_X8_135 g3 dX8_fair_6 rfl rfl (Nat.le_of_ble_eq_true rfl) (Nat.le_of_ble_eq_true rfl) (Nat.le_of_ble_eq_true rfl) rfl (Nat.le_of_ble_eq_true rfl) rfl rfl rfl ?_
  refine aw_if_ne (tgt := 14) (pc' := 12) hC dX8_fair_9 (by decide) rfl (fun c5 => ?_) (fun c5 => ?_)
  · replace h := it_n c5 h
    refine aw_aload_n (pc' := 15) (i := 0) hC dX8_fair_14 rfl rfl rfl ?_
    refine aw_getfield (pc' := 18) (v := (.inr (.inr (M v0 4)))) hC dX8_fair_15 rfl fl_X8_60 g1 rfl ?_
    refine aw_iload_n (pc' := 19) (i := 1) hC dX8_fair_18 rfl rfl rfl ?_
    obtain ⟨g7, h⟩ := gd_s h
    obtain ⟨x8, q6, h⟩ := pb_s h
    replace h := u1_s h
    refine aw_cV (pc' := 22) (k2 := 0) (n2 := 0) (st := []) (stN := [.inl x8]) hC [.inl v1] (mX0_heldBy q6) lk_X8_150 g7 dX8_fair_19 rfl rfl (Nat.le_of_ble_eq_true rfl) (Nat.le_of_ble_eq_true rfl) (Nat.le_of_ble_eq_true rfl) rfl (Nat.le_of_ble_eq_true rfl) rfl rfl rfl ?_
    refine aw_istore_n (pc' := 23) (i := 3) (ls' := [some (.inr (.inr v0)), some (.inl v1), some (.inl v2), some (.inl x8), none]) hC dX8_fair_22 rfl rfl (Nat.le_of_ble_eq_true rfl) rfl rfl ?_
    refine aw_aload_n (pc' := 24) (i := 0) hC dX8_fair_23 rfl rfl rfl ?_
    refine aw_getfield (pc' := 27) (v := (.inr (.inr (M v0 3)))) hC dX8_fair_24 rfl fl_X8_51 g1 rfl ?_
    refine aw_iload_n (pc' := 28) (i := 3) hC dX8_fair_27 rfl rfl rfl ?_
    obtain ⟨x10, q9, h⟩ := pb_s h
    replace h := u1_s h
    refine aw_cV (pc' := 31) (k2 := 0) (n2 := 0) (st := []) (stN := [.inl x10]) hC [.inl x8] (mX5_fairPurse q9) lk_X8_277 g3 dX8_fair_28 rfl rfl (Nat.le_of_ble_eq_true rfl) (Nat.le_of_ble_eq_true rfl) (Nat.le_of_ble_eq_true rfl) rfl (Nat.le_of_ble_eq_true rfl) rfl rfl rfl ?_
    refine aw_istore (pc' := 33) (ls' := [some (.inr (.inr v0)), some (.inl v1), some (.inl v2), some (.inl x8), some (.inl x10)]) hC dX8_fair_31 rfl (Nat.le_of_ble_eq_true rfl) rfl rfl ?_
    refine aw_iload_n (pc' := 34) (i := 2) hC dX8_fair_33 rfl rfl rfl ?_
    by_cases c11 : v2 = 0
    · replace h := it_p c11 h
      refine aw_ls (tgt := 60) (off := 26) hC dX8_fair_34 (by decide) (os_p c11) (by decide) ?_
      refine aw_iload (pc' := 62) hC dX8_fair_60 rfl rfl ?_
      cases h
      exact aw_iret hC dX8_fair_62 (Nat.le_of_ble_eq_true rfl) (Nat.le_of_ble_eq_true rfl)
    · replace h := it_n c11 h
      by_cases c12 : v2 = 1
      · replace h := it_p c12 h
        refine aw_ls (tgt := 63) (off := 29) hC dX8_fair_34 (by decide) ((os_n c11).trans (os_p c12)) (by decide) ?_
        refine aw_aload_n (pc' := 64) (i := 0) hC dX8_fair_63 rfl rfl rfl ?_
        refine aw_getfield (pc' := 67) (v := (.inr (.inr (M v0 3)))) hC dX8_fair_64 rfl fl_X8_51 g1 rfl ?_
        refine aw_iload (pc' := 69) hC dX8_fair_67 rfl rfl ?_
        refine aw_iload_n (pc' := 70) (i := 3) hC dX8_fair_69 rfl rfl rfl ?_
        obtain ⟨x14, q13, h⟩ := pb_s h
        replace h := u1_s h
        refine aw_cV (pc' := 73) (k2 := 0) (n2 := 0) (st := []) (stN := [.inl x14]) hC [.inl x10, .inl x8] (mX5_difference q13) lk_X8_280 g3 dX8_fair_70 rfl rfl (Nat.le_of_ble_eq_true rfl) (Nat.le_of_ble_eq_true rfl) (Nat.le_of_ble_eq_true rfl) rfl (Nat.le_of_ble_eq_true rfl) rfl rfl rfl ?_
        cases h
        exact aw_iret hC dX8_fair_73 (Nat.le_of_ble_eq_true rfl) (Nat.le_of_ble_eq_true rfl)
      · replace h := it_n c12 h
        refine aw_ls (tgt := 74) (off := 40) hC dX8_fair_34 (by decide) ((os_n c11).trans ((os_n c12).trans rfl)) (by decide) ?_
        refine aw_iconst (pc' := 75) hC dX8_fair_74 rfl (by decide) ?_
        cases h
        exact aw_iret hC dX8_fair_75 (Nat.le_of_ble_eq_true rfl) (Nat.le_of_ble_eq_true rfl)
  · replace h := it_p c5 h
    refine aw_iconst (pc' := 13) hC dX8_fair_12 rfl (by decide) ?_
    cases h
    exact aw_iret hC dX8_fair_13 (Nat.le_of_ble_eq_true rfl) (Nat.le_of_ble_eq_true rfl)
-- java/lang/Integer.numberOfTrailingZeros(I)I
def fJ6_numberOfTrailingZeros_0f7a4_J62 (sh : AwS) (M : AwM) (v0 : Int) (v1 : Int) : Option Int :=
  (if 4 < v0 then some (w32 ((w32 (v1 + 2)) + (us_ (us_ v0 2) 1))) else some (w32 (v1 + (us_ v0 1))))
def fJ6_numberOfTrailingZeros_0f7a4_J49 (sh : AwS) (M : AwM) (v0 : Int) (v1 : Int) : Option Int :=
  (if 16 < v0 then fJ6_numberOfTrailingZeros_0f7a4_J62 sh M (us_ v0 4) (w32 (v1 + 4)) else fJ6_numberOfTrailingZeros_0f7a4_J62 sh M v0 v1)
def fJ6_numberOfTrailingZeros_0f7a4_J34 (sh : AwS) (M : AwM) (v0 : Int) (v1 : Int) : Option Int :=
  (if 256 < v0 then fJ6_numberOfTrailingZeros_0f7a4_J49 sh M (us_ v0 8) (w32 (v1 + 8)) else fJ6_numberOfTrailingZeros_0f7a4_J49 sh M v0 v1)
def fJ6_numberOfTrailingZeros_0f7a4 (sh : AwS) (M : AwM) (v0 : Int) : Option Int :=
  (if 0 < (an_ (xo_ v0 (-1)) (w32 (v0 - 1))) then (if 65536 < (an_ (xo_ v0 (-1)) (w32 (v0 - 1))) then fJ6_numberOfTrailingZeros_0f7a4_J34 sh M (us_ (an_ (xo_ v0 (-1)) (w32 (v0 - 1))) 16) (w32 (1 + 16)) else fJ6_numberOfTrailingZeros_0f7a4_J34 sh M (an_ (xo_ v0 (-1)) (w32 (v0 - 1))) 1) else some (an_ (an_ (xo_ v0 (-1)) (w32 (v0 - 1))) 32))
set_option maxRecDepth 100000 in
set_option maxHeartbeats 4000000 in
theorem w_J6_numberOfTrailingZeros_0f7a4_J62 {Γ : AwC} (hC : AOK Γ RJ6 cJ6_numberOfTrailingZeros_0f7a4 2 1 0 0 "numberOfTrailingZeros" (some .int)) {sh : AwS} {M : AwM} {v0 : Int} {v1 : Int} {r : Int} (h : fJ6_numberOfTrailingZeros_0f7a4_J62 sh M v0 v1 = some r) {Q : State → Prop} (hQ : Q = (fin_ Γ 0 0 (some (.inl r)) sh M)) : AW Γ sh M 0 0 62 [some (.inl v0), some (.inl v1)] [] Q := by
  unfold fJ6_numberOfTrailingZeros_0f7a4_J62 at h
  refine aw_iload_n (pc' := 63) (i := 0) hC dJ6_numberOfTrailingZeros_0f7a4_62 rfl rfl rfl ?_
  refine aw_iconst (pc' := 64) hC dJ6_numberOfTrailingZeros_0f7a4_63 rfl (by decide) ?_
  refine aw_icmp_le (tgt := 74) (pc' := 67) hC dJ6_numberOfTrailingZeros_0f7a4_64 (by decide) rfl (fun c5 => ?_) (fun c5 => ?_)
  · replace h := it_n c5 h
    refine aw_iload_n (pc' := 75) (i := 1) hC dJ6_numberOfTrailingZeros_0f7a4_74 rfl rfl rfl ?_
    refine aw_iload_n (pc' := 76) (i := 0) hC dJ6_numberOfTrailingZeros_0f7a4_75 rfl rfl rfl ?_
    refine aw_iconst (pc' := 77) hC dJ6_numberOfTrailingZeros_0f7a4_76 rfl (by decide) ?_
    refine aw_iushr (pc' := 78) hC dJ6_numberOfTrailingZeros_0f7a4_77 rfl  ?_
    refine aw_iadd (pc' := 79) hC dJ6_numberOfTrailingZeros_0f7a4_78 rfl  ?_
    cases h
    subst hQ
    exact aw_iret hC dJ6_numberOfTrailingZeros_0f7a4_79 (Nat.le_of_ble_eq_true rfl) (Nat.le_of_ble_eq_true rfl)
  · replace h := it_p c5 h
    refine aw_iinc (pc' := 70) (ls' := [some (.inl v0), some (.inl (w32 (v1 + 2)))]) hC dJ6_numberOfTrailingZeros_0f7a4_67 rfl rfl rfl rfl ?_
    refine aw_iload_n (pc' := 71) (i := 0) hC dJ6_numberOfTrailingZeros_0f7a4_70 rfl rfl rfl ?_
    refine aw_iconst (pc' := 72) hC dJ6_numberOfTrailingZeros_0f7a4_71 rfl (by decide) ?_
    refine aw_iushr (pc' := 73) hC dJ6_numberOfTrailingZeros_0f7a4_72 rfl  ?_
    refine aw_istore_n (pc' := 74) (i := 0) (ls' := [some (.inl (us_ v0 2)), some (.inl (w32 (v1 + 2)))]) hC dJ6_numberOfTrailingZeros_0f7a4_73 rfl rfl (Nat.le_of_ble_eq_true rfl) rfl rfl ?_
    refine aw_iload_n (pc' := 75) (i := 1) hC dJ6_numberOfTrailingZeros_0f7a4_74 rfl rfl rfl ?_
    refine aw_iload_n (pc' := 76) (i := 0) hC dJ6_numberOfTrailingZeros_0f7a4_75 rfl rfl rfl ?_
    refine aw_iconst (pc' := 77) hC dJ6_numberOfTrailingZeros_0f7a4_76 rfl (by decide) ?_
    refine aw_iushr (pc' := 78) hC dJ6_numberOfTrailingZeros_0f7a4_77 rfl  ?_
    refine aw_iadd (pc' := 79) hC dJ6_numberOfTrailingZeros_0f7a4_78 rfl  ?_
    cases h
    subst hQ
    exact aw_iret hC dJ6_numberOfTrailingZeros_0f7a4_79 (Nat.le_of_ble_eq_true rfl) (Nat.le_of_ble_eq_true rfl)
set_option maxRecDepth 100000 in
set_option maxHeartbeats 4000000 in
theorem w_J6_numberOfTrailingZeros_0f7a4_J49 {Γ : AwC} (hC : AOK Γ RJ6 cJ6_numberOfTrailingZeros_0f7a4 2 1 0 0 "numberOfTrailingZeros" (some .int)) {sh : AwS} {M : AwM} {v0 : Int} {v1 : Int} {r : Int} (h : fJ6_numberOfTrailingZeros_0f7a4_J49 sh M v0 v1 = some r) {Q : State → Prop} (hQ : Q = (fin_ Γ 0 0 (some (.inl r)) sh M)) : AW Γ sh M 0 0 49 [some (.inl v0), some (.inl v1)] [] Q := by
  unfold fJ6_numberOfTrailingZeros_0f7a4_J49 at h
  refine aw_iload_n (pc' := 50) (i := 0) hC dJ6_numberOfTrailingZeros_0f7a4_49 rfl rfl rfl ?_
  refine aw_bipush (pc' := 52) hC dJ6_numberOfTrailingZeros_0f7a4_50 rfl (by decide) ?_
  refine aw_icmp_le (tgt := 62) (pc' := 55) hC dJ6_numberOfTrailingZeros_0f7a4_52 (by decide) rfl (fun c4 => ?_) (fun c4 => ?_)
  · replace h := it_n c4 h
    refine aw_sub hC [some (.inl v0), some (.inl v1)] ⟨rfl, ⟨rfl, trivial⟩⟩ (Nat.le_of_ble_eq_true rfl) ?_
    exact w_J6_numberOfTrailingZeros_0f7a4_J62 hC h hQ
  · replace h := it_p c4 h
    refine aw_iinc (pc' := 58) (ls' := [some (.inl v0), some (.inl (w32 (v1 + 4)))]) hC dJ6_numberOfTrailingZeros_0f7a4_55 rfl rfl rfl rfl ?_
    refine aw_iload_n (pc' := 59) (i := 0) hC dJ6_numberOfTrailingZeros_0f7a4_58 rfl rfl rfl ?_
    refine aw_iconst (pc' := 60) hC dJ6_numberOfTrailingZeros_0f7a4_59 rfl (by decide) ?_
    refine aw_iushr (pc' := 61) hC dJ6_numberOfTrailingZeros_0f7a4_60 rfl  ?_
    refine aw_istore_n (pc' := 62) (i := 0) (ls' := [some (.inl (us_ v0 4)), some (.inl (w32 (v1 + 4)))]) hC dJ6_numberOfTrailingZeros_0f7a4_61 rfl rfl (Nat.le_of_ble_eq_true rfl) rfl rfl ?_
    refine aw_sub hC [some (.inl (us_ v0 4)), some (.inl (w32 (v1 + 4)))] ⟨rfl, ⟨rfl, trivial⟩⟩ (Nat.le_of_ble_eq_true rfl) ?_
    exact w_J6_numberOfTrailingZeros_0f7a4_J62 hC h hQ
set_option maxRecDepth 100000 in
set_option maxHeartbeats 4000000 in
theorem w_J6_numberOfTrailingZeros_0f7a4_J34 {Γ : AwC} (hC : AOK Γ RJ6 cJ6_numberOfTrailingZeros_0f7a4 2 1 0 0 "numberOfTrailingZeros" (some .int)) {sh : AwS} {M : AwM} {v0 : Int} {v1 : Int} {r : Int} (h : fJ6_numberOfTrailingZeros_0f7a4_J34 sh M v0 v1 = some r) {Q : State → Prop} (hQ : Q = (fin_ Γ 0 0 (some (.inl r)) sh M)) : AW Γ sh M 0 0 34 [some (.inl v0), some (.inl v1)] [] Q := by
  unfold fJ6_numberOfTrailingZeros_0f7a4_J34 at h
  refine aw_iload_n (pc' := 35) (i := 0) hC dJ6_numberOfTrailingZeros_0f7a4_34 rfl rfl rfl ?_
  refine aw_sipush (pc' := 38) hC dJ6_numberOfTrailingZeros_0f7a4_35 rfl (by decide) ?_
  refine aw_icmp_le (tgt := 49) (pc' := 41) hC dJ6_numberOfTrailingZeros_0f7a4_38 (by decide) rfl (fun c3 => ?_) (fun c3 => ?_)
  · replace h := it_n c3 h
    refine aw_sub hC [some (.inl v0), some (.inl v1)] ⟨rfl, ⟨rfl, trivial⟩⟩ (Nat.le_of_ble_eq_true rfl) ?_
    exact w_J6_numberOfTrailingZeros_0f7a4_J49 hC h hQ
  · replace h := it_p c3 h
    refine aw_iinc (pc' := 44) (ls' := [some (.inl v0), some (.inl (w32 (v1 + 8)))]) hC dJ6_numberOfTrailingZeros_0f7a4_41 rfl rfl rfl rfl ?_
    refine aw_iload_n (pc' := 45) (i := 0) hC dJ6_numberOfTrailingZeros_0f7a4_44 rfl rfl rfl ?_
    refine aw_bipush (pc' := 47) hC dJ6_numberOfTrailingZeros_0f7a4_45 rfl (by decide) ?_
    refine aw_iushr (pc' := 48) hC dJ6_numberOfTrailingZeros_0f7a4_47 rfl  ?_
    refine aw_istore_n (pc' := 49) (i := 0) (ls' := [some (.inl (us_ v0 8)), some (.inl (w32 (v1 + 8)))]) hC dJ6_numberOfTrailingZeros_0f7a4_48 rfl rfl (Nat.le_of_ble_eq_true rfl) rfl rfl ?_
    refine aw_sub hC [some (.inl (us_ v0 8)), some (.inl (w32 (v1 + 8)))] ⟨rfl, ⟨rfl, trivial⟩⟩ (Nat.le_of_ble_eq_true rfl) ?_
    exact w_J6_numberOfTrailingZeros_0f7a4_J49 hC h hQ
set_option maxRecDepth 100000 in
set_option maxHeartbeats 4000000 in
theorem mJ6_numberOfTrailingZeros_0f7a4 {sh : AwS} {M : AwM} {v0 : Int} {r : Int} (h : fJ6_numberOfTrailingZeros_0f7a4 sh M v0 = some r) : AMet yJ6_numberOfTrailingZeros_0f7a4 cJ6_numberOfTrailingZeros_0f7a4 2 (some .int) 1 0 0 [.inl v0] sh M (some (.inl r)) sh M := by
  refine amet_of (by decide +kernel) (Nat.le_of_ble_eq_true rfl) (fun Γ hC => ?_)
  replace hC : AOK Γ RJ6 cJ6_numberOfTrailingZeros_0f7a4 2 1 0 0 "numberOfTrailingZeros" (some .int) := hC
  unfold fJ6_numberOfTrailingZeros_0f7a4 at h
  refine aw_sub hC [some (.inl v0), none] ⟨rfl, trivial⟩ (Nat.le_of_ble_eq_true rfl) ?_
  refine aw_iload_n (pc' := 1) (i := 0) hC dJ6_numberOfTrailingZeros_0f7a4_0 rfl rfl rfl ?_
  refine aw_iconst (pc' := 2) hC dJ6_numberOfTrailingZeros_0f7a4_1 rfl (by decide) ?_
  refine aw_ixor (pc' := 3) hC dJ6_numberOfTrailingZeros_0f7a4_2 rfl  ?_
  refine aw_iload_n (pc' := 4) (i := 0) hC dJ6_numberOfTrailingZeros_0f7a4_3 rfl rfl rfl ?_
  refine aw_iconst (pc' := 5) hC dJ6_numberOfTrailingZeros_0f7a4_4 rfl (by decide) ?_
  refine aw_isub (pc' := 6) hC dJ6_numberOfTrailingZeros_0f7a4_5 rfl  ?_
  refine aw_iand (pc' := 7) hC dJ6_numberOfTrailingZeros_0f7a4_6 rfl  ?_
  refine aw_istore_n (pc' := 8) (i := 0) (ls' := [some (.inl (an_ (xo_ v0 (-1)) (w32 (v0 - 1)))), none]) hC dJ6_numberOfTrailingZeros_0f7a4_7 rfl rfl (Nat.le_of_ble_eq_true rfl) rfl rfl ?_
  refine aw_iload_n (pc' := 9) (i := 0) hC dJ6_numberOfTrailingZeros_0f7a4_8 rfl rfl rfl ?_
  refine aw_if_gt (tgt := 17) (pc' := 12) hC dJ6_numberOfTrailingZeros_0f7a4_9 (by decide) rfl (fun c1 => ?_) (fun c1 => ?_)
  · replace h := it_p c1 h
    refine aw_iconst (pc' := 18) hC dJ6_numberOfTrailingZeros_0f7a4_17 rfl (by decide) ?_
    refine aw_istore_n (pc' := 19) (i := 1) (ls' := [some (.inl (an_ (xo_ v0 (-1)) (w32 (v0 - 1)))), some (.inl 1)]) hC dJ6_numberOfTrailingZeros_0f7a4_18 rfl rfl (Nat.le_of_ble_eq_true rfl) rfl rfl ?_
    refine aw_iload_n (pc' := 20) (i := 0) hC dJ6_numberOfTrailingZeros_0f7a4_19 rfl rfl rfl ?_
    refine aw_ldcw (pc' := 23) (v := 65536) hC dJ6_numberOfTrailingZeros_0f7a4_20 rfl ck_J6_264 (by unfold I32; omega) ?_
    refine aw_icmp_le (tgt := 34) (pc' := 26) hC dJ6_numberOfTrailingZeros_0f7a4_23 (by decide) rfl (fun c2 => ?_) (fun c2 => ?_)
    · replace h := it_n c2 h
      refine aw_sub hC [some (.inl (an_ (xo_ v0 (-1)) (w32 (v0 - 1)))), some (.inl 1)] ⟨rfl, ⟨rfl, trivial⟩⟩ (Nat.le_of_ble_eq_true rfl) ?_
      exact w_J6_numberOfTrailingZeros_0f7a4_J34 hC h rfl
    · replace h := it_p c2 h
      refine aw_iinc (pc' := 29) (ls' := [some (.inl (an_ (xo_ v0 (-1)) (w32 (v0 - 1)))), some (.inl (w32 (1 + 16)))]) hC dJ6_numberOfTrailingZeros_0f7a4_26 rfl rfl rfl rfl ?_
      refine aw_iload_n (pc' := 30) (i := 0) hC dJ6_numberOfTrailingZeros_0f7a4_29 rfl rfl rfl ?_
      refine aw_bipush (pc' := 32) hC dJ6_numberOfTrailingZeros_0f7a4_30 rfl (by decide) ?_
      refine aw_iushr (pc' := 33) hC dJ6_numberOfTrailingZeros_0f7a4_32 rfl  ?_
      refine aw_istore_n (pc' := 34) (i := 0) (ls' := [some (.inl (us_ (an_ (xo_ v0 (-1)) (w32 (v0 - 1))) 16)), some (.inl (w32 (1 + 16)))]) hC dJ6_numberOfTrailingZeros_0f7a4_33 rfl rfl (Nat.le_of_ble_eq_true rfl) rfl rfl ?_
      refine aw_sub hC [some (.inl (us_ (an_ (xo_ v0 (-1)) (w32 (v0 - 1))) 16)), some (.inl (w32 (1 + 16)))] ⟨rfl, ⟨rfl, trivial⟩⟩ (Nat.le_of_ble_eq_true rfl) ?_
      exact w_J6_numberOfTrailingZeros_0f7a4_J34 hC h rfl
  · replace h := it_n c1 h
    refine aw_iload_n (pc' := 13) (i := 0) hC dJ6_numberOfTrailingZeros_0f7a4_12 rfl rfl rfl ?_
    refine aw_bipush (pc' := 15) hC dJ6_numberOfTrailingZeros_0f7a4_13 rfl (by decide) ?_
    refine aw_iand (pc' := 16) hC dJ6_numberOfTrailingZeros_0f7a4_15 rfl  ?_
    cases h
    exact aw_iret hC dJ6_numberOfTrailingZeros_0f7a4_16 (Nat.le_of_ble_eq_true rfl) (Nat.le_of_ble_eq_true rfl)
-- CoinCircle.putImageByte(I)V
def fX8_putImageByte (sh : AwS) (M : AwM) (v0 : Int) (v1 : Int) : Option (AwM) :=
  gd_ (kd_ sh v0 = (0, 8)) ((if (M v0 12) < 135 then gd_ ((kd_ sh (M v0 11)).1 = 3 ∧ (0 : Int) ≤ (M v0 12) ∧ (M v0 12) < ((kd_ sh (M v0 11)).2 : Int)) (bd_ (up_ M (M v0 11) (M v0 12) (w8_ (w8_ v1))) fun (M4 : AwM) => (bd_ (up_ M4 v0 12 (w32 ((M4 v0 12) + 1))) fun (M6 : AwM) => (some M6))) else some M))
set_option maxRecDepth 100000 in
set_option maxHeartbeats 4000000 in
theorem mX8_putImageByte {sh : AwS} {M : AwM} {v0 : Int} {v1 : Int} {M' : AwM} (h : fX8_putImageByte sh M v0 v1 = some M') : AMet yX8_putImageByte cX8_putImageByte 2 none 1 0 0 [.inr (.inr v0), .inl v1] sh M none sh M' := by
  refine amet_of (by decide +kernel) (Nat.le_of_ble_eq_true rfl) (fun Γ hC => ?_)
  replace hC : AOK Γ RX8 cX8_putImageByte 2 1 0 0 "putImageByte" none := hC
  unfold fX8_putImageByte at h
  refine aw_sub hC [some (.inr (.inr v0)), some (.inl v1)] ⟨rfl, ⟨rfl, trivial⟩⟩ (Nat.le_of_ble_eq_true rfl) ?_
  refine aw_aload_n (pc' := 1) (i := 0) hC dX8_putImageByte_0 rfl rfl rfl ?_
  obtain ⟨g1, h⟩ := gd_s h
  refine aw_getfield (pc' := 4) (v := (.inl (M v0 12))) hC dX8_putImageByte_1 rfl fl_X8_286 g1 rfl ?_
  refine aw_sipush (pc' := 7) hC dX8_putImageByte_4 rfl (by decide) ?_
  refine aw_icmp_ge (tgt := 31) (pc' := 10) hC dX8_putImageByte_7 (by decide) rfl (fun c2 => ?_) (fun c2 => ?_)
  · replace h := it_n c2 h
    cases h
    exact aw_vret hC dX8_putImageByte_31 (Nat.le_of_ble_eq_true rfl) (Nat.le_of_ble_eq_true rfl)
  · replace h := it_p c2 h
    refine aw_aload_n (pc' := 11) (i := 0) hC dX8_putImageByte_10 rfl rfl rfl ?_
    refine aw_getfield (pc' := 14) (v := (.inr (.inr (M v0 11)))) hC dX8_putImageByte_11 rfl fl_X8_41 g1 rfl ?_
    refine aw_aload_n (pc' := 15) (i := 0) hC dX8_putImageByte_14 rfl rfl rfl ?_
    refine aw_getfield (pc' := 18) (v := (.inl (M v0 12))) hC dX8_putImageByte_15 rfl fl_X8_286 g1 rfl ?_
    refine aw_iload_n (pc' := 19) (i := 1) hC dX8_putImageByte_18 rfl rfl rfl ?_
    refine aw_i2b (pc' := 20) hC dX8_putImageByte_19 rfl  ?_
    obtain ⟨g3, h⟩ := gd_s h
    obtain ⟨M4, e5, h⟩ := bd_s h
    refine aw_bas (pc' := 21) hC dX8_putImageByte_20 rfl g3 e5 ?_
    refine aw_aload_n (pc' := 22) (i := 0) hC dX8_putImageByte_21 rfl rfl rfl ?_
    refine aw_dup (pc' := 23) hC dX8_putImageByte_22 rfl rfl ?_
    refine aw_getfield (pc' := 26) (v := (.inl (M4 v0 12))) hC dX8_putImageByte_23 rfl fl_X8_286 g1 rfl ?_
    refine aw_iconst (pc' := 27) hC dX8_putImageByte_26 rfl (by decide) ?_
    refine aw_iadd (pc' := 28) hC dX8_putImageByte_27 rfl  ?_
    obtain ⟨M6, e7, h⟩ := bd_s h
    refine aw_pf (pc' := 31) hC dX8_putImageByte_28 rfl fp_X8_286 g1 rfl trivial e7 ?_
    cases h
    exact aw_vret hC dX8_putImageByte_31 (Nat.le_of_ble_eq_true rfl) (Nat.le_of_ble_eq_true rfl)
-- CoinCircle$Circle.standing(II)I
def fX0_standing (sh : AwS) (M : AwM) (v0 : Int) (v1 : Int) (v2 : Int) : Option Int :=
  gd_ (kd_ sh v0 = (0, 0)) (pb (fX0_knows sh M v0 v1 v2) <| u1 fun (x3 : Int) => ((if x3 = 0 then gd_ (kd_ sh (M v0 0) = (0, 3)) (gd_ ((kd_ sh (M (M v0 0) 3)).1 = 1 ∧ (0 : Int) ≤ v1 ∧ v1 < ((kd_ sh (M (M v0 0) 3)).2 : Int)) (pb (fX8_isIn sh M (M (M (M v0 0) 3) v1) v2) <| u1 fun (x8 : Int) => ((if x8 = 0 then some 0 else some 1)))) else gd_ (kd_ sh (M v0 0) = (0, 3)) (pb (fX3_metOn sh M (M v0 0) v1 v2) <| u1 fun (x12 : Int) => (pb (fJ9_min_7cf53 sh M 200 (w32 ((M (M v0 0) 0) - x12))) <| u1 fun (x14 : Int) => (some (w32 (2 + x14))))))))
set_option maxRecDepth 100000 in
set_option maxHeartbeats 4000000 in
theorem mX0_standing {sh : AwS} {M : AwM} {v0 : Int} {v1 : Int} {v2 : Int} {r : Int} (h : fX0_standing sh M v0 v1 v2 = some r) : AMet yX0_standing cX0_standing 3 (some .int) 3 0 0 [.inr (.inr v0), .inl v1, .inl v2] sh M (some (.inl r)) sh M := by
  refine amet_of (by decide +kernel) (Nat.le_of_ble_eq_true rfl) (fun Γ hC => ?_)
  replace hC : AOK Γ RX0 cX0_standing 3 3 0 0 "standing" (some .int) := hC
  unfold fX0_standing at h
  refine aw_sub hC [some (.inr (.inr v0)), some (.inl v1), some (.inl v2)] ⟨rfl, ⟨rfl, ⟨rfl, trivial⟩⟩⟩ (Nat.le_of_ble_eq_true rfl) ?_
  refine aw_aload_n (pc' := 1) (i := 0) hC dX0_standing_0 rfl rfl rfl ?_
  refine aw_iload_n (pc' := 2) (i := 1) hC dX0_standing_1 rfl rfl rfl ?_
  refine aw_iload_n (pc' := 3) (i := 2) hC dX0_standing_2 rfl rfl rfl ?_
  obtain ⟨g2, h⟩ := gd_s h
  obtain ⟨x3, q1, h⟩ := pb_s h
  replace h := u1_s h
  refine aw_cV (pc' := 6) (k2 := 0) (n2 := 0) (st := []) (stN := [.inl x3]) hC [.inl v1, .inl v2] (mX0_knows q1) lk_X0_59 g2 dX0_standing_3 rfl rfl (Nat.le_of_ble_eq_true rfl) (Nat.le_of_ble_eq_true rfl) (Nat.le_of_ble_eq_true rfl) rfl (Nat.le_of_ble_eq_true rfl) rfl rfl rfl ?_
  refine aw_if_eq (tgt := 35) (pc' := 9) hC dX0_standing_6 (by decide) rfl (fun c4 => ?_) (fun c4 => ?_)
  · replace h := it_p c4 h
    refine aw_aload_n (pc' := 36) (i := 0) hC dX0_standing_35 rfl rfl rfl ?_
    refine aw_getfield (pc' := 39) (v := (.inr (.inr (M v0 0)))) hC dX0_standing_36 rfl fl_X0_12 g2 rfl ?_
    obtain ⟨g5, h⟩ := gd_s h
    refine aw_getfield (pc' := 42) (v := (.inr (.inr (M (M v0 0) 3)))) hC dX0_standing_39 rfl fl_X0_40 g5 rfl ?_
    refine aw_iload_n (pc' := 43) (i := 1) hC dX0_standing_42 rfl rfl rfl ?_
    obtain ⟨g6, h⟩ := gd_s h
    refine aw_iaload (pc' := 44) hC dX0_standing_43 rfl g6 ?_
    refine aw_iload_n (pc' := 45) (i := 2) hC dX0_standing_44 rfl rfl rfl ?_
    obtain ⟨x8, q7, h⟩ := pb_s h
    replace h := u1_s h
    refine aw_cSN (pc' := 48) (k2 := 0) (n2 := 0) (st := []) (stN := [.inl x8]) hC [.inl (M (M (M v0 0) 3) v1), .inl v2] (mX8_isIn q7) lk_X0_51 dX0_standing_45 rfl rfl (Nat.le_of_ble_eq_true rfl) (Nat.le_of_ble_eq_true rfl) (Nat.le_of_ble_eq_true rfl) rfl (Nat.le_of_ble_eq_true rfl) rfl rfl rfl ?_
    refine aw_if_eq (tgt := 55) (pc' := 51) hC dX0_standing_48 (by decide) rfl (fun c9 => ?_) (fun c9 => ?_)
    · replace h := it_p c9 h
      refine aw_iconst (pc' := 56) hC dX0_standing_55 rfl (by decide) ?_
      cases h
      exact aw_iret hC dX0_standing_56 (Nat.le_of_ble_eq_true rfl) (Nat.le_of_ble_eq_true rfl)
    · replace h := it_n c9 h
      refine aw_iconst (pc' := 52) hC dX0_standing_51 rfl (by decide) ?_
      refine aw_goto (tgt := 56) hC dX0_standing_52 (by decide) ?_
      cases h
      exact aw_iret hC dX0_standing_56 (Nat.le_of_ble_eq_true rfl) (Nat.le_of_ble_eq_true rfl)
  · replace h := it_n c4 h
    refine aw_iconst (pc' := 10) hC dX0_standing_9 rfl (by decide) ?_
    refine aw_sipush (pc' := 13) hC dX0_standing_10 rfl (by decide) ?_
    refine aw_aload_n (pc' := 14) (i := 0) hC dX0_standing_13 rfl rfl rfl ?_
    refine aw_getfield (pc' := 17) (v := (.inr (.inr (M v0 0)))) hC dX0_standing_14 rfl fl_X0_12 g2 rfl ?_
    obtain ⟨g10, h⟩ := gd_s h
    refine aw_getfield (pc' := 20) (v := (.inl (M (M v0 0) 0))) hC dX0_standing_17 rfl fl_X0_26 g10 rfl ?_
    refine aw_aload_n (pc' := 21) (i := 0) hC dX0_standing_20 rfl rfl rfl ?_
    refine aw_getfield (pc' := 24) (v := (.inr (.inr (M v0 0)))) hC dX0_standing_21 rfl fl_X0_12 g2 rfl ?_
    refine aw_iload_n (pc' := 25) (i := 1) hC dX0_standing_24 rfl rfl rfl ?_
    refine aw_iload_n (pc' := 26) (i := 2) hC dX0_standing_25 rfl rfl rfl ?_
    obtain ⟨x12, q11, h⟩ := pb_s h
    replace h := u1_s h
    refine aw_cV (pc' := 29) (k2 := 0) (n2 := 0) (st := [.inl (M (M v0 0) 0), .inl 200, .inl 2]) (stN := [.inl x12, .inl (M (M v0 0) 0), .inl 200, .inl 2]) hC [.inl v1, .inl v2] (mX3_metOn q11) lk_X0_155 g10 dX0_standing_26 rfl rfl (Nat.le_of_ble_eq_true rfl) (Nat.le_of_ble_eq_true rfl) (Nat.le_of_ble_eq_true rfl) rfl (Nat.le_of_ble_eq_true rfl) rfl rfl rfl ?_
    refine aw_isub (pc' := 30) hC dX0_standing_29 rfl  ?_
    obtain ⟨x14, q13, h⟩ := pb_s h
    replace h := u1_s h
    refine aw_cS (pc' := 33) (k2 := 0) (n2 := 0) (st := [.inl 2]) (stN := [.inl x14, .inl 2]) hC [.inl 200, .inl (w32 ((M (M v0 0) 0) - x12))] (mJ9_min_7cf53 q13) lk_X0_121 dX0_standing_30 rfl rfl (Nat.le_of_ble_eq_true rfl) (Nat.le_of_ble_eq_true rfl) (Nat.le_of_ble_eq_true rfl) rfl (Nat.le_of_ble_eq_true rfl) rfl rfl rfl ?_
    refine aw_iadd (pc' := 34) hC dX0_standing_33 rfl  ?_
    cases h
    exact aw_iret hC dX0_standing_34 (Nat.le_of_ble_eq_true rfl) (Nat.le_of_ble_eq_true rfl)
-- CoinCircle.image()I
def fX8_image_L63 (sh : AwS) (v0 : Int) (v1 : Int) (v2 : Int) (v3 : Int) (M : AwM) : Option ((Int × AwM) ⊕ (AwM)) :=
  gd_ (kd_ sh v0 = (0, 8)) (gd_ (kd_ sh (M v0 3) = (0, 5)) (gd_ ((kd_ sh (M (M v0 3) 0)).1 = 1 ∧ (0 : Int) ≤ 0 ∧ 0 < ((kd_ sh (M (M v0 3) 0)).2 : Int)) ((if v3 < (M (M (M v0 3) 0) 0) then gd_ (kd_ sh (M v0 4) = (0, 0)) (pb (fX0_standing sh M (M v0 4) v2 v3) <| u1 fun (x24 : Int) => (pb (fX8_putImageByte sh M v0 x24) <| u1 fun (M26 : AwM) => (some (.inl ((w32 (v3 + 1)), M26))))) else some (.inr M)))))
def p_X8_image_L63 (Γ : AwC) (sh : AwS) (v0 : Int) (v1 : Int) (v2 : Int) (Q : State → Prop) (s : Int × AwM) : Prop := AW Γ sh (s.2) 0 0 63 [some (.inr (.inr v0)), some (.inr (.inr v1)), some (.inl v2), some (.inl (s.1))] [] Q
def x_X8_image_L63 (Γ : AwC) (sh : AwS) (v0 : Int) (v1 : Int) (v2 : Int) (Q : State → Prop) : (AwM) → Prop := (fun (t : AwM) => AW Γ sh (t) 0 0 95 [some (.inr (.inr v0)), some (.inr (.inr v1)), some (.inl v2), none] [] Q)
def fX8_image_L38 (sh : AwS) (v0 : Int) (v1 : Int) (v2 : Int) (M : AwM) : Option ((Int × AwM) ⊕ (AwM)) :=
  gd_ (kd_ sh v0 = (0, 8)) (gd_ (kd_ sh (M v0 3) = (0, 5)) (gd_ ((kd_ sh (M (M v0 3) 0)).1 = 1 ∧ (0 : Int) ≤ 1 ∧ 1 < ((kd_ sh (M (M v0 3) 0)).2 : Int)) ((if v2 < (M (M (M v0 3) 0) 1) then gd_ (kd_ sh v1 = (0, 3)) (gd_ ((kd_ sh (M v1 1)).1 = 1 ∧ (0 : Int) ≤ v2 ∧ v2 < ((kd_ sh (M v1 1)).2 : Int)) (pb (fX8_putImageByte sh M v0 (M (M v1 1) v2)) <| u1 fun (M17 : AwM) => (pb (lp (u2 (fX8_image_L63 sh v0 v1 v2)) FU (0, M17)) (u1 (fun (tq27 : AwM) => some (.inl ((w32 (v2 + 1)), tq27))))))) else some (.inr M)))))
def p_X8_image_L38 (Γ : AwC) (sh : AwS) (v0 : Int) (v1 : Int) (Q : State → Prop) (s : Int × AwM) : Prop := AW Γ sh (s.2) 0 0 38 [some (.inr (.inr v0)), some (.inr (.inr v1)), some (.inl (s.1)), none] [] Q
def x_X8_image_L38 (Γ : AwC) (sh : AwS) (v0 : Int) (v1 : Int) (Q : State → Prop) : (AwM) → Prop := (fun (t : AwM) => AW Γ sh (t) 0 0 101 [some (.inr (.inr v0)), none, none, none] [] Q)
def fX8_image_L106 (sh : AwS) (M : AwM) (v0 : Int) (v2 : Int) (v3 : Int) : Option ((Int × Int) ⊕ (Int)) :=
  gd_ (kd_ sh v0 = (0, 8)) ((if v3 < (M v0 12) then gd_ ((kd_ sh (M v0 11)).1 = 3 ∧ (0 : Int) ≤ v3 ∧ v3 < ((kd_ sh (M v0 11)).2 : Int)) (bd_ ((((w32 ((w32 (5 * v2)) + (an_ (M (M v0 11) v3) 255))) : Int).tmod 251)) fun (x32 : Int) => (some (.inl (x32, (w32 (v3 + 1)))))) else some (.inr v2)))
def p_X8_image_L106 (Γ : AwC) (sh : AwS) (M : AwM) (v0 : Int) (Q : State → Prop) (s : Int × Int) : Prop := AW Γ sh M 0 0 106 [some (.inr (.inr v0)), none, some (.inl (s.1)), some (.inl (s.2))] [] Q
def x_X8_image_L106 (Γ : AwC) (sh : AwS) (M : AwM) (v0 : Int) (Q : State → Prop) : (Int) → Prop := (fun (t : Int) => AW Γ sh M 0 0 139 [some (.inr (.inr v0)), none, some (.inl (t)), none] [] Q)
def fX8_image (sh : AwS) (M : AwM) (v0 : Int) : Option (Int × AwM) :=
  gd_ (kd_ sh v0 = (0, 8)) (gd_ (kd_ sh (M v0 4) = (0, 0)) (bd_ (up_ M v0 12 0) fun (M3 : AwM) => (gd_ (kd_ sh (M (M v0 4) 0) = (0, 3)) (pb (fX8_putImageByte sh M3 v0 (sr_ (M3 (M (M v0 4) 0) 0) 8)) <| u1 fun (M7 : AwM) => (pb (fX8_putImageByte sh M7 v0 (an_ (M7 (M (M v0 4) 0) 0) 255)) <| u1 fun (M9 : AwM) => (pb (lp (u2 (fX8_image_L38 sh v0 (M (M v0 4) 0))) FU (0, M9)) (u1 (fun (tq28 : AwM) => pb (lp (u2 (fX8_image_L106 sh tq28 v0)) FU (103, 0)) (u1 (fun (tq34 : Int) => pb (fX8_putImageByte sh tq28 v0 tq34) <| u1 fun (M36 : AwM) => (some ((M36 v0 12), M36))))))))))))
set_option maxRecDepth 100000 in
set_option maxHeartbeats 4000000 in
theorem w_X8_image_L63 {Γ : AwC} (hC : AOK Γ RX8 cX8_image 4 4 0 0 "image" (some .int)) {sh : AwS} {v0 : Int} {v1 : Int} {v2 : Int} {Q : State → Prop} : ∀ s r, u2 (fX8_image_L63 sh v0 v1 v2) s = some r → (∀ s', r = .inl s' → p_X8_image_L63 Γ sh v0 v1 v2 Q s') → (∀ t, r = .inr t → x_X8_image_L63 Γ sh v0 v1 v2 Q t) → p_X8_image_L63 Γ sh v0 v1 v2 Q s := by
  intro s r h hL hX
  obtain ⟨v3, M⟩ := s
  replace h := u2_s h
  unfold fX8_image_L63 at h
  show AW Γ sh M 0 0 63 [some (.inr (.inr v0)), some (.inr (.inr v1)), some (.inl v2), some (.inl v3)] [] Q
  refine aw_iload_n (pc' := 64) (i := 3) hC dX8_image_63 rfl rfl rfl ?_
  refine aw_aload_n (pc' := 65) (i := 0) hC dX8_image_64 rfl rfl rfl ?_
  obtain ⟨g18, h⟩ := gd_s h
  refine aw_getfield (pc' := 68) (v := (.inr (.inr (M v0 3)))) hC dX8_image_65 rfl fl_X8_51 g18 rfl ?_
  obtain ⟨g19, h⟩ := gd_s h
  refine aw_getfield (pc' := 71) (v := (.inr (.inr (M (M v0 3) 0)))) hC dX8_image_68 rfl fl_X8_101 g19 rfl ?_
  refine aw_iconst (pc' := 72) hC dX8_image_71 rfl (by decide) ?_
  obtain ⟨g20, h⟩ := gd_s h
  refine aw_iaload (pc' := 73) hC dX8_image_72 rfl g20 ?_
  refine aw_icmp_ge (tgt := 95) (pc' := 76) hC dX8_image_73 (by decide) rfl (fun c21 => ?_) (fun c21 => ?_)
  · replace h := it_n c21 h
    refine aw_sub hC [some (.inr (.inr v0)), some (.inr (.inr v1)), some (.inl v2), none] ⟨rfl, ⟨rfl, ⟨rfl, trivial⟩⟩⟩ (Nat.le_of_ble_eq_true rfl) ?_
    cases h
    exact hX _ rfl
  · replace h := it_p c21 h
    refine aw_aload_n (pc' := 77) (i := 0) hC dX8_image_76 rfl rfl rfl ?_
    refine aw_aload_n (pc' := 78) (i := 0) hC dX8_image_77 rfl rfl rfl ?_
    refine aw_getfield (pc' := 81) (v := (.inr (.inr (M v0 4)))) hC dX8_image_78 rfl fl_X8_60 g18 rfl ?_
    refine aw_iload_n (pc' := 82) (i := 2) hC dX8_image_81 rfl rfl rfl ?_
    refine aw_iload_n (pc' := 83) (i := 3) hC dX8_image_82 rfl rfl rfl ?_
    obtain ⟨g23, h⟩ := gd_s h
    obtain ⟨x24, q22, h⟩ := pb_s h
    replace h := u1_s h
    refine aw_cV (pc' := 86) (k2 := 0) (n2 := 0) (st := [.inr (.inr v0)]) (stN := [.inl x24, .inr (.inr v0)]) hC [.inl v2, .inl v3] (mX0_standing q22) lk_X8_293 g23 dX8_image_83 rfl rfl (Nat.le_of_ble_eq_true rfl) (Nat.le_of_ble_eq_true rfl) (Nat.le_of_ble_eq_true rfl) rfl (Nat.le_of_ble_eq_true rfl) rfl rfl rfl ?_
    obtain ⟨M26, q25, h⟩ := pb_s h
    replace h := u1_s h
    refine aw_cV (pc' := 89) (k2 := 0) (n2 := 0) (st := []) (stN := []) hC [.inl x24] (mX8_putImageByte q25) lk_X8_289 g18 dX8_image_86 rfl rfl (Nat.le_of_ble_eq_true rfl) (Nat.le_of_ble_eq_true rfl) (Nat.le_of_ble_eq_true rfl) rfl (Nat.le_of_ble_eq_true rfl) rfl rfl rfl ?_
    refine aw_iinc (pc' := 92) (ls' := [some (.inr (.inr v0)), some (.inr (.inr v1)), some (.inl v2), some (.inl (w32 (v3 + 1)))]) hC dX8_image_89 rfl rfl rfl rfl ?_
    refine aw_goto (tgt := 63) hC dX8_image_92 (by decide) ?_
    refine aw_sub hC [some (.inr (.inr v0)), some (.inr (.inr v1)), some (.inl v2), some (.inl (w32 (v3 + 1)))] ⟨rfl, ⟨rfl, ⟨rfl, ⟨rfl, trivial⟩⟩⟩⟩ (Nat.le_of_ble_eq_true rfl) ?_
    cases h
    exact hL _ rfl
set_option maxRecDepth 100000 in
set_option maxHeartbeats 4000000 in
theorem w_X8_image_L38 {Γ : AwC} (hC : AOK Γ RX8 cX8_image 4 4 0 0 "image" (some .int)) {sh : AwS} {v0 : Int} {v1 : Int} {Q : State → Prop} : ∀ s r, u2 (fX8_image_L38 sh v0 v1) s = some r → (∀ s', r = .inl s' → p_X8_image_L38 Γ sh v0 v1 Q s') → (∀ t, r = .inr t → x_X8_image_L38 Γ sh v0 v1 Q t) → p_X8_image_L38 Γ sh v0 v1 Q s := by
  intro s r h hL hX
  obtain ⟨v2, M⟩ := s
  replace h := u2_s h
  unfold fX8_image_L38 at h
  show AW Γ sh M 0 0 38 [some (.inr (.inr v0)), some (.inr (.inr v1)), some (.inl v2), none] [] Q
  refine aw_iload_n (pc' := 39) (i := 2) hC dX8_image_38 rfl rfl rfl ?_
  refine aw_aload_n (pc' := 40) (i := 0) hC dX8_image_39 rfl rfl rfl ?_
  obtain ⟨g10, h⟩ := gd_s h
  refine aw_getfield (pc' := 43) (v := (.inr (.inr (M v0 3)))) hC dX8_image_40 rfl fl_X8_51 g10 rfl ?_
  obtain ⟨g11, h⟩ := gd_s h
  refine aw_getfield (pc' := 46) (v := (.inr (.inr (M (M v0 3) 0)))) hC dX8_image_43 rfl fl_X8_101 g11 rfl ?_
  refine aw_iconst (pc' := 47) hC dX8_image_46 rfl (by decide) ?_
  obtain ⟨g12, h⟩ := gd_s h
  refine aw_iaload (pc' := 48) hC dX8_image_47 rfl g12 ?_
  refine aw_icmp_ge (tgt := 101) (pc' := 51) hC dX8_image_48 (by decide) rfl (fun c13 => ?_) (fun c13 => ?_)
  · replace h := it_n c13 h
    refine aw_sub hC [some (.inr (.inr v0)), none, none, none] ⟨rfl, trivial⟩ (Nat.le_of_ble_eq_true rfl) ?_
    cases h
    exact hX _ rfl
  · replace h := it_p c13 h
    refine aw_aload_n (pc' := 52) (i := 0) hC dX8_image_51 rfl rfl rfl ?_
    refine aw_aload_n (pc' := 53) (i := 1) hC dX8_image_52 rfl rfl rfl ?_
    obtain ⟨g14, h⟩ := gd_s h
    refine aw_getfield (pc' := 56) (v := (.inr (.inr (M v1 1)))) hC dX8_image_53 rfl fl_X8_169 g14 rfl ?_
    refine aw_iload_n (pc' := 57) (i := 2) hC dX8_image_56 rfl rfl rfl ?_
    obtain ⟨g15, h⟩ := gd_s h
    refine aw_iaload (pc' := 58) hC dX8_image_57 rfl g15 ?_
    obtain ⟨M17, q16, h⟩ := pb_s h
    replace h := u1_s h
    refine aw_cV (pc' := 61) (k2 := 0) (n2 := 0) (st := []) (stN := []) hC [.inl (M (M v1 1) v2)] (mX8_putImageByte q16) lk_X8_289 g10 dX8_image_58 rfl rfl (Nat.le_of_ble_eq_true rfl) (Nat.le_of_ble_eq_true rfl) (Nat.le_of_ble_eq_true rfl) rfl (Nat.le_of_ble_eq_true rfl) rfl rfl rfl ?_
    refine aw_iconst (pc' := 62) hC dX8_image_61 rfl (by decide) ?_
    refine aw_istore_n (pc' := 63) (i := 3) (ls' := [some (.inr (.inr v0)), some (.inr (.inr v1)), some (.inl v2), some (.inl 0)]) hC dX8_image_62 rfl rfl (Nat.le_of_ble_eq_true rfl) rfl rfl ?_
    obtain ⟨tq27, q27, h⟩ := pb_s h
    refine aw_sub hC [some (.inr (.inr v0)), some (.inr (.inr v1)), some (.inl v2), some (.inl 0)] ⟨rfl, ⟨rfl, ⟨rfl, ⟨rfl, trivial⟩⟩⟩⟩ (Nat.le_of_ble_eq_true rfl) ?_
    refine (lp_aw (p_X8_image_L63 Γ sh v0 v1 v2 Q) (x_X8_image_L63 Γ sh v0 v1 v2 Q) (w_X8_image_L63 hC ) FU _ _ q27 ?_ : p_X8_image_L63 Γ sh v0 v1 v2 Q (0, M17))
    replace h := u1_s h
    show AW Γ sh tq27 0 0 95 [some (.inr (.inr v0)), some (.inr (.inr v1)), some (.inl v2), none] [] _
    refine aw_iinc (pc' := 98) (ls' := [some (.inr (.inr v0)), some (.inr (.inr v1)), some (.inl (w32 (v2 + 1))), none]) hC dX8_image_95 rfl rfl rfl rfl ?_
    refine aw_goto (tgt := 38) hC dX8_image_98 (by decide) ?_
    refine aw_sub hC [some (.inr (.inr v0)), some (.inr (.inr v1)), some (.inl (w32 (v2 + 1))), none] ⟨rfl, ⟨rfl, ⟨rfl, trivial⟩⟩⟩ (Nat.le_of_ble_eq_true rfl) ?_
    cases h
    exact hL _ rfl
set_option maxRecDepth 100000 in
set_option maxHeartbeats 4000000 in
theorem w_X8_image_L106 {Γ : AwC} (hC : AOK Γ RX8 cX8_image 4 4 0 0 "image" (some .int)) {sh : AwS} {M : AwM} {v0 : Int} {Q : State → Prop} : ∀ s r, u2 (fX8_image_L106 sh M v0) s = some r → (∀ s', r = .inl s' → p_X8_image_L106 Γ sh M v0 Q s') → (∀ t, r = .inr t → x_X8_image_L106 Γ sh M v0 Q t) → p_X8_image_L106 Γ sh M v0 Q s := by
  intro s r h hL hX
  obtain ⟨v2, v3⟩ := s
  replace h := u2_s h
  unfold fX8_image_L106 at h
  show AW Γ sh M 0 0 106 [some (.inr (.inr v0)), none, some (.inl v2), some (.inl v3)] [] Q
  refine aw_iload_n (pc' := 107) (i := 3) hC dX8_image_106 rfl rfl rfl ?_
  refine aw_aload_n (pc' := 108) (i := 0) hC dX8_image_107 rfl rfl rfl ?_
  obtain ⟨g29, h⟩ := gd_s h
  refine aw_getfield (pc' := 111) (v := (.inl (M v0 12))) hC dX8_image_108 rfl fl_X8_286 g29 rfl ?_
  refine aw_icmp_ge (tgt := 139) (pc' := 114) hC dX8_image_111 (by decide) rfl (fun c30 => ?_) (fun c30 => ?_)
  · replace h := it_n c30 h
    refine aw_sub hC [some (.inr (.inr v0)), none, some (.inl v2), none] ⟨rfl, ⟨rfl, trivial⟩⟩ (Nat.le_of_ble_eq_true rfl) ?_
    cases h
    exact hX _ rfl
  · replace h := it_p c30 h
    refine aw_iconst (pc' := 115) hC dX8_image_114 rfl (by decide) ?_
    refine aw_iload_n (pc' := 116) (i := 2) hC dX8_image_115 rfl rfl rfl ?_
    refine aw_imul (pc' := 117) hC dX8_image_116 rfl  ?_
    refine aw_aload_n (pc' := 118) (i := 0) hC dX8_image_117 rfl rfl rfl ?_
    refine aw_getfield (pc' := 121) (v := (.inr (.inr (M v0 11)))) hC dX8_image_118 rfl fl_X8_41 g29 rfl ?_
    refine aw_iload_n (pc' := 122) (i := 3) hC dX8_image_121 rfl rfl rfl ?_
    obtain ⟨g31, h⟩ := gd_s h
    refine aw_baload (pc' := 123) hC dX8_image_122 rfl g31 ?_
    refine aw_sipush (pc' := 126) hC dX8_image_123 rfl (by decide) ?_
    refine aw_iand (pc' := 127) hC dX8_image_126 rfl  ?_
    refine aw_iadd (pc' := 128) hC dX8_image_127 rfl  ?_
    refine aw_sipush (pc' := 131) hC dX8_image_128 rfl (by decide) ?_
    refine aw_irem (pc' := 132) hC dX8_image_131 rfl (by decide) ?_
    obtain ⟨x32, e33, h⟩ := bd_s h
    refine aw_reni e33 ?_
    refine aw_istore_n (pc' := 133) (i := 2) (ls' := [some (.inr (.inr v0)), none, some (.inl x32), some (.inl v3)]) hC dX8_image_132 rfl rfl (Nat.le_of_ble_eq_true rfl) rfl rfl ?_
    refine aw_iinc (pc' := 136) (ls' := [some (.inr (.inr v0)), none, some (.inl x32), some (.inl (w32 (v3 + 1)))]) hC dX8_image_133 rfl rfl rfl rfl ?_
    refine aw_goto (tgt := 106) hC dX8_image_136 (by decide) ?_
    refine aw_sub hC [some (.inr (.inr v0)), none, some (.inl x32), some (.inl (w32 (v3 + 1)))] ⟨rfl, ⟨rfl, ⟨rfl, trivial⟩⟩⟩ (Nat.le_of_ble_eq_true rfl) ?_
    cases h
    exact hL _ rfl
set_option maxRecDepth 100000 in
set_option maxHeartbeats 4000000 in
theorem mX8_image {sh : AwS} {M : AwM} {v0 : Int} {r : Int} {M' : AwM} (h : fX8_image sh M v0 = some (r, M')) : AMet yX8_image cX8_image 4 (some .int) 4 0 0 [.inr (.inr v0)] sh M (some (.inl r)) sh M' := by
  refine amet_of (by decide +kernel) (Nat.le_of_ble_eq_true rfl) (fun Γ hC => ?_)
  replace hC : AOK Γ RX8 cX8_image 4 4 0 0 "image" (some .int) := hC
  unfold fX8_image at h
  refine aw_sub hC [some (.inr (.inr v0)), none, none, none] ⟨rfl, trivial⟩ (Nat.le_of_ble_eq_true rfl) ?_
  refine aw_aload_n (pc' := 1) (i := 0) hC dX8_image_0 rfl rfl rfl ?_
  obtain ⟨g1, h⟩ := gd_s h
  refine aw_getfield (pc' := 4) (v := (.inr (.inr (M v0 4)))) hC dX8_image_1 rfl fl_X8_60 g1 rfl ?_
  obtain ⟨g2, h⟩ := gd_s h
  refine aw_getfield (pc' := 7) (v := (.inr (.inr (M (M v0 4) 0)))) hC dX8_image_4 rfl fl_X8_110 g2 rfl ?_
  refine aw_astore_n (pc' := 8) (i := 1) (ls' := [some (.inr (.inr v0)), some (.inr (.inr (M (M v0 4) 0))), none, none]) hC dX8_image_7 rfl rfl (Nat.le_of_ble_eq_true rfl) rfl rfl ?_
  refine aw_aload_n (pc' := 9) (i := 0) hC dX8_image_8 rfl rfl rfl ?_
  refine aw_iconst (pc' := 10) hC dX8_image_9 rfl (by decide) ?_
  obtain ⟨M3, e4, h⟩ := bd_s h
  refine aw_pf (pc' := 13) hC dX8_image_10 rfl fp_X8_286 g1 rfl trivial e4 ?_
  refine aw_aload_n (pc' := 14) (i := 0) hC dX8_image_13 rfl rfl rfl ?_
  refine aw_aload_n (pc' := 15) (i := 1) hC dX8_image_14 rfl rfl rfl ?_
  obtain ⟨g5, h⟩ := gd_s h
  refine aw_getfield (pc' := 18) (v := (.inl (M3 (M (M v0 4) 0) 0))) hC dX8_image_15 rfl fl_X8_114 g5 rfl ?_
  refine aw_bipush (pc' := 20) hC dX8_image_18 rfl (by decide) ?_
  refine aw_ishr (pc' := 21) hC dX8_image_20 rfl  ?_
  obtain ⟨M7, q6, h⟩ := pb_s h
  replace h := u1_s h
  refine aw_cV (pc' := 24) (k2 := 0) (n2 := 0) (st := []) (stN := []) hC [.inl (sr_ (M3 (M (M v0 4) 0) 0) 8)] (mX8_putImageByte q6) lk_X8_289 g1 dX8_image_21 rfl rfl (Nat.le_of_ble_eq_true rfl) (Nat.le_of_ble_eq_true rfl) (Nat.le_of_ble_eq_true rfl) rfl (Nat.le_of_ble_eq_true rfl) rfl rfl rfl ?_
  refine aw_aload_n (pc' := 25) (i := 0) hC dX8_image_24 rfl rfl rfl ?_
  refine aw_aload_n (pc' := 26) (i := 1) hC dX8_image_25 rfl rfl rfl ?_
  refine aw_getfield (pc' := 29) (v := (.inl (M7 (M (M v0 4) 0) 0))) hC dX8_image_26 rfl fl_X8_114 g5 rfl ?_
  refine aw_sipush (pc' := 32) hC dX8_image_29 rfl (by decide) ?_
  refine aw_iand (pc' := 33) hC dX8_image_32 rfl  ?_
  obtain ⟨M9, q8, h⟩ := pb_s h
  replace h := u1_s h
  refine aw_cV (pc' := 36) (k2 := 0) (n2 := 0) (st := []) (stN := []) hC [.inl (an_ (M7 (M (M v0 4) 0) 0) 255)] (mX8_putImageByte q8) lk_X8_289 g1 dX8_image_33 rfl rfl (Nat.le_of_ble_eq_true rfl) (Nat.le_of_ble_eq_true rfl) (Nat.le_of_ble_eq_true rfl) rfl (Nat.le_of_ble_eq_true rfl) rfl rfl rfl ?_
  refine aw_iconst (pc' := 37) hC dX8_image_36 rfl (by decide) ?_
  refine aw_istore_n (pc' := 38) (i := 2) (ls' := [some (.inr (.inr v0)), some (.inr (.inr (M (M v0 4) 0))), some (.inl 0), none]) hC dX8_image_37 rfl rfl (Nat.le_of_ble_eq_true rfl) rfl rfl ?_
  obtain ⟨tq28, q28, h⟩ := pb_s h
  refine aw_sub hC [some (.inr (.inr v0)), some (.inr (.inr (M (M v0 4) 0))), some (.inl 0), none] ⟨rfl, ⟨rfl, ⟨rfl, trivial⟩⟩⟩ (Nat.le_of_ble_eq_true rfl) ?_
  refine (lp_aw (p_X8_image_L38 Γ sh v0 (M (M v0 4) 0) (fin_ Γ 0 0 (some (.inl r)) sh M')) (x_X8_image_L38 Γ sh v0 (M (M v0 4) 0) (fin_ Γ 0 0 (some (.inl r)) sh M')) (w_X8_image_L38 hC ) FU _ _ q28 ?_ : p_X8_image_L38 Γ sh v0 (M (M v0 4) 0) (fin_ Γ 0 0 (some (.inl r)) sh M') (0, M9))
  replace h := u1_s h
  show AW Γ sh tq28 0 0 101 [some (.inr (.inr v0)), none, none, none] [] _
  refine aw_bipush (pc' := 103) hC dX8_image_101 rfl (by decide) ?_
  refine aw_istore_n (pc' := 104) (i := 2) (ls' := [some (.inr (.inr v0)), none, some (.inl 103), none]) hC dX8_image_103 rfl rfl (Nat.le_of_ble_eq_true rfl) rfl rfl ?_
  refine aw_iconst (pc' := 105) hC dX8_image_104 rfl (by decide) ?_
  refine aw_istore_n (pc' := 106) (i := 3) (ls' := [some (.inr (.inr v0)), none, some (.inl 103), some (.inl 0)]) hC dX8_image_105 rfl rfl (Nat.le_of_ble_eq_true rfl) rfl rfl ?_
  obtain ⟨tq34, q34, h⟩ := pb_s h
  refine aw_sub hC [some (.inr (.inr v0)), none, some (.inl 103), some (.inl 0)] ⟨rfl, ⟨rfl, ⟨rfl, trivial⟩⟩⟩ (Nat.le_of_ble_eq_true rfl) ?_
  refine (lp_aw (p_X8_image_L106 Γ sh tq28 v0 (fin_ Γ 0 0 (some (.inl r)) sh M')) (x_X8_image_L106 Γ sh tq28 v0 (fin_ Γ 0 0 (some (.inl r)) sh M')) (w_X8_image_L106 hC ) FU _ _ q34 ?_ : p_X8_image_L106 Γ sh tq28 v0 (fin_ Γ 0 0 (some (.inl r)) sh M') (103, 0))
  replace h := u1_s h
  show AW Γ sh tq28 0 0 139 [some (.inr (.inr v0)), none, some (.inl tq34), none] [] _
  refine aw_aload_n (pc' := 140) (i := 0) hC dX8_image_139 rfl rfl rfl ?_
  refine aw_iload_n (pc' := 141) (i := 2) hC dX8_image_140 rfl rfl rfl ?_
  obtain ⟨M36, q35, h⟩ := pb_s h
  replace h := u1_s h
  refine aw_cV (pc' := 144) (k2 := 0) (n2 := 0) (st := []) (stN := []) hC [.inl tq34] (mX8_putImageByte q35) lk_X8_289 g1 dX8_image_141 rfl rfl (Nat.le_of_ble_eq_true rfl) (Nat.le_of_ble_eq_true rfl) (Nat.le_of_ble_eq_true rfl) rfl (Nat.le_of_ble_eq_true rfl) rfl rfl rfl ?_
  refine aw_aload_n (pc' := 145) (i := 0) hC dX8_image_144 rfl rfl rfl ?_
  refine aw_getfield (pc' := 148) (v := (.inl (M36 v0 12))) hC dX8_image_145 rfl fl_X8_286 g1 rfl ?_
  cases h
  exact aw_iret hC dX8_image_148 (Nat.le_of_ble_eq_true rfl) (Nat.le_of_ble_eq_true rfl)
-- CoinCircle.octet(I)I
def fX8_octet (sh : AwS) (M : AwM) (v0 : Int) (v1 : Int) : Option Int :=
  (if v1 < 0 then some (-1) else gd_ (kd_ sh v0 = (0, 8)) ((if v1 < (M v0 12) then (if v1 < 135 then gd_ ((kd_ sh (M v0 11)).1 = 3 ∧ (0 : Int) ≤ v1 ∧ v1 < ((kd_ sh (M v0 11)).2 : Int)) (some (an_ (M (M v0 11) v1) 255)) else some (-1)) else some (-1))))
set_option maxRecDepth 100000 in
set_option maxHeartbeats 4000000 in
theorem mX8_octet {sh : AwS} {M : AwM} {v0 : Int} {v1 : Int} {r : Int} (h : fX8_octet sh M v0 v1 = some r) : AMet yX8_octet cX8_octet 2 (some .int) 1 0 0 [.inr (.inr v0), .inl v1] sh M (some (.inl r)) sh M := by
  refine amet_of (by decide +kernel) (Nat.le_of_ble_eq_true rfl) (fun Γ hC => ?_)
  replace hC : AOK Γ RX8 cX8_octet 2 1 0 0 "octet" (some .int) := hC
  unfold fX8_octet at h
  refine aw_sub hC [some (.inr (.inr v0)), some (.inl v1)] ⟨rfl, ⟨rfl, trivial⟩⟩ (Nat.le_of_ble_eq_true rfl) ?_
  refine aw_iload_n (pc' := 1) (i := 1) hC dX8_octet_0 rfl rfl rfl ?_
  refine aw_if_lt (tgt := 32) (pc' := 4) hC dX8_octet_1 (by decide) rfl (fun c1 => ?_) (fun c1 => ?_)
  · replace h := it_p c1 h
    refine aw_iconst (pc' := 33) hC dX8_octet_32 rfl (by decide) ?_
    cases h
    exact aw_iret hC dX8_octet_33 (Nat.le_of_ble_eq_true rfl) (Nat.le_of_ble_eq_true rfl)
  · replace h := it_n c1 h
    refine aw_iload_n (pc' := 5) (i := 1) hC dX8_octet_4 rfl rfl rfl ?_
    refine aw_aload_n (pc' := 6) (i := 0) hC dX8_octet_5 rfl rfl rfl ?_
    obtain ⟨g2, h⟩ := gd_s h
    refine aw_getfield (pc' := 9) (v := (.inl (M v0 12))) hC dX8_octet_6 rfl fl_X8_286 g2 rfl ?_
    refine aw_icmp_ge (tgt := 32) (pc' := 12) hC dX8_octet_9 (by decide) rfl (fun c3 => ?_) (fun c3 => ?_)
    · replace h := it_n c3 h
      refine aw_iconst (pc' := 33) hC dX8_octet_32 rfl (by decide) ?_
      cases h
      exact aw_iret hC dX8_octet_33 (Nat.le_of_ble_eq_true rfl) (Nat.le_of_ble_eq_true rfl)
    · replace h := it_p c3 h
      refine aw_iload_n (pc' := 13) (i := 1) hC dX8_octet_12 rfl rfl rfl ?_
      refine aw_sipush (pc' := 16) hC dX8_octet_13 rfl (by decide) ?_
      refine aw_icmp_ge (tgt := 32) (pc' := 19) hC dX8_octet_16 (by decide) rfl (fun c4 => ?_) (fun c4 => ?_)
      · replace h := it_n c4 h
        refine aw_iconst (pc' := 33) hC dX8_octet_32 rfl (by decide) ?_
        cases h
        exact aw_iret hC dX8_octet_33 (Nat.le_of_ble_eq_true rfl) (Nat.le_of_ble_eq_true rfl)
      · replace h := it_p c4 h
        refine aw_aload_n (pc' := 20) (i := 0) hC dX8_octet_19 rfl rfl rfl ?_
        refine aw_getfield (pc' := 23) (v := (.inr (.inr (M v0 11)))) hC dX8_octet_20 rfl fl_X8_41 g2 rfl ?_
        refine aw_iload_n (pc' := 24) (i := 1) hC dX8_octet_23 rfl rfl rfl ?_
        obtain ⟨g5, h⟩ := gd_s h
        refine aw_baload (pc' := 25) hC dX8_octet_24 rfl g5 ?_
        refine aw_sipush (pc' := 28) hC dX8_octet_25 rfl (by decide) ?_
        refine aw_iand (pc' := 29) hC dX8_octet_28 rfl  ?_
        refine aw_goto (tgt := 33) hC dX8_octet_29 (by decide) ?_
        cases h
        exact aw_iret hC dX8_octet_33 (Nat.le_of_ble_eq_true rfl) (Nat.le_of_ble_eq_true rfl)
-- CoinCircle.imageRow(I)I
def fX8_imageRow (sh : AwS) (M : AwM) (v0 : Int) (v1 : Int) : Option Int :=
  gd_ (kd_ sh v0 = (0, 8)) (gd_ (kd_ sh (M v0 3) = (0, 5)) (gd_ ((kd_ sh (M (M v0 3) 0)).1 = 1 ∧ (0 : Int) ≤ 0 ∧ 0 < ((kd_ sh (M (M v0 3) 0)).2 : Int)) (some (w32 (2 + (w32 (v1 * (w32 (1 + (M (M (M v0 3) 0) 0))))))))))
set_option maxRecDepth 100000 in
set_option maxHeartbeats 4000000 in
theorem mX8_imageRow {sh : AwS} {M : AwM} {v0 : Int} {v1 : Int} {r : Int} (h : fX8_imageRow sh M v0 v1 = some r) : AMet yX8_imageRow cX8_imageRow 2 (some .int) 1 0 0 [.inr (.inr v0), .inl v1] sh M (some (.inl r)) sh M := by
  refine amet_of (by decide +kernel) (Nat.le_of_ble_eq_true rfl) (fun Γ hC => ?_)
  replace hC : AOK Γ RX8 cX8_imageRow 2 1 0 0 "imageRow" (some .int) := hC
  unfold fX8_imageRow at h
  refine aw_sub hC [some (.inr (.inr v0)), some (.inl v1)] ⟨rfl, ⟨rfl, trivial⟩⟩ (Nat.le_of_ble_eq_true rfl) ?_
  refine aw_iconst (pc' := 1) hC dX8_imageRow_0 rfl (by decide) ?_
  refine aw_iload_n (pc' := 2) (i := 1) hC dX8_imageRow_1 rfl rfl rfl ?_
  refine aw_iconst (pc' := 3) hC dX8_imageRow_2 rfl (by decide) ?_
  refine aw_aload_n (pc' := 4) (i := 0) hC dX8_imageRow_3 rfl rfl rfl ?_
  obtain ⟨g1, h⟩ := gd_s h
  refine aw_getfield (pc' := 7) (v := (.inr (.inr (M v0 3)))) hC dX8_imageRow_4 rfl fl_X8_51 g1 rfl ?_
  obtain ⟨g2, h⟩ := gd_s h
  refine aw_getfield (pc' := 10) (v := (.inr (.inr (M (M v0 3) 0)))) hC dX8_imageRow_7 rfl fl_X8_101 g2 rfl ?_
  refine aw_iconst (pc' := 11) hC dX8_imageRow_10 rfl (by decide) ?_
  obtain ⟨g3, h⟩ := gd_s h
  refine aw_iaload (pc' := 12) hC dX8_imageRow_11 rfl g3 ?_
  refine aw_iadd (pc' := 13) hC dX8_imageRow_12 rfl  ?_
  refine aw_imul (pc' := 14) hC dX8_imageRow_13 rfl  ?_
  refine aw_iadd (pc' := 15) hC dX8_imageRow_14 rfl  ?_
  cases h
  exact aw_iret hC dX8_imageRow_15 (Nat.le_of_ble_eq_true rfl) (Nat.le_of_ble_eq_true rfl)
-- CoinCircle.tapeDay()I
def fX8_tapeDay (sh : AwS) (M : AwM) (v0 : Int) : Option Int :=
  gd_ (kd_ sh v0 = (0, 8)) (pb (fX8_tapeByte sh M v0 0) <| u1 fun (x3 : Int) => (pb (fX8_tapeByte sh M v0 1) <| u1 fun (x5 : Int) => (some (or_ (sl_ x3 8) x5))))
set_option maxRecDepth 100000 in
set_option maxHeartbeats 4000000 in
theorem mX8_tapeDay {sh : AwS} {M : AwM} {v0 : Int} {r : Int} (h : fX8_tapeDay sh M v0 = some r) : AMet yX8_tapeDay cX8_tapeDay 1 (some .int) 2 0 0 [.inr (.inr v0)] sh M (some (.inl r)) sh M := by
  refine amet_of (by decide +kernel) (Nat.le_of_ble_eq_true rfl) (fun Γ hC => ?_)
  replace hC : AOK Γ RX8 cX8_tapeDay 1 2 0 0 "tapeDay" (some .int) := hC
  unfold fX8_tapeDay at h
  refine aw_sub hC [some (.inr (.inr v0))] ⟨rfl, trivial⟩ (Nat.le_of_ble_eq_true rfl) ?_
  refine aw_aload_n (pc' := 1) (i := 0) hC dX8_tapeDay_0 rfl rfl rfl ?_
  refine aw_iconst (pc' := 2) hC dX8_tapeDay_1 rfl (by decide) ?_
  obtain ⟨g2, h⟩ := gd_s h
  obtain ⟨x3, q1, h⟩ := pb_s h
  replace h := u1_s h
  refine aw_cV (pc' := 5) (k2 := 0) (n2 := 0) (st := []) (stN := [.inl x3]) hC [.inl 0] (mX8_tapeByte q1) lk_X8_271 g2 dX8_tapeDay_2 rfl rfl (Nat.le_of_ble_eq_true rfl) (Nat.le_of_ble_eq_true rfl) (Nat.le_of_ble_eq_true rfl) rfl (Nat.le_of_ble_eq_true rfl) rfl rfl rfl ?_
  refine aw_bipush (pc' := 7) hC dX8_tapeDay_5 rfl (by decide) ?_
  refine aw_ishl (pc' := 8) hC dX8_tapeDay_7 rfl  ?_
  refine aw_aload_n (pc' := 9) (i := 0) hC dX8_tapeDay_8 rfl rfl rfl ?_
  refine aw_iconst (pc' := 10) hC dX8_tapeDay_9 rfl (by decide) ?_
  obtain ⟨x5, q4, h⟩ := pb_s h
  replace h := u1_s h
  refine aw_cV (pc' := 13) (k2 := 0) (n2 := 0) (st := [.inl (sl_ x3 8)]) (stN := [.inl x5, .inl (sl_ x3 8)]) hC [.inl 1] (mX8_tapeByte q4) lk_X8_271 g2 dX8_tapeDay_10 rfl rfl (Nat.le_of_ble_eq_true rfl) (Nat.le_of_ble_eq_true rfl) (Nat.le_of_ble_eq_true rfl) rfl (Nat.le_of_ble_eq_true rfl) rfl rfl rfl ?_
  refine aw_ior (pc' := 14) hC dX8_tapeDay_13 rfl  ?_
  cases h
  exact aw_iret hC dX8_tapeDay_14 (Nat.le_of_ble_eq_true rfl) (Nat.le_of_ble_eq_true rfl)
-- CoinCircle.tellsCoin(I)Z
def fX8_tellsCoin_L49 (sh : AwS) (M : AwM) (v0 : Int) (v1 : Int) (v3 : Int) (v4 : Int) : Option ((Int) ⊕ ((Unit) ⊕ (Unit))) :=
  gd_ (kd_ sh v0 = (0, 8)) (gd_ (kd_ sh (M v0 3) = (0, 5)) (gd_ ((kd_ sh (M (M v0 3) 0)).1 = 1 ∧ (0 : Int) ≤ 0 ∧ 0 < ((kd_ sh (M (M v0 3) 0)).2 : Int)) ((if v4 < (M (M (M v0 3) 0) 0) then pb (fX8_tapeByte sh M v0 (w32 ((w32 (v1 + 1)) + v4))) <| u1 fun (x20 : Int) => ((if v3 < x20 then some (.inr (.inr ())) else some (.inl (w32 (v4 + 1))))) else some (.inr (.inl ()))))))
def p_X8_tellsCoin_L49 (Γ : AwC) (sh : AwS) (M : AwM) (v0 : Int) (v1 : Int) (v3 : Int) (Q : State → Prop) (s : Int) : Prop := AW Γ sh M 0 0 49 [some (.inr (.inr v0)), some (.inl v1), none, some (.inl v3), some (.inl (s)), none] [] Q
def x_X8_tellsCoin_L49 (Γ : AwC) (sh : AwS) (M : AwM) (v0 : Int) (v1 : Int) (v3 : Int) (Q : State → Prop) : ((Unit) ⊕ (Unit)) → Prop := (Sum.elim (fun (t : Unit) => AW Γ sh M 0 0 89 [none, none, none, none, none, none] [] Q) (fun (t : Unit) => AW Γ sh M 0 0 81 [none, none, none, none, none, none] [] Q))
def fX8_tellsCoin (sh : AwS) (M : AwM) (v0 : Int) (v1 : Int) : Option Int :=
  gd_ (kd_ sh v0 = (0, 8)) (pb (fX8_tapeByte sh M v0 v1) <| u1 fun (x3 : Int) => (gd_ (kd_ sh (M v0 3) = (0, 5)) (pb (fX5_isThere sh M (M v0 3) 0 x3) <| u1 fun (x6 : Int) => ((if x6 = 0 then some 0 else pb (fX8_tapeByte sh M v0 (w32 ((w32 (v1 + 1)) + x3))) <| u1 fun (x9 : Int) => ((if x9 < 2 then some 0 else pb (fX8_tapeDay sh M v0) <| u1 fun (x12 : Int) => (pb (fJ9_min_7cf53 sh M 200 x12) <| u1 fun (x14 : Int) => (pb (lp (u1 (fX8_tellsCoin_L49 sh M v0 v1 (w32 (2 + x14)))) FU 0) (Sum.elim (u0 (some 1)) (u0 (some 0))))))))))))
set_option maxRecDepth 100000 in
set_option maxHeartbeats 4000000 in
theorem w_X8_tellsCoin_L49 {Γ : AwC} (hC : AOK Γ RX8 cX8_tellsCoin 6 3 0 0 "tellsCoin" (some .boolean)) {sh : AwS} {M : AwM} {v0 : Int} {v1 : Int} {v3 : Int} {Q : State → Prop} : ∀ s r, u1 (fX8_tellsCoin_L49 sh M v0 v1 v3) s = some r → (∀ s', r = .inl s' → p_X8_tellsCoin_L49 Γ sh M v0 v1 v3 Q s') → (∀ t, r = .inr t → x_X8_tellsCoin_L49 Γ sh M v0 v1 v3 Q t) → p_X8_tellsCoin_L49 Γ sh M v0 v1 v3 Q s := by
  intro v4 r h hL hX
  replace h := u1_s h
  unfold fX8_tellsCoin_L49 at h
  show AW Γ sh M 0 0 49 [some (.inr (.inr v0)), some (.inl v1), none, some (.inl v3), some (.inl v4), none] [] Q
  refine aw_iload (pc' := 51) hC dX8_tellsCoin_49 rfl rfl ?_
  refine aw_aload_n (pc' := 52) (i := 0) hC dX8_tellsCoin_51 rfl rfl rfl ?_
  obtain ⟨g15, h⟩ := gd_s h
  refine aw_getfield (pc' := 55) (v := (.inr (.inr (M v0 3)))) hC dX8_tellsCoin_52 rfl fl_X8_51 g15 rfl ?_
  obtain ⟨g16, h⟩ := gd_s h
  refine aw_getfield (pc' := 58) (v := (.inr (.inr (M (M v0 3) 0)))) hC dX8_tellsCoin_55 rfl fl_X8_101 g16 rfl ?_
  refine aw_iconst (pc' := 59) hC dX8_tellsCoin_58 rfl (by decide) ?_
  obtain ⟨g17, h⟩ := gd_s h
  refine aw_iaload (pc' := 60) hC dX8_tellsCoin_59 rfl g17 ?_
  refine aw_icmp_ge (tgt := 89) (pc' := 63) hC dX8_tellsCoin_60 (by decide) rfl (fun c18 => ?_) (fun c18 => ?_)
  · replace h := it_n c18 h
    refine aw_sub hC [none, none, none, none, none, none] trivial (Nat.le_of_ble_eq_true rfl) ?_
    cases h
    exact hX _ rfl
  · replace h := it_p c18 h
    refine aw_aload_n (pc' := 64) (i := 0) hC dX8_tellsCoin_63 rfl rfl rfl ?_
    refine aw_iload_n (pc' := 65) (i := 1) hC dX8_tellsCoin_64 rfl rfl rfl ?_
    refine aw_iconst (pc' := 66) hC dX8_tellsCoin_65 rfl (by decide) ?_
    refine aw_iadd (pc' := 67) hC dX8_tellsCoin_66 rfl  ?_
    refine aw_iload (pc' := 69) hC dX8_tellsCoin_67 rfl rfl ?_
    refine aw_iadd (pc' := 70) hC dX8_tellsCoin_69 rfl  ?_
    obtain ⟨x20, q19, h⟩ := pb_s h
    replace h := u1_s h
    refine aw_cV (pc' := 73) (k2 := 0) (n2 := 0) (st := []) (stN := [.inl x20]) hC [.inl (w32 ((w32 (v1 + 1)) + v4))] (mX8_tapeByte q19) lk_X8_271 g15 dX8_tellsCoin_70 rfl rfl (Nat.le_of_ble_eq_true rfl) (Nat.le_of_ble_eq_true rfl) (Nat.le_of_ble_eq_true rfl) rfl (Nat.le_of_ble_eq_true rfl) rfl rfl rfl ?_
    refine aw_istore (pc' := 75) (ls' := [some (.inr (.inr v0)), some (.inl v1), none, some (.inl v3), some (.inl v4), some (.inl x20)]) hC dX8_tellsCoin_73 rfl (Nat.le_of_ble_eq_true rfl) rfl rfl ?_
    refine aw_iload (pc' := 77) hC dX8_tellsCoin_75 rfl rfl ?_
    refine aw_iload_n (pc' := 78) (i := 3) hC dX8_tellsCoin_77 rfl rfl rfl ?_
    refine aw_icmp_le (tgt := 83) (pc' := 81) hC dX8_tellsCoin_78 (by decide) rfl (fun c21 => ?_) (fun c21 => ?_)
    · replace h := it_n c21 h
      refine aw_iinc (pc' := 86) (ls' := [some (.inr (.inr v0)), some (.inl v1), none, some (.inl v3), some (.inl (w32 (v4 + 1))), some (.inl x20)]) hC dX8_tellsCoin_83 rfl rfl rfl rfl ?_
      refine aw_goto (tgt := 49) hC dX8_tellsCoin_86 (by decide) ?_
      refine aw_sub hC [some (.inr (.inr v0)), some (.inl v1), none, some (.inl v3), some (.inl (w32 (v4 + 1))), none] ⟨rfl, ⟨rfl, ⟨rfl, ⟨rfl, trivial⟩⟩⟩⟩ (Nat.le_of_ble_eq_true rfl) ?_
      cases h
      exact hL _ rfl
    · replace h := it_p c21 h
      refine aw_sub hC [none, none, none, none, none, none] trivial (Nat.le_of_ble_eq_true rfl) ?_
      cases h
      exact hX _ rfl
set_option maxRecDepth 100000 in
set_option maxHeartbeats 4000000 in
theorem mX8_tellsCoin {sh : AwS} {M : AwM} {v0 : Int} {v1 : Int} {r : Int} (h : fX8_tellsCoin sh M v0 v1 = some r) : AMet yX8_tellsCoin cX8_tellsCoin 6 (some .boolean) 3 0 0 [.inr (.inr v0), .inl v1] sh M (some (.inl r)) sh M := by
  refine amet_of (by decide +kernel) (Nat.le_of_ble_eq_true rfl) (fun Γ hC => ?_)
  replace hC : AOK Γ RX8 cX8_tellsCoin 6 3 0 0 "tellsCoin" (some .boolean) := hC
  unfold fX8_tellsCoin at h
  refine aw_sub hC [some (.inr (.inr v0)), some (.inl v1), none, none, none, none] ⟨rfl, ⟨rfl, trivial⟩⟩ (Nat.le_of_ble_eq_true rfl) ?_
  refine aw_aload_n (pc' := 1) (i := 0) hC dX8_tellsCoin_0 rfl rfl rfl ?_
  refine aw_iload_n (pc' := 2) (i := 1) hC dX8_tellsCoin_1 rfl rfl rfl ?_
  obtain ⟨g2, h⟩ := gd_s h
  obtain ⟨x3, q1, h⟩ := pb_s h
  replace h := u1_s h
  refine aw_cV (pc' := 5) (k2 := 0) (n2 := 0) (st := []) (stN := [.inl x3]) hC [.inl v1] (mX8_tapeByte q1) lk_X8_271 g2 dX8_tellsCoin_2 rfl rfl (Nat.le_of_ble_eq_true rfl) (Nat.le_of_ble_eq_true rfl) (Nat.le_of_ble_eq_true rfl) rfl (Nat.le_of_ble_eq_true rfl) rfl rfl rfl ?_
  refine aw_istore_n (pc' := 6) (i := 2) (ls' := [some (.inr (.inr v0)), some (.inl v1), some (.inl x3), none, none, none]) hC dX8_tellsCoin_5 rfl rfl (Nat.le_of_ble_eq_true rfl) rfl rfl ?_
  refine aw_aload_n (pc' := 7) (i := 0) hC dX8_tellsCoin_6 rfl rfl rfl ?_
  refine aw_getfield (pc' := 10) (v := (.inr (.inr (M v0 3)))) hC dX8_tellsCoin_7 rfl fl_X8_51 g2 rfl ?_
  refine aw_iconst (pc' := 11) hC dX8_tellsCoin_10 rfl (by decide) ?_
  refine aw_iload_n (pc' := 12) (i := 2) hC dX8_tellsCoin_11 rfl rfl rfl ?_
  obtain ⟨g5, h⟩ := gd_s h
  obtain ⟨x6, q4, h⟩ := pb_s h
  replace h := u1_s h
  refine aw_cV (pc' := 15) (k2 := 0) (n2 := 0) (st := []) (stN := [.inl x6]) hC [.inl 0, .inl x3] (mX5_isThere q4) lk_X8_135 g5 dX8_tellsCoin_12 rfl rfl (Nat.le_of_ble_eq_true rfl) (Nat.le_of_ble_eq_true rfl) (Nat.le_of_ble_eq_true rfl) rfl (Nat.le_of_ble_eq_true rfl) rfl rfl rfl ?_
  refine aw_if_eq (tgt := 31) (pc' := 18) hC dX8_tellsCoin_15 (by decide) rfl (fun c7 => ?_) (fun c7 => ?_)
  · replace h := it_p c7 h
    refine aw_iconst (pc' := 32) hC dX8_tellsCoin_31 rfl (by decide) ?_
    cases h
    exact aw_zret hC (Or.inl rfl) dX8_tellsCoin_32 (Nat.le_of_ble_eq_true rfl) (Nat.le_of_ble_eq_true rfl)
  · replace h := it_n c7 h
    refine aw_aload_n (pc' := 19) (i := 0) hC dX8_tellsCoin_18 rfl rfl rfl ?_
    refine aw_iload_n (pc' := 20) (i := 1) hC dX8_tellsCoin_19 rfl rfl rfl ?_
    refine aw_iconst (pc' := 21) hC dX8_tellsCoin_20 rfl (by decide) ?_
    refine aw_iadd (pc' := 22) hC dX8_tellsCoin_21 rfl  ?_
    refine aw_iload_n (pc' := 23) (i := 2) hC dX8_tellsCoin_22 rfl rfl rfl ?_
    refine aw_iadd (pc' := 24) hC dX8_tellsCoin_23 rfl  ?_
    obtain ⟨x9, q8, h⟩ := pb_s h
    replace h := u1_s h
    refine aw_cV (pc' := 27) (k2 := 0) (n2 := 0) (st := []) (stN := [.inl x9]) hC [.inl (w32 ((w32 (v1 + 1)) + x3))] (mX8_tapeByte q8) lk_X8_271 g2 dX8_tellsCoin_24 rfl rfl (Nat.le_of_ble_eq_true rfl) (Nat.le_of_ble_eq_true rfl) (Nat.le_of_ble_eq_true rfl) rfl (Nat.le_of_ble_eq_true rfl) rfl rfl rfl ?_
    refine aw_iconst (pc' := 28) hC dX8_tellsCoin_27 rfl (by decide) ?_
    refine aw_icmp_ge (tgt := 33) (pc' := 31) hC dX8_tellsCoin_28 (by decide) rfl (fun c10 => ?_) (fun c10 => ?_)
    · replace h := it_n c10 h
      refine aw_iconst (pc' := 34) hC dX8_tellsCoin_33 rfl (by decide) ?_
      refine aw_sipush (pc' := 37) hC dX8_tellsCoin_34 rfl (by decide) ?_
      refine aw_aload_n (pc' := 38) (i := 0) hC dX8_tellsCoin_37 rfl rfl rfl ?_
      obtain ⟨x12, q11, h⟩ := pb_s h
      replace h := u1_s h
      refine aw_cV (pc' := 41) (k2 := 0) (n2 := 0) (st := [.inl 200, .inl 2]) (stN := [.inl x12, .inl 200, .inl 2]) hC [] (mX8_tapeDay q11) lk_X8_299 g2 dX8_tellsCoin_38 rfl rfl (Nat.le_of_ble_eq_true rfl) (Nat.le_of_ble_eq_true rfl) (Nat.le_of_ble_eq_true rfl) rfl (Nat.le_of_ble_eq_true rfl) rfl rfl rfl ?_
      obtain ⟨x14, q13, h⟩ := pb_s h
      replace h := u1_s h
      refine aw_cS (pc' := 44) (k2 := 0) (n2 := 0) (st := [.inl 2]) (stN := [.inl x14, .inl 2]) hC [.inl 200, .inl x12] (mJ9_min_7cf53 q13) lk_X8_312 dX8_tellsCoin_41 rfl rfl (Nat.le_of_ble_eq_true rfl) (Nat.le_of_ble_eq_true rfl) (Nat.le_of_ble_eq_true rfl) rfl (Nat.le_of_ble_eq_true rfl) rfl rfl rfl ?_
      refine aw_iadd (pc' := 45) hC dX8_tellsCoin_44 rfl  ?_
      refine aw_istore_n (pc' := 46) (i := 3) (ls' := [some (.inr (.inr v0)), some (.inl v1), some (.inl x3), some (.inl (w32 (2 + x14))), none, none]) hC dX8_tellsCoin_45 rfl rfl (Nat.le_of_ble_eq_true rfl) rfl rfl ?_
      refine aw_iconst (pc' := 47) hC dX8_tellsCoin_46 rfl (by decide) ?_
      refine aw_istore (pc' := 49) (ls' := [some (.inr (.inr v0)), some (.inl v1), some (.inl x3), some (.inl (w32 (2 + x14))), some (.inl 0), none]) hC dX8_tellsCoin_47 rfl (Nat.le_of_ble_eq_true rfl) rfl rfl ?_
      obtain ⟨tq22, q22, h⟩ := pb_s h
      refine aw_sub hC [some (.inr (.inr v0)), some (.inl v1), none, some (.inl (w32 (2 + x14))), some (.inl 0), none] ⟨rfl, ⟨rfl, ⟨rfl, ⟨rfl, trivial⟩⟩⟩⟩ (Nat.le_of_ble_eq_true rfl) ?_
      refine (lp_aw (p_X8_tellsCoin_L49 Γ sh M v0 v1 (w32 (2 + x14)) (fin_ Γ 0 0 (some (.inl r)) sh M)) (x_X8_tellsCoin_L49 Γ sh M v0 v1 (w32 (2 + x14)) (fin_ Γ 0 0 (some (.inl r)) sh M)) (w_X8_tellsCoin_L49 hC ) FU _ _ q22 ?_ : p_X8_tellsCoin_L49 Γ sh M v0 v1 (w32 (2 + x14)) (fin_ Γ 0 0 (some (.inl r)) sh M) 0)
      rcases tq22 with tq22 | tq22
      · replace h := se_l h
        cases tq22
        replace h := u0_s h
        show AW Γ sh M 0 0 89 [none, none, none, none, none, none] [] _
        refine aw_iconst (pc' := 90) hC dX8_tellsCoin_89 rfl (by decide) ?_
        cases h
        exact aw_zret hC (Or.inr rfl) dX8_tellsCoin_90 (Nat.le_of_ble_eq_true rfl) (Nat.le_of_ble_eq_true rfl)
      · replace h := se_r h
        cases tq22
        replace h := u0_s h
        show AW Γ sh M 0 0 81 [none, none, none, none, none, none] [] _
        refine aw_iconst (pc' := 82) hC dX8_tellsCoin_81 rfl (by decide) ?_
        cases h
        exact aw_zret hC (Or.inl rfl) dX8_tellsCoin_82 (Nat.le_of_ble_eq_true rfl) (Nat.le_of_ble_eq_true rfl)
    · replace h := it_p c10 h
      refine aw_iconst (pc' := 32) hC dX8_tellsCoin_31 rfl (by decide) ?_
      cases h
      exact aw_zret hC (Or.inl rfl) dX8_tellsCoin_32 (Nat.le_of_ble_eq_true rfl) (Nat.le_of_ble_eq_true rfl)
-- CoinCircle.tellsImage(I)Z
def fX8_tellsImage_L33 (sh : AwS) (M : AwM) (v0 : Int) (v1 : Int) (v2 : Int) : Option ((Int) ⊕ ((Unit) ⊕ (Unit))) :=
  gd_ (kd_ sh v0 = (0, 8)) (gd_ (kd_ sh (M v0 3) = (0, 5)) (gd_ ((kd_ sh (M (M v0 3) 0)).1 = 1 ∧ (0 : Int) ≤ 1 ∧ 1 < ((kd_ sh (M (M v0 3) 0)).2 : Int)) ((if v2 < (M (M (M v0 3) 0) 1) then pb (fX8_imageRow sh M v0 v2) <| u1 fun (x15 : Int) => (pb (fX8_tellsCoin sh M v0 x15) <| u1 fun (x17 : Int) => ((if x17 = 0 then some (.inr (.inr ())) else some (.inl (w32 (v2 + 1)))))) else some (.inr (.inl ()))))))
def p_X8_tellsImage_L33 (Γ : AwC) (sh : AwS) (M : AwM) (v0 : Int) (v1 : Int) (Q : State → Prop) (s : Int) : Prop := AW Γ sh M 0 0 33 [some (.inr (.inr v0)), some (.inl v1), some (.inl (s)), none] [] Q
def x_X8_tellsImage_L33 (Γ : AwC) (sh : AwS) (M : AwM) (v0 : Int) (v1 : Int) (Q : State → Prop) : ((Unit) ⊕ (Unit)) → Prop := (Sum.elim (fun (t : Unit) => AW Γ sh M 0 0 66 [some (.inr (.inr v0)), some (.inl v1), none, none] [] Q) (fun (t : Unit) => AW Γ sh M 0 0 58 [none, none, none, none] [] Q))
def fX8_tellsImage_L71 (sh : AwS) (M : AwM) (v0 : Int) (v1 : Int) (v2 : Int) (v3 : Int) : Option ((Int × Int) ⊕ (Int)) :=
  (if v3 < (w32 (v1 - 1)) then gd_ (kd_ sh v0 = (0, 8)) (pb (fX8_tapeByte sh M v0 v3) <| u1 fun (x23 : Int) => (bd_ ((((w32 ((w32 (5 * v2)) + x23)) : Int).tmod 251)) fun (x24 : Int) => (some (.inl (x24, (w32 (v3 + 1))))))) else some (.inr v2))
def p_X8_tellsImage_L71 (Γ : AwC) (sh : AwS) (M : AwM) (v0 : Int) (v1 : Int) (Q : State → Prop) (s : Int × Int) : Prop := AW Γ sh M 0 0 71 [some (.inr (.inr v0)), some (.inl v1), some (.inl (s.1)), some (.inl (s.2))] [] Q
def x_X8_tellsImage_L71 (Γ : AwC) (sh : AwS) (M : AwM) (v0 : Int) (v1 : Int) (Q : State → Prop) : (Int) → Prop := (fun (t : Int) => AW Γ sh M 0 0 98 [some (.inr (.inr v0)), some (.inl v1), some (.inl (t)), none] [] Q)
def fX8_tellsImage (sh : AwS) (M : AwM) (v0 : Int) (v1 : Int) : Option Int :=
  gd_ (kd_ sh v0 = (0, 8)) (gd_ (kd_ sh (M v0 3) = (0, 5)) (gd_ ((kd_ sh (M (M v0 3) 0)).1 = 1 ∧ (0 : Int) ≤ 1 ∧ 1 < ((kd_ sh (M (M v0 3) 0)).2 : Int)) (pb (fX8_imageRow sh M v0 (M (M (M v0 3) 0) 1)) <| u1 fun (x5 : Int) => ((if v1 = (w32 (x5 + 1)) then pb (fX8_tapeDay sh M v0) <| u1 fun (x8 : Int) => ((if 999 < x8 then some 0 else pb (lp (u1 (fX8_tellsImage_L33 sh M v0 v1)) FU 0) (Sum.elim (u0 (pb (lp (u2 (fX8_tellsImage_L71 sh M v0 v1)) FU (103, 0)) (u1 (fun (tq26 : Int) => pb (fX8_tapeByte sh M v0 (w32 (v1 - 1))) <| u1 fun (x28 : Int) => ((if x28 = tq26 then some 1 else some 0)))))) (u0 (some 0))))) else some 0)))))
set_option maxRecDepth 100000 in
set_option maxHeartbeats 4000000 in
theorem w_X8_tellsImage_L33 {Γ : AwC} (hC : AOK Γ RX8 cX8_tellsImage 4 4 0 0 "tellsImage" (some .boolean)) {sh : AwS} {M : AwM} {v0 : Int} {v1 : Int} {Q : State → Prop} : ∀ s r, u1 (fX8_tellsImage_L33 sh M v0 v1) s = some r → (∀ s', r = .inl s' → p_X8_tellsImage_L33 Γ sh M v0 v1 Q s') → (∀ t, r = .inr t → x_X8_tellsImage_L33 Γ sh M v0 v1 Q t) → p_X8_tellsImage_L33 Γ sh M v0 v1 Q s := by
  intro v2 r h hL hX
  replace h := u1_s h
  unfold fX8_tellsImage_L33 at h
  show AW Γ sh M 0 0 33 [some (.inr (.inr v0)), some (.inl v1), some (.inl v2), none] [] Q
  refine aw_iload_n (pc' := 34) (i := 2) hC dX8_tellsImage_33 rfl rfl rfl ?_
  refine aw_aload_n (pc' := 35) (i := 0) hC dX8_tellsImage_34 rfl rfl rfl ?_
  obtain ⟨g10, h⟩ := gd_s h
  refine aw_getfield (pc' := 38) (v := (.inr (.inr (M v0 3)))) hC dX8_tellsImage_35 rfl fl_X8_51 g10 rfl ?_
  obtain ⟨g11, h⟩ := gd_s h
  refine aw_getfield (pc' := 41) (v := (.inr (.inr (M (M v0 3) 0)))) hC dX8_tellsImage_38 rfl fl_X8_101 g11 rfl ?_
  refine aw_iconst (pc' := 42) hC dX8_tellsImage_41 rfl (by decide) ?_
  obtain ⟨g12, h⟩ := gd_s h
  refine aw_iaload (pc' := 43) hC dX8_tellsImage_42 rfl g12 ?_
  refine aw_icmp_ge (tgt := 66) (pc' := 46) hC dX8_tellsImage_43 (by decide) rfl (fun c13 => ?_) (fun c13 => ?_)
  · replace h := it_n c13 h
    refine aw_sub hC [some (.inr (.inr v0)), some (.inl v1), none, none] ⟨rfl, ⟨rfl, trivial⟩⟩ (Nat.le_of_ble_eq_true rfl) ?_
    cases h
    exact hX _ rfl
  · replace h := it_p c13 h
    refine aw_aload_n (pc' := 47) (i := 0) hC dX8_tellsImage_46 rfl rfl rfl ?_
    refine aw_aload_n (pc' := 48) (i := 0) hC dX8_tellsImage_47 rfl rfl rfl ?_
    refine aw_iload_n (pc' := 49) (i := 2) hC dX8_tellsImage_48 rfl rfl rfl ?_
    obtain ⟨x15, q14, h⟩ := pb_s h
    replace h := u1_s h
    refine aw_cV (pc' := 52) (k2 := 0) (n2 := 0) (st := [.inr (.inr v0)]) (stN := [.inl x15, .inr (.inr v0)]) hC [.inl v2] (mX8_imageRow q14) lk_X8_302 g10 dX8_tellsImage_49 rfl rfl (Nat.le_of_ble_eq_true rfl) (Nat.le_of_ble_eq_true rfl) (Nat.le_of_ble_eq_true rfl) rfl (Nat.le_of_ble_eq_true rfl) rfl rfl rfl ?_
    obtain ⟨x17, q16, h⟩ := pb_s h
    replace h := u1_s h
    refine aw_cV (pc' := 55) (k2 := 0) (n2 := 0) (st := []) (stN := [.inl x17]) hC [.inl x15] (mX8_tellsCoin q16) lk_X8_309 g10 dX8_tellsImage_52 rfl rfl (Nat.le_of_ble_eq_true rfl) (Nat.le_of_ble_eq_true rfl) (Nat.le_of_ble_eq_true rfl) rfl (Nat.le_of_ble_eq_true rfl) rfl rfl rfl ?_
    refine aw_if_ne (tgt := 60) (pc' := 58) hC dX8_tellsImage_55 (by decide) rfl (fun c18 => ?_) (fun c18 => ?_)
    · replace h := it_n c18 h
      refine aw_iinc (pc' := 63) (ls' := [some (.inr (.inr v0)), some (.inl v1), some (.inl (w32 (v2 + 1))), none]) hC dX8_tellsImage_60 rfl rfl rfl rfl ?_
      refine aw_goto (tgt := 33) hC dX8_tellsImage_63 (by decide) ?_
      refine aw_sub hC [some (.inr (.inr v0)), some (.inl v1), some (.inl (w32 (v2 + 1))), none] ⟨rfl, ⟨rfl, ⟨rfl, trivial⟩⟩⟩ (Nat.le_of_ble_eq_true rfl) ?_
      cases h
      exact hL _ rfl
    · replace h := it_p c18 h
      refine aw_sub hC [none, none, none, none] trivial (Nat.le_of_ble_eq_true rfl) ?_
      cases h
      exact hX _ rfl
set_option maxRecDepth 100000 in
set_option maxHeartbeats 4000000 in
theorem w_X8_tellsImage_L71 {Γ : AwC} (hC : AOK Γ RX8 cX8_tellsImage 4 4 0 0 "tellsImage" (some .boolean)) {sh : AwS} {M : AwM} {v0 : Int} {v1 : Int} {Q : State → Prop} : ∀ s r, u2 (fX8_tellsImage_L71 sh M v0 v1) s = some r → (∀ s', r = .inl s' → p_X8_tellsImage_L71 Γ sh M v0 v1 Q s') → (∀ t, r = .inr t → x_X8_tellsImage_L71 Γ sh M v0 v1 Q t) → p_X8_tellsImage_L71 Γ sh M v0 v1 Q s := by
  intro s r h hL hX
  obtain ⟨v2, v3⟩ := s
  replace h := u2_s h
  unfold fX8_tellsImage_L71 at h
  show AW Γ sh M 0 0 71 [some (.inr (.inr v0)), some (.inl v1), some (.inl v2), some (.inl v3)] [] Q
  refine aw_iload_n (pc' := 72) (i := 3) hC dX8_tellsImage_71 rfl rfl rfl ?_
  refine aw_iload_n (pc' := 73) (i := 1) hC dX8_tellsImage_72 rfl rfl rfl ?_
  refine aw_iconst (pc' := 74) hC dX8_tellsImage_73 rfl (by decide) ?_
  refine aw_isub (pc' := 75) hC dX8_tellsImage_74 rfl  ?_
  refine aw_icmp_ge (tgt := 98) (pc' := 78) hC dX8_tellsImage_75 (by decide) rfl (fun c20 => ?_) (fun c20 => ?_)
  · replace h := it_n c20 h
    refine aw_sub hC [some (.inr (.inr v0)), some (.inl v1), some (.inl v2), none] ⟨rfl, ⟨rfl, ⟨rfl, trivial⟩⟩⟩ (Nat.le_of_ble_eq_true rfl) ?_
    cases h
    exact hX _ rfl
  · replace h := it_p c20 h
    refine aw_iconst (pc' := 79) hC dX8_tellsImage_78 rfl (by decide) ?_
    refine aw_iload_n (pc' := 80) (i := 2) hC dX8_tellsImage_79 rfl rfl rfl ?_
    refine aw_imul (pc' := 81) hC dX8_tellsImage_80 rfl  ?_
    refine aw_aload_n (pc' := 82) (i := 0) hC dX8_tellsImage_81 rfl rfl rfl ?_
    refine aw_iload_n (pc' := 83) (i := 3) hC dX8_tellsImage_82 rfl rfl rfl ?_
    obtain ⟨g22, h⟩ := gd_s h
    obtain ⟨x23, q21, h⟩ := pb_s h
    replace h := u1_s h
    refine aw_cV (pc' := 86) (k2 := 0) (n2 := 0) (st := [.inl (w32 (5 * v2))]) (stN := [.inl x23, .inl (w32 (5 * v2))]) hC [.inl v3] (mX8_tapeByte q21) lk_X8_271 g22 dX8_tellsImage_83 rfl rfl (Nat.le_of_ble_eq_true rfl) (Nat.le_of_ble_eq_true rfl) (Nat.le_of_ble_eq_true rfl) rfl (Nat.le_of_ble_eq_true rfl) rfl rfl rfl ?_
    refine aw_iadd (pc' := 87) hC dX8_tellsImage_86 rfl  ?_
    refine aw_sipush (pc' := 90) hC dX8_tellsImage_87 rfl (by decide) ?_
    refine aw_irem (pc' := 91) hC dX8_tellsImage_90 rfl (by decide) ?_
    obtain ⟨x24, e25, h⟩ := bd_s h
    refine aw_reni e25 ?_
    refine aw_istore_n (pc' := 92) (i := 2) (ls' := [some (.inr (.inr v0)), some (.inl v1), some (.inl x24), some (.inl v3)]) hC dX8_tellsImage_91 rfl rfl (Nat.le_of_ble_eq_true rfl) rfl rfl ?_
    refine aw_iinc (pc' := 95) (ls' := [some (.inr (.inr v0)), some (.inl v1), some (.inl x24), some (.inl (w32 (v3 + 1)))]) hC dX8_tellsImage_92 rfl rfl rfl rfl ?_
    refine aw_goto (tgt := 71) hC dX8_tellsImage_95 (by decide) ?_
    refine aw_sub hC [some (.inr (.inr v0)), some (.inl v1), some (.inl x24), some (.inl (w32 (v3 + 1)))] ⟨rfl, ⟨rfl, ⟨rfl, ⟨rfl, trivial⟩⟩⟩⟩ (Nat.le_of_ble_eq_true rfl) ?_
    cases h
    exact hL _ rfl
set_option maxRecDepth 100000 in
set_option maxHeartbeats 4000000 in
theorem mX8_tellsImage {sh : AwS} {M : AwM} {v0 : Int} {v1 : Int} {r : Int} (h : fX8_tellsImage sh M v0 v1 = some r) : AMet yX8_tellsImage cX8_tellsImage 4 (some .boolean) 4 0 0 [.inr (.inr v0), .inl v1] sh M (some (.inl r)) sh M := by
  refine amet_of (by decide +kernel) (Nat.le_of_ble_eq_true rfl) (fun Γ hC => ?_)
  replace hC : AOK Γ RX8 cX8_tellsImage 4 4 0 0 "tellsImage" (some .boolean) := hC
  unfold fX8_tellsImage at h
  refine aw_sub hC [some (.inr (.inr v0)), some (.inl v1), none, none] ⟨rfl, ⟨rfl, trivial⟩⟩ (Nat.le_of_ble_eq_true rfl) ?_
  refine aw_iload_n (pc' := 1) (i := 1) hC dX8_tellsImage_0 rfl rfl rfl ?_
  refine aw_aload_n (pc' := 2) (i := 0) hC dX8_tellsImage_1 rfl rfl rfl ?_
  refine aw_aload_n (pc' := 3) (i := 0) hC dX8_tellsImage_2 rfl rfl rfl ?_
  obtain ⟨g1, h⟩ := gd_s h
  refine aw_getfield (pc' := 6) (v := (.inr (.inr (M v0 3)))) hC dX8_tellsImage_3 rfl fl_X8_51 g1 rfl ?_
  obtain ⟨g2, h⟩ := gd_s h
  refine aw_getfield (pc' := 9) (v := (.inr (.inr (M (M v0 3) 0)))) hC dX8_tellsImage_6 rfl fl_X8_101 g2 rfl ?_
  refine aw_iconst (pc' := 10) hC dX8_tellsImage_9 rfl (by decide) ?_
  obtain ⟨g3, h⟩ := gd_s h
  refine aw_iaload (pc' := 11) hC dX8_tellsImage_10 rfl g3 ?_
  obtain ⟨x5, q4, h⟩ := pb_s h
  replace h := u1_s h
  refine aw_cV (pc' := 14) (k2 := 0) (n2 := 0) (st := [.inl v1]) (stN := [.inl x5, .inl v1]) hC [.inl (M (M (M v0 3) 0) 1)] (mX8_imageRow q4) lk_X8_302 g1 dX8_tellsImage_11 rfl rfl (Nat.le_of_ble_eq_true rfl) (Nat.le_of_ble_eq_true rfl) (Nat.le_of_ble_eq_true rfl) rfl (Nat.le_of_ble_eq_true rfl) rfl rfl rfl ?_
  refine aw_iconst (pc' := 15) hC dX8_tellsImage_14 rfl (by decide) ?_
  refine aw_iadd (pc' := 16) hC dX8_tellsImage_15 rfl  ?_
  refine aw_icmp_ne (tgt := 29) (pc' := 19) hC dX8_tellsImage_16 (by decide) rfl (fun c6 => ?_) (fun c6 => ?_)
  · replace h := it_n c6 h
    refine aw_iconst (pc' := 30) hC dX8_tellsImage_29 rfl (by decide) ?_
    cases h
    exact aw_zret hC (Or.inl rfl) dX8_tellsImage_30 (Nat.le_of_ble_eq_true rfl) (Nat.le_of_ble_eq_true rfl)
  · replace h := it_p c6 h
    refine aw_aload_n (pc' := 20) (i := 0) hC dX8_tellsImage_19 rfl rfl rfl ?_
    obtain ⟨x8, q7, h⟩ := pb_s h
    replace h := u1_s h
    refine aw_cV (pc' := 23) (k2 := 0) (n2 := 0) (st := []) (stN := [.inl x8]) hC [] (mX8_tapeDay q7) lk_X8_299 g1 dX8_tellsImage_20 rfl rfl (Nat.le_of_ble_eq_true rfl) (Nat.le_of_ble_eq_true rfl) (Nat.le_of_ble_eq_true rfl) rfl (Nat.le_of_ble_eq_true rfl) rfl rfl rfl ?_
    refine aw_sipush (pc' := 26) hC dX8_tellsImage_23 rfl (by decide) ?_
    refine aw_icmp_le (tgt := 31) (pc' := 29) hC dX8_tellsImage_26 (by decide) rfl (fun c9 => ?_) (fun c9 => ?_)
    · replace h := it_n c9 h
      refine aw_iconst (pc' := 32) hC dX8_tellsImage_31 rfl (by decide) ?_
      refine aw_istore_n (pc' := 33) (i := 2) (ls' := [some (.inr (.inr v0)), some (.inl v1), some (.inl 0), none]) hC dX8_tellsImage_32 rfl rfl (Nat.le_of_ble_eq_true rfl) rfl rfl ?_
      obtain ⟨tq19, q19, h⟩ := pb_s h
      refine aw_sub hC [some (.inr (.inr v0)), some (.inl v1), some (.inl 0), none] ⟨rfl, ⟨rfl, ⟨rfl, trivial⟩⟩⟩ (Nat.le_of_ble_eq_true rfl) ?_
      refine (lp_aw (p_X8_tellsImage_L33 Γ sh M v0 v1 (fin_ Γ 0 0 (some (.inl r)) sh M)) (x_X8_tellsImage_L33 Γ sh M v0 v1 (fin_ Γ 0 0 (some (.inl r)) sh M)) (w_X8_tellsImage_L33 hC ) FU _ _ q19 ?_ : p_X8_tellsImage_L33 Γ sh M v0 v1 (fin_ Γ 0 0 (some (.inl r)) sh M) 0)
      rcases tq19 with tq19 | tq19
      · replace h := se_l h
        cases tq19
        replace h := u0_s h
        show AW Γ sh M 0 0 66 [some (.inr (.inr v0)), some (.inl v1), none, none] [] _
        refine aw_bipush (pc' := 68) hC dX8_tellsImage_66 rfl (by decide) ?_
        refine aw_istore_n (pc' := 69) (i := 2) (ls' := [some (.inr (.inr v0)), some (.inl v1), some (.inl 103), none]) hC dX8_tellsImage_68 rfl rfl (Nat.le_of_ble_eq_true rfl) rfl rfl ?_
        refine aw_iconst (pc' := 70) hC dX8_tellsImage_69 rfl (by decide) ?_
        refine aw_istore_n (pc' := 71) (i := 3) (ls' := [some (.inr (.inr v0)), some (.inl v1), some (.inl 103), some (.inl 0)]) hC dX8_tellsImage_70 rfl rfl (Nat.le_of_ble_eq_true rfl) rfl rfl ?_
        obtain ⟨tq26, q26, h⟩ := pb_s h
        refine aw_sub hC [some (.inr (.inr v0)), some (.inl v1), some (.inl 103), some (.inl 0)] ⟨rfl, ⟨rfl, ⟨rfl, ⟨rfl, trivial⟩⟩⟩⟩ (Nat.le_of_ble_eq_true rfl) ?_
        refine (lp_aw (p_X8_tellsImage_L71 Γ sh M v0 v1 (fin_ Γ 0 0 (some (.inl r)) sh M)) (x_X8_tellsImage_L71 Γ sh M v0 v1 (fin_ Γ 0 0 (some (.inl r)) sh M)) (w_X8_tellsImage_L71 hC ) FU _ _ q26 ?_ : p_X8_tellsImage_L71 Γ sh M v0 v1 (fin_ Γ 0 0 (some (.inl r)) sh M) (103, 0))
        replace h := u1_s h
        show AW Γ sh M 0 0 98 [some (.inr (.inr v0)), some (.inl v1), some (.inl tq26), none] [] _
        refine aw_aload_n (pc' := 99) (i := 0) hC dX8_tellsImage_98 rfl rfl rfl ?_
        refine aw_iload_n (pc' := 100) (i := 1) hC dX8_tellsImage_99 rfl rfl rfl ?_
        refine aw_iconst (pc' := 101) hC dX8_tellsImage_100 rfl (by decide) ?_
        refine aw_isub (pc' := 102) hC dX8_tellsImage_101 rfl  ?_
        obtain ⟨x28, q27, h⟩ := pb_s h
        replace h := u1_s h
        refine aw_cV (pc' := 105) (k2 := 0) (n2 := 0) (st := []) (stN := [.inl x28]) hC [.inl (w32 (v1 - 1))] (mX8_tapeByte q27) lk_X8_271 g1 dX8_tellsImage_102 rfl rfl (Nat.le_of_ble_eq_true rfl) (Nat.le_of_ble_eq_true rfl) (Nat.le_of_ble_eq_true rfl) rfl (Nat.le_of_ble_eq_true rfl) rfl rfl rfl ?_
        refine aw_iload_n (pc' := 106) (i := 2) hC dX8_tellsImage_105 rfl rfl rfl ?_
        refine aw_icmp_ne (tgt := 113) (pc' := 109) hC dX8_tellsImage_106 (by decide) rfl (fun c29 => ?_) (fun c29 => ?_)
        · replace h := it_n c29 h
          refine aw_iconst (pc' := 114) hC dX8_tellsImage_113 rfl (by decide) ?_
          cases h
          exact aw_zret hC (Or.inl rfl) dX8_tellsImage_114 (Nat.le_of_ble_eq_true rfl) (Nat.le_of_ble_eq_true rfl)
        · replace h := it_p c29 h
          refine aw_iconst (pc' := 110) hC dX8_tellsImage_109 rfl (by decide) ?_
          refine aw_goto (tgt := 114) hC dX8_tellsImage_110 (by decide) ?_
          cases h
          exact aw_zret hC (Or.inr rfl) dX8_tellsImage_114 (Nat.le_of_ble_eq_true rfl) (Nat.le_of_ble_eq_true rfl)
      · replace h := se_r h
        cases tq19
        replace h := u0_s h
        show AW Γ sh M 0 0 58 [none, none, none, none] [] _
        refine aw_iconst (pc' := 59) hC dX8_tellsImage_58 rfl (by decide) ?_
        cases h
        exact aw_zret hC (Or.inl rfl) dX8_tellsImage_59 (Nat.le_of_ble_eq_true rfl) (Nat.le_of_ble_eq_true rfl)
    · replace h := it_p c9 h
      refine aw_iconst (pc' := 30) hC dX8_tellsImage_29 rfl (by decide) ?_
      cases h
      exact aw_zret hC (Or.inl rfl) dX8_tellsImage_30 (Nat.le_of_ble_eq_true rfl) (Nat.le_of_ble_eq_true rfl)
-- CoinCircle$Circle.stand(III)V
def fX0_stand (sh : AwS) (M : AwM) (v0 : Int) (v1 : Int) (v2 : Int) (v3 : Int) : Option (AwM) :=
  (if v3 < 2 then (if v3 = 1 then gd_ (kd_ sh v0 = (0, 0)) (gd_ (kd_ sh (M v0 0) = (0, 3)) (gd_ ((kd_ sh (M (M v0 0) 3)).1 = 1 ∧ (0 : Int) ≤ v1 ∧ v1 < ((kd_ sh (M (M v0 0) 3)).2 : Int)) (bd_ (up_ M (M (M v0 0) 3) v1 (or_ (M (M (M v0 0) 3) v1) (sl_ 1 v2))) fun (M6 : AwM) => (some M6)))) else some M) else gd_ (kd_ sh v0 = (0, 0)) (gd_ (kd_ sh (M v0 0) = (0, 3)) (gd_ ((kd_ sh (M (M v0 0) 2)).1 = 1 ∧ (0 : Int) ≤ v1 ∧ v1 < ((kd_ sh (M (M v0 0) 2)).2 : Int)) (bd_ (up_ M (M (M v0 0) 2) v1 (or_ (M (M (M v0 0) 2) v1) (sl_ 1 v2))) fun (M11 : AwM) => (gd_ (kd_ sh (M11 v0 0) = (0, 3)) (pb (fX3_setMet sh M11 (M11 v0 0) v1 v2 (w32 ((M11 (M11 v0 0) 0) - (w32 (v3 - 2))))) <| u1 fun (M15 : AwM) => (some M15)))))))
set_option maxRecDepth 100000 in
set_option maxHeartbeats 4000000 in
theorem mX0_stand {sh : AwS} {M : AwM} {v0 : Int} {v1 : Int} {v2 : Int} {v3 : Int} {M' : AwM} (h : fX0_stand sh M v0 v1 v2 v3 = some M') : AMet yX0_stand cX0_stand 4 none 2 0 0 [.inr (.inr v0), .inl v1, .inl v2, .inl v3] sh M none sh M' := by
  refine amet_of (by decide +kernel) (Nat.le_of_ble_eq_true rfl) (fun Γ hC => ?_)
  replace hC : AOK Γ RX0 cX0_stand 4 2 0 0 "stand" none := hC
  unfold fX0_stand at h
  refine aw_sub hC [some (.inr (.inr v0)), some (.inl v1), some (.inl v2), some (.inl v3)] ⟨rfl, ⟨rfl, ⟨rfl, ⟨rfl, trivial⟩⟩⟩⟩ (Nat.le_of_ble_eq_true rfl) ?_
  refine aw_iload_n (pc' := 1) (i := 3) hC dX0_stand_0 rfl rfl rfl ?_
  refine aw_iconst (pc' := 2) hC dX0_stand_1 rfl (by decide) ?_
  refine aw_icmp_lt (tgt := 43) (pc' := 5) hC dX0_stand_2 (by decide) rfl (fun c1 => ?_) (fun c1 => ?_)
  · replace h := it_p c1 h
    refine aw_iload_n (pc' := 44) (i := 3) hC dX0_stand_43 rfl rfl rfl ?_
    refine aw_iconst (pc' := 45) hC dX0_stand_44 rfl (by decide) ?_
    refine aw_icmp_ne (tgt := 63) (pc' := 48) hC dX0_stand_45 (by decide) rfl (fun c2 => ?_) (fun c2 => ?_)
    · replace h := it_n c2 h
      cases h
      exact aw_vret hC dX0_stand_63 (Nat.le_of_ble_eq_true rfl) (Nat.le_of_ble_eq_true rfl)
    · replace h := it_p c2 h
      refine aw_aload_n (pc' := 49) (i := 0) hC dX0_stand_48 rfl rfl rfl ?_
      obtain ⟨g3, h⟩ := gd_s h
      refine aw_getfield (pc' := 52) (v := (.inr (.inr (M v0 0)))) hC dX0_stand_49 rfl fl_X0_12 g3 rfl ?_
      obtain ⟨g4, h⟩ := gd_s h
      refine aw_getfield (pc' := 55) (v := (.inr (.inr (M (M v0 0) 3)))) hC dX0_stand_52 rfl fl_X0_40 g4 rfl ?_
      refine aw_iload_n (pc' := 56) (i := 1) hC dX0_stand_55 rfl rfl rfl ?_
      refine aw_dup2 (pc' := 57) hC dX0_stand_56 rfl rfl rfl ?_
      obtain ⟨g5, h⟩ := gd_s h
      refine aw_iaload (pc' := 58) hC dX0_stand_57 rfl g5 ?_
      refine aw_iconst (pc' := 59) hC dX0_stand_58 rfl (by decide) ?_
      refine aw_iload_n (pc' := 60) (i := 2) hC dX0_stand_59 rfl rfl rfl ?_
      refine aw_ishl (pc' := 61) hC dX0_stand_60 rfl  ?_
      refine aw_ior (pc' := 62) hC dX0_stand_61 rfl  ?_
      obtain ⟨M6, e7, h⟩ := bd_s h
      refine aw_ias (pc' := 63) hC dX0_stand_62 rfl g5 e7 ?_
      cases h
      exact aw_vret hC dX0_stand_63 (Nat.le_of_ble_eq_true rfl) (Nat.le_of_ble_eq_true rfl)
  · replace h := it_n c1 h
    refine aw_aload_n (pc' := 6) (i := 0) hC dX0_stand_5 rfl rfl rfl ?_
    obtain ⟨g8, h⟩ := gd_s h
    refine aw_getfield (pc' := 9) (v := (.inr (.inr (M v0 0)))) hC dX0_stand_6 rfl fl_X0_12 g8 rfl ?_
    obtain ⟨g9, h⟩ := gd_s h
    refine aw_getfield (pc' := 12) (v := (.inr (.inr (M (M v0 0) 2)))) hC dX0_stand_9 rfl fl_X0_36 g9 rfl ?_
    refine aw_iload_n (pc' := 13) (i := 1) hC dX0_stand_12 rfl rfl rfl ?_
    refine aw_dup2 (pc' := 14) hC dX0_stand_13 rfl rfl rfl ?_
    obtain ⟨g10, h⟩ := gd_s h
    refine aw_iaload (pc' := 15) hC dX0_stand_14 rfl g10 ?_
    refine aw_iconst (pc' := 16) hC dX0_stand_15 rfl (by decide) ?_
    refine aw_iload_n (pc' := 17) (i := 2) hC dX0_stand_16 rfl rfl rfl ?_
    refine aw_ishl (pc' := 18) hC dX0_stand_17 rfl  ?_
    refine aw_ior (pc' := 19) hC dX0_stand_18 rfl  ?_
    obtain ⟨M11, e12, h⟩ := bd_s h
    refine aw_ias (pc' := 20) hC dX0_stand_19 rfl g10 e12 ?_
    refine aw_aload_n (pc' := 21) (i := 0) hC dX0_stand_20 rfl rfl rfl ?_
    refine aw_getfield (pc' := 24) (v := (.inr (.inr (M11 v0 0)))) hC dX0_stand_21 rfl fl_X0_12 g8 rfl ?_
    refine aw_iload_n (pc' := 25) (i := 1) hC dX0_stand_24 rfl rfl rfl ?_
    refine aw_iload_n (pc' := 26) (i := 2) hC dX0_stand_25 rfl rfl rfl ?_
    refine aw_aload_n (pc' := 27) (i := 0) hC dX0_stand_26 rfl rfl rfl ?_
    refine aw_getfield (pc' := 30) (v := (.inr (.inr (M11 v0 0)))) hC dX0_stand_27 rfl fl_X0_12 g8 rfl ?_
    obtain ⟨g13, h⟩ := gd_s h
    refine aw_getfield (pc' := 33) (v := (.inl (M11 (M11 v0 0) 0))) hC dX0_stand_30 rfl fl_X0_26 g13 rfl ?_
    refine aw_iload_n (pc' := 34) (i := 3) hC dX0_stand_33 rfl rfl rfl ?_
    refine aw_iconst (pc' := 35) hC dX0_stand_34 rfl (by decide) ?_
    refine aw_isub (pc' := 36) hC dX0_stand_35 rfl  ?_
    refine aw_isub (pc' := 37) hC dX0_stand_36 rfl  ?_
    obtain ⟨M15, q14, h⟩ := pb_s h
    replace h := u1_s h
    refine aw_cV (pc' := 40) (k2 := 0) (n2 := 0) (st := []) (stN := []) hC [.inl v1, .inl v2, .inl (w32 ((M11 (M11 v0 0) 0) - (w32 (v3 - 2))))] (mX3_setMet q14) lk_X0_44 g13 dX0_stand_37 rfl rfl (Nat.le_of_ble_eq_true rfl) (Nat.le_of_ble_eq_true rfl) (Nat.le_of_ble_eq_true rfl) rfl (Nat.le_of_ble_eq_true rfl) rfl rfl rfl ?_
    refine aw_goto (tgt := 63) hC dX0_stand_40 (by decide) ?_
    cases h
    exact aw_vret hC dX0_stand_63 (Nat.le_of_ble_eq_true rfl) (Nat.le_of_ble_eq_true rfl)
-- CoinCircle.on()Z
def fX8_on_L93 (sh : AwS) (v0 : Int) (v2 : Int) (v3 : Int) (v4 : Int) (v5 : Int) (M : AwM) : Option ((Int × AwM) ⊕ (AwM)) :=
  gd_ (kd_ sh v0 = (0, 8)) (gd_ (kd_ sh (M v0 3) = (0, 5)) (gd_ ((kd_ sh (M (M v0 3) 0)).1 = 1 ∧ (0 : Int) ≤ 0 ∧ 0 < ((kd_ sh (M (M v0 3) 0)).2 : Int)) ((if v5 < (M (M (M v0 3) 0) 0) then pb (fX8_tapeByte sh M v0 (w32 ((w32 (v4 + 1)) + v5))) <| u1 fun (x36 : Int) => (gd_ (kd_ sh (M v0 4) = (0, 0)) (pb (fX0_stand sh M (M v0 4) v3 v5 x36) <| u1 fun (M39 : AwM) => (some (.inl ((w32 (v5 + 1)), M39))))) else some (.inr M)))))
def p_X8_on_L93 (Γ : AwC) (sh : AwS) (v0 : Int) (v2 : Int) (v3 : Int) (v4 : Int) (Q : State → Prop) (s : Int × AwM) : Prop := AW Γ sh (s.2) 0 0 93 [some (.inr (.inr v0)), none, some (.inr (.inr v2)), some (.inl v3), some (.inl v4), some (.inl (s.1))] [] Q
def x_X8_on_L93 (Γ : AwC) (sh : AwS) (v0 : Int) (v2 : Int) (v3 : Int) (v4 : Int) (Q : State → Prop) : (AwM) → Prop := (fun (t : AwM) => AW Γ sh (t) 0 0 134 [some (.inr (.inr v0)), none, some (.inr (.inr v2)), some (.inl v3), none, none] [] Q)
def fX8_on_L44 (sh : AwS) (v0 : Int) (v2 : Int) (v3 : Int) (M : AwM) : Option ((Int × AwM) ⊕ (AwM)) :=
  gd_ (kd_ sh v0 = (0, 8)) (gd_ (kd_ sh (M v0 3) = (0, 5)) (gd_ ((kd_ sh (M (M v0 3) 0)).1 = 1 ∧ (0 : Int) ≤ 1 ∧ 1 < ((kd_ sh (M (M v0 3) 0)).2 : Int)) ((if v3 < (M (M (M v0 3) 0) 1) then pb (fX8_imageRow sh M v0 v3) <| u1 fun (x18 : Int) => (gd_ (kd_ sh v2 = (0, 3)) (pb (fX8_tapeByte sh M v0 x18) <| u1 fun (x21 : Int) => (gd_ ((kd_ sh (M v2 1)).1 = 1 ∧ (0 : Int) ≤ v3 ∧ v3 < ((kd_ sh (M v2 1)).2 : Int)) (bd_ (up_ M (M v2 1) v3 x21) fun (M23 : AwM) => (gd_ ((kd_ sh (M23 v2 2)).1 = 1 ∧ (0 : Int) ≤ v3 ∧ v3 < ((kd_ sh (M23 v2 2)).2 : Int)) (bd_ (up_ M23 (M23 v2 2) v3 0) fun (M26 : AwM) => (gd_ ((kd_ sh (M26 v2 3)).1 = 1 ∧ (0 : Int) ≤ v3 ∧ v3 < ((kd_ sh (M26 v2 3)).2 : Int)) (bd_ (up_ M26 (M26 v2 3) v3 0) fun (M29 : AwM) => (pb (lp (u2 (fX8_on_L93 sh v0 v2 v3 x18)) FU (0, M29)) (u1 (fun (tq40 : AwM) => some (.inl ((w32 (v3 + 1)), tq40))))))))))))) else some (.inr M)))))
def p_X8_on_L44 (Γ : AwC) (sh : AwS) (v0 : Int) (v2 : Int) (Q : State → Prop) (s : Int × AwM) : Prop := AW Γ sh (s.2) 0 0 44 [some (.inr (.inr v0)), none, some (.inr (.inr v2)), some (.inl (s.1)), none, none] [] Q
def x_X8_on_L44 (Γ : AwC) (sh : AwS) (v0 : Int) (v2 : Int) (Q : State → Prop) : (AwM) → Prop := (fun (t : AwM) => AW Γ sh (t) 0 0 140 [some (.inr (.inr v0)), none, none, none, none, none] [] Q)
def fX8_on (sh : AwS) (M : AwM) (v0 : Int) : Option (Int × AwM) :=
  gd_ (kd_ sh v0 = (0, 8)) (bd_ (up_ M v0 1 0) fun (M2 : AwM) => (pb (fX8_tellsImage sh M2 v0 (M v0 1)) <| u1 fun (x5 : Int) => ((if x5 = 0 then pb (fX8_refuse sh M2 v0 5) <| u2 fun (x46 : Int) (M47 : AwM) => (some (0, M47)) else gd_ (kd_ sh (M2 v0 4) = (0, 0)) (pb (fX8_tapeDay sh M2 v0) <| u1 fun (x9 : Int) => (gd_ (kd_ sh (M2 (M2 v0 4) 0) = (0, 3)) (bd_ (up_ M2 (M2 (M2 v0 4) 0) 0 x9) fun (M11 : AwM) => (pb (lp (u2 (fX8_on_L44 sh v0 (M2 (M2 v0 4) 0))) FU (0, M11)) (u1 (fun (tq41 : AwM) => gd_ (kd_ sh (tq41 v0 6) = (0, 2)) (pb (fX2_clear sh tq41 (tq41 v0 6)) <| u1 fun (M44 : AwM) => (some (1, M44)))))))))))))
set_option maxRecDepth 100000 in
set_option maxHeartbeats 4000000 in
theorem w_X8_on_L93 {Γ : AwC} (hC : AOK Γ RX8 cX8_on 6 5 0 0 "on" (some .boolean)) {sh : AwS} {v0 : Int} {v2 : Int} {v3 : Int} {v4 : Int} {Q : State → Prop} : ∀ s r, u2 (fX8_on_L93 sh v0 v2 v3 v4) s = some r → (∀ s', r = .inl s' → p_X8_on_L93 Γ sh v0 v2 v3 v4 Q s') → (∀ t, r = .inr t → x_X8_on_L93 Γ sh v0 v2 v3 v4 Q t) → p_X8_on_L93 Γ sh v0 v2 v3 v4 Q s := by
  intro s r h hL hX
  obtain ⟨v5, M⟩ := s
  replace h := u2_s h
  unfold fX8_on_L93 at h
  show AW Γ sh M 0 0 93 [some (.inr (.inr v0)), none, some (.inr (.inr v2)), some (.inl v3), some (.inl v4), some (.inl v5)] [] Q
  refine aw_iload (pc' := 95) hC dX8_on_93 rfl rfl ?_
  refine aw_aload_n (pc' := 96) (i := 0) hC dX8_on_95 rfl rfl rfl ?_
  obtain ⟨g31, h⟩ := gd_s h
  refine aw_getfield (pc' := 99) (v := (.inr (.inr (M v0 3)))) hC dX8_on_96 rfl fl_X8_51 g31 rfl ?_
  obtain ⟨g32, h⟩ := gd_s h
  refine aw_getfield (pc' := 102) (v := (.inr (.inr (M (M v0 3) 0)))) hC dX8_on_99 rfl fl_X8_101 g32 rfl ?_
  refine aw_iconst (pc' := 103) hC dX8_on_102 rfl (by decide) ?_
  obtain ⟨g33, h⟩ := gd_s h
  refine aw_iaload (pc' := 104) hC dX8_on_103 rfl g33 ?_
  refine aw_icmp_ge (tgt := 134) (pc' := 107) hC dX8_on_104 (by decide) rfl (fun c34 => ?_) (fun c34 => ?_)
  · replace h := it_n c34 h
    refine aw_sub hC [some (.inr (.inr v0)), none, some (.inr (.inr v2)), some (.inl v3), none, none] ⟨rfl, ⟨rfl, ⟨rfl, trivial⟩⟩⟩ (Nat.le_of_ble_eq_true rfl) ?_
    cases h
    exact hX _ rfl
  · replace h := it_p c34 h
    refine aw_aload_n (pc' := 108) (i := 0) hC dX8_on_107 rfl rfl rfl ?_
    refine aw_getfield (pc' := 111) (v := (.inr (.inr (M v0 4)))) hC dX8_on_108 rfl fl_X8_60 g31 rfl ?_
    refine aw_iload_n (pc' := 112) (i := 3) hC dX8_on_111 rfl rfl rfl ?_
    refine aw_iload (pc' := 114) hC dX8_on_112 rfl rfl ?_
    refine aw_aload_n (pc' := 115) (i := 0) hC dX8_on_114 rfl rfl rfl ?_
    refine aw_iload (pc' := 117) hC dX8_on_115 rfl rfl ?_
    refine aw_iconst (pc' := 118) hC dX8_on_117 rfl (by decide) ?_
    refine aw_iadd (pc' := 119) hC dX8_on_118 rfl  ?_
    refine aw_iload (pc' := 121) hC dX8_on_119 rfl rfl ?_
    refine aw_iadd (pc' := 122) hC dX8_on_121 rfl  ?_
    obtain ⟨x36, q35, h⟩ := pb_s h
    replace h := u1_s h
    refine aw_cV (pc' := 125) (k2 := 0) (n2 := 0) (st := [.inl v5, .inl v3, .inr (.inr (M v0 4))]) (stN := [.inl x36, .inl v5, .inl v3, .inr (.inr (M v0 4))]) hC [.inl (w32 ((w32 (v4 + 1)) + v5))] (mX8_tapeByte q35) lk_X8_271 g31 dX8_on_122 rfl rfl (Nat.le_of_ble_eq_true rfl) (Nat.le_of_ble_eq_true rfl) (Nat.le_of_ble_eq_true rfl) rfl (Nat.le_of_ble_eq_true rfl) rfl rfl rfl ?_
    obtain ⟨g38, h⟩ := gd_s h
    obtain ⟨M39, q37, h⟩ := pb_s h
    replace h := u1_s h
    refine aw_cV (pc' := 128) (k2 := 0) (n2 := 0) (st := []) (stN := []) hC [.inl v3, .inl v5, .inl x36] (mX0_stand q37) lk_X8_305 g38 dX8_on_125 rfl rfl (Nat.le_of_ble_eq_true rfl) (Nat.le_of_ble_eq_true rfl) (Nat.le_of_ble_eq_true rfl) rfl (Nat.le_of_ble_eq_true rfl) rfl rfl rfl ?_
    refine aw_iinc (pc' := 131) (ls' := [some (.inr (.inr v0)), none, some (.inr (.inr v2)), some (.inl v3), some (.inl v4), some (.inl (w32 (v5 + 1)))]) hC dX8_on_128 rfl rfl rfl rfl ?_
    refine aw_goto (tgt := 93) hC dX8_on_131 (by decide) ?_
    refine aw_sub hC [some (.inr (.inr v0)), none, some (.inr (.inr v2)), some (.inl v3), some (.inl v4), some (.inl (w32 (v5 + 1)))] ⟨rfl, ⟨rfl, ⟨rfl, ⟨rfl, ⟨rfl, trivial⟩⟩⟩⟩⟩ (Nat.le_of_ble_eq_true rfl) ?_
    cases h
    exact hL _ rfl
set_option maxRecDepth 100000 in
set_option maxHeartbeats 4000000 in
theorem w_X8_on_L44 {Γ : AwC} (hC : AOK Γ RX8 cX8_on 6 5 0 0 "on" (some .boolean)) {sh : AwS} {v0 : Int} {v2 : Int} {Q : State → Prop} : ∀ s r, u2 (fX8_on_L44 sh v0 v2) s = some r → (∀ s', r = .inl s' → p_X8_on_L44 Γ sh v0 v2 Q s') → (∀ t, r = .inr t → x_X8_on_L44 Γ sh v0 v2 Q t) → p_X8_on_L44 Γ sh v0 v2 Q s := by
  intro s r h hL hX
  obtain ⟨v3, M⟩ := s
  replace h := u2_s h
  unfold fX8_on_L44 at h
  show AW Γ sh M 0 0 44 [some (.inr (.inr v0)), none, some (.inr (.inr v2)), some (.inl v3), none, none] [] Q
  refine aw_iload_n (pc' := 45) (i := 3) hC dX8_on_44 rfl rfl rfl ?_
  refine aw_aload_n (pc' := 46) (i := 0) hC dX8_on_45 rfl rfl rfl ?_
  obtain ⟨g13, h⟩ := gd_s h
  refine aw_getfield (pc' := 49) (v := (.inr (.inr (M v0 3)))) hC dX8_on_46 rfl fl_X8_51 g13 rfl ?_
  obtain ⟨g14, h⟩ := gd_s h
  refine aw_getfield (pc' := 52) (v := (.inr (.inr (M (M v0 3) 0)))) hC dX8_on_49 rfl fl_X8_101 g14 rfl ?_
  refine aw_iconst (pc' := 53) hC dX8_on_52 rfl (by decide) ?_
  obtain ⟨g15, h⟩ := gd_s h
  refine aw_iaload (pc' := 54) hC dX8_on_53 rfl g15 ?_
  refine aw_icmp_ge (tgt := 140) (pc' := 57) hC dX8_on_54 (by decide) rfl (fun c16 => ?_) (fun c16 => ?_)
  · replace h := it_n c16 h
    refine aw_sub hC [some (.inr (.inr v0)), none, none, none, none, none] ⟨rfl, trivial⟩ (Nat.le_of_ble_eq_true rfl) ?_
    cases h
    exact hX _ rfl
  · replace h := it_p c16 h
    refine aw_aload_n (pc' := 58) (i := 0) hC dX8_on_57 rfl rfl rfl ?_
    refine aw_iload_n (pc' := 59) (i := 3) hC dX8_on_58 rfl rfl rfl ?_
    obtain ⟨x18, q17, h⟩ := pb_s h
    replace h := u1_s h
    refine aw_cV (pc' := 62) (k2 := 0) (n2 := 0) (st := []) (stN := [.inl x18]) hC [.inl v3] (mX8_imageRow q17) lk_X8_302 g13 dX8_on_59 rfl rfl (Nat.le_of_ble_eq_true rfl) (Nat.le_of_ble_eq_true rfl) (Nat.le_of_ble_eq_true rfl) rfl (Nat.le_of_ble_eq_true rfl) rfl rfl rfl ?_
    refine aw_istore (pc' := 64) (ls' := [some (.inr (.inr v0)), none, some (.inr (.inr v2)), some (.inl v3), some (.inl x18), none]) hC dX8_on_62 rfl (Nat.le_of_ble_eq_true rfl) rfl rfl ?_
    refine aw_aload_n (pc' := 65) (i := 2) hC dX8_on_64 rfl rfl rfl ?_
    obtain ⟨g19, h⟩ := gd_s h
    refine aw_getfield (pc' := 68) (v := (.inr (.inr (M v2 1)))) hC dX8_on_65 rfl fl_X8_169 g19 rfl ?_
    refine aw_iload_n (pc' := 69) (i := 3) hC dX8_on_68 rfl rfl rfl ?_
    refine aw_aload_n (pc' := 70) (i := 0) hC dX8_on_69 rfl rfl rfl ?_
    refine aw_iload (pc' := 72) hC dX8_on_70 rfl rfl ?_
    obtain ⟨x21, q20, h⟩ := pb_s h
    replace h := u1_s h
    refine aw_cV (pc' := 75) (k2 := 0) (n2 := 0) (st := [.inl v3, .inr (.inr (M v2 1))]) (stN := [.inl x21, .inl v3, .inr (.inr (M v2 1))]) hC [.inl x18] (mX8_tapeByte q20) lk_X8_271 g13 dX8_on_72 rfl rfl (Nat.le_of_ble_eq_true rfl) (Nat.le_of_ble_eq_true rfl) (Nat.le_of_ble_eq_true rfl) rfl (Nat.le_of_ble_eq_true rfl) rfl rfl rfl ?_
    obtain ⟨g22, h⟩ := gd_s h
    obtain ⟨M23, e24, h⟩ := bd_s h
    refine aw_ias (pc' := 76) hC dX8_on_75 rfl g22 e24 ?_
    refine aw_aload_n (pc' := 77) (i := 2) hC dX8_on_76 rfl rfl rfl ?_
    refine aw_getfield (pc' := 80) (v := (.inr (.inr (M23 v2 2)))) hC dX8_on_77 rfl fl_X8_172 g19 rfl ?_
    refine aw_iload_n (pc' := 81) (i := 3) hC dX8_on_80 rfl rfl rfl ?_
    refine aw_iconst (pc' := 82) hC dX8_on_81 rfl (by decide) ?_
    obtain ⟨g25, h⟩ := gd_s h
    obtain ⟨M26, e27, h⟩ := bd_s h
    refine aw_ias (pc' := 83) hC dX8_on_82 rfl g25 e27 ?_
    refine aw_aload_n (pc' := 84) (i := 2) hC dX8_on_83 rfl rfl rfl ?_
    refine aw_getfield (pc' := 87) (v := (.inr (.inr (M26 v2 3)))) hC dX8_on_84 rfl fl_X8_175 g19 rfl ?_
    refine aw_iload_n (pc' := 88) (i := 3) hC dX8_on_87 rfl rfl rfl ?_
    refine aw_iconst (pc' := 89) hC dX8_on_88 rfl (by decide) ?_
    obtain ⟨g28, h⟩ := gd_s h
    obtain ⟨M29, e30, h⟩ := bd_s h
    refine aw_ias (pc' := 90) hC dX8_on_89 rfl g28 e30 ?_
    refine aw_iconst (pc' := 91) hC dX8_on_90 rfl (by decide) ?_
    refine aw_istore (pc' := 93) (ls' := [some (.inr (.inr v0)), none, some (.inr (.inr v2)), some (.inl v3), some (.inl x18), some (.inl 0)]) hC dX8_on_91 rfl (Nat.le_of_ble_eq_true rfl) rfl rfl ?_
    obtain ⟨tq40, q40, h⟩ := pb_s h
    refine aw_sub hC [some (.inr (.inr v0)), none, some (.inr (.inr v2)), some (.inl v3), some (.inl x18), some (.inl 0)] ⟨rfl, ⟨rfl, ⟨rfl, ⟨rfl, ⟨rfl, trivial⟩⟩⟩⟩⟩ (Nat.le_of_ble_eq_true rfl) ?_
    refine (lp_aw (p_X8_on_L93 Γ sh v0 v2 v3 x18 Q) (x_X8_on_L93 Γ sh v0 v2 v3 x18 Q) (w_X8_on_L93 hC ) FU _ _ q40 ?_ : p_X8_on_L93 Γ sh v0 v2 v3 x18 Q (0, M29))
    replace h := u1_s h
    show AW Γ sh tq40 0 0 134 [some (.inr (.inr v0)), none, some (.inr (.inr v2)), some (.inl v3), none, none] [] _
    refine aw_iinc (pc' := 137) (ls' := [some (.inr (.inr v0)), none, some (.inr (.inr v2)), some (.inl (w32 (v3 + 1))), none, none]) hC dX8_on_134 rfl rfl rfl rfl ?_
    refine aw_goto (tgt := 44) hC dX8_on_137 (by decide) ?_
    refine aw_sub hC [some (.inr (.inr v0)), none, some (.inr (.inr v2)), some (.inl (w32 (v3 + 1))), none, none] ⟨rfl, ⟨rfl, ⟨rfl, trivial⟩⟩⟩ (Nat.le_of_ble_eq_true rfl) ?_
    cases h
    exact hL _ rfl
set_option maxRecDepth 100000 in
set_option maxHeartbeats 4000000 in
theorem mX8_on {sh : AwS} {M : AwM} {v0 : Int} {r : Int} {M' : AwM} (h : fX8_on sh M v0 = some (r, M')) : AMet yX8_on cX8_on 6 (some .boolean) 5 0 0 [.inr (.inr v0)] sh M (some (.inl r)) sh M' := by
  refine amet_of (by decide +kernel) (Nat.le_of_ble_eq_true rfl) (fun Γ hC => ?_)
  replace hC : AOK Γ RX8 cX8_on 6 5 0 0 "on" (some .boolean) := hC
  unfold fX8_on at h
  refine aw_sub hC [some (.inr (.inr v0)), none, none, none, none, none] ⟨rfl, trivial⟩ (Nat.le_of_ble_eq_true rfl) ?_
  refine aw_aload_n (pc' := 1) (i := 0) hC dX8_on_0 rfl rfl rfl ?_
  obtain ⟨g1, h⟩ := gd_s h
  refine aw_getfield (pc' := 4) (v := (.inl (M v0 1))) hC dX8_on_1 rfl fl_X8_67 g1 rfl ?_
  refine aw_istore_n (pc' := 5) (i := 1) (ls' := [some (.inr (.inr v0)), some (.inl (M v0 1)), none, none, none, none]) hC dX8_on_4 rfl rfl (Nat.le_of_ble_eq_true rfl) rfl rfl ?_
  refine aw_aload_n (pc' := 6) (i := 0) hC dX8_on_5 rfl rfl rfl ?_
  refine aw_iconst (pc' := 7) hC dX8_on_6 rfl (by decide) ?_
  obtain ⟨M2, e3, h⟩ := bd_s h
  refine aw_pf (pc' := 10) hC dX8_on_7 rfl fp_X8_67 g1 rfl trivial e3 ?_
  refine aw_aload_n (pc' := 11) (i := 0) hC dX8_on_10 rfl rfl rfl ?_
  refine aw_iload_n (pc' := 12) (i := 1) hC dX8_on_11 rfl rfl rfl ?_
  obtain ⟨x5, q4, h⟩ := pb_s h
  replace h := u1_s h
  refine aw_cV (pc' := 15) (k2 := 0) (n2 := 0) (st := []) (stN := [.inl x5]) hC [.inl (M v0 1)] (mX8_tellsImage q4) lk_X8_296 g1 dX8_on_12 rfl rfl (Nat.le_of_ble_eq_true rfl) (Nat.le_of_ble_eq_true rfl) (Nat.le_of_ble_eq_true rfl) rfl (Nat.le_of_ble_eq_true rfl) rfl rfl rfl ?_
  refine aw_if_ne (tgt := 26) (pc' := 18) hC dX8_on_15 (by decide) rfl (fun c6 => ?_) (fun c6 => ?_)
  · replace h := it_n c6 h
    refine aw_aload_n (pc' := 27) (i := 0) hC dX8_on_26 rfl rfl rfl ?_
    refine aw_getfield (pc' := 30) (v := (.inr (.inr (M2 v0 4)))) hC dX8_on_27 rfl fl_X8_60 g1 rfl ?_
    obtain ⟨g7, h⟩ := gd_s h
    refine aw_getfield (pc' := 33) (v := (.inr (.inr (M2 (M2 v0 4) 0)))) hC dX8_on_30 rfl fl_X8_110 g7 rfl ?_
    refine aw_astore_n (pc' := 34) (i := 2) (ls' := [some (.inr (.inr v0)), some (.inl (M v0 1)), some (.inr (.inr (M2 (M2 v0 4) 0))), none, none, none]) hC dX8_on_33 rfl rfl (Nat.le_of_ble_eq_true rfl) rfl rfl ?_
    refine aw_aload_n (pc' := 35) (i := 2) hC dX8_on_34 rfl rfl rfl ?_
    refine aw_aload_n (pc' := 36) (i := 0) hC dX8_on_35 rfl rfl rfl ?_
    obtain ⟨x9, q8, h⟩ := pb_s h
    replace h := u1_s h
    refine aw_cV (pc' := 39) (k2 := 0) (n2 := 0) (st := [.inr (.inr (M2 (M2 v0 4) 0))]) (stN := [.inl x9, .inr (.inr (M2 (M2 v0 4) 0))]) hC [] (mX8_tapeDay q8) lk_X8_299 g1 dX8_on_36 rfl rfl (Nat.le_of_ble_eq_true rfl) (Nat.le_of_ble_eq_true rfl) (Nat.le_of_ble_eq_true rfl) rfl (Nat.le_of_ble_eq_true rfl) rfl rfl rfl ?_
    obtain ⟨g10, h⟩ := gd_s h
    obtain ⟨M11, e12, h⟩ := bd_s h
    refine aw_pf (pc' := 42) hC dX8_on_39 rfl fp_X8_114 g10 rfl trivial e12 ?_
    refine aw_iconst (pc' := 43) hC dX8_on_42 rfl (by decide) ?_
    refine aw_istore_n (pc' := 44) (i := 3) (ls' := [some (.inr (.inr v0)), some (.inl (M v0 1)), some (.inr (.inr (M2 (M2 v0 4) 0))), some (.inl 0), none, none]) hC dX8_on_43 rfl rfl (Nat.le_of_ble_eq_true rfl) rfl rfl ?_
    obtain ⟨tq41, q41, h⟩ := pb_s h
    refine aw_sub hC [some (.inr (.inr v0)), none, some (.inr (.inr (M2 (M2 v0 4) 0))), some (.inl 0), none, none] ⟨rfl, ⟨rfl, ⟨rfl, trivial⟩⟩⟩ (Nat.le_of_ble_eq_true rfl) ?_
    refine (lp_aw (p_X8_on_L44 Γ sh v0 (M2 (M2 v0 4) 0) (fin_ Γ 0 0 (some (.inl r)) sh M')) (x_X8_on_L44 Γ sh v0 (M2 (M2 v0 4) 0) (fin_ Γ 0 0 (some (.inl r)) sh M')) (w_X8_on_L44 hC ) FU _ _ q41 ?_ : p_X8_on_L44 Γ sh v0 (M2 (M2 v0 4) 0) (fin_ Γ 0 0 (some (.inl r)) sh M') (0, M11))
    replace h := u1_s h
    show AW Γ sh tq41 0 0 140 [some (.inr (.inr v0)), none, none, none, none, none] [] _
    refine aw_aload_n (pc' := 141) (i := 0) hC dX8_on_140 rfl rfl rfl ?_
    refine aw_getfield (pc' := 144) (v := (.inr (.inr (tq41 v0 6)))) hC dX8_on_141 rfl fl_X8_23 g1 rfl ?_
    obtain ⟨g43, h⟩ := gd_s h
    obtain ⟨M44, q42, h⟩ := pb_s h
    replace h := u1_s h
    refine aw_cV (pc' := 147) (k2 := 0) (n2 := 0) (st := []) (stN := []) hC [] (mX2_clear q42) lk_X8_89 g43 dX8_on_144 rfl rfl (Nat.le_of_ble_eq_true rfl) (Nat.le_of_ble_eq_true rfl) (Nat.le_of_ble_eq_true rfl) rfl (Nat.le_of_ble_eq_true rfl) rfl rfl rfl ?_
    refine aw_iconst (pc' := 148) hC dX8_on_147 rfl (by decide) ?_
    cases h
    exact aw_zret hC (Or.inr rfl) dX8_on_148 (Nat.le_of_ble_eq_true rfl) (Nat.le_of_ble_eq_true rfl)
  · replace h := it_p c6 h
    refine aw_aload_n (pc' := 19) (i := 0) hC dX8_on_18 rfl rfl rfl ?_
    refine aw_iconst (pc' := 20) hC dX8_on_19 rfl (by decide) ?_
    obtain ⟨⟨x46, M47⟩, q45, h⟩ := pb_s h
    replace h := u2_s h
    refine aw_cV (pc' := 23) (k2 := 0) (n2 := 0) (st := []) (stN := [.inl x46]) hC [.inl 5] (mX8_refuse q45) lk_X8_70 g1 dX8_on_20 rfl rfl (Nat.le_of_ble_eq_true rfl) (Nat.le_of_ble_eq_true rfl) (Nat.le_of_ble_eq_true rfl) rfl (Nat.le_of_ble_eq_true rfl) rfl rfl rfl ?_
    refine aw_pop (pc' := 24) hC dX8_on_23 rfl rfl ?_
    refine aw_iconst (pc' := 25) hC dX8_on_24 rfl (by decide) ?_
    cases h
    exact aw_zret hC (Or.inl rfl) dX8_on_25 (Nat.le_of_ble_eq_true rfl) (Nat.le_of_ble_eq_true rfl)
