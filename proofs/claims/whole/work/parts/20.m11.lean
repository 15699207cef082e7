-- CoinCircleModel.fresh()J
def fX9_fresh_L43 (sh : AwS) (v0 : Int) (v1 : Int) (M : AwM) : Option ((Int × AwM) ⊕ (AwM)) :=
  (if 2 < v1 then some (.inr M) else gd_ (kd_ sh v0 = (0, 9)) ((if (M v0 8) = 0 then pb (fX9_named sh M v0 v1 (M v0 7)) <| u1 fun (x12 : Int) => ((if x12 = (-1) then some (.inl ((w32 (v1 + 1)), M)) else pb (fX9_blame sh M v0 2 (M v0 4)) <| u1 fun (M15 : AwM) => (some (.inl ((w32 (v1 + 1)), M15))))) else some (.inr M))))
def p_X9_fresh_L43 (Γ : AwC) (sh : AwS) (v0 : Int) (Q : State → Prop) (s : Int × AwM) : Prop := AW Γ sh (s.2) 0 0 43 [some (.inr (.inr v0)), some (.inl (s.1)), none] [] Q
def x_X9_fresh_L43 (Γ : AwC) (sh : AwS) (v0 : Int) (Q : State → Prop) : (AwM) → Prop := (fun (t : AwM) => AW Γ sh (t) 0 0 83 [some (.inr (.inr v0)), none, none] [] Q)
def fX9_fresh (sh : AwS) (M : AwM) (v0 : Int) : Option (Int × AwM) :=
  gd_ (kd_ sh v0 = (0, 9)) (pb (fX9_lex sh M v0) <| u1 fun (M3 : AwM) => ((if 0 < (M3 v0 8) then some (0, M3) else (if (M3 v0 3) = 1 then pb (fX9_isOwn sh M3 v0 (M3 v0 7)) <| u1 fun (x21 : Int) => ((if x21 = 0 then pb (lp (u2 (fX9_fresh_L43 sh v0)) FU (0, M3)) (u1 (fun (tq23 : AwM) => (if (tq23 v0 8) = 0 then pb (fX9_ahead sh tq23 v0) <| u1 fun (M26 : AwM) => (some ((tq23 v0 7), M26)) else some ((tq23 v0 7), tq23)))) else pb (fX9_blame sh M3 v0 1 (M3 v0 4)) <| u1 fun (M28 : AwM) => (pb (lp (u2 (fX9_fresh_L43 sh v0)) FU (0, M28)) (u1 (fun (tq29 : AwM) => (if (tq29 v0 8) = 0 then pb (fX9_ahead sh tq29 v0) <| u1 fun (M32 : AwM) => (some ((tq29 v0 7), M32)) else some ((tq29 v0 7), tq29))))))) else pb (fX9_blame sh M3 v0 1 (M3 v0 4)) <| u1 fun (M7 : AwM) => (pb (lp (u2 (fX9_fresh_L43 sh v0)) FU (0, M7)) (u1 (fun (tq16 : AwM) => (if (tq16 v0 8) = 0 then pb (fX9_ahead sh tq16 v0) <| u1 fun (M19 : AwM) => (some ((tq16 v0 7), M19)) else some ((tq16 v0 7), tq16)))))))))
set_option maxRecDepth 100000 in
set_option maxHeartbeats 4000000 in
theorem w_X9_fresh_L43 {Γ : AwC} (hC : AOK Γ RX9 cX9_fresh 3 3 0 0 "fresh" (some .long)) {sh : AwS} {v0 : Int} {Q : State → Prop} : ∀ s r, u2 (fX9_fresh_L43 sh v0) s = some r → (∀ s', r = .inl s' → p_X9_fresh_L43 Γ sh v0 Q s') → (∀ t, r = .inr t → x_X9_fresh_L43 Γ sh v0 Q t) → p_X9_fresh_L43 Γ sh v0 Q s := by
  intro s r h hL hX
  obtain ⟨v1, M⟩ := s
  replace h := u2_s h
  unfold fX9_fresh_L43 at h
  show AW Γ sh M 0 0 43 [some (.inr (.inr v0)), some (.inl v1), none] [] Q
  refine aw_iload_n (pc' := 44) (i := 1) hC dX9_fresh_43 rfl rfl rfl ?_
  refine aw_iconst (pc' := 45) hC dX9_fresh_44 rfl (by decide) ?_
  refine aw_icmp_gt (tgt := 83) (pc' := 48) hC dX9_fresh_45 (by decide) rfl (fun c8 => ?_) (fun c8 => ?_)
  · replace h := it_p c8 h
    refine aw_sub hC [some (.inr (.inr v0)), none, none] ⟨rfl, trivial⟩ (Nat.le_of_ble_eq_true rfl) ?_
    cases h
    exact hX _ rfl
  · replace h := it_n c8 h
    refine aw_aload_n (pc' := 49) (i := 0) hC dX9_fresh_48 rfl rfl rfl ?_
    obtain ⟨g9, h⟩ := gd_s h
    refine aw_getfield (pc' := 52) (v := (.inl (M v0 8))) hC dX9_fresh_49 rfl fl_X9_36 g9 rfl ?_
    refine aw_if_ne (tgt := 83) (pc' := 55) hC dX9_fresh_52 (by decide) rfl (fun c10 => ?_) (fun c10 => ?_)
    · replace h := it_n c10 h
      refine aw_sub hC [some (.inr (.inr v0)), none, none] ⟨rfl, trivial⟩ (Nat.le_of_ble_eq_true rfl) ?_
      cases h
      exact hX _ rfl
    · replace h := it_p c10 h
      refine aw_aload_n (pc' := 56) (i := 0) hC dX9_fresh_55 rfl rfl rfl ?_
      refine aw_iload_n (pc' := 57) (i := 1) hC dX9_fresh_56 rfl rfl rfl ?_
      refine aw_aload_n (pc' := 58) (i := 0) hC dX9_fresh_57 rfl rfl rfl ?_
      refine aw_getfield (pc' := 61) (v := (.inr (.inl (M v0 7)))) hC dX9_fresh_58 rfl fl_X9_32 g9 rfl ?_
      obtain ⟨x12, q11, h⟩ := pb_s h
      replace h := u1_s h
      refine aw_cV (pc' := 64) (k2 := 0) (n2 := 0) (st := []) (stN := [.inl x12]) hC [.inl v1, .inr (.inl (M v0 7))] (mX9_named q11) lk_X9_348 g9 dX9_fresh_61 rfl rfl (Nat.le_of_ble_eq_true rfl) (Nat.le_of_ble_eq_true rfl) (Nat.le_of_ble_eq_true rfl) rfl (Nat.le_of_ble_eq_true rfl) rfl rfl rfl ?_
      refine aw_iconst (pc' := 65) hC dX9_fresh_64 rfl (by decide) ?_
      refine aw_icmp_eq (tgt := 77) (pc' := 68) hC dX9_fresh_65 (by decide) rfl (fun c13 => ?_) (fun c13 => ?_)
      · replace h := it_p c13 h
        refine aw_iinc (pc' := 80) (ls' := [some (.inr (.inr v0)), some (.inl (w32 (v1 + 1))), none]) hC dX9_fresh_77 rfl rfl rfl rfl ?_
        refine aw_goto (tgt := 43) hC dX9_fresh_80 (by decide) ?_
        refine aw_sub hC [some (.inr (.inr v0)), some (.inl (w32 (v1 + 1))), none] ⟨rfl, ⟨rfl, trivial⟩⟩ (Nat.le_of_ble_eq_true rfl) ?_
        cases h
        exact hL _ rfl
      · replace h := it_n c13 h
        refine aw_aload_n (pc' := 69) (i := 0) hC dX9_fresh_68 rfl rfl rfl ?_
        refine aw_iconst (pc' := 70) hC dX9_fresh_69 rfl (by decide) ?_
        refine aw_aload_n (pc' := 71) (i := 0) hC dX9_fresh_70 rfl rfl rfl ?_
        refine aw_getfield (pc' := 74) (v := (.inl (M v0 4))) hC dX9_fresh_71 rfl fl_X9_23 g9 rfl ?_
        obtain ⟨M15, q14, h⟩ := pb_s h
        replace h := u1_s h
        refine aw_cV (pc' := 77) (k2 := 0) (n2 := 0) (st := []) (stN := []) hC [.inl 2, .inl (M v0 4)] (mX9_blame q14) lk_X9_236 g9 dX9_fresh_74 rfl rfl (Nat.le_of_ble_eq_true rfl) (Nat.le_of_ble_eq_true rfl) (Nat.le_of_ble_eq_true rfl) rfl (Nat.le_of_ble_eq_true rfl) rfl rfl rfl ?_
        refine aw_iinc (pc' := 80) (ls' := [some (.inr (.inr v0)), some (.inl (w32 (v1 + 1))), none]) hC dX9_fresh_77 rfl rfl rfl rfl ?_
        refine aw_goto (tgt := 43) hC dX9_fresh_80 (by decide) ?_
        refine aw_sub hC [some (.inr (.inr v0)), some (.inl (w32 (v1 + 1))), none] ⟨rfl, ⟨rfl, trivial⟩⟩ (Nat.le_of_ble_eq_true rfl) ?_
        cases h
        exact hL _ rfl
set_option maxRecDepth 100000 in
set_option maxHeartbeats 4000000 in
theorem mX9_fresh {sh : AwS} {M : AwM} {v0 : Int} {r : Int} {M' : AwM} (h : fX9_fresh sh M v0 = some (r, M')) : AMet yX9_fresh cX9_fresh 3 (some .long) 3 0 0 [.inr (.inr v0)] sh M (some (.inr (.inl r))) sh M' := by
  refine amet_of (by decide +kernel) (Nat.le_of_ble_eq_true rfl) (fun Γ hC => ?_)
  replace hC : AOK Γ RX9 cX9_fresh 3 3 0 0 "fresh" (some .long) := hC
  unfold fX9_fresh at h
  refine aw_sub hC [some (.inr (.inr v0)), none, none] ⟨rfl, trivial⟩ (Nat.le_of_ble_eq_true rfl) ?_
  refine aw_aload_n (pc' := 1) (i := 0) hC dX9_fresh_0 rfl rfl rfl ?_
  obtain ⟨g2, h⟩ := gd_s h
  obtain ⟨M3, q1, h⟩ := pb_s h
  replace h := u1_s h
  refine aw_cV (pc' := 4) (k2 := 0) (n2 := 0) (st := []) (stN := []) hC [] (mX9_lex q1) lk_X9_251 g2 dX9_fresh_1 rfl rfl (Nat.le_of_ble_eq_true rfl) (Nat.le_of_ble_eq_true rfl) (Nat.le_of_ble_eq_true rfl) rfl (Nat.le_of_ble_eq_true rfl) rfl rfl rfl ?_
  refine aw_aload_n (pc' := 5) (i := 0) hC dX9_fresh_4 rfl rfl rfl ?_
  refine aw_getfield (pc' := 8) (v := (.inl (M3 v0 8))) hC dX9_fresh_5 rfl fl_X9_36 g2 rfl ?_
  refine aw_if_le (tgt := 13) (pc' := 11) hC dX9_fresh_8 (by decide) rfl (fun c4 => ?_) (fun c4 => ?_)
  · replace h := it_n c4 h
    refine aw_aload_n (pc' := 14) (i := 0) hC dX9_fresh_13 rfl rfl rfl ?_
    refine aw_getfield (pc' := 17) (v := (.inl (M3 v0 3))) hC dX9_fresh_14 rfl fl_X9_20 g2 rfl ?_
    refine aw_iconst (pc' := 18) hC dX9_fresh_17 rfl (by decide) ?_
    refine aw_icmp_ne (tgt := 32) (pc' := 21) hC dX9_fresh_18 (by decide) rfl (fun c5 => ?_) (fun c5 => ?_)
    · replace h := it_n c5 h
      refine aw_aload_n (pc' := 33) (i := 0) hC dX9_fresh_32 rfl rfl rfl ?_
      refine aw_iconst (pc' := 34) hC dX9_fresh_33 rfl (by decide) ?_
      refine aw_aload_n (pc' := 35) (i := 0) hC dX9_fresh_34 rfl rfl rfl ?_
      refine aw_getfield (pc' := 38) (v := (.inl (M3 v0 4))) hC dX9_fresh_35 rfl fl_X9_23 g2 rfl ?_
      obtain ⟨M7, q6, h⟩ := pb_s h
      replace h := u1_s h
      refine aw_cV (pc' := 41) (k2 := 0) (n2 := 0) (st := []) (stN := []) hC [.inl 1, .inl (M3 v0 4)] (mX9_blame q6) lk_X9_236 g2 dX9_fresh_38 rfl rfl (Nat.le_of_ble_eq_true rfl) (Nat.le_of_ble_eq_true rfl) (Nat.le_of_ble_eq_true rfl) rfl (Nat.le_of_ble_eq_true rfl) rfl rfl rfl ?_
      refine aw_iconst (pc' := 42) hC dX9_fresh_41 rfl (by decide) ?_
      refine aw_istore_n (pc' := 43) (i := 1) (ls' := [some (.inr (.inr v0)), some (.inl 0), none]) hC dX9_fresh_42 rfl rfl (Nat.le_of_ble_eq_true rfl) rfl rfl ?_
      obtain ⟨tq16, q16, h⟩ := pb_s h
      refine aw_sub hC [some (.inr (.inr v0)), some (.inl 0), none] ⟨rfl, ⟨rfl, trivial⟩⟩ (Nat.le_of_ble_eq_true rfl) ?_
      refine (lp_aw (p_X9_fresh_L43 Γ sh v0 (fin_ Γ 0 0 (some (.inr (.inl r))) sh M')) (x_X9_fresh_L43 Γ sh v0 (fin_ Γ 0 0 (some (.inr (.inl r))) sh M')) (w_X9_fresh_L43 hC ) FU _ _ q16 ?_ : p_X9_fresh_L43 Γ sh v0 (fin_ Γ 0 0 (some (.inr (.inl r))) sh M') (0, M7))
      replace h := u1_s h
      show AW Γ sh tq16 0 0 83 [some (.inr (.inr v0)), none, none] [] _
      refine aw_aload_n (pc' := 84) (i := 0) hC dX9_fresh_83 rfl rfl rfl ?_
      refine aw_getfield (pc' := 87) (v := (.inr (.inl (tq16 v0 7)))) hC dX9_fresh_84 rfl fl_X9_32 g2 rfl ?_
      refine aw_lstore_n (pc' := 88) (i := 1) (ls' := [some (.inr (.inr v0)), some (.inr (.inl (tq16 v0 7))), none]) hC dX9_fresh_87 rfl rfl (Nat.le_of_ble_eq_true rfl) rfl rfl ?_
      refine aw_aload_n (pc' := 89) (i := 0) hC dX9_fresh_88 rfl rfl rfl ?_
      refine aw_getfield (pc' := 92) (v := (.inl (tq16 v0 8))) hC dX9_fresh_89 rfl fl_X9_36 g2 rfl ?_
      refine aw_if_ne (tgt := 99) (pc' := 95) hC dX9_fresh_92 (by decide) rfl (fun c17 => ?_) (fun c17 => ?_)
      · replace h := it_n c17 h
        refine aw_lload_n (pc' := 100) (i := 1) hC dX9_fresh_99 rfl rfl rfl ?_
        cases h
        exact aw_lret hC dX9_fresh_100 (Nat.le_of_ble_eq_true rfl) (Nat.le_of_ble_eq_true rfl)
      · replace h := it_p c17 h
        refine aw_aload_n (pc' := 96) (i := 0) hC dX9_fresh_95 rfl rfl rfl ?_
        obtain ⟨M19, q18, h⟩ := pb_s h
        replace h := u1_s h
        refine aw_cV (pc' := 99) (k2 := 0) (n2 := 0) (st := []) (stN := []) hC [] (mX9_ahead q18) lk_X9_257 g2 dX9_fresh_96 rfl rfl (Nat.le_of_ble_eq_true rfl) (Nat.le_of_ble_eq_true rfl) (Nat.le_of_ble_eq_true rfl) rfl (Nat.le_of_ble_eq_true rfl) rfl rfl rfl ?_
        refine aw_lload_n (pc' := 100) (i := 1) hC dX9_fresh_99 rfl rfl rfl ?_
        cases h
        exact aw_lret hC dX9_fresh_100 (Nat.le_of_ble_eq_true rfl) (Nat.le_of_ble_eq_true rfl)
    · replace h := it_p c5 h
      refine aw_aload_n (pc' := 22) (i := 0) hC dX9_fresh_21 rfl rfl rfl ?_
      refine aw_aload_n (pc' := 23) (i := 0) hC dX9_fresh_22 rfl rfl rfl ?_
      refine aw_getfield (pc' := 26) (v := (.inr (.inl (M3 v0 7)))) hC dX9_fresh_23 rfl fl_X9_32 g2 rfl ?_
      obtain ⟨x21, q20, h⟩ := pb_s h
      replace h := u1_s h
      refine aw_cV (pc' := 29) (k2 := 0) (n2 := 0) (st := []) (stN := [.inl x21]) hC [.inr (.inl (M3 v0 7))] (mX9_isOwn q20) lk_X9_247 g2 dX9_fresh_26 rfl rfl (Nat.le_of_ble_eq_true rfl) (Nat.le_of_ble_eq_true rfl) (Nat.le_of_ble_eq_true rfl) rfl (Nat.le_of_ble_eq_true rfl) rfl rfl rfl ?_
      refine aw_if_eq (tgt := 41) (pc' := 32) hC dX9_fresh_29 (by decide) rfl (fun c22 => ?_) (fun c22 => ?_)
      · replace h := it_p c22 h
        refine aw_iconst (pc' := 42) hC dX9_fresh_41 rfl (by decide) ?_
        refine aw_istore_n (pc' := 43) (i := 1) (ls' := [some (.inr (.inr v0)), some (.inl 0), none]) hC dX9_fresh_42 rfl rfl (Nat.le_of_ble_eq_true rfl) rfl rfl ?_
        obtain ⟨tq23, q23, h⟩ := pb_s h
        refine aw_sub hC [some (.inr (.inr v0)), some (.inl 0), none] ⟨rfl, ⟨rfl, trivial⟩⟩ (Nat.le_of_ble_eq_true rfl) ?_
        refine (lp_aw (p_X9_fresh_L43 Γ sh v0 (fin_ Γ 0 0 (some (.inr (.inl r))) sh M')) (x_X9_fresh_L43 Γ sh v0 (fin_ Γ 0 0 (some (.inr (.inl r))) sh M')) (w_X9_fresh_L43 hC ) FU _ _ q23 ?_ : p_X9_fresh_L43 Γ sh v0 (fin_ Γ 0 0 (some (.inr (.inl r))) sh M') (0, M3))
        replace h := u1_s h
        show AW Γ sh tq23 0 0 83 [some (.inr (.inr v0)), none, none] [] _
        refine aw_aload_n (pc' := 84) (i := 0) hC dX9_fresh_83 rfl rfl rfl ?_
        refine aw_getfield (pc' := 87) (v := (.inr (.inl (tq23 v0 7)))) hC dX9_fresh_84 rfl fl_X9_32 g2 rfl ?_
        refine aw_lstore_n (pc' := 88) (i := 1) (ls' := [some (.inr (.inr v0)), some (.inr (.inl (tq23 v0 7))), none]) hC dX9_fresh_87 rfl rfl (Nat.le_of_ble_eq_true rfl) rfl rfl ?_
        refine aw_aload_n (pc' := 89) (i := 0) hC dX9_fresh_88 rfl rfl rfl ?_
        refine aw_getfield (pc' := 92) (v := (.inl (tq23 v0 8))) hC dX9_fresh_89 rfl fl_X9_36 g2 rfl ?_
        refine aw_if_ne (tgt := 99) (pc' := 95) hC dX9_fresh_92 (by decide) rfl (fun c24 => ?_) (fun c24 => ?_)
        · replace h := it_n c24 h
          refine aw_lload_n (pc' := 100) (i := 1) hC dX9_fresh_99 rfl rfl rfl ?_
          cases h
          exact aw_lret hC dX9_fresh_100 (Nat.le_of_ble_eq_true rfl) (Nat.le_of_ble_eq_true rfl)
        · replace h := it_p c24 h
          refine aw_aload_n (pc' := 96) (i := 0) hC dX9_fresh_95 rfl rfl rfl ?_
          obtain ⟨M26, q25, h⟩ := pb_s h
          replace h := u1_s h
          refine aw_cV (pc' := 99) (k2 := 0) (n2 := 0) (st := []) (stN := []) hC [] (mX9_ahead q25) lk_X9_257 g2 dX9_fresh_96 rfl rfl (Nat.le_of_ble_eq_true rfl) (Nat.le_of_ble_eq_true rfl) (Nat.le_of_ble_eq_true rfl) rfl (Nat.le_of_ble_eq_true rfl) rfl rfl rfl ?_
          refine aw_lload_n (pc' := 100) (i := 1) hC dX9_fresh_99 rfl rfl rfl ?_
          cases h
          exact aw_lret hC dX9_fresh_100 (Nat.le_of_ble_eq_true rfl) (Nat.le_of_ble_eq_true rfl)
      · replace h := it_n c22 h
        refine aw_aload_n (pc' := 33) (i := 0) hC dX9_fresh_32 rfl rfl rfl ?_
        refine aw_iconst (pc' := 34) hC dX9_fresh_33 rfl (by decide) ?_
        refine aw_aload_n (pc' := 35) (i := 0) hC dX9_fresh_34 rfl rfl rfl ?_
        refine aw_getfield (pc' := 38) (v := (.inl (M3 v0 4))) hC dX9_fresh_35 rfl fl_X9_23 g2 rfl ?_
        obtain ⟨M28, q27, h⟩ := pb_s h
        replace h := u1_s h
        refine aw_cV (pc' := 41) (k2 := 0) (n2 := 0) (st := []) (stN := []) hC [.inl 1, .inl (M3 v0 4)] (mX9_blame q27) lk_X9_236 g2 dX9_fresh_38 rfl rfl (Nat.le_of_ble_eq_true rfl) (Nat.le_of_ble_eq_true rfl) (Nat.le_of_ble_eq_true rfl) rfl (Nat.le_of_ble_eq_true rfl) rfl rfl rfl ?_
        refine aw_iconst (pc' := 42) hC dX9_fresh_41 rfl (by decide) ?_
        refine aw_istore_n (pc' := 43) (i := 1) (ls' := [some (.inr (.inr v0)), some (.inl 0), none]) hC dX9_fresh_42 rfl rfl (Nat.le_of_ble_eq_true rfl) rfl rfl ?_
        obtain ⟨tq29, q29, h⟩ := pb_s h
        refine aw_sub hC [some (.inr (.inr v0)), some (.inl 0), none] ⟨rfl, ⟨rfl, trivial⟩⟩ (Nat.le_of_ble_eq_true rfl) ?_
        refine (lp_aw (p_X9_fresh_L43 Γ sh v0 (fin_ Γ 0 0 (some (.inr (.inl r))) sh M')) (x_X9_fresh_L43 Γ sh v0 (fin_ Γ 0 0 (some (.inr (.inl r))) sh M')) (w_X9_fresh_L43 hC ) FU _ _ q29 ?_ : p_X9_fresh_L43 Γ sh v0 (fin_ Γ 0 0 (some (.inr (.inl r))) sh M') (0, M28))
        replace h := u1_s h
        show AW Γ sh tq29 0 0 83 [some (.inr (.inr v0)), none, none] [] _
        refine aw_aload_n (pc' := 84) (i := 0) hC dX9_fresh_83 rfl rfl rfl ?_
        refine aw_getfield (pc' := 87) (v := (.inr (.inl (tq29 v0 7)))) hC dX9_fresh_84 rfl fl_X9_32 g2 rfl ?_
        refine aw_lstore_n (pc' := 88) (i := 1) (ls' := [some (.inr (.inr v0)), some (.inr (.inl (tq29 v0 7))), none]) hC dX9_fresh_87 rfl rfl (Nat.le_of_ble_eq_true rfl) rfl rfl ?_
        refine aw_aload_n (pc' := 89) (i := 0) hC dX9_fresh_88 rfl rfl rfl ?_
        refine aw_getfield (pc' := 92) (v := (.inl (tq29 v0 8))) hC dX9_fresh_89 rfl fl_X9_36 g2 rfl ?_
        refine aw_if_ne (tgt := 99) (pc' := 95) hC dX9_fresh_92 (by decide) rfl (fun c30 => ?_) (fun c30 => ?_)
        · replace h := it_n c30 h
          refine aw_lload_n (pc' := 100) (i := 1) hC dX9_fresh_99 rfl rfl rfl ?_
          cases h
          exact aw_lret hC dX9_fresh_100 (Nat.le_of_ble_eq_true rfl) (Nat.le_of_ble_eq_true rfl)
        · replace h := it_p c30 h
          refine aw_aload_n (pc' := 96) (i := 0) hC dX9_fresh_95 rfl rfl rfl ?_
          obtain ⟨M32, q31, h⟩ := pb_s h
          replace h := u1_s h
          refine aw_cV (pc' := 99) (k2 := 0) (n2 := 0) (st := []) (stN := []) hC [] (mX9_ahead q31) lk_X9_257 g2 dX9_fresh_96 rfl rfl (Nat.le_of_ble_eq_true rfl) (Nat.le_of_ble_eq_true rfl) (Nat.le_of_ble_eq_true rfl) rfl (Nat.le_of_ble_eq_true rfl) rfl rfl rfl ?_
          refine aw_lload_n (pc' := 100) (i := 1) hC dX9_fresh_99 rfl rfl rfl ?_
          cases h
          exact aw_lret hC dX9_fresh_100 (Nat.le_of_ble_eq_true rfl) (Nat.le_of_ble_eq_true rfl)
  · replace h := it_p c4 h
    refine aw_lconst (pc' := 12) (v := 0) hC dX9_fresh_11 rfl rfl (by decide) ?_
    cases h
    exact aw_lret hC dX9_fresh_12 (Nat.le_of_ble_eq_true rfl) (Nat.le_of_ble_eq_true rfl)
-- CoinCircleModel.looked(I)I
def fX9_looked_J83 (sh : AwS) (M : AwM) (v0 : Int) (v2 : Int) : Option (Int × AwM) :=
  gd_ (kd_ sh v0 = (0, 9)) ((if 0 < (M v0 8) then some (0, M) else some (v2, M)))
def fX9_looked_J61 (sh : AwS) (M : AwM) (v0 : Int) (s0 : Int) : Option (Int × AwM) :=
  gd_ (kd_ sh v0 = (0, 9)) ((if (M v0 8) = 0 then (if s0 = (-1) then pb (fX9_blame sh M v0 3 (M v0 4)) <| u1 fun (M19 : AwM) => (fX9_looked_J83 sh M19 v0 s0) else fX9_looked_J83 sh M v0 s0) else fX9_looked_J83 sh M v0 s0))
def fX9_looked_J41 (sh : AwS) (M : AwM) (v0 : Int) (v1 : Int) : Option (Int × AwM) :=
  gd_ (kd_ sh v0 = (0, 9)) ((if 0 < (M v0 8) then fX9_looked_J61 sh M v0 0 else pb (fX9_named sh M v0 v1 (M v0 7)) <| u1 fun (x12 : Int) => (fX9_looked_J61 sh M v0 x12)))
def fX9_looked_J32 (sh : AwS) (M : AwM) (v0 : Int) (v1 : Int) : Option (Int × AwM) :=
  gd_ (kd_ sh v0 = (0, 9)) (pb (fX9_blame sh M v0 1 (M v0 4)) <| u1 fun (M8 : AwM) => (fX9_looked_J41 sh M8 v0 v1))
def fX9_looked (sh : AwS) (M : AwM) (v0 : Int) (v1 : Int) : Option (Int × AwM) :=
  gd_ (kd_ sh v0 = (0, 9)) (pb (fX9_lex sh M v0) <| u1 fun (M3 : AwM) => ((if 0 < (M3 v0 8) then some (0, M3) else (if (M3 v0 3) = 1 then pb (fX9_isOwn sh M3 v0 (M3 v0 7)) <| u1 fun (x21 : Int) => ((if x21 = 0 then fX9_looked_J41 sh M3 v0 v1 else fX9_looked_J32 sh M3 v0 v1)) else fX9_looked_J32 sh M3 v0 v1))))
set_option maxRecDepth 100000 in
set_option maxHeartbeats 4000000 in
theorem w_X9_looked_J83 {Γ : AwC} (hC : AOK Γ RX9 cX9_looked 3 3 0 0 "looked" (some .int)) {sh : AwS} {M : AwM} {v0 : Int} {v2 : Int} {r : Int} {M' : AwM} (h : fX9_looked_J83 sh M v0 v2 = some (r, M')) {Q : State → Prop} (hQ : Q = (fin_ Γ 0 0 (some (.inl r)) sh M')) : AW Γ sh M 0 0 83 [some (.inr (.inr v0)), none, some (.inl v2)] [] Q := by
  unfold fX9_looked_J83 at h
  refine aw_aload_n (pc' := 84) (i := 0) hC dX9_looked_83 rfl rfl rfl ?_
  obtain ⟨g15, h⟩ := gd_s h
  refine aw_getfield (pc' := 87) (v := (.inl (M v0 8))) hC dX9_looked_84 rfl fl_X9_36 g15 rfl ?_
  refine aw_if_le (tgt := 94) (pc' := 90) hC dX9_looked_87 (by decide) rfl (fun c16 => ?_) (fun c16 => ?_)
  · replace h := it_n c16 h
    refine aw_iload_n (pc' := 95) (i := 2) hC dX9_looked_94 rfl rfl rfl ?_
    cases h
    subst hQ
    exact aw_iret hC dX9_looked_95 (Nat.le_of_ble_eq_true rfl) (Nat.le_of_ble_eq_true rfl)
  · replace h := it_p c16 h
    refine aw_iconst (pc' := 91) hC dX9_looked_90 rfl (by decide) ?_
    refine aw_goto (tgt := 95) hC dX9_looked_91 (by decide) ?_
    cases h
    subst hQ
    exact aw_iret hC dX9_looked_95 (Nat.le_of_ble_eq_true rfl) (Nat.le_of_ble_eq_true rfl)
set_option maxRecDepth 100000 in
set_option maxHeartbeats 4000000 in
theorem w_X9_looked_J61 {Γ : AwC} (hC : AOK Γ RX9 cX9_looked 3 3 0 0 "looked" (some .int)) {sh : AwS} {M : AwM} {v0 : Int} {s0 : Int} {r : Int} {M' : AwM} (h : fX9_looked_J61 sh M v0 s0 = some (r, M')) {Q : State → Prop} (hQ : Q = (fin_ Γ 0 0 (some (.inl r)) sh M')) : AW Γ sh M 0 0 61 [some (.inr (.inr v0)), none, none] [.inl s0] Q := by
  unfold fX9_looked_J61 at h
  refine aw_istore_n (pc' := 62) (i := 2) (ls' := [some (.inr (.inr v0)), none, some (.inl s0)]) hC dX9_looked_61 rfl rfl (Nat.le_of_ble_eq_true rfl) rfl rfl ?_
  refine aw_aload_n (pc' := 63) (i := 0) hC dX9_looked_62 rfl rfl rfl ?_
  obtain ⟨g13, h⟩ := gd_s h
  refine aw_getfield (pc' := 66) (v := (.inl (M v0 8))) hC dX9_looked_63 rfl fl_X9_36 g13 rfl ?_
  refine aw_if_ne (tgt := 83) (pc' := 69) hC dX9_looked_66 (by decide) rfl (fun c14 => ?_) (fun c14 => ?_)
  · replace h := it_n c14 h
    refine aw_sub hC [some (.inr (.inr v0)), none, some (.inl s0)] ⟨rfl, ⟨rfl, trivial⟩⟩ (Nat.le_of_ble_eq_true rfl) ?_
    exact w_X9_looked_J83 hC h hQ
  · replace h := it_p c14 h
    refine aw_iload_n (pc' := 70) (i := 2) hC dX9_looked_69 rfl rfl rfl ?_
    refine aw_iconst (pc' := 71) hC dX9_looked_70 rfl (by decide) ?_
    refine aw_icmp_ne (tgt := 83) (pc' := 74) hC dX9_looked_71 (by decide) rfl (fun c17 => ?_) (fun c17 => ?_)
    · replace h := it_n c17 h
      refine aw_sub hC [some (.inr (.inr v0)), none, some (.inl s0)] ⟨rfl, ⟨rfl, trivial⟩⟩ (Nat.le_of_ble_eq_true rfl) ?_
      exact w_X9_looked_J83 hC h hQ
    · replace h := it_p c17 h
      refine aw_aload_n (pc' := 75) (i := 0) hC dX9_looked_74 rfl rfl rfl ?_
      refine aw_iconst (pc' := 76) hC dX9_looked_75 rfl (by decide) ?_
      refine aw_aload_n (pc' := 77) (i := 0) hC dX9_looked_76 rfl rfl rfl ?_
      refine aw_getfield (pc' := 80) (v := (.inl (M v0 4))) hC dX9_looked_77 rfl fl_X9_23 g13 rfl ?_
      obtain ⟨M19, q18, h⟩ := pb_s h
      replace h := u1_s h
      refine aw_cV (pc' := 83) (k2 := 0) (n2 := 0) (st := []) (stN := []) hC [.inl 3, .inl (M v0 4)] (mX9_blame q18) lk_X9_236 g13 dX9_looked_80 rfl rfl (Nat.le_of_ble_eq_true rfl) (Nat.le_of_ble_eq_true rfl) (Nat.le_of_ble_eq_true rfl) rfl (Nat.le_of_ble_eq_true rfl) rfl rfl rfl ?_
      refine aw_sub hC [some (.inr (.inr v0)), none, some (.inl s0)] ⟨rfl, ⟨rfl, trivial⟩⟩ (Nat.le_of_ble_eq_true rfl) ?_
      exact w_X9_looked_J83 hC h hQ
set_option maxRecDepth 100000 in
set_option maxHeartbeats 4000000 in
theorem w_X9_looked_J41 {Γ : AwC} (hC : AOK Γ RX9 cX9_looked 3 3 0 0 "looked" (some .int)) {sh : AwS} {M : AwM} {v0 : Int} {v1 : Int} {r : Int} {M' : AwM} (h : fX9_looked_J41 sh M v0 v1 = some (r, M')) {Q : State → Prop} (hQ : Q = (fin_ Γ 0 0 (some (.inl r)) sh M')) : AW Γ sh M 0 0 41 [some (.inr (.inr v0)), some (.inl v1), none] [] Q := by
  unfold fX9_looked_J41 at h
  refine aw_aload_n (pc' := 42) (i := 0) hC dX9_looked_41 rfl rfl rfl ?_
  obtain ⟨g9, h⟩ := gd_s h
  refine aw_getfield (pc' := 45) (v := (.inl (M v0 8))) hC dX9_looked_42 rfl fl_X9_36 g9 rfl ?_
  refine aw_if_le (tgt := 52) (pc' := 48) hC dX9_looked_45 (by decide) rfl (fun c10 => ?_) (fun c10 => ?_)
  · replace h := it_n c10 h
    refine aw_aload_n (pc' := 53) (i := 0) hC dX9_looked_52 rfl rfl rfl ?_
    refine aw_iload_n (pc' := 54) (i := 1) hC dX9_looked_53 rfl rfl rfl ?_
    refine aw_aload_n (pc' := 55) (i := 0) hC dX9_looked_54 rfl rfl rfl ?_
    refine aw_getfield (pc' := 58) (v := (.inr (.inl (M v0 7)))) hC dX9_looked_55 rfl fl_X9_32 g9 rfl ?_
    obtain ⟨x12, q11, h⟩ := pb_s h
    replace h := u1_s h
    refine aw_cV (pc' := 61) (k2 := 0) (n2 := 0) (st := []) (stN := [.inl x12]) hC [.inl v1, .inr (.inl (M v0 7))] (mX9_named q11) lk_X9_348 g9 dX9_looked_58 rfl rfl (Nat.le_of_ble_eq_true rfl) (Nat.le_of_ble_eq_true rfl) (Nat.le_of_ble_eq_true rfl) rfl (Nat.le_of_ble_eq_true rfl) rfl rfl rfl ?_
    refine aw_sub hC [some (.inr (.inr v0)), none, none] ⟨rfl, trivial⟩ (Nat.le_of_ble_eq_true rfl) ?_
    exact w_X9_looked_J61 hC h hQ
  · replace h := it_p c10 h
    refine aw_iconst (pc' := 49) hC dX9_looked_48 rfl (by decide) ?_
    refine aw_goto (tgt := 61) hC dX9_looked_49 (by decide) ?_
    refine aw_sub hC [some (.inr (.inr v0)), none, none] ⟨rfl, trivial⟩ (Nat.le_of_ble_eq_true rfl) ?_
    exact w_X9_looked_J61 hC h hQ
set_option maxRecDepth 100000 in
set_option maxHeartbeats 4000000 in
theorem w_X9_looked_J32 {Γ : AwC} (hC : AOK Γ RX9 cX9_looked 3 3 0 0 "looked" (some .int)) {sh : AwS} {M : AwM} {v0 : Int} {v1 : Int} {r : Int} {M' : AwM} (h : fX9_looked_J32 sh M v0 v1 = some (r, M')) {Q : State → Prop} (hQ : Q = (fin_ Γ 0 0 (some (.inl r)) sh M')) : AW Γ sh M 0 0 32 [some (.inr (.inr v0)), some (.inl v1), none] [] Q := by
  unfold fX9_looked_J32 at h
  refine aw_aload_n (pc' := 33) (i := 0) hC dX9_looked_32 rfl rfl rfl ?_
  refine aw_iconst (pc' := 34) hC dX9_looked_33 rfl (by decide) ?_
  refine aw_aload_n (pc' := 35) (i := 0) hC dX9_looked_34 rfl rfl rfl ?_
  obtain ⟨g6, h⟩ := gd_s h
  refine aw_getfield (pc' := 38) (v := (.inl (M v0 4))) hC dX9_looked_35 rfl fl_X9_23 g6 rfl ?_
  obtain ⟨M8, q7, h⟩ := pb_s h
  replace h := u1_s h
  refine aw_cV (pc' := 41) (k2 := 0) (n2 := 0) (st := []) (stN := []) hC [.inl 1, .inl (M v0 4)] (mX9_blame q7) lk_X9_236 g6 dX9_looked_38 rfl rfl (Nat.le_of_ble_eq_true rfl) (Nat.le_of_ble_eq_true rfl) (Nat.le_of_ble_eq_true rfl) rfl (Nat.le_of_ble_eq_true rfl) rfl rfl rfl ?_
  refine aw_sub hC [some (.inr (.inr v0)), some (.inl v1), none] ⟨rfl, ⟨rfl, trivial⟩⟩ (Nat.le_of_ble_eq_true rfl) ?_
  exact w_X9_looked_J41 hC h hQ
set_option maxRecDepth 100000 in
set_option maxHeartbeats 4000000 in
theorem mX9_looked {sh : AwS} {M : AwM} {v0 : Int} {v1 : Int} {r : Int} {M' : AwM} (h : fX9_looked sh M v0 v1 = some (r, M')) : AMet yX9_looked cX9_looked 3 (some .int) 3 0 0 [.inr (.inr v0), .inl v1] sh M (some (.inl r)) sh M' := by
  refine amet_of (by decide +kernel) (Nat.le_of_ble_eq_true rfl) (fun Γ hC => ?_)
  replace hC : AOK Γ RX9 cX9_looked 3 3 0 0 "looked" (some .int) := hC
  unfold fX9_looked at h
  refine aw_sub hC [some (.inr (.inr v0)), some (.inl v1), none] ⟨rfl, ⟨rfl, trivial⟩⟩ (Nat.le_of_ble_eq_true rfl) ?_
  refine aw_aload_n (pc' := 1) (i := 0) hC dX9_looked_0 rfl rfl rfl ?_
  obtain ⟨g2, h⟩ := gd_s h
  obtain ⟨M3, q1, h⟩ := pb_s h
  replace h := u1_s h
  refine aw_cV (pc' := 4) (k2 := 0) (n2 := 0) (st := []) (stN := []) hC [] (mX9_lex q1) lk_X9_251 g2 dX9_looked_1 rfl rfl (Nat.le_of_ble_eq_true rfl) (Nat.le_of_ble_eq_true rfl) (Nat.le_of_ble_eq_true rfl) rfl (Nat.le_of_ble_eq_true rfl) rfl rfl rfl ?_
  refine aw_aload_n (pc' := 5) (i := 0) hC dX9_looked_4 rfl rfl rfl ?_
  refine aw_getfield (pc' := 8) (v := (.inl (M3 v0 8))) hC dX9_looked_5 rfl fl_X9_36 g2 rfl ?_
  refine aw_if_le (tgt := 13) (pc' := 11) hC dX9_looked_8 (by decide) rfl (fun c4 => ?_) (fun c4 => ?_)
  · replace h := it_n c4 h
    refine aw_aload_n (pc' := 14) (i := 0) hC dX9_looked_13 rfl rfl rfl ?_
    refine aw_getfield (pc' := 17) (v := (.inl (M3 v0 3))) hC dX9_looked_14 rfl fl_X9_20 g2 rfl ?_
    refine aw_iconst (pc' := 18) hC dX9_looked_17 rfl (by decide) ?_
    refine aw_icmp_ne (tgt := 32) (pc' := 21) hC dX9_looked_18 (by decide) rfl (fun c5 => ?_) (fun c5 => ?_)
    · replace h := it_n c5 h
      refine aw_sub hC [some (.inr (.inr v0)), some (.inl v1), none] ⟨rfl, ⟨rfl, trivial⟩⟩ (Nat.le_of_ble_eq_true rfl) ?_
      exact w_X9_looked_J32 hC h rfl
    · replace h := it_p c5 h
      refine aw_aload_n (pc' := 22) (i := 0) hC dX9_looked_21 rfl rfl rfl ?_
      refine aw_aload_n (pc' := 23) (i := 0) hC dX9_looked_22 rfl rfl rfl ?_
      refine aw_getfield (pc' := 26) (v := (.inr (.inl (M3 v0 7)))) hC dX9_looked_23 rfl fl_X9_32 g2 rfl ?_
      obtain ⟨x21, q20, h⟩ := pb_s h
      replace h := u1_s h
      refine aw_cV (pc' := 29) (k2 := 0) (n2 := 0) (st := []) (stN := [.inl x21]) hC [.inr (.inl (M3 v0 7))] (mX9_isOwn q20) lk_X9_247 g2 dX9_looked_26 rfl rfl (Nat.le_of_ble_eq_true rfl) (Nat.le_of_ble_eq_true rfl) (Nat.le_of_ble_eq_true rfl) rfl (Nat.le_of_ble_eq_true rfl) rfl rfl rfl ?_
      refine aw_if_eq (tgt := 41) (pc' := 32) hC dX9_looked_29 (by decide) rfl (fun c22 => ?_) (fun c22 => ?_)
      · replace h := it_p c22 h
        refine aw_sub hC [some (.inr (.inr v0)), some (.inl v1), none] ⟨rfl, ⟨rfl, trivial⟩⟩ (Nat.le_of_ble_eq_true rfl) ?_
        exact w_X9_looked_J41 hC h rfl
      · replace h := it_n c22 h
        refine aw_sub hC [some (.inr (.inr v0)), some (.inl v1), none] ⟨rfl, ⟨rfl, trivial⟩⟩ (Nat.le_of_ble_eq_true rfl) ?_
        exact w_X9_looked_J32 hC h rfl
  · replace h := it_p c4 h
    refine aw_iconst (pc' := 12) hC dX9_looked_11 rfl (by decide) ?_
    cases h
    exact aw_iret hC dX9_looked_12 (Nat.le_of_ble_eq_true rfl) (Nat.le_of_ble_eq_true rfl)
-- CoinCircleModel.asked(I)I
def fX9_asked (sh : AwS) (M : AwM) (v0 : Int) (v1 : Int) : Option (Int × AwM) :=
  gd_ (kd_ sh v0 = (0, 9)) (pb (fX9_looked sh M v0 v1) <| u2 fun (x3 : Int) (M4 : AwM) => ((if (M4 v0 8) = 0 then pb (fX9_ahead sh M4 v0) <| u1 fun (M8 : AwM) => ((if 0 < (M8 v0 8) then some (0, M8) else some (x3, M8))) else (if 0 < (M4 v0 8) then some (0, M4) else some (x3, M4)))))
set_option maxRecDepth 100000 in
set_option maxHeartbeats 4000000 in
theorem mX9_asked {sh : AwS} {M : AwM} {v0 : Int} {v1 : Int} {r : Int} {M' : AwM} (h : fX9_asked sh M v0 v1 = some (r, M')) : AMet yX9_asked cX9_asked 3 (some .int) 4 0 0 [.inr (.inr v0), .inl v1] sh M (some (.inl r)) sh M' := by
  refine amet_of (by decide +kernel) (Nat.le_of_ble_eq_true rfl) (fun Γ hC => ?_)
  replace hC : AOK Γ RX9 cX9_asked 3 4 0 0 "asked" (some .int) := hC
  unfold fX9_asked at h
  refine aw_sub hC [some (.inr (.inr v0)), some (.inl v1), none] ⟨rfl, ⟨rfl, trivial⟩⟩ (Nat.le_of_ble_eq_true rfl) ?_
  refine aw_aload_n (pc' := 1) (i := 0) hC dX9_asked_0 rfl rfl rfl ?_
  refine aw_iload_n (pc' := 2) (i := 1) hC dX9_asked_1 rfl rfl rfl ?_
  obtain ⟨g2, h⟩ := gd_s h
  obtain ⟨⟨x3, M4⟩, q1, h⟩ := pb_s h
  replace h := u2_s h
  refine aw_cV (pc' := 5) (k2 := 0) (n2 := 0) (st := []) (stN := [.inl x3]) hC [.inl v1] (mX9_looked q1) lk_X9_352 g2 dX9_asked_2 rfl rfl (Nat.le_of_ble_eq_true rfl) (Nat.le_of_ble_eq_true rfl) (Nat.le_of_ble_eq_true rfl) rfl (Nat.le_of_ble_eq_true rfl) rfl rfl rfl ?_
  refine aw_istore_n (pc' := 6) (i := 2) (ls' := [some (.inr (.inr v0)), some (.inl v1), some (.inl x3)]) hC dX9_asked_5 rfl rfl (Nat.le_of_ble_eq_true rfl) rfl rfl ?_
  refine aw_aload_n (pc' := 7) (i := 0) hC dX9_asked_6 rfl rfl rfl ?_
  refine aw_getfield (pc' := 10) (v := (.inl (M4 v0 8))) hC dX9_asked_7 rfl fl_X9_36 g2 rfl ?_
  refine aw_if_ne (tgt := 17) (pc' := 13) hC dX9_asked_10 (by decide) rfl (fun c5 => ?_) (fun c5 => ?_)
  · replace h := it_n c5 h
    refine aw_aload_n (pc' := 18) (i := 0) hC dX9_asked_17 rfl rfl rfl ?_
    refine aw_getfield (pc' := 21) (v := (.inl (M4 v0 8))) hC dX9_asked_18 rfl fl_X9_36 g2 rfl ?_
    refine aw_if_le (tgt := 28) (pc' := 24) hC dX9_asked_21 (by decide) rfl (fun c6 => ?_) (fun c6 => ?_)
    · replace h := it_n c6 h
      refine aw_iload_n (pc' := 29) (i := 2) hC dX9_asked_28 rfl rfl rfl ?_
      cases h
      exact aw_iret hC dX9_asked_29 (Nat.le_of_ble_eq_true rfl) (Nat.le_of_ble_eq_true rfl)
    · replace h := it_p c6 h
      refine aw_iconst (pc' := 25) hC dX9_asked_24 rfl (by decide) ?_
      refine aw_goto (tgt := 29) hC dX9_asked_25 (by decide) ?_
      cases h
      exact aw_iret hC dX9_asked_29 (Nat.le_of_ble_eq_true rfl) (Nat.le_of_ble_eq_true rfl)
  · replace h := it_p c5 h
    refine aw_aload_n (pc' := 14) (i := 0) hC dX9_asked_13 rfl rfl rfl ?_
    obtain ⟨M8, q7, h⟩ := pb_s h
    replace h := u1_s h
    refine aw_cV (pc' := 17) (k2 := 0) (n2 := 0) (st := []) (stN := []) hC [] (mX9_ahead q7) lk_X9_257 g2 dX9_asked_14 rfl rfl (Nat.le_of_ble_eq_true rfl) (Nat.le_of_ble_eq_true rfl) (Nat.le_of_ble_eq_true rfl) rfl (Nat.le_of_ble_eq_true rfl) rfl rfl rfl ?_
    refine aw_aload_n (pc' := 18) (i := 0) hC dX9_asked_17 rfl rfl rfl ?_
    refine aw_getfield (pc' := 21) (v := (.inl (M8 v0 8))) hC dX9_asked_18 rfl fl_X9_36 g2 rfl ?_
    refine aw_if_le (tgt := 28) (pc' := 24) hC dX9_asked_21 (by decide) rfl (fun c9 => ?_) (fun c9 => ?_)
    · replace h := it_n c9 h
      refine aw_iload_n (pc' := 29) (i := 2) hC dX9_asked_28 rfl rfl rfl ?_
      cases h
      exact aw_iret hC dX9_asked_29 (Nat.le_of_ble_eq_true rfl) (Nat.le_of_ble_eq_true rfl)
    · replace h := it_p c9 h
      refine aw_iconst (pc' := 25) hC dX9_asked_24 rfl (by decide) ?_
      refine aw_goto (tgt := 29) hC dX9_asked_25 (by decide) ?_
      cases h
      exact aw_iret hC dX9_asked_29 (Nat.le_of_ble_eq_true rfl) (Nat.le_of_ble_eq_true rfl)
-- CoinCircleModel.personing()V
def fX9_personing_J20 (sh : AwS) (M : AwM) (v0 : Int) (s0 : Int) (s1 : Int) : Option (AwM) :=
  gd_ (kd_ sh s0 = (0, 9)) (pb (fX9_counts sh M s0 s1) <| u2 fun (x6 : Int) (M7 : AwM) => ((if x6 = 0 then some M7 else gd_ (kd_ sh v0 = (0, 9)) (gd_ ((kd_ sh (M7 v0 14)).1 = 1 ∧ (0 : Int) ≤ (M7 v0 36) ∧ (M7 v0 36) < ((kd_ sh (M7 v0 14)).2 : Int)) (bd_ ((w32 ((w32 (10 * (M7 v0 36))) + (M7 (M7 v0 14) (M7 v0 36))))) fun (x11 : Int) => (pb (fX9_fresh sh M7 v0) <| u2 fun (x14 : Int) (M15 : AwM) => (gd_ ((kd_ sh (M7 v0 32)).1 = 2 ∧ (0 : Int) ≤ x11 ∧ x11 < ((kd_ sh (M7 v0 32)).2 : Int)) (bd_ (up_ M15 (M7 v0 32) x11 x14) fun (M17 : AwM) => (pb (fX9_must_ sh M17 v0 1918987883) <| u1 fun (M20 : AwM) => (pb (fX9_number sh M20 v0 0 9) <| u2 fun (x22 : Int) (M23 : AwM) => (gd_ ((kd_ sh (M20 v0 15)).1 = 1 ∧ (0 : Int) ≤ x11 ∧ x11 < ((kd_ sh (M20 v0 15)).2 : Int)) (bd_ (up_ M23 (M20 v0 15) x11 x22) fun (M25 : AwM) => ((if (M25 v0 8) = 0 then gd_ ((kd_ sh (M25 v0 14)).1 = 1 ∧ (0 : Int) ≤ (M25 v0 36) ∧ (M25 v0 36) < ((kd_ sh (M25 v0 14)).2 : Int)) (bd_ (up_ M25 (M25 v0 14) (M25 v0 36) (w32 ((M25 (M25 v0 14) (M25 v0 36)) + 1))) fun (M29 : AwM) => (some M29)) else some M25))))))))))))))
def fX9_personing (sh : AwS) (M : AwM) (v0 : Int) : Option (AwM) :=
  gd_ (kd_ sh v0 = (0, 9)) (gd_ ((kd_ sh (M v0 14)).1 = 1 ∧ (0 : Int) ≤ (M v0 36) ∧ (M v0 36) < ((kd_ sh (M v0 14)).2 : Int)) ((if (M (M v0 14) (M v0 36)) = 10 then fX9_personing_J20 sh M v0 v0 1 else fX9_personing_J20 sh M v0 v0 0)))
set_option maxRecDepth 100000 in
set_option maxHeartbeats 4000000 in
theorem w_X9_personing_J20 {Γ : AwC} (hC : AOK Γ RX9 cX9_personing 2 4 0 0 "personing" none) {sh : AwS} {M : AwM} {v0 : Int} {s0 : Int} {s1 : Int} {M' : AwM} (h : fX9_personing_J20 sh M v0 s0 s1 = some M') {Q : State → Prop} (hQ : Q = (fin_ Γ 0 0 none sh M')) : AW Γ sh M 0 0 20 [some (.inr (.inr v0)), none] [.inl s1, .inr (.inr s0)] Q := by
  unfold fX9_personing_J20 at h
  obtain ⟨g5, h⟩ := gd_s h
  obtain ⟨⟨x6, M7⟩, q4, h⟩ := pb_s h
  replace h := u2_s h
  refine aw_cV (pc' := 23) (k2 := 0) (n2 := 0) (st := []) (stN := [.inl x6]) hC [.inl s1] (mX9_counts q4) lk_X9_355 g5 dX9_personing_20 rfl rfl (Nat.le_of_ble_eq_true rfl) (Nat.le_of_ble_eq_true rfl) (Nat.le_of_ble_eq_true rfl) rfl (Nat.le_of_ble_eq_true rfl) rfl rfl rfl ?_
  refine aw_if_ne (tgt := 27) (pc' := 26) hC dX9_personing_23 (by decide) rfl (fun c8 => ?_) (fun c8 => ?_)
  · replace h := it_n c8 h
    refine aw_bipush (pc' := 29) hC dX9_personing_27 rfl (by decide) ?_
    refine aw_aload_n (pc' := 30) (i := 0) hC dX9_personing_29 rfl rfl rfl ?_
    obtain ⟨g9, h⟩ := gd_s h
    refine aw_getfield (pc' := 33) (v := (.inl (M7 v0 36))) hC dX9_personing_30 rfl fl_X9_121 g9 rfl ?_
    refine aw_imul (pc' := 34) hC dX9_personing_33 rfl  ?_
    refine aw_aload_n (pc' := 35) (i := 0) hC dX9_personing_34 rfl rfl rfl ?_
    refine aw_getfield (pc' := 38) (v := (.inr (.inr (M7 v0 14)))) hC dX9_personing_35 rfl fl_X9_54 g9 rfl ?_
    refine aw_aload_n (pc' := 39) (i := 0) hC dX9_personing_38 rfl rfl rfl ?_
    refine aw_getfield (pc' := 42) (v := (.inl (M7 v0 36))) hC dX9_personing_39 rfl fl_X9_121 g9 rfl ?_
    obtain ⟨g10, h⟩ := gd_s h
    refine aw_iaload (pc' := 43) hC dX9_personing_42 rfl g10 ?_
    refine aw_iadd (pc' := 44) hC dX9_personing_43 rfl  ?_
    obtain ⟨x11, e12, h⟩ := bd_s h
    refine aw_reni e12 ?_
    refine aw_istore_n (pc' := 45) (i := 1) (ls' := [some (.inr (.inr v0)), some (.inl x11)]) hC dX9_personing_44 rfl rfl (Nat.le_of_ble_eq_true rfl) rfl rfl ?_
    refine aw_aload_n (pc' := 46) (i := 0) hC dX9_personing_45 rfl rfl rfl ?_
    refine aw_getfield (pc' := 49) (v := (.inr (.inr (M7 v0 32)))) hC dX9_personing_46 rfl fl_X9_108 g9 rfl ?_
    refine aw_iload_n (pc' := 50) (i := 1) hC dX9_personing_49 rfl rfl rfl ?_
    refine aw_aload_n (pc' := 51) (i := 0) hC dX9_personing_50 rfl rfl rfl ?_
    obtain ⟨⟨x14, M15⟩, q13, h⟩ := pb_s h
    replace h := u2_s h
    refine aw_cV (pc' := 54) (k2 := 0) (n2 := 0) (st := [.inl x11, .inr (.inr (M7 v0 32))]) (stN := [.inr (.inl x14), .inl x11, .inr (.inr (M7 v0 32))]) hC [] (mX9_fresh q13) lk_X9_359 g9 dX9_personing_51 rfl rfl (Nat.le_of_ble_eq_true rfl) (Nat.le_of_ble_eq_true rfl) (Nat.le_of_ble_eq_true rfl) rfl (Nat.le_of_ble_eq_true rfl) rfl rfl rfl ?_
    obtain ⟨g16, h⟩ := gd_s h
    obtain ⟨M17, e18, h⟩ := bd_s h
    refine aw_las (pc' := 55) hC dX9_personing_54 rfl g16 e18 ?_
    refine aw_aload_n (pc' := 56) (i := 0) hC dX9_personing_55 rfl rfl rfl ?_
    refine aw_ldc2 (pc' := 59) (v := 1918987883) hC dX9_personing_56 rfl ck_X9_262 (by unfold I64; omega) ?_
    obtain ⟨M20, q19, h⟩ := pb_s h
    replace h := u1_s h
    refine aw_cV (pc' := 62) (k2 := 0) (n2 := 0) (st := []) (stN := []) hC [.inr (.inl 1918987883)] (mX9_must_ q19) lk_X9_363 g9 dX9_personing_59 rfl rfl (Nat.le_of_ble_eq_true rfl) (Nat.le_of_ble_eq_true rfl) (Nat.le_of_ble_eq_true rfl) rfl (Nat.le_of_ble_eq_true rfl) rfl rfl rfl ?_
    refine aw_aload_n (pc' := 63) (i := 0) hC dX9_personing_62 rfl rfl rfl ?_
    refine aw_getfield (pc' := 66) (v := (.inr (.inr (M20 v0 15)))) hC dX9_personing_63 rfl fl_X9_57 g9 rfl ?_
    refine aw_iload_n (pc' := 67) (i := 1) hC dX9_personing_66 rfl rfl rfl ?_
    refine aw_aload_n (pc' := 68) (i := 0) hC dX9_personing_67 rfl rfl rfl ?_
    refine aw_iconst (pc' := 69) hC dX9_personing_68 rfl (by decide) ?_
    refine aw_bipush (pc' := 71) hC dX9_personing_69 rfl (by decide) ?_
    obtain ⟨⟨x22, M23⟩, q21, h⟩ := pb_s h
    replace h := u2_s h
    refine aw_cV (pc' := 74) (k2 := 0) (n2 := 0) (st := [.inl x11, .inr (.inr (M20 v0 15))]) (stN := [.inl x22, .inl x11, .inr (.inr (M20 v0 15))]) hC [.inl 0, .inl 9] (mX9_number q21) lk_X9_367 g9 dX9_personing_71 rfl rfl (Nat.le_of_ble_eq_true rfl) (Nat.le_of_ble_eq_true rfl) (Nat.le_of_ble_eq_true rfl) rfl (Nat.le_of_ble_eq_true rfl) rfl rfl rfl ?_
    obtain ⟨g24, h⟩ := gd_s h
    obtain ⟨M25, e26, h⟩ := bd_s h
    refine aw_ias (pc' := 75) hC dX9_personing_74 rfl g24 e26 ?_
    refine aw_aload_n (pc' := 76) (i := 0) hC dX9_personing_75 rfl rfl rfl ?_
    refine aw_getfield (pc' := 79) (v := (.inl (M25 v0 8))) hC dX9_personing_76 rfl fl_X9_36 g9 rfl ?_
    refine aw_if_ne (tgt := 95) (pc' := 82) hC dX9_personing_79 (by decide) rfl (fun c27 => ?_) (fun c27 => ?_)
    · replace h := it_n c27 h
      cases h
      subst hQ
      exact aw_vret hC dX9_personing_95 (Nat.le_of_ble_eq_true rfl) (Nat.le_of_ble_eq_true rfl)
    · replace h := it_p c27 h
      refine aw_aload_n (pc' := 83) (i := 0) hC dX9_personing_82 rfl rfl rfl ?_
      refine aw_getfield (pc' := 86) (v := (.inr (.inr (M25 v0 14)))) hC dX9_personing_83 rfl fl_X9_54 g9 rfl ?_
      refine aw_aload_n (pc' := 87) (i := 0) hC dX9_personing_86 rfl rfl rfl ?_
      refine aw_getfield (pc' := 90) (v := (.inl (M25 v0 36))) hC dX9_personing_87 rfl fl_X9_121 g9 rfl ?_
      refine aw_dup2 (pc' := 91) hC dX9_personing_90 rfl rfl rfl ?_
      obtain ⟨g28, h⟩ := gd_s h
      refine aw_iaload (pc' := 92) hC dX9_personing_91 rfl g28 ?_
      refine aw_iconst (pc' := 93) hC dX9_personing_92 rfl (by decide) ?_
      refine aw_iadd (pc' := 94) hC dX9_personing_93 rfl  ?_
      obtain ⟨M29, e30, h⟩ := bd_s h
      refine aw_ias (pc' := 95) hC dX9_personing_94 rfl g28 e30 ?_
      cases h
      subst hQ
      exact aw_vret hC dX9_personing_95 (Nat.le_of_ble_eq_true rfl) (Nat.le_of_ble_eq_true rfl)
  · replace h := it_p c8 h
    cases h
    subst hQ
    exact aw_vret hC dX9_personing_26 (Nat.le_of_ble_eq_true rfl) (Nat.le_of_ble_eq_true rfl)
set_option maxRecDepth 100000 in
set_option maxHeartbeats 4000000 in
theorem mX9_personing {sh : AwS} {M : AwM} {v0 : Int} {M' : AwM} (h : fX9_personing sh M v0 = some M') : AMet yX9_personing cX9_personing 2 none 4 0 0 [.inr (.inr v0)] sh M none sh M' := by
  refine amet_of (by decide +kernel) (Nat.le_of_ble_eq_true rfl) (fun Γ hC => ?_)
  replace hC : AOK Γ RX9 cX9_personing 2 4 0 0 "personing" none := hC
  unfold fX9_personing at h
  refine aw_sub hC [some (.inr (.inr v0)), none] ⟨rfl, trivial⟩ (Nat.le_of_ble_eq_true rfl) ?_
  refine aw_aload_n (pc' := 1) (i := 0) hC dX9_personing_0 rfl rfl rfl ?_
  refine aw_aload_n (pc' := 2) (i := 0) hC dX9_personing_1 rfl rfl rfl ?_
  obtain ⟨g1, h⟩ := gd_s h
  refine aw_getfield (pc' := 5) (v := (.inr (.inr (M v0 14)))) hC dX9_personing_2 rfl fl_X9_54 g1 rfl ?_
  refine aw_aload_n (pc' := 6) (i := 0) hC dX9_personing_5 rfl rfl rfl ?_
  refine aw_getfield (pc' := 9) (v := (.inl (M v0 36))) hC dX9_personing_6 rfl fl_X9_121 g1 rfl ?_
  obtain ⟨g2, h⟩ := gd_s h
  refine aw_iaload (pc' := 10) hC dX9_personing_9 rfl g2 ?_
  refine aw_bipush (pc' := 12) hC dX9_personing_10 rfl (by decide) ?_
  refine aw_icmp_ne (tgt := 19) (pc' := 15) hC dX9_personing_12 (by decide) rfl (fun c3 => ?_) (fun c3 => ?_)
  · replace h := it_n c3 h
    refine aw_iconst (pc' := 20) hC dX9_personing_19 rfl (by decide) ?_
    refine aw_sub hC [some (.inr (.inr v0)), none] ⟨rfl, trivial⟩ (Nat.le_of_ble_eq_true rfl) ?_
    exact w_X9_personing_J20 hC h rfl
  · replace h := it_p c3 h
    refine aw_iconst (pc' := 16) hC dX9_personing_15 rfl (by decide) ?_
    refine aw_goto (tgt := 20) hC dX9_personing_16 (by decide) ?_
    refine aw_sub hC [some (.inr (.inr v0)), none] ⟨rfl, trivial⟩ (Nat.le_of_ble_eq_true rfl) ?_
    exact w_X9_personing_J20 hC h rfl
-- CoinCircleModel.has2(II)Z
def fX9_has2 (sh : AwS) (M : AwM) (v0 : Int) (v1 : Int) : Option Int :=
  (if (an_ (sr_ v0 v1) 1) = 1 then some 1 else some 0)
set_option maxRecDepth 100000 in
set_option maxHeartbeats 4000000 in
theorem mX9_has2 {sh : AwS} {M : AwM} {v0 : Int} {v1 : Int} {r : Int} (h : fX9_has2 sh M v0 v1 = some r) : AMet yX9_has2 cX9_has2 2 (some .boolean) 1 0 0 [.inl v0, .inl v1] sh M (some (.inl r)) sh M := by
  refine amet_of (by decide +kernel) (Nat.le_of_ble_eq_true rfl) (fun Γ hC => ?_)
  replace hC : AOK Γ RX9 cX9_has2 2 1 0 0 "has2" (some .boolean) := hC
  unfold fX9_has2 at h
  refine aw_sub hC [some (.inl v0), some (.inl v1)] ⟨rfl, ⟨rfl, trivial⟩⟩ (Nat.le_of_ble_eq_true rfl) ?_
  refine aw_iload_n (pc' := 1) (i := 0) hC dX9_has2_0 rfl rfl rfl ?_
  refine aw_iload_n (pc' := 2) (i := 1) hC dX9_has2_1 rfl rfl rfl ?_
  refine aw_ishr (pc' := 3) hC dX9_has2_2 rfl  ?_
  refine aw_iconst (pc' := 4) hC dX9_has2_3 rfl (by decide) ?_
  refine aw_iand (pc' := 5) hC dX9_has2_4 rfl  ?_
  refine aw_iconst (pc' := 6) hC dX9_has2_5 rfl (by decide) ?_
  refine aw_icmp_ne (tgt := 13) (pc' := 9) hC dX9_has2_6 (by decide) rfl (fun c1 => ?_) (fun c1 => ?_)
  · replace h := it_n c1 h
    refine aw_iconst (pc' := 14) hC dX9_has2_13 rfl (by decide) ?_
    cases h
    exact aw_zret hC (Or.inl rfl) dX9_has2_14 (Nat.le_of_ble_eq_true rfl) (Nat.le_of_ble_eq_true rfl)
  · replace h := it_p c1 h
    refine aw_iconst (pc' := 10) hC dX9_has2_9 rfl (by decide) ?_
    refine aw_goto (tgt := 14) hC dX9_has2_10 (by decide) ?_
    cases h
    exact aw_zret hC (Or.inr rfl) dX9_has2_14 (Nat.le_of_ble_eq_true rfl) (Nat.le_of_ble_eq_true rfl)
-- CoinCircleModel.coining()V
def fX9_coining_J204_142 (sh : AwS) (M : AwM) (v0 : Int) (v1 : Int) : Option ((Int × AwM) ⊕ (AwM)) :=
  gd_ (kd_ sh v0 = (0, 9)) (pb (fX9_lex sh M v0) <| u1 fun (M58 : AwM) => ((if (M58 v0 8) = 0 then (if (M58 v0 3) = 1 then pb (fX9_isOwn sh M58 v0 (M58 v0 7)) <| u1 fun (x62 : Int) => ((if x62 = 0 then some (.inl (1, M58)) else some (.inl (0, M58)))) else some (.inl (0, M58))) else some (.inl (0, M58)))))
def fX9_coining_J181_142 (sh : AwS) (M : AwM) (v0 : Int) (v1 : Int) (v3 : Int) : Option ((Int × AwM) ⊕ (AwM)) :=
  gd_ (kd_ sh v0 = (0, 9)) ((if (M v0 8) = 0 then gd_ ((kd_ sh (M v0 19)).1 = 1 ∧ (0 : Int) ≤ v1 ∧ v1 < ((kd_ sh (M v0 19)).2 : Int)) (bd_ (up_ M (M v0 19) v1 (or_ (M (M v0 19) v1) (sl_ 1 v3))) fun (M65 : AwM) => (pb (fX9_ahead sh M65 v0) <| u1 fun (M68 : AwM) => (fX9_coining_J204_142 sh M68 v0 v1))) else fX9_coining_J204_142 sh M v0 v1))
def fX9_coining_L142 (sh : AwS) (v0 : Int) (v1 : Int) (v2 : Int) (M : AwM) : Option ((Int × AwM) ⊕ (AwM)) :=
  (if v2 = 0 then some (.inr M) else gd_ (kd_ sh v0 = (0, 9)) (pb (fX9_looked sh M v0 0) <| u2 fun (x51 : Int) (M52 : AwM) => ((if (M52 v0 8) = 0 then gd_ ((kd_ sh (M52 v0 19)).1 = 1 ∧ (0 : Int) ≤ v1 ∧ v1 < ((kd_ sh (M52 v0 19)).2 : Int)) (pb (fX9_has2 sh M52 (M52 (M52 v0 19) v1) x51) <| u1 fun (x71 : Int) => ((if x71 = 0 then fX9_coining_J181_142 sh M52 v0 v1 x51 else pb (fX9_blame sh M52 v0 3 (M52 v0 4)) <| u1 fun (M74 : AwM) => (fX9_coining_J181_142 sh M74 v0 v1 x51)))) else fX9_coining_J181_142 sh M52 v0 v1 x51))))
def p_X9_coining_L142 (Γ : AwC) (sh : AwS) (v0 : Int) (v1 : Int) (Q : State → Prop) (s : Int × AwM) : Prop := AW Γ sh (s.2) 0 0 142 [some (.inr (.inr v0)), some (.inl v1), some (.inl (s.1)), none] [] Q
def x_X9_coining_L142 (Γ : AwC) (sh : AwS) (v0 : Int) (v1 : Int) (Q : State → Prop) : (AwM) → Prop := (fun (t : AwM) => AW Γ sh (t) 0 0 243 [some (.inr (.inr v0)), none, none, none] [] Q)
set_option maxRecDepth 100000 in
set_option maxHeartbeats 4000000 in
def fX9_coining_J20 (sh : AwS) (M : AwM) (v0 : Int) (s0 : Int) (s1 : Int) : Option (AwM) :=
  gd_ (kd_ sh s0 = (0, 9)) (pb (fX9_counts sh M s0 s1) <| u2 fun (x6 : Int) (M7 : AwM) => ((if x6 = 0 then some M7 else gd_ (kd_ sh v0 = (0, 9)) (gd_ ((kd_ sh (M7 v0 16)).1 = 1 ∧ (0 : Int) ≤ (M7 v0 36) ∧ (M7 v0 36) < ((kd_ sh (M7 v0 16)).2 : Int)) (bd_ ((w32 ((w32 (12 * (M7 v0 36))) + (M7 (M7 v0 16) (M7 v0 36))))) fun (x11 : Int) => (pb (fX9_fresh sh M7 v0) <| u2 fun (x14 : Int) (M15 : AwM) => (gd_ ((kd_ sh (M7 v0 33)).1 = 2 ∧ (0 : Int) ≤ x11 ∧ x11 < ((kd_ sh (M7 v0 33)).2 : Int)) (bd_ (up_ M15 (M7 v0 33) x11 x14) fun (M17 : AwM) => (pb (fX9_must_ sh M17 v0 512970880104) <| u1 fun (M20 : AwM) => (pb (fX9_number sh M20 v0 1 99) <| u2 fun (x22 : Int) (M23 : AwM) => (gd_ ((kd_ sh (M20 v0 17)).1 = 1 ∧ (0 : Int) ≤ x11 ∧ x11 < ((kd_ sh (M20 v0 17)).2 : Int)) (bd_ (up_ M23 (M20 v0 17) x11 x22) fun (M25 : AwM) => (pb (fX9_must_ sh M25 v0 28518) <| u1 fun (M28 : AwM) => (pb (fX9_asked sh M28 v0 0) <| u2 fun (x30 : Int) (M31 : AwM) => (gd_ ((kd_ sh (M28 v0 18)).1 = 1 ∧ (0 : Int) ≤ x11 ∧ x11 < ((kd_ sh (M28 v0 18)).2 : Int)) (bd_ (up_ M31 (M28 v0 18) x11 x30) fun (M33 : AwM) => (gd_ ((kd_ sh (M33 v0 18)).1 = 1 ∧ (0 : Int) ≤ x11 ∧ x11 < ((kd_ sh (M33 v0 18)).2 : Int)) (gd_ ((kd_ sh (M33 v0 19)).1 = 1 ∧ (0 : Int) ≤ x11 ∧ x11 < ((kd_ sh (M33 v0 19)).2 : Int)) (bd_ (up_ M33 (M33 v0 19) x11 (sl_ 1 (M33 (M33 v0 18) x11))) fun (M37 : AwM) => (gd_ ((kd_ sh (M37 v0 20)).1 = 1 ∧ (0 : Int) ≤ x11 ∧ x11 < ((kd_ sh (M37 v0 20)).2 : Int)) (bd_ (up_ M37 (M37 v0 20) x11 0) fun (M40 : AwM) => (pb (fX9_lex sh M40 v0) <| u1 fun (M43 : AwM) => ((if 0 < (M43 v0 8) then some M43 else pb (fX9_isWord sh M43 v0 461414299507) <| u1 fun (x46 : Int) => ((if x46 = 0 then pb (lp (u2 (fX9_coining_L142 sh v0 x11)) FU (x46, M43)) (u1 (fun (tq75 : AwM) => (if (tq75 v0 8) = 0 then gd_ ((kd_ sh (tq75 v0 16)).1 = 1 ∧ (0 : Int) ≤ (tq75 v0 36) ∧ (tq75 v0 36) < ((kd_ sh (tq75 v0 16)).2 : Int)) (bd_ (up_ tq75 (tq75 v0 16) (tq75 v0 36) (w32 ((tq75 (tq75 v0 16) (tq75 v0 36)) + 1))) fun (M78 : AwM) => (some M78)) else some tq75))) else pb (fX9_ahead sh M43 v0) <| u1 fun (M81 : AwM) => (pb (lp (u2 (fX9_coining_L142 sh v0 x11)) FU (x46, M81)) (u1 (fun (tq82 : AwM) => (if (tq82 v0 8) = 0 then gd_ ((kd_ sh (tq82 v0 16)).1 = 1 ∧ (0 : Int) ≤ (tq82 v0 36) ∧ (tq82 v0 36) < ((kd_ sh (tq82 v0 16)).2 : Int)) (bd_ (up_ tq82 (tq82 v0 16) (tq82 v0 36) (w32 ((tq82 (tq82 v0 16) (tq82 v0 36)) + 1))) fun (M85 : AwM) => (some M85)) else some tq82))))))))))))))))))))))))))))))
def fX9_coining (sh : AwS) (M : AwM) (v0 : Int) : Option (AwM) :=
  gd_ (kd_ sh v0 = (0, 9)) (gd_ ((kd_ sh (M v0 16)).1 = 1 ∧ (0 : Int) ≤ (M v0 36) ∧ (M v0 36) < ((kd_ sh (M v0 16)).2 : Int)) ((if (M (M v0 16) (M v0 36)) = 12 then fX9_coining_J20 sh M v0 v0 1 else fX9_coining_J20 sh M v0 v0 0)))
set_option maxRecDepth 100000 in
set_option maxHeartbeats 4000000 in
theorem w_X9_coining_J204_142 {Γ : AwC} (hC : AOK Γ RX9 cX9_coining 4 5 0 0 "coining" none) {sh : AwS} {M : AwM} {v0 : Int} {v1 : Int} {Q : State → Prop} {r : (Int × AwM) ⊕ (AwM)} (h : fX9_coining_J204_142 sh M v0 v1 = some r) (hL : ∀ s', r = .inl s' → p_X9_coining_L142 Γ sh v0 v1 Q s') (hX : ∀ t, r = .inr t → x_X9_coining_L142 Γ sh v0 v1 Q t) : AW Γ sh M 0 0 204 [some (.inr (.inr v0)), some (.inl v1), none, none] [] Q := by
  unfold fX9_coining_J204_142 at h
  refine aw_aload_n (pc' := 205) (i := 0) hC dX9_coining_204 rfl rfl rfl ?_
  obtain ⟨g57, h⟩ := gd_s h
  obtain ⟨M58, q56, h⟩ := pb_s h
  replace h := u1_s h
  refine aw_cV (pc' := 208) (k2 := 0) (n2 := 0) (st := []) (stN := []) hC [] (mX9_lex q56) lk_X9_251 g57 dX9_coining_205 rfl rfl (Nat.le_of_ble_eq_true rfl) (Nat.le_of_ble_eq_true rfl) (Nat.le_of_ble_eq_true rfl) rfl (Nat.le_of_ble_eq_true rfl) rfl rfl rfl ?_
  refine aw_aload_n (pc' := 209) (i := 0) hC dX9_coining_208 rfl rfl rfl ?_
  refine aw_getfield (pc' := 212) (v := (.inl (M58 v0 8))) hC dX9_coining_209 rfl fl_X9_36 g57 rfl ?_
  refine aw_if_ne (tgt := 238) (pc' := 215) hC dX9_coining_212 (by decide) rfl (fun c59 => ?_) (fun c59 => ?_)
  · replace h := it_n c59 h
    refine aw_iconst (pc' := 239) hC dX9_coining_238 rfl (by decide) ?_
    refine aw_istore_n (pc' := 240) (i := 2) (ls' := [some (.inr (.inr v0)), some (.inl v1), some (.inl 0), none]) hC dX9_coining_239 rfl rfl (Nat.le_of_ble_eq_true rfl) rfl rfl ?_
    refine aw_goto (tgt := 142) hC dX9_coining_240 (by decide) ?_
    refine aw_sub hC [some (.inr (.inr v0)), some (.inl v1), some (.inl 0), none] ⟨rfl, ⟨rfl, ⟨rfl, trivial⟩⟩⟩ (Nat.le_of_ble_eq_true rfl) ?_
    cases h
    exact hL _ rfl
  · replace h := it_p c59 h
    refine aw_aload_n (pc' := 216) (i := 0) hC dX9_coining_215 rfl rfl rfl ?_
    refine aw_getfield (pc' := 219) (v := (.inl (M58 v0 3))) hC dX9_coining_216 rfl fl_X9_20 g57 rfl ?_
    refine aw_iconst (pc' := 220) hC dX9_coining_219 rfl (by decide) ?_
    refine aw_icmp_ne (tgt := 238) (pc' := 223) hC dX9_coining_220 (by decide) rfl (fun c60 => ?_) (fun c60 => ?_)
    · replace h := it_n c60 h
      refine aw_iconst (pc' := 239) hC dX9_coining_238 rfl (by decide) ?_
      refine aw_istore_n (pc' := 240) (i := 2) (ls' := [some (.inr (.inr v0)), some (.inl v1), some (.inl 0), none]) hC dX9_coining_239 rfl rfl (Nat.le_of_ble_eq_true rfl) rfl rfl ?_
      refine aw_goto (tgt := 142) hC dX9_coining_240 (by decide) ?_
      refine aw_sub hC [some (.inr (.inr v0)), some (.inl v1), some (.inl 0), none] ⟨rfl, ⟨rfl, ⟨rfl, trivial⟩⟩⟩ (Nat.le_of_ble_eq_true rfl) ?_
      cases h
      exact hL _ rfl
    · replace h := it_p c60 h
      refine aw_aload_n (pc' := 224) (i := 0) hC dX9_coining_223 rfl rfl rfl ?_
      refine aw_aload_n (pc' := 225) (i := 0) hC dX9_coining_224 rfl rfl rfl ?_
      refine aw_getfield (pc' := 228) (v := (.inr (.inl (M58 v0 7)))) hC dX9_coining_225 rfl fl_X9_32 g57 rfl ?_
      obtain ⟨x62, q61, h⟩ := pb_s h
      replace h := u1_s h
      refine aw_cV (pc' := 231) (k2 := 0) (n2 := 0) (st := []) (stN := [.inl x62]) hC [.inr (.inl (M58 v0 7))] (mX9_isOwn q61) lk_X9_247 g57 dX9_coining_228 rfl rfl (Nat.le_of_ble_eq_true rfl) (Nat.le_of_ble_eq_true rfl) (Nat.le_of_ble_eq_true rfl) rfl (Nat.le_of_ble_eq_true rfl) rfl rfl rfl ?_
      refine aw_if_ne (tgt := 238) (pc' := 234) hC dX9_coining_231 (by decide) rfl (fun c63 => ?_) (fun c63 => ?_)
      · replace h := it_n c63 h
        refine aw_iconst (pc' := 239) hC dX9_coining_238 rfl (by decide) ?_
        refine aw_istore_n (pc' := 240) (i := 2) (ls' := [some (.inr (.inr v0)), some (.inl v1), some (.inl 0), none]) hC dX9_coining_239 rfl rfl (Nat.le_of_ble_eq_true rfl) rfl rfl ?_
        refine aw_goto (tgt := 142) hC dX9_coining_240 (by decide) ?_
        refine aw_sub hC [some (.inr (.inr v0)), some (.inl v1), some (.inl 0), none] ⟨rfl, ⟨rfl, ⟨rfl, trivial⟩⟩⟩ (Nat.le_of_ble_eq_true rfl) ?_
        cases h
        exact hL _ rfl
      · replace h := it_p c63 h
        refine aw_iconst (pc' := 235) hC dX9_coining_234 rfl (by decide) ?_
        refine aw_goto (tgt := 239) hC dX9_coining_235 (by decide) ?_
        refine aw_istore_n (pc' := 240) (i := 2) (ls' := [some (.inr (.inr v0)), some (.inl v1), some (.inl 1), none]) hC dX9_coining_239 rfl rfl (Nat.le_of_ble_eq_true rfl) rfl rfl ?_
        refine aw_goto (tgt := 142) hC dX9_coining_240 (by decide) ?_
        refine aw_sub hC [some (.inr (.inr v0)), some (.inl v1), some (.inl 1), none] ⟨rfl, ⟨rfl, ⟨rfl, trivial⟩⟩⟩ (Nat.le_of_ble_eq_true rfl) ?_
        cases h
        exact hL _ rfl
set_option maxRecDepth 100000 in
set_option maxHeartbeats 4000000 in
theorem w_X9_coining_J181_142 {Γ : AwC} (hC : AOK Γ RX9 cX9_coining 4 5 0 0 "coining" none) {sh : AwS} {M : AwM} {v0 : Int} {v1 : Int} {v3 : Int} {Q : State → Prop} {r : (Int × AwM) ⊕ (AwM)} (h : fX9_coining_J181_142 sh M v0 v1 v3 = some r) (hL : ∀ s', r = .inl s' → p_X9_coining_L142 Γ sh v0 v1 Q s') (hX : ∀ t, r = .inr t → x_X9_coining_L142 Γ sh v0 v1 Q t) : AW Γ sh M 0 0 181 [some (.inr (.inr v0)), some (.inl v1), none, some (.inl v3)] [] Q := by
  unfold fX9_coining_J181_142 at h
  refine aw_aload_n (pc' := 182) (i := 0) hC dX9_coining_181 rfl rfl rfl ?_
  obtain ⟨g54, h⟩ := gd_s h
  refine aw_getfield (pc' := 185) (v := (.inl (M v0 8))) hC dX9_coining_182 rfl fl_X9_36 g54 rfl ?_
  refine aw_if_ne (tgt := 204) (pc' := 188) hC dX9_coining_185 (by decide) rfl (fun c55 => ?_) (fun c55 => ?_)
  · replace h := it_n c55 h
    refine aw_sub hC [some (.inr (.inr v0)), some (.inl v1), none, none] ⟨rfl, ⟨rfl, trivial⟩⟩ (Nat.le_of_ble_eq_true rfl) ?_
    exact w_X9_coining_J204_142 hC h hL hX
  · replace h := it_p c55 h
    refine aw_aload_n (pc' := 189) (i := 0) hC dX9_coining_188 rfl rfl rfl ?_
    refine aw_getfield (pc' := 192) (v := (.inr (.inr (M v0 19)))) hC dX9_coining_189 rfl fl_X9_69 g54 rfl ?_
    refine aw_iload_n (pc' := 193) (i := 1) hC dX9_coining_192 rfl rfl rfl ?_
    refine aw_dup2 (pc' := 194) hC dX9_coining_193 rfl rfl rfl ?_
    obtain ⟨g64, h⟩ := gd_s h
    refine aw_iaload (pc' := 195) hC dX9_coining_194 rfl g64 ?_
    refine aw_iconst (pc' := 196) hC dX9_coining_195 rfl (by decide) ?_
    refine aw_iload_n (pc' := 197) (i := 3) hC dX9_coining_196 rfl rfl rfl ?_
    refine aw_ishl (pc' := 198) hC dX9_coining_197 rfl  ?_
    refine aw_ior (pc' := 199) hC dX9_coining_198 rfl  ?_
    obtain ⟨M65, e66, h⟩ := bd_s h
    refine aw_ias (pc' := 200) hC dX9_coining_199 rfl g64 e66 ?_
    refine aw_aload_n (pc' := 201) (i := 0) hC dX9_coining_200 rfl rfl rfl ?_
    obtain ⟨M68, q67, h⟩ := pb_s h
    replace h := u1_s h
    refine aw_cV (pc' := 204) (k2 := 0) (n2 := 0) (st := []) (stN := []) hC [] (mX9_ahead q67) lk_X9_257 g54 dX9_coining_201 rfl rfl (Nat.le_of_ble_eq_true rfl) (Nat.le_of_ble_eq_true rfl) (Nat.le_of_ble_eq_true rfl) rfl (Nat.le_of_ble_eq_true rfl) rfl rfl rfl ?_
    refine aw_sub hC [some (.inr (.inr v0)), some (.inl v1), none, none] ⟨rfl, ⟨rfl, trivial⟩⟩ (Nat.le_of_ble_eq_true rfl) ?_
    exact w_X9_coining_J204_142 hC h hL hX
set_option maxRecDepth 100000 in
set_option maxHeartbeats 4000000 in
theorem w_X9_coining_L142 {Γ : AwC} (hC : AOK Γ RX9 cX9_coining 4 5 0 0 "coining" none) {sh : AwS} {v0 : Int} {v1 : Int} {Q : State → Prop} : ∀ s r, u2 (fX9_coining_L142 sh v0 v1) s = some r → (∀ s', r = .inl s' → p_X9_coining_L142 Γ sh v0 v1 Q s') → (∀ t, r = .inr t → x_X9_coining_L142 Γ sh v0 v1 Q t) → p_X9_coining_L142 Γ sh v0 v1 Q s := by
  intro s r h hL hX
  obtain ⟨v2, M⟩ := s
  replace h := u2_s h
  unfold fX9_coining_L142 at h
  show AW Γ sh M 0 0 142 [some (.inr (.inr v0)), some (.inl v1), some (.inl v2), none] [] Q
  refine aw_iload_n (pc' := 143) (i := 2) hC dX9_coining_142 rfl rfl rfl ?_
  refine aw_if_eq (tgt := 243) (pc' := 146) hC dX9_coining_143 (by decide) rfl (fun c48 => ?_) (fun c48 => ?_)
  · replace h := it_p c48 h
    refine aw_sub hC [some (.inr (.inr v0)), none, none, none] ⟨rfl, trivial⟩ (Nat.le_of_ble_eq_true rfl) ?_
    cases h
    exact hX _ rfl
  · replace h := it_n c48 h
    refine aw_aload_n (pc' := 147) (i := 0) hC dX9_coining_146 rfl rfl rfl ?_
    refine aw_iconst (pc' := 148) hC dX9_coining_147 rfl (by decide) ?_
    obtain ⟨g50, h⟩ := gd_s h
    obtain ⟨⟨x51, M52⟩, q49, h⟩ := pb_s h
    replace h := u2_s h
    refine aw_cV (pc' := 151) (k2 := 0) (n2 := 0) (st := []) (stN := [.inl x51]) hC [.inl 0] (mX9_looked q49) lk_X9_352 g50 dX9_coining_148 rfl rfl (Nat.le_of_ble_eq_true rfl) (Nat.le_of_ble_eq_true rfl) (Nat.le_of_ble_eq_true rfl) rfl (Nat.le_of_ble_eq_true rfl) rfl rfl rfl ?_
    refine aw_istore_n (pc' := 152) (i := 3) (ls' := [some (.inr (.inr v0)), some (.inl v1), some (.inl v2), some (.inl x51)]) hC dX9_coining_151 rfl rfl (Nat.le_of_ble_eq_true rfl) rfl rfl ?_
    refine aw_aload_n (pc' := 153) (i := 0) hC dX9_coining_152 rfl rfl rfl ?_
    refine aw_getfield (pc' := 156) (v := (.inl (M52 v0 8))) hC dX9_coining_153 rfl fl_X9_36 g50 rfl ?_
    refine aw_if_ne (tgt := 181) (pc' := 159) hC dX9_coining_156 (by decide) rfl (fun c53 => ?_) (fun c53 => ?_)
    · replace h := it_n c53 h
      refine aw_sub hC [some (.inr (.inr v0)), some (.inl v1), none, some (.inl x51)] ⟨rfl, ⟨rfl, ⟨rfl, trivial⟩⟩⟩ (Nat.le_of_ble_eq_true rfl) ?_
      exact w_X9_coining_J181_142 hC h hL hX
    · replace h := it_p c53 h
      refine aw_aload_n (pc' := 160) (i := 0) hC dX9_coining_159 rfl rfl rfl ?_
      refine aw_getfield (pc' := 163) (v := (.inr (.inr (M52 v0 19)))) hC dX9_coining_160 rfl fl_X9_69 g50 rfl ?_
      refine aw_iload_n (pc' := 164) (i := 1) hC dX9_coining_163 rfl rfl rfl ?_
      obtain ⟨g69, h⟩ := gd_s h
      refine aw_iaload (pc' := 165) hC dX9_coining_164 rfl g69 ?_
      refine aw_iload_n (pc' := 166) (i := 3) hC dX9_coining_165 rfl rfl rfl ?_
      obtain ⟨x71, q70, h⟩ := pb_s h
      replace h := u1_s h
      refine aw_cS (pc' := 169) (k2 := 0) (n2 := 0) (st := []) (stN := [.inl x71]) hC [.inl (M52 (M52 v0 19) v1), .inl x51] (mX9_has2 q70) lk_X9_373 dX9_coining_166 rfl rfl (Nat.le_of_ble_eq_true rfl) (Nat.le_of_ble_eq_true rfl) (Nat.le_of_ble_eq_true rfl) rfl (Nat.le_of_ble_eq_true rfl) rfl rfl rfl ?_
      refine aw_if_eq (tgt := 181) (pc' := 172) hC dX9_coining_169 (by decide) rfl (fun c72 => ?_) (fun c72 => ?_)
      · replace h := it_p c72 h
        refine aw_sub hC [some (.inr (.inr v0)), some (.inl v1), none, some (.inl x51)] ⟨rfl, ⟨rfl, ⟨rfl, trivial⟩⟩⟩ (Nat.le_of_ble_eq_true rfl) ?_
        exact w_X9_coining_J181_142 hC h hL hX
      · replace h := it_n c72 h
        refine aw_aload_n (pc' := 173) (i := 0) hC dX9_coining_172 rfl rfl rfl ?_
        refine aw_iconst (pc' := 174) hC dX9_coining_173 rfl (by decide) ?_
        refine aw_aload_n (pc' := 175) (i := 0) hC dX9_coining_174 rfl rfl rfl ?_
        refine aw_getfield (pc' := 178) (v := (.inl (M52 v0 4))) hC dX9_coining_175 rfl fl_X9_23 g50 rfl ?_
        obtain ⟨M74, q73, h⟩ := pb_s h
        replace h := u1_s h
        refine aw_cV (pc' := 181) (k2 := 0) (n2 := 0) (st := []) (stN := []) hC [.inl 3, .inl (M52 v0 4)] (mX9_blame q73) lk_X9_236 g50 dX9_coining_178 rfl rfl (Nat.le_of_ble_eq_true rfl) (Nat.le_of_ble_eq_true rfl) (Nat.le_of_ble_eq_true rfl) rfl (Nat.le_of_ble_eq_true rfl) rfl rfl rfl ?_
        refine aw_sub hC [some (.inr (.inr v0)), some (.inl v1), none, some (.inl x51)] ⟨rfl, ⟨rfl, ⟨rfl, trivial⟩⟩⟩ (Nat.le_of_ble_eq_true rfl) ?_
        exact w_X9_coining_J181_142 hC h hL hX
set_option maxRecDepth 100000 in
set_option maxHeartbeats 4000000 in
theorem w_X9_coining_J20 {Γ : AwC} (hC : AOK Γ RX9 cX9_coining 4 5 0 0 "coining" none) {sh : AwS} {M : AwM} {v0 : Int} {s0 : Int} {s1 : Int} {M' : AwM} (h : fX9_coining_J20 sh M v0 s0 s1 = some M') {Q : State → Prop} (hQ : Q = (fin_ Γ 0 0 none sh M')) : AW Γ sh M 0 0 20 [some (.inr (.inr v0)), none, none, none] [.inl s1, .inr (.inr s0)] Q := by
  unfold fX9_coining_J20 at h
  obtain ⟨g5, h⟩ := gd_s h
  obtain ⟨⟨x6, M7⟩, q4, h⟩ := pb_s h
  replace h := u2_s h
  refine aw_cV (pc' := 23) (k2 := 0) (n2 := 0) (st := []) (stN := [.inl x6]) hC [.inl s1] (mX9_counts q4) lk_X9_355 g5 dX9_coining_20 rfl rfl (Nat.le_of_ble_eq_true rfl) (Nat.le_of_ble_eq_true rfl) (Nat.le_of_ble_eq_true rfl) rfl (Nat.le_of_ble_eq_true rfl) rfl rfl rfl ?_
  refine aw_if_ne (tgt := 27) (pc' := 26) hC dX9_coining_23 (by decide) rfl (fun c8 => ?_) (fun c8 => ?_)
  · replace h := it_n c8 h
    refine aw_bipush (pc' := 29) hC dX9_coining_27 rfl (by decide) ?_
    refine aw_aload_n (pc' := 30) (i := 0) hC dX9_coining_29 rfl rfl rfl ?_
    obtain ⟨g9, h⟩ := gd_s h
    refine aw_getfield (pc' := 33) (v := (.inl (M7 v0 36))) hC dX9_coining_30 rfl fl_X9_121 g9 rfl ?_
    refine aw_imul (pc' := 34) hC dX9_coining_33 rfl  ?_
    refine aw_aload_n (pc' := 35) (i := 0) hC dX9_coining_34 rfl rfl rfl ?_
    refine aw_getfield (pc' := 38) (v := (.inr (.inr (M7 v0 16)))) hC dX9_coining_35 rfl fl_X9_60 g9 rfl ?_
    refine aw_aload_n (pc' := 39) (i := 0) hC dX9_coining_38 rfl rfl rfl ?_
    refine aw_getfield (pc' := 42) (v := (.inl (M7 v0 36))) hC dX9_coining_39 rfl fl_X9_121 g9 rfl ?_
    obtain ⟨g10, h⟩ := gd_s h
    refine aw_iaload (pc' := 43) hC dX9_coining_42 rfl g10 ?_
    refine aw_iadd (pc' := 44) hC dX9_coining_43 rfl  ?_
    obtain ⟨x11, e12, h⟩ := bd_s h
    refine aw_reni e12 ?_
    refine aw_istore_n (pc' := 45) (i := 1) (ls' := [some (.inr (.inr v0)), some (.inl x11), none, none]) hC dX9_coining_44 rfl rfl (Nat.le_of_ble_eq_true rfl) rfl rfl ?_
    refine aw_aload_n (pc' := 46) (i := 0) hC dX9_coining_45 rfl rfl rfl ?_
    refine aw_getfield (pc' := 49) (v := (.inr (.inr (M7 v0 33)))) hC dX9_coining_46 rfl fl_X9_112 g9 rfl ?_
    refine aw_iload_n (pc' := 50) (i := 1) hC dX9_coining_49 rfl rfl rfl ?_
    refine aw_aload_n (pc' := 51) (i := 0) hC dX9_coining_50 rfl rfl rfl ?_
    obtain ⟨⟨x14, M15⟩, q13, h⟩ := pb_s h
    replace h := u2_s h
    refine aw_cV (pc' := 54) (k2 := 0) (n2 := 0) (st := [.inl x11, .inr (.inr (M7 v0 33))]) (stN := [.inr (.inl x14), .inl x11, .inr (.inr (M7 v0 33))]) hC [] (mX9_fresh q13) lk_X9_359 g9 dX9_coining_51 rfl rfl (Nat.le_of_ble_eq_true rfl) (Nat.le_of_ble_eq_true rfl) (Nat.le_of_ble_eq_true rfl) rfl (Nat.le_of_ble_eq_true rfl) rfl rfl rfl ?_
    obtain ⟨g16, h⟩ := gd_s h
    obtain ⟨M17, e18, h⟩ := bd_s h
    refine aw_las (pc' := 55) hC dX9_coining_54 rfl g16 e18 ?_
    refine aw_aload_n (pc' := 56) (i := 0) hC dX9_coining_55 rfl rfl rfl ?_
    refine aw_ldc2 (pc' := 59) (v := 512970880104) hC dX9_coining_56 rfl ck_X9_266 (by unfold I64; omega) ?_
    obtain ⟨M20, q19, h⟩ := pb_s h
    replace h := u1_s h
    refine aw_cV (pc' := 62) (k2 := 0) (n2 := 0) (st := []) (stN := []) hC [.inr (.inl 512970880104)] (mX9_must_ q19) lk_X9_363 g9 dX9_coining_59 rfl rfl (Nat.le_of_ble_eq_true rfl) (Nat.le_of_ble_eq_true rfl) (Nat.le_of_ble_eq_true rfl) rfl (Nat.le_of_ble_eq_true rfl) rfl rfl rfl ?_
    refine aw_aload_n (pc' := 63) (i := 0) hC dX9_coining_62 rfl rfl rfl ?_
    refine aw_getfield (pc' := 66) (v := (.inr (.inr (M20 v0 17)))) hC dX9_coining_63 rfl fl_X9_63 g9 rfl ?_
    refine aw_iload_n (pc' := 67) (i := 1) hC dX9_coining_66 rfl rfl rfl ?_
    refine aw_aload_n (pc' := 68) (i := 0) hC dX9_coining_67 rfl rfl rfl ?_
    refine aw_iconst (pc' := 69) hC dX9_coining_68 rfl (by decide) ?_
    refine aw_bipush (pc' := 71) hC dX9_coining_69 rfl (by decide) ?_
    obtain ⟨⟨x22, M23⟩, q21, h⟩ := pb_s h
    replace h := u2_s h
    refine aw_cV (pc' := 74) (k2 := 0) (n2 := 0) (st := [.inl x11, .inr (.inr (M20 v0 17))]) (stN := [.inl x22, .inl x11, .inr (.inr (M20 v0 17))]) hC [.inl 1, .inl 99] (mX9_number q21) lk_X9_367 g9 dX9_coining_71 rfl rfl (Nat.le_of_ble_eq_true rfl) (Nat.le_of_ble_eq_true rfl) (Nat.le_of_ble_eq_true rfl) rfl (Nat.le_of_ble_eq_true rfl) rfl rfl rfl ?_
    obtain ⟨g24, h⟩ := gd_s h
    obtain ⟨M25, e26, h⟩ := bd_s h
    refine aw_ias (pc' := 75) hC dX9_coining_74 rfl g24 e26 ?_
    refine aw_aload_n (pc' := 76) (i := 0) hC dX9_coining_75 rfl rfl rfl ?_
    refine aw_ldc2 (pc' := 79) (v := 28518) hC dX9_coining_76 rfl ck_X9_268 (by unfold I64; omega) ?_
    obtain ⟨M28, q27, h⟩ := pb_s h
    replace h := u1_s h
    refine aw_cV (pc' := 82) (k2 := 0) (n2 := 0) (st := []) (stN := []) hC [.inr (.inl 28518)] (mX9_must_ q27) lk_X9_363 g9 dX9_coining_79 rfl rfl (Nat.le_of_ble_eq_true rfl) (Nat.le_of_ble_eq_true rfl) (Nat.le_of_ble_eq_true rfl) rfl (Nat.le_of_ble_eq_true rfl) rfl rfl rfl ?_
    refine aw_aload_n (pc' := 83) (i := 0) hC dX9_coining_82 rfl rfl rfl ?_
    refine aw_getfield (pc' := 86) (v := (.inr (.inr (M28 v0 18)))) hC dX9_coining_83 rfl fl_X9_66 g9 rfl ?_
    refine aw_iload_n (pc' := 87) (i := 1) hC dX9_coining_86 rfl rfl rfl ?_
    refine aw_aload_n (pc' := 88) (i := 0) hC dX9_coining_87 rfl rfl rfl ?_
    refine aw_iconst (pc' := 89) hC dX9_coining_88 rfl (by decide) ?_
    obtain ⟨⟨x30, M31⟩, q29, h⟩ := pb_s h
    replace h := u2_s h
    refine aw_cV (pc' := 92) (k2 := 0) (n2 := 0) (st := [.inl x11, .inr (.inr (M28 v0 18))]) (stN := [.inl x30, .inl x11, .inr (.inr (M28 v0 18))]) hC [.inl 0] (mX9_asked q29) lk_X9_370 g9 dX9_coining_89 rfl rfl (Nat.le_of_ble_eq_true rfl) (Nat.le_of_ble_eq_true rfl) (Nat.le_of_ble_eq_true rfl) rfl (Nat.le_of_ble_eq_true rfl) rfl rfl rfl ?_
    obtain ⟨g32, h⟩ := gd_s h
    obtain ⟨M33, e34, h⟩ := bd_s h
    refine aw_ias (pc' := 93) hC dX9_coining_92 rfl g32 e34 ?_
    refine aw_aload_n (pc' := 94) (i := 0) hC dX9_coining_93 rfl rfl rfl ?_
    refine aw_getfield (pc' := 97) (v := (.inr (.inr (M33 v0 19)))) hC dX9_coining_94 rfl fl_X9_69 g9 rfl ?_
    refine aw_iload_n (pc' := 98) (i := 1) hC dX9_coining_97 rfl rfl rfl ?_
    refine aw_iconst (pc' := 99) hC dX9_coining_98 rfl (by decide) ?_
    refine aw_aload_n (pc' := 100) (i := 0) hC dX9_coining_99 rfl rfl rfl ?_
    refine aw_getfield (pc' := 103) (v := (.inr (.inr (M33 v0 18)))) hC dX9_coining_100 rfl fl_X9_66 g9 rfl ?_
    refine aw_iload_n (pc' := 104) (i := 1) hC dX9_coining_103 rfl rfl rfl ?_
    obtain ⟨g35, h⟩ := gd_s h
    refine aw_iaload (pc' := 105) hC dX9_coining_104 rfl g35 ?_
    refine aw_ishl (pc' := 106) hC dX9_coining_105 rfl  ?_
    obtain ⟨g36, h⟩ := gd_s h
    obtain ⟨M37, e38, h⟩ := bd_s h
    refine aw_ias (pc' := 107) hC dX9_coining_106 rfl g36 e38 ?_
    refine aw_aload_n (pc' := 108) (i := 0) hC dX9_coining_107 rfl rfl rfl ?_
    refine aw_getfield (pc' := 111) (v := (.inr (.inr (M37 v0 20)))) hC dX9_coining_108 rfl fl_X9_72 g9 rfl ?_
    refine aw_iload_n (pc' := 112) (i := 1) hC dX9_coining_111 rfl rfl rfl ?_
    refine aw_iconst (pc' := 113) hC dX9_coining_112 rfl (by decide) ?_
    obtain ⟨g39, h⟩ := gd_s h
    obtain ⟨M40, e41, h⟩ := bd_s h
    refine aw_ias (pc' := 114) hC dX9_coining_113 rfl g39 e41 ?_
    refine aw_aload_n (pc' := 115) (i := 0) hC dX9_coining_114 rfl rfl rfl ?_
    obtain ⟨M43, q42, h⟩ := pb_s h
    replace h := u1_s h
    refine aw_cV (pc' := 118) (k2 := 0) (n2 := 0) (st := []) (stN := []) hC [] (mX9_lex q42) lk_X9_251 g9 dX9_coining_115 rfl rfl (Nat.le_of_ble_eq_true rfl) (Nat.le_of_ble_eq_true rfl) (Nat.le_of_ble_eq_true rfl) rfl (Nat.le_of_ble_eq_true rfl) rfl rfl rfl ?_
    refine aw_aload_n (pc' := 119) (i := 0) hC dX9_coining_118 rfl rfl rfl ?_
    refine aw_getfield (pc' := 122) (v := (.inl (M43 v0 8))) hC dX9_coining_119 rfl fl_X9_36 g9 rfl ?_
    refine aw_if_le (tgt := 126) (pc' := 125) hC dX9_coining_122 (by decide) rfl (fun c44 => ?_) (fun c44 => ?_)
    · replace h := it_n c44 h
      refine aw_aload_n (pc' := 127) (i := 0) hC dX9_coining_126 rfl rfl rfl ?_
      refine aw_ldc2 (pc' := 130) (v := 461414299507) hC dX9_coining_127 rfl ck_X9_270 (by unfold I64; omega) ?_
      obtain ⟨x46, q45, h⟩ := pb_s h
      replace h := u1_s h
      refine aw_cV (pc' := 133) (k2 := 0) (n2 := 0) (st := []) (stN := [.inl x46]) hC [.inr (.inl 461414299507)] (mX9_isWord q45) lk_X9_330 g9 dX9_coining_130 rfl rfl (Nat.le_of_ble_eq_true rfl) (Nat.le_of_ble_eq_true rfl) (Nat.le_of_ble_eq_true rfl) rfl (Nat.le_of_ble_eq_true rfl) rfl rfl rfl ?_
      refine aw_istore_n (pc' := 134) (i := 2) (ls' := [some (.inr (.inr v0)), some (.inl x11), some (.inl x46), none]) hC dX9_coining_133 rfl rfl (Nat.le_of_ble_eq_true rfl) rfl rfl ?_
      refine aw_iload_n (pc' := 135) (i := 2) hC dX9_coining_134 rfl rfl rfl ?_
      refine aw_if_eq (tgt := 142) (pc' := 138) hC dX9_coining_135 (by decide) rfl (fun c47 => ?_) (fun c47 => ?_)
      · replace h := it_p c47 h
        obtain ⟨tq75, q75, h⟩ := pb_s h
        refine aw_sub hC [some (.inr (.inr v0)), some (.inl x11), some (.inl x46), none] ⟨rfl, ⟨rfl, ⟨rfl, trivial⟩⟩⟩ (Nat.le_of_ble_eq_true rfl) ?_
        refine (lp_aw (p_X9_coining_L142 Γ sh v0 x11 Q) (x_X9_coining_L142 Γ sh v0 x11 Q) (w_X9_coining_L142 hC ) FU _ _ q75 ?_ : p_X9_coining_L142 Γ sh v0 x11 Q (x46, M43))
        replace h := u1_s h
        show AW Γ sh tq75 0 0 243 [some (.inr (.inr v0)), none, none, none] [] _
        refine aw_aload_n (pc' := 244) (i := 0) hC dX9_coining_243 rfl rfl rfl ?_
        refine aw_getfield (pc' := 247) (v := (.inl (tq75 v0 8))) hC dX9_coining_244 rfl fl_X9_36 g9 rfl ?_
        refine aw_if_ne (tgt := 263) (pc' := 250) hC dX9_coining_247 (by decide) rfl (fun c76 => ?_) (fun c76 => ?_)
        · replace h := it_n c76 h
          cases h
          subst hQ
          exact aw_vret hC dX9_coining_263 (Nat.le_of_ble_eq_true rfl) (Nat.le_of_ble_eq_true rfl)
        · replace h := it_p c76 h
          refine aw_aload_n (pc' := 251) (i := 0) hC dX9_coining_250 rfl rfl rfl ?_
          refine aw_getfield (pc' := 254) (v := (.inr (.inr (tq75 v0 16)))) hC dX9_coining_251 rfl fl_X9_60 g9 rfl ?_
          refine aw_aload_n (pc' := 255) (i := 0) hC dX9_coining_254 rfl rfl rfl ?_
          refine aw_getfield (pc' := 258) (v := (.inl (tq75 v0 36))) hC dX9_coining_255 rfl fl_X9_121 g9 rfl ?_
          refine aw_dup2 (pc' := 259) hC dX9_coining_258 rfl rfl rfl ?_
          obtain ⟨g77, h⟩ := gd_s h
          refine aw_iaload (pc' := 260) hC dX9_coining_259 rfl g77 ?_
          refine aw_iconst (pc' := 261) hC dX9_coining_260 rfl (by decide) ?_
          refine aw_iadd (pc' := 262) hC dX9_coining_261 rfl  ?_
          obtain ⟨M78, e79, h⟩ := bd_s h
          refine aw_ias (pc' := 263) hC dX9_coining_262 rfl g77 e79 ?_
          cases h
          subst hQ
          exact aw_vret hC dX9_coining_263 (Nat.le_of_ble_eq_true rfl) (Nat.le_of_ble_eq_true rfl)
      · replace h := it_n c47 h
        refine aw_aload_n (pc' := 139) (i := 0) hC dX9_coining_138 rfl rfl rfl ?_
        obtain ⟨M81, q80, h⟩ := pb_s h
        replace h := u1_s h
        refine aw_cV (pc' := 142) (k2 := 0) (n2 := 0) (st := []) (stN := []) hC [] (mX9_ahead q80) lk_X9_257 g9 dX9_coining_139 rfl rfl (Nat.le_of_ble_eq_true rfl) (Nat.le_of_ble_eq_true rfl) (Nat.le_of_ble_eq_true rfl) rfl (Nat.le_of_ble_eq_true rfl) rfl rfl rfl ?_
        obtain ⟨tq82, q82, h⟩ := pb_s h
        refine aw_sub hC [some (.inr (.inr v0)), some (.inl x11), some (.inl x46), none] ⟨rfl, ⟨rfl, ⟨rfl, trivial⟩⟩⟩ (Nat.le_of_ble_eq_true rfl) ?_
        refine (lp_aw (p_X9_coining_L142 Γ sh v0 x11 Q) (x_X9_coining_L142 Γ sh v0 x11 Q) (w_X9_coining_L142 hC ) FU _ _ q82 ?_ : p_X9_coining_L142 Γ sh v0 x11 Q (x46, M81))
        replace h := u1_s h
        show AW Γ sh tq82 0 0 243 [some (.inr (.inr v0)), none, none, none] [] _
        refine aw_aload_n (pc' := 244) (i := 0) hC dX9_coining_243 rfl rfl rfl ?_
        refine aw_getfield (pc' := 247) (v := (.inl (tq82 v0 8))) hC dX9_coining_244 rfl fl_X9_36 g9 rfl ?_
        refine aw_if_ne (tgt := 263) (pc' := 250) hC dX9_coining_247 (by decide) rfl (fun c83 => ?_) (fun c83 => ?_)
        · replace h := it_n c83 h
          cases h
          subst hQ
          exact aw_vret hC dX9_coining_263 (Nat.le_of_ble_eq_true rfl) (Nat.le_of_ble_eq_true rfl)
        · replace h := it_p c83 h
          refine aw_aload_n (pc' := 251) (i := 0) hC dX9_coining_250 rfl rfl rfl ?_
          refine aw_getfield (pc' := 254) (v := (.inr (.inr (tq82 v0 16)))) hC dX9_coining_251 rfl fl_X9_60 g9 rfl ?_
          refine aw_aload_n (pc' := 255) (i := 0) hC dX9_coining_254 rfl rfl rfl ?_
          refine aw_getfield (pc' := 258) (v := (.inl (tq82 v0 36))) hC dX9_coining_255 rfl fl_X9_121 g9 rfl ?_
          refine aw_dup2 (pc' := 259) hC dX9_coining_258 rfl rfl rfl ?_
          obtain ⟨g84, h⟩ := gd_s h
          refine aw_iaload (pc' := 260) hC dX9_coining_259 rfl g84 ?_
          refine aw_iconst (pc' := 261) hC dX9_coining_260 rfl (by decide) ?_
          refine aw_iadd (pc' := 262) hC dX9_coining_261 rfl  ?_
          obtain ⟨M85, e86, h⟩ := bd_s h
          refine aw_ias (pc' := 263) hC dX9_coining_262 rfl g84 e86 ?_
          cases h
          subst hQ
          exact aw_vret hC dX9_coining_263 (Nat.le_of_ble_eq_true rfl) (Nat.le_of_ble_eq_true rfl)
    · replace h := it_p c44 h
      cases h
      subst hQ
      exact aw_vret hC dX9_coining_125 (Nat.le_of_ble_eq_true rfl) (Nat.le_of_ble_eq_true rfl)
  · replace h := it_p c8 h
    cases h
    subst hQ
    exact aw_vret hC dX9_coining_26 (Nat.le_of_ble_eq_true rfl) (Nat.le_of_ble_eq_true rfl)
set_option maxRecDepth 100000 in
set_option maxHeartbeats 4000000 in
theorem mX9_coining {sh : AwS} {M : AwM} {v0 : Int} {M' : AwM} (h : fX9_coining sh M v0 = some M') : AMet yX9_coining cX9_coining 4 none 5 0 0 [.inr (.inr v0)] sh M none sh M' := by
  refine amet_of (by decide +kernel) (Nat.le_of_ble_eq_true rfl) (fun Γ hC => ?_)
  replace hC : AOK Γ RX9 cX9_coining 4 5 0 0 "coining" none := hC
  unfold fX9_coining at h
  refine aw_sub hC [some (.inr (.inr v0)), none, none, none] ⟨rfl, trivial⟩ (Nat.le_of_ble_eq_true rfl) ?_
  refine aw_aload_n (pc' := 1) (i := 0) hC dX9_coining_0 rfl rfl rfl ?_
  refine aw_aload_n (pc' := 2) (i := 0) hC dX9_coining_1 rfl rfl rfl ?_
  obtain ⟨g1, h⟩ := gd_s h
  refine aw_getfield (pc' := 5) (v := (.inr (.inr (M v0 16)))) hC dX9_coining_2 rfl fl_X9_60 g1 rfl ?_
  refine aw_aload_n (pc' := 6) (i := 0) hC dX9_coining_5 rfl rfl rfl ?_
  refine aw_getfield (pc' := 9) (v := (.inl (M v0 36))) hC dX9_coining_6 rfl fl_X9_121 g1 rfl ?_
  obtain ⟨g2, h⟩ := gd_s h
  refine aw_iaload (pc' := 10) hC dX9_coining_9 rfl g2 ?_
  refine aw_bipush (pc' := 12) hC dX9_coining_10 rfl (by decide) ?_
  refine aw_icmp_ne (tgt := 19) (pc' := 15) hC dX9_coining_12 (by decide) rfl (fun c3 => ?_) (fun c3 => ?_)
  · replace h := it_n c3 h
    refine aw_iconst (pc' := 20) hC dX9_coining_19 rfl (by decide) ?_
    refine aw_sub hC [some (.inr (.inr v0)), none, none, none] ⟨rfl, trivial⟩ (Nat.le_of_ble_eq_true rfl) ?_
    exact w_X9_coining_J20 hC h rfl
  · replace h := it_p c3 h
    refine aw_iconst (pc' := 16) hC dX9_coining_15 rfl (by decide) ?_
    refine aw_goto (tgt := 20) hC dX9_coining_16 (by decide) ?_
    refine aw_sub hC [some (.inr (.inr v0)), none, none, none] ⟨rfl, trivial⟩ (Nat.le_of_ble_eq_true rfl) ?_
    exact w_X9_coining_J20 hC h rfl
-- CoinCircleModel.waring()V
def fX9_waring_J20 (sh : AwS) (M : AwM) (v0 : Int) (s0 : Int) (s1 : Int) : Option (AwM) :=
  gd_ (kd_ sh s0 = (0, 9)) (pb (fX9_counts sh M s0 s1) <| u2 fun (x6 : Int) (M7 : AwM) => ((if x6 = 0 then some M7 else gd_ (kd_ sh v0 = (0, 9)) (gd_ ((kd_ sh (M7 v0 21)).1 = 1 ∧ (0 : Int) ≤ (M7 v0 36) ∧ (M7 v0 36) < ((kd_ sh (M7 v0 21)).2 : Int)) (bd_ ((w32 ((w32 (10 * (M7 v0 36))) + (M7 (M7 v0 21) (M7 v0 36))))) fun (x11 : Int) => (pb (fX9_fresh sh M7 v0) <| u2 fun (x14 : Int) (M15 : AwM) => (gd_ ((kd_ sh (M7 v0 34)).1 = 2 ∧ (0 : Int) ≤ x11 ∧ x11 < ((kd_ sh (M7 v0 34)).2 : Int)) (bd_ (up_ M15 (M7 v0 34) x11 x14) fun (M17 : AwM) => (pb (fX9_must_ sh M17 v0 512970880104) <| u1 fun (M20 : AwM) => (pb (fX9_number sh M20 v0 0 99) <| u2 fun (x22 : Int) (M23 : AwM) => (gd_ ((kd_ sh (M20 v0 22)).1 = 1 ∧ (0 : Int) ≤ x11 ∧ x11 < ((kd_ sh (M20 v0 22)).2 : Int)) (bd_ (up_ M23 (M20 v0 22) x11 x22) fun (M25 : AwM) => (pb (fX9_must_ sh M25 v0 25209) <| u1 fun (M28 : AwM) => (pb (fX9_asked sh M28 v0 0) <| u2 fun (x30 : Int) (M31 : AwM) => (gd_ ((kd_ sh (M28 v0 23)).1 = 1 ∧ (0 : Int) ≤ x11 ∧ x11 < ((kd_ sh (M28 v0 23)).2 : Int)) (bd_ (up_ M31 (M28 v0 23) x11 x30) fun (M33 : AwM) => ((if (M33 v0 8) = 0 then gd_ ((kd_ sh (M33 v0 21)).1 = 1 ∧ (0 : Int) ≤ (M33 v0 36) ∧ (M33 v0 36) < ((kd_ sh (M33 v0 21)).2 : Int)) (bd_ (up_ M33 (M33 v0 21) (M33 v0 36) (w32 ((M33 (M33 v0 21) (M33 v0 36)) + 1))) fun (M37 : AwM) => (some M37)) else some M33))))))))))))))))))
def fX9_waring (sh : AwS) (M : AwM) (v0 : Int) : Option (AwM) :=
  gd_ (kd_ sh v0 = (0, 9)) (gd_ ((kd_ sh (M v0 21)).1 = 1 ∧ (0 : Int) ≤ (M v0 36) ∧ (M v0 36) < ((kd_ sh (M v0 21)).2 : Int)) ((if (M (M v0 21) (M v0 36)) = 10 then fX9_waring_J20 sh M v0 v0 1 else fX9_waring_J20 sh M v0 v0 0)))
set_option maxRecDepth 100000 in
set_option maxHeartbeats 4000000 in
theorem w_X9_waring_J20 {Γ : AwC} (hC : AOK Γ RX9 cX9_waring 2 5 0 0 "waring" none) {sh : AwS} {M : AwM} {v0 : Int} {s0 : Int} {s1 : Int} {M' : AwM} (h : fX9_waring_J20 sh M v0 s0 s1 = some M') {Q : State → Prop} (hQ : Q = (fin_ Γ 0 0 none sh M')) : AW Γ sh M 0 0 20 [some (.inr (.inr v0)), none] [.inl s1, .inr (.inr s0)] Q := by
  unfold fX9_waring_J20 at h
  obtain ⟨g5, h⟩ := gd_s h
  obtain ⟨⟨x6, M7⟩, q4, h⟩ := pb_s h
  replace h := u2_s h
  refine aw_cV (pc' := 23) (k2 := 0) (n2 := 0) (st := []) (stN := [.inl x6]) hC [.inl s1] (mX9_counts q4) lk_X9_355 g5 dX9_waring_20 rfl rfl (Nat.le_of_ble_eq_true rfl) (Nat.le_of_ble_eq_true rfl) (Nat.le_of_ble_eq_true rfl) rfl (Nat.le_of_ble_eq_true rfl) rfl rfl rfl ?_
  refine aw_if_ne (tgt := 27) (pc' := 26) hC dX9_waring_23 (by decide) rfl (fun c8 => ?_) (fun c8 => ?_)
  · replace h := it_n c8 h
    refine aw_bipush (pc' := 29) hC dX9_waring_27 rfl (by decide) ?_
    refine aw_aload_n (pc' := 30) (i := 0) hC dX9_waring_29 rfl rfl rfl ?_
    obtain ⟨g9, h⟩ := gd_s h
    refine aw_getfield (pc' := 33) (v := (.inl (M7 v0 36))) hC dX9_waring_30 rfl fl_X9_121 g9 rfl ?_
    refine aw_imul (pc' := 34) hC dX9_waring_33 rfl  ?_
    refine aw_aload_n (pc' := 35) (i := 0) hC dX9_waring_34 rfl rfl rfl ?_
    refine aw_getfield (pc' := 38) (v := (.inr (.inr (M7 v0 21)))) hC dX9_waring_35 rfl fl_X9_75 g9 rfl ?_
    refine aw_aload_n (pc' := 39) (i := 0) hC dX9_waring_38 rfl rfl rfl ?_
    refine aw_getfield (pc' := 42) (v := (.inl (M7 v0 36))) hC dX9_waring_39 rfl fl_X9_121 g9 rfl ?_
    obtain ⟨g10, h⟩ := gd_s h
    refine aw_iaload (pc' := 43) hC dX9_waring_42 rfl g10 ?_
    refine aw_iadd (pc' := 44) hC dX9_waring_43 rfl  ?_
    obtain ⟨x11, e12, h⟩ := bd_s h
    refine aw_reni e12 ?_
    refine aw_istore_n (pc' := 45) (i := 1) (ls' := [some (.inr (.inr v0)), some (.inl x11)]) hC dX9_waring_44 rfl rfl (Nat.le_of_ble_eq_true rfl) rfl rfl ?_
    refine aw_aload_n (pc' := 46) (i := 0) hC dX9_waring_45 rfl rfl rfl ?_
    refine aw_getfield (pc' := 49) (v := (.inr (.inr (M7 v0 34)))) hC dX9_waring_46 rfl fl_X9_115 g9 rfl ?_
    refine aw_iload_n (pc' := 50) (i := 1) hC dX9_waring_49 rfl rfl rfl ?_
    refine aw_aload_n (pc' := 51) (i := 0) hC dX9_waring_50 rfl rfl rfl ?_
    obtain ⟨⟨x14, M15⟩, q13, h⟩ := pb_s h
    replace h := u2_s h
    refine aw_cV (pc' := 54) (k2 := 0) (n2 := 0) (st := [.inl x11, .inr (.inr (M7 v0 34))]) (stN := [.inr (.inl x14), .inl x11, .inr (.inr (M7 v0 34))]) hC [] (mX9_fresh q13) lk_X9_359 g9 dX9_waring_51 rfl rfl (Nat.le_of_ble_eq_true rfl) (Nat.le_of_ble_eq_true rfl) (Nat.le_of_ble_eq_true rfl) rfl (Nat.le_of_ble_eq_true rfl) rfl rfl rfl ?_
    obtain ⟨g16, h⟩ := gd_s h
    obtain ⟨M17, e18, h⟩ := bd_s h
    refine aw_las (pc' := 55) hC dX9_waring_54 rfl g16 e18 ?_
    refine aw_aload_n (pc' := 56) (i := 0) hC dX9_waring_55 rfl rfl rfl ?_
    refine aw_ldc2 (pc' := 59) (v := 512970880104) hC dX9_waring_56 rfl ck_X9_266 (by unfold I64; omega) ?_
    obtain ⟨M20, q19, h⟩ := pb_s h
    replace h := u1_s h
    refine aw_cV (pc' := 62) (k2 := 0) (n2 := 0) (st := []) (stN := []) hC [.inr (.inl 512970880104)] (mX9_must_ q19) lk_X9_363 g9 dX9_waring_59 rfl rfl (Nat.le_of_ble_eq_true rfl) (Nat.le_of_ble_eq_true rfl) (Nat.le_of_ble_eq_true rfl) rfl (Nat.le_of_ble_eq_true rfl) rfl rfl rfl ?_
    refine aw_aload_n (pc' := 63) (i := 0) hC dX9_waring_62 rfl rfl rfl ?_
    refine aw_getfield (pc' := 66) (v := (.inr (.inr (M20 v0 22)))) hC dX9_waring_63 rfl fl_X9_78 g9 rfl ?_
    refine aw_iload_n (pc' := 67) (i := 1) hC dX9_waring_66 rfl rfl rfl ?_
    refine aw_aload_n (pc' := 68) (i := 0) hC dX9_waring_67 rfl rfl rfl ?_
    refine aw_iconst (pc' := 69) hC dX9_waring_68 rfl (by decide) ?_
    refine aw_bipush (pc' := 71) hC dX9_waring_69 rfl (by decide) ?_
    obtain ⟨⟨x22, M23⟩, q21, h⟩ := pb_s h
    replace h := u2_s h
    refine aw_cV (pc' := 74) (k2 := 0) (n2 := 0) (st := [.inl x11, .inr (.inr (M20 v0 22))]) (stN := [.inl x22, .inl x11, .inr (.inr (M20 v0 22))]) hC [.inl 0, .inl 99] (mX9_number q21) lk_X9_367 g9 dX9_waring_71 rfl rfl (Nat.le_of_ble_eq_true rfl) (Nat.le_of_ble_eq_true rfl) (Nat.le_of_ble_eq_true rfl) rfl (Nat.le_of_ble_eq_true rfl) rfl rfl rfl ?_
    obtain ⟨g24, h⟩ := gd_s h
    obtain ⟨M25, e26, h⟩ := bd_s h
    refine aw_ias (pc' := 75) hC dX9_waring_74 rfl g24 e26 ?_
    refine aw_aload_n (pc' := 76) (i := 0) hC dX9_waring_75 rfl rfl rfl ?_
    refine aw_ldc2 (pc' := 79) (v := 25209) hC dX9_waring_76 rfl ck_X9_274 (by unfold I64; omega) ?_
    obtain ⟨M28, q27, h⟩ := pb_s h
    replace h := u1_s h
    refine aw_cV (pc' := 82) (k2 := 0) (n2 := 0) (st := []) (stN := []) hC [.inr (.inl 25209)] (mX9_must_ q27) lk_X9_363 g9 dX9_waring_79 rfl rfl (Nat.le_of_ble_eq_true rfl) (Nat.le_of_ble_eq_true rfl) (Nat.le_of_ble_eq_true rfl) rfl (Nat.le_of_ble_eq_true rfl) rfl rfl rfl ?_
    refine aw_aload_n (pc' := 83) (i := 0) hC dX9_waring_82 rfl rfl rfl ?_
    refine aw_getfield (pc' := 86) (v := (.inr (.inr (M28 v0 23)))) hC dX9_waring_83 rfl fl_X9_81 g9 rfl ?_
    refine aw_iload_n (pc' := 87) (i := 1) hC dX9_waring_86 rfl rfl rfl ?_
    refine aw_aload_n (pc' := 88) (i := 0) hC dX9_waring_87 rfl rfl rfl ?_
    refine aw_iconst (pc' := 89) hC dX9_waring_88 rfl (by decide) ?_
    obtain ⟨⟨x30, M31⟩, q29, h⟩ := pb_s h
    replace h := u2_s h
    refine aw_cV (pc' := 92) (k2 := 0) (n2 := 0) (st := [.inl x11, .inr (.inr (M28 v0 23))]) (stN := [.inl x30, .inl x11, .inr (.inr (M28 v0 23))]) hC [.inl 0] (mX9_asked q29) lk_X9_370 g9 dX9_waring_89 rfl rfl (Nat.le_of_ble_eq_true rfl) (Nat.le_of_ble_eq_true rfl) (Nat.le_of_ble_eq_true rfl) rfl (Nat.le_of_ble_eq_true rfl) rfl rfl rfl ?_
    obtain ⟨g32, h⟩ := gd_s h
    obtain ⟨M33, e34, h⟩ := bd_s h
    refine aw_ias (pc' := 93) hC dX9_waring_92 rfl g32 e34 ?_
    refine aw_aload_n (pc' := 94) (i := 0) hC dX9_waring_93 rfl rfl rfl ?_
    refine aw_getfield (pc' := 97) (v := (.inl (M33 v0 8))) hC dX9_waring_94 rfl fl_X9_36 g9 rfl ?_
    refine aw_if_ne (tgt := 113) (pc' := 100) hC dX9_waring_97 (by decide) rfl (fun c35 => ?_) (fun c35 => ?_)
    · replace h := it_n c35 h
      cases h
      subst hQ
      exact aw_vret hC dX9_waring_113 (Nat.le_of_ble_eq_true rfl) (Nat.le_of_ble_eq_true rfl)
    · replace h := it_p c35 h
      refine aw_aload_n (pc' := 101) (i := 0) hC dX9_waring_100 rfl rfl rfl ?_
      refine aw_getfield (pc' := 104) (v := (.inr (.inr (M33 v0 21)))) hC dX9_waring_101 rfl fl_X9_75 g9 rfl ?_
      refine aw_aload_n (pc' := 105) (i := 0) hC dX9_waring_104 rfl rfl rfl ?_
      refine aw_getfield (pc' := 108) (v := (.inl (M33 v0 36))) hC dX9_waring_105 rfl fl_X9_121 g9 rfl ?_
      refine aw_dup2 (pc' := 109) hC dX9_waring_108 rfl rfl rfl ?_
      obtain ⟨g36, h⟩ := gd_s h
      refine aw_iaload (pc' := 110) hC dX9_waring_109 rfl g36 ?_
      refine aw_iconst (pc' := 111) hC dX9_waring_110 rfl (by decide) ?_
      refine aw_iadd (pc' := 112) hC dX9_waring_111 rfl  ?_
      obtain ⟨M37, e38, h⟩ := bd_s h
      refine aw_ias (pc' := 113) hC dX9_waring_112 rfl g36 e38 ?_
      cases h
      subst hQ
      exact aw_vret hC dX9_waring_113 (Nat.le_of_ble_eq_true rfl) (Nat.le_of_ble_eq_true rfl)
  · replace h := it_p c8 h
    cases h
    subst hQ
    exact aw_vret hC dX9_waring_26 (Nat.le_of_ble_eq_true rfl) (Nat.le_of_ble_eq_true rfl)
set_option maxRecDepth 100000 in
set_option maxHeartbeats 4000000 in
theorem mX9_waring {sh : AwS} {M : AwM} {v0 : Int} {M' : AwM} (h : fX9_waring sh M v0 = some M') : AMet yX9_waring cX9_waring 2 none 5 0 0 [.inr (.inr v0)] sh M none sh M' := by
  refine amet_of (by decide +kernel) (Nat.le_of_ble_eq_true rfl) (fun Γ hC => ?_)
  replace hC : AOK Γ RX9 cX9_waring 2 5 0 0 "waring" none := hC
  unfold fX9_waring at h
  refine aw_sub hC [some (.inr (.inr v0)), none] ⟨rfl, trivial⟩ (Nat.le_of_ble_eq_true rfl) ?_
  refine aw_aload_n (pc' := 1) (i := 0) hC dX9_waring_0 rfl rfl rfl ?_
  refine aw_aload_n (pc' := 2) (i := 0) hC dX9_waring_1 rfl rfl rfl ?_
  obtain ⟨g1, h⟩ := gd_s h
  refine aw_getfield (pc' := 5) (v := (.inr (.inr (M v0 21)))) hC dX9_waring_2 rfl fl_X9_75 g1 rfl ?_
  refine aw_aload_n (pc' := 6) (i := 0) hC dX9_waring_5 rfl rfl rfl ?_
  refine aw_getfield (pc' := 9) (v := (.inl (M v0 36))) hC dX9_waring_6 rfl fl_X9_121 g1 rfl ?_
  obtain ⟨g2, h⟩ := gd_s h
  refine aw_iaload (pc' := 10) hC dX9_waring_9 rfl g2 ?_
  refine aw_bipush (pc' := 12) hC dX9_waring_10 rfl (by decide) ?_
  refine aw_icmp_ne (tgt := 19) (pc' := 15) hC dX9_waring_12 (by decide) rfl (fun c3 => ?_) (fun c3 => ?_)
  · replace h := it_n c3 h
    refine aw_iconst (pc' := 20) hC dX9_waring_19 rfl (by decide) ?_
    refine aw_sub hC [some (.inr (.inr v0)), none] ⟨rfl, trivial⟩ (Nat.le_of_ble_eq_true rfl) ?_
    exact w_X9_waring_J20 hC h rfl
  · replace h := it_p c3 h
    refine aw_iconst (pc' := 16) hC dX9_waring_15 rfl (by decide) ?_
    refine aw_goto (tgt := 20) hC dX9_waring_16 (by decide) ?_
    refine aw_sub hC [some (.inr (.inr v0)), none] ⟨rfl, trivial⟩ (Nat.le_of_ble_eq_true rfl) ?_
    exact w_X9_waring_J20 hC h rfl
-- CoinCircleModel.snubbing()V
def fX9_snubbing_J65 (sh : AwS) (M : AwM) (v0 : Int) (v1 : Int) (v2 : Int) : Option (AwM) :=
  gd_ (kd_ sh v0 = (0, 9)) ((if 0 < (M v0 8) then some M else pb (fX9_ahead sh M v0) <| u1 fun (M16 : AwM) => (gd_ ((kd_ sh (M16 v0 20)).1 = 1 ∧ (0 : Int) ≤ v1 ∧ v1 < ((kd_ sh (M16 v0 20)).2 : Int)) (bd_ (up_ M16 (M16 v0 20) v1 (or_ (M16 (M16 v0 20) v1) (sl_ 1 v2))) fun (M18 : AwM) => (some M18)))))
def fX9_snubbing (sh : AwS) (M : AwM) (v0 : Int) : Option (AwM) :=
  gd_ (kd_ sh v0 = (0, 9)) (pb (fX9_counts sh M v0 0) <| u2 fun (x3 : Int) (M4 : AwM) => ((if x3 = 0 then some M4 else pb (fX9_asked sh M4 v0 1) <| u2 fun (x7 : Int) (M8 : AwM) => (pb (fX9_looked sh M8 v0 0) <| u2 fun (x10 : Int) (M11 : AwM) => ((if (M11 v0 8) = 0 then gd_ ((kd_ sh (M11 v0 19)).1 = 1 ∧ (0 : Int) ≤ (w32 ((w32 (12 * (M4 v0 36))) + x7)) ∧ (w32 ((w32 (12 * (M4 v0 36))) + x7)) < ((kd_ sh (M11 v0 19)).2 : Int)) (gd_ ((kd_ sh (M11 v0 20)).1 = 1 ∧ (0 : Int) ≤ (w32 ((w32 (12 * (M4 v0 36))) + x7)) ∧ (w32 ((w32 (12 * (M4 v0 36))) + x7)) < ((kd_ sh (M11 v0 20)).2 : Int)) (pb (fX9_has2 sh M11 (or_ (M11 (M11 v0 19) (w32 ((w32 (12 * (M4 v0 36))) + x7))) (M11 (M11 v0 20) (w32 ((w32 (12 * (M4 v0 36))) + x7)))) x10) <| u1 fun (x23 : Int) => ((if x23 = 0 then fX9_snubbing_J65 sh M11 v0 (w32 ((w32 (12 * (M4 v0 36))) + x7)) x10 else pb (fX9_blame sh M11 v0 3 (M11 v0 4)) <| u1 fun (M26 : AwM) => (fX9_snubbing_J65 sh M26 v0 (w32 ((w32 (12 * (M4 v0 36))) + x7)) x10))))) else fX9_snubbing_J65 sh M11 v0 (w32 ((w32 (12 * (M4 v0 36))) + x7)) x10))))))
set_option maxRecDepth 100000 in
set_option maxHeartbeats 4000000 in
theorem w_X9_snubbing_J65 {Γ : AwC} (hC : AOK Γ RX9 cX9_snubbing 3 5 0 0 "snubbing" none) {sh : AwS} {M : AwM} {v0 : Int} {v1 : Int} {v2 : Int} {M' : AwM} (h : fX9_snubbing_J65 sh M v0 v1 v2 = some M') {Q : State → Prop} (hQ : Q = (fin_ Γ 0 0 none sh M')) : AW Γ sh M 0 0 65 [some (.inr (.inr v0)), some (.inl v1), some (.inl v2)] [] Q := by
  unfold fX9_snubbing_J65 at h
  refine aw_aload_n (pc' := 66) (i := 0) hC dX9_snubbing_65 rfl rfl rfl ?_
  obtain ⟨g13, h⟩ := gd_s h
  refine aw_getfield (pc' := 69) (v := (.inl (M v0 8))) hC dX9_snubbing_66 rfl fl_X9_36 g13 rfl ?_
  refine aw_if_le (tgt := 73) (pc' := 72) hC dX9_snubbing_69 (by decide) rfl (fun c14 => ?_) (fun c14 => ?_)
  · replace h := it_n c14 h
    refine aw_aload_n (pc' := 74) (i := 0) hC dX9_snubbing_73 rfl rfl rfl ?_
    obtain ⟨M16, q15, h⟩ := pb_s h
    replace h := u1_s h
    refine aw_cV (pc' := 77) (k2 := 0) (n2 := 0) (st := []) (stN := []) hC [] (mX9_ahead q15) lk_X9_257 g13 dX9_snubbing_74 rfl rfl (Nat.le_of_ble_eq_true rfl) (Nat.le_of_ble_eq_true rfl) (Nat.le_of_ble_eq_true rfl) rfl (Nat.le_of_ble_eq_true rfl) rfl rfl rfl ?_
    refine aw_aload_n (pc' := 78) (i := 0) hC dX9_snubbing_77 rfl rfl rfl ?_
    refine aw_getfield (pc' := 81) (v := (.inr (.inr (M16 v0 20)))) hC dX9_snubbing_78 rfl fl_X9_72 g13 rfl ?_
    refine aw_iload_n (pc' := 82) (i := 1) hC dX9_snubbing_81 rfl rfl rfl ?_
    refine aw_dup2 (pc' := 83) hC dX9_snubbing_82 rfl rfl rfl ?_
    obtain ⟨g17, h⟩ := gd_s h
    refine aw_iaload (pc' := 84) hC dX9_snubbing_83 rfl g17 ?_
    refine aw_iconst (pc' := 85) hC dX9_snubbing_84 rfl (by decide) ?_
    refine aw_iload_n (pc' := 86) (i := 2) hC dX9_snubbing_85 rfl rfl rfl ?_
    refine aw_ishl (pc' := 87) hC dX9_snubbing_86 rfl  ?_
    refine aw_ior (pc' := 88) hC dX9_snubbing_87 rfl  ?_
    obtain ⟨M18, e19, h⟩ := bd_s h
    refine aw_ias (pc' := 89) hC dX9_snubbing_88 rfl g17 e19 ?_
    cases h
    subst hQ
    exact aw_vret hC dX9_snubbing_89 (Nat.le_of_ble_eq_true rfl) (Nat.le_of_ble_eq_true rfl)
  · replace h := it_p c14 h
    cases h
    subst hQ
    exact aw_vret hC dX9_snubbing_72 (Nat.le_of_ble_eq_true rfl) (Nat.le_of_ble_eq_true rfl)
set_option maxRecDepth 100000 in
set_option maxHeartbeats 4000000 in
theorem mX9_snubbing {sh : AwS} {M : AwM} {v0 : Int} {M' : AwM} (h : fX9_snubbing sh M v0 = some M') : AMet yX9_snubbing cX9_snubbing 3 none 5 0 0 [.inr (.inr v0)] sh M none sh M' := by
  refine amet_of (by decide +kernel) (Nat.le_of_ble_eq_true rfl) (fun Γ hC => ?_)
  replace hC : AOK Γ RX9 cX9_snubbing 3 5 0 0 "snubbing" none := hC
  unfold fX9_snubbing at h
  refine aw_sub hC [some (.inr (.inr v0)), none, none] ⟨rfl, trivial⟩ (Nat.le_of_ble_eq_true rfl) ?_
  refine aw_aload_n (pc' := 1) (i := 0) hC dX9_snubbing_0 rfl rfl rfl ?_
  refine aw_iconst (pc' := 2) hC dX9_snubbing_1 rfl (by decide) ?_
  obtain ⟨g2, h⟩ := gd_s h
  obtain ⟨⟨x3, M4⟩, q1, h⟩ := pb_s h
  replace h := u2_s h
  refine aw_cV (pc' := 5) (k2 := 0) (n2 := 0) (st := []) (stN := [.inl x3]) hC [.inl 0] (mX9_counts q1) lk_X9_355 g2 dX9_snubbing_2 rfl rfl (Nat.le_of_ble_eq_true rfl) (Nat.le_of_ble_eq_true rfl) (Nat.le_of_ble_eq_true rfl) rfl (Nat.le_of_ble_eq_true rfl) rfl rfl rfl ?_
  refine aw_if_ne (tgt := 9) (pc' := 8) hC dX9_snubbing_5 (by decide) rfl (fun c5 => ?_) (fun c5 => ?_)
  · replace h := it_n c5 h
    refine aw_bipush (pc' := 11) hC dX9_snubbing_9 rfl (by decide) ?_
    refine aw_aload_n (pc' := 12) (i := 0) hC dX9_snubbing_11 rfl rfl rfl ?_
    refine aw_getfield (pc' := 15) (v := (.inl (M4 v0 36))) hC dX9_snubbing_12 rfl fl_X9_121 g2 rfl ?_
    refine aw_imul (pc' := 16) hC dX9_snubbing_15 rfl  ?_
    refine aw_aload_n (pc' := 17) (i := 0) hC dX9_snubbing_16 rfl rfl rfl ?_
    refine aw_iconst (pc' := 18) hC dX9_snubbing_17 rfl (by decide) ?_
    obtain ⟨⟨x7, M8⟩, q6, h⟩ := pb_s h
    replace h := u2_s h
    refine aw_cV (pc' := 21) (k2 := 0) (n2 := 0) (st := [.inl (w32 (12 * (M4 v0 36)))]) (stN := [.inl x7, .inl (w32 (12 * (M4 v0 36)))]) hC [.inl 1] (mX9_asked q6) lk_X9_370 g2 dX9_snubbing_18 rfl rfl (Nat.le_of_ble_eq_true rfl) (Nat.le_of_ble_eq_true rfl) (Nat.le_of_ble_eq_true rfl) rfl (Nat.le_of_ble_eq_true rfl) rfl rfl rfl ?_
    refine aw_iadd (pc' := 22) hC dX9_snubbing_21 rfl  ?_
    refine aw_istore_n (pc' := 23) (i := 1) (ls' := [some (.inr (.inr v0)), some (.inl (w32 ((w32 (12 * (M4 v0 36))) + x7))), none]) hC dX9_snubbing_22 rfl rfl (Nat.le_of_ble_eq_true rfl) rfl rfl ?_
    refine aw_aload_n (pc' := 24) (i := 0) hC dX9_snubbing_23 rfl rfl rfl ?_
    refine aw_iconst (pc' := 25) hC dX9_snubbing_24 rfl (by decide) ?_
    obtain ⟨⟨x10, M11⟩, q9, h⟩ := pb_s h
    replace h := u2_s h
    refine aw_cV (pc' := 28) (k2 := 0) (n2 := 0) (st := []) (stN := [.inl x10]) hC [.inl 0] (mX9_looked q9) lk_X9_352 g2 dX9_snubbing_25 rfl rfl (Nat.le_of_ble_eq_true rfl) (Nat.le_of_ble_eq_true rfl) (Nat.le_of_ble_eq_true rfl) rfl (Nat.le_of_ble_eq_true rfl) rfl rfl rfl ?_
    refine aw_istore_n (pc' := 29) (i := 2) (ls' := [some (.inr (.inr v0)), some (.inl (w32 ((w32 (12 * (M4 v0 36))) + x7))), some (.inl x10)]) hC dX9_snubbing_28 rfl rfl (Nat.le_of_ble_eq_true rfl) rfl rfl ?_
    refine aw_aload_n (pc' := 30) (i := 0) hC dX9_snubbing_29 rfl rfl rfl ?_
    refine aw_getfield (pc' := 33) (v := (.inl (M11 v0 8))) hC dX9_snubbing_30 rfl fl_X9_36 g2 rfl ?_
    refine aw_if_ne (tgt := 65) (pc' := 36) hC dX9_snubbing_33 (by decide) rfl (fun c12 => ?_) (fun c12 => ?_)
    · replace h := it_n c12 h
      refine aw_sub hC [some (.inr (.inr v0)), some (.inl (w32 ((w32 (12 * (M4 v0 36))) + x7))), some (.inl x10)] ⟨rfl, ⟨rfl, ⟨rfl, trivial⟩⟩⟩ (Nat.le_of_ble_eq_true rfl) ?_
      exact w_X9_snubbing_J65 hC h rfl
    · replace h := it_p c12 h
      refine aw_aload_n (pc' := 37) (i := 0) hC dX9_snubbing_36 rfl rfl rfl ?_
      refine aw_getfield (pc' := 40) (v := (.inr (.inr (M11 v0 19)))) hC dX9_snubbing_37 rfl fl_X9_69 g2 rfl ?_
      refine aw_iload_n (pc' := 41) (i := 1) hC dX9_snubbing_40 rfl rfl rfl ?_
      obtain ⟨g20, h⟩ := gd_s h
      refine aw_iaload (pc' := 42) hC dX9_snubbing_41 rfl g20 ?_
      refine aw_aload_n (pc' := 43) (i := 0) hC dX9_snubbing_42 rfl rfl rfl ?_
      refine aw_getfield (pc' := 46) (v := (.inr (.inr (M11 v0 20)))) hC dX9_snubbing_43 rfl fl_X9_72 g2 rfl ?_
      refine aw_iload_n (pc' := 47) (i := 1) hC dX9_snubbing_46 rfl rfl rfl ?_
      obtain ⟨g21, h⟩ := gd_s h
      refine aw_iaload (pc' := 48) hC dX9_snubbing_47 rfl g21 ?_
      refine aw_ior (pc' := 49) hC dX9_snubbing_48 rfl  ?_
      refine aw_iload_n (pc' := 50) (i := 2) hC dX9_snubbing_49 rfl rfl rfl ?_
      obtain ⟨x23, q22, h⟩ := pb_s h
      replace h := u1_s h
      refine aw_cS (pc' := 53) (k2 := 0) (n2 := 0) (st := []) (stN := [.inl x23]) hC [.inl (or_ (M11 (M11 v0 19) (w32 ((w32 (12 * (M4 v0 36))) + x7))) (M11 (M11 v0 20) (w32 ((w32 (12 * (M4 v0 36))) + x7)))), .inl x10] (mX9_has2 q22) lk_X9_373 dX9_snubbing_50 rfl rfl (Nat.le_of_ble_eq_true rfl) (Nat.le_of_ble_eq_true rfl) (Nat.le_of_ble_eq_true rfl) rfl (Nat.le_of_ble_eq_true rfl) rfl rfl rfl ?_
      refine aw_if_eq (tgt := 65) (pc' := 56) hC dX9_snubbing_53 (by decide) rfl (fun c24 => ?_) (fun c24 => ?_)
      · replace h := it_p c24 h
        refine aw_sub hC [some (.inr (.inr v0)), some (.inl (w32 ((w32 (12 * (M4 v0 36))) + x7))), some (.inl x10)] ⟨rfl, ⟨rfl, ⟨rfl, trivial⟩⟩⟩ (Nat.le_of_ble_eq_true rfl) ?_
        exact w_X9_snubbing_J65 hC h rfl
      · replace h := it_n c24 h
        refine aw_aload_n (pc' := 57) (i := 0) hC dX9_snubbing_56 rfl rfl rfl ?_
        refine aw_iconst (pc' := 58) hC dX9_snubbing_57 rfl (by decide) ?_
        refine aw_aload_n (pc' := 59) (i := 0) hC dX9_snubbing_58 rfl rfl rfl ?_
        refine aw_getfield (pc' := 62) (v := (.inl (M11 v0 4))) hC dX9_snubbing_59 rfl fl_X9_23 g2 rfl ?_
        obtain ⟨M26, q25, h⟩ := pb_s h
        replace h := u1_s h
        refine aw_cV (pc' := 65) (k2 := 0) (n2 := 0) (st := []) (stN := []) hC [.inl 3, .inl (M11 v0 4)] (mX9_blame q25) lk_X9_236 g2 dX9_snubbing_62 rfl rfl (Nat.le_of_ble_eq_true rfl) (Nat.le_of_ble_eq_true rfl) (Nat.le_of_ble_eq_true rfl) rfl (Nat.le_of_ble_eq_true rfl) rfl rfl rfl ?_
        refine aw_sub hC [some (.inr (.inr v0)), some (.inl (w32 ((w32 (12 * (M4 v0 36))) + x7))), some (.inl x10)] ⟨rfl, ⟨rfl, ⟨rfl, trivial⟩⟩⟩ (Nat.le_of_ble_eq_true rfl) ?_
        exact w_X9_snubbing_J65 hC h rfl
  · replace h := it_p c5 h
    cases h
    exact aw_vret hC dX9_snubbing_8 (Nat.le_of_ble_eq_true rfl) (Nat.le_of_ble_eq_true rfl)
-- CoinCircleModel.telling(Z)V
def fX9_telling_J22 (sh : AwS) (M : AwM) (v0 : Int) (v1 : Int) (s0 : Int) (s1 : Int) (s2 : Int) : Option (AwM) :=
  gd_ (kd_ sh s0 = (0, 9)) (pb (fX9_number sh M s0 s1 s2) <| u2 fun (x9 : Int) (M10 : AwM) => (gd_ (kd_ sh v0 = (0, 9)) ((if 0 < (M10 v0 8) then some M10 else (if v1 = 0 then gd_ ((kd_ sh (M10 v0 25)).1 = 1 ∧ (0 : Int) ≤ (M10 v0 36) ∧ (M10 v0 36) < ((kd_ sh (M10 v0 25)).2 : Int)) (bd_ (up_ M10 (M10 v0 25) (M10 v0 36) x9) fun (M15 : AwM) => (some M15)) else gd_ ((kd_ sh (M10 v0 24)).1 = 1 ∧ (0 : Int) ≤ (M10 v0 36) ∧ (M10 v0 36) < ((kd_ sh (M10 v0 24)).2 : Int)) (bd_ (up_ M10 (M10 v0 24) (M10 v0 36) x9) fun (M18 : AwM) => (some M18)))))))
def fX9_telling (sh : AwS) (M : AwM) (v0 : Int) (v1 : Int) : Option (AwM) :=
  gd_ (kd_ sh v0 = (0, 9)) (pb (fX9_counts sh M v0 0) <| u2 fun (x3 : Int) (M4 : AwM) => ((if x3 = 0 then some M4 else (if v1 = 0 then fX9_telling_J22 sh M4 v0 v1 v0 0 100 else fX9_telling_J22 sh M4 v0 v1 v0 0 99))))
set_option maxRecDepth 100000 in
set_option maxHeartbeats 4000000 in
theorem w_X9_telling_J22 {Γ : AwC} (hC : AOK Γ RX9 cX9_telling 3 4 0 0 "telling" none) {sh : AwS} {M : AwM} {v0 : Int} {v1 : Int} {s0 : Int} {s1 : Int} {s2 : Int} {M' : AwM} (h : fX9_telling_J22 sh M v0 v1 s0 s1 s2 = some M') {Q : State → Prop} (hQ : Q = (fin_ Γ 0 0 none sh M')) : AW Γ sh M 0 0 22 [some (.inr (.inr v0)), some (.inl v1), none] [.inl s2, .inl s1, .inr (.inr s0)] Q := by
  unfold fX9_telling_J22 at h
  obtain ⟨g8, h⟩ := gd_s h
  obtain ⟨⟨x9, M10⟩, q7, h⟩ := pb_s h
  replace h := u2_s h
  refine aw_cV (pc' := 25) (k2 := 0) (n2 := 0) (st := []) (stN := [.inl x9]) hC [.inl s1, .inl s2] (mX9_number q7) lk_X9_367 g8 dX9_telling_22 rfl rfl (Nat.le_of_ble_eq_true rfl) (Nat.le_of_ble_eq_true rfl) (Nat.le_of_ble_eq_true rfl) rfl (Nat.le_of_ble_eq_true rfl) rfl rfl rfl ?_
  refine aw_istore_n (pc' := 26) (i := 2) (ls' := [some (.inr (.inr v0)), some (.inl v1), some (.inl x9)]) hC dX9_telling_25 rfl rfl (Nat.le_of_ble_eq_true rfl) rfl rfl ?_
  refine aw_aload_n (pc' := 27) (i := 0) hC dX9_telling_26 rfl rfl rfl ?_
  obtain ⟨g11, h⟩ := gd_s h
  refine aw_getfield (pc' := 30) (v := (.inl (M10 v0 8))) hC dX9_telling_27 rfl fl_X9_36 g11 rfl ?_
  refine aw_if_le (tgt := 34) (pc' := 33) hC dX9_telling_30 (by decide) rfl (fun c12 => ?_) (fun c12 => ?_)
  · replace h := it_n c12 h
    refine aw_iload_n (pc' := 35) (i := 1) hC dX9_telling_34 rfl rfl rfl ?_
    refine aw_if_eq (tgt := 51) (pc' := 38) hC dX9_telling_35 (by decide) rfl (fun c13 => ?_) (fun c13 => ?_)
    · replace h := it_p c13 h
      refine aw_aload_n (pc' := 52) (i := 0) hC dX9_telling_51 rfl rfl rfl ?_
      refine aw_getfield (pc' := 55) (v := (.inr (.inr (M10 v0 25)))) hC dX9_telling_52 rfl fl_X9_87 g11 rfl ?_
      refine aw_aload_n (pc' := 56) (i := 0) hC dX9_telling_55 rfl rfl rfl ?_
      refine aw_getfield (pc' := 59) (v := (.inl (M10 v0 36))) hC dX9_telling_56 rfl fl_X9_121 g11 rfl ?_
      refine aw_iload_n (pc' := 60) (i := 2) hC dX9_telling_59 rfl rfl rfl ?_
      obtain ⟨g14, h⟩ := gd_s h
      obtain ⟨M15, e16, h⟩ := bd_s h
      refine aw_ias (pc' := 61) hC dX9_telling_60 rfl g14 e16 ?_
      cases h
      subst hQ
      exact aw_vret hC dX9_telling_61 (Nat.le_of_ble_eq_true rfl) (Nat.le_of_ble_eq_true rfl)
    · replace h := it_n c13 h
      refine aw_aload_n (pc' := 39) (i := 0) hC dX9_telling_38 rfl rfl rfl ?_
      refine aw_getfield (pc' := 42) (v := (.inr (.inr (M10 v0 24)))) hC dX9_telling_39 rfl fl_X9_84 g11 rfl ?_
      refine aw_aload_n (pc' := 43) (i := 0) hC dX9_telling_42 rfl rfl rfl ?_
      refine aw_getfield (pc' := 46) (v := (.inl (M10 v0 36))) hC dX9_telling_43 rfl fl_X9_121 g11 rfl ?_
      refine aw_iload_n (pc' := 47) (i := 2) hC dX9_telling_46 rfl rfl rfl ?_
      obtain ⟨g17, h⟩ := gd_s h
      obtain ⟨M18, e19, h⟩ := bd_s h
      refine aw_ias (pc' := 48) hC dX9_telling_47 rfl g17 e19 ?_
      refine aw_goto (tgt := 61) hC dX9_telling_48 (by decide) ?_
      cases h
      subst hQ
      exact aw_vret hC dX9_telling_61 (Nat.le_of_ble_eq_true rfl) (Nat.le_of_ble_eq_true rfl)
  · replace h := it_p c12 h
    cases h
    subst hQ
    exact aw_vret hC dX9_telling_33 (Nat.le_of_ble_eq_true rfl) (Nat.le_of_ble_eq_true rfl)
set_option maxRecDepth 100000 in
set_option maxHeartbeats 4000000 in
theorem mX9_telling {sh : AwS} {M : AwM} {v0 : Int} {v1 : Int} {M' : AwM} (h : fX9_telling sh M v0 v1 = some M') : AMet yX9_telling cX9_telling 3 none 4 0 0 [.inr (.inr v0), .inl v1] sh M none sh M' := by
  refine amet_of (by decide +kernel) (Nat.le_of_ble_eq_true rfl) (fun Γ hC => ?_)
  replace hC : AOK Γ RX9 cX9_telling 3 4 0 0 "telling" none := hC
  unfold fX9_telling at h
  refine aw_sub hC [some (.inr (.inr v0)), some (.inl v1), none] ⟨rfl, ⟨rfl, trivial⟩⟩ (Nat.le_of_ble_eq_true rfl) ?_
  refine aw_aload_n (pc' := 1) (i := 0) hC dX9_telling_0 rfl rfl rfl ?_
  refine aw_iconst (pc' := 2) hC dX9_telling_1 rfl (by decide) ?_
  obtain ⟨g2, h⟩ := gd_s h
  obtain ⟨⟨x3, M4⟩, q1, h⟩ := pb_s h
  replace h := u2_s h
  refine aw_cV (pc' := 5) (k2 := 0) (n2 := 0) (st := []) (stN := [.inl x3]) hC [.inl 0] (mX9_counts q1) lk_X9_355 g2 dX9_telling_2 rfl rfl (Nat.le_of_ble_eq_true rfl) (Nat.le_of_ble_eq_true rfl) (Nat.le_of_ble_eq_true rfl) rfl (Nat.le_of_ble_eq_true rfl) rfl rfl rfl ?_
  refine aw_if_ne (tgt := 9) (pc' := 8) hC dX9_telling_5 (by decide) rfl (fun c5 => ?_) (fun c5 => ?_)
  · replace h := it_n c5 h
    refine aw_aload_n (pc' := 10) (i := 0) hC dX9_telling_9 rfl rfl rfl ?_
    refine aw_iconst (pc' := 11) hC dX9_telling_10 rfl (by decide) ?_
    refine aw_iload_n (pc' := 12) (i := 1) hC dX9_telling_11 rfl rfl rfl ?_
    refine aw_if_eq (tgt := 20) (pc' := 15) hC dX9_telling_12 (by decide) rfl (fun c6 => ?_) (fun c6 => ?_)
    · replace h := it_p c6 h
      refine aw_bipush (pc' := 22) hC dX9_telling_20 rfl (by decide) ?_
      refine aw_sub hC [some (.inr (.inr v0)), some (.inl v1), none] ⟨rfl, ⟨rfl, trivial⟩⟩ (Nat.le_of_ble_eq_true rfl) ?_
      exact w_X9_telling_J22 hC h rfl
    · replace h := it_n c6 h
      refine aw_bipush (pc' := 17) hC dX9_telling_15 rfl (by decide) ?_
      refine aw_goto (tgt := 22) hC dX9_telling_17 (by decide) ?_
      refine aw_sub hC [some (.inr (.inr v0)), some (.inl v1), none] ⟨rfl, ⟨rfl, trivial⟩⟩ (Nat.le_of_ble_eq_true rfl) ?_
      exact w_X9_telling_J22 hC h rfl
  · replace h := it_p c5 h
    cases h
    exact aw_vret hC dX9_telling_8 (Nat.le_of_ble_eq_true rfl) (Nat.le_of_ble_eq_true rfl)
-- CoinCircleModel.presenting()V
def fX9_presenting_J19 (sh : AwS) (M : AwM) (v0 : Int) (s0 : Int) (s1 : Int) : Option (AwM) :=
  gd_ (kd_ sh s0 = (0, 9)) (pb (fX9_counts sh M s0 s1) <| u2 fun (x6 : Int) (M7 : AwM) => ((if x6 = 0 then some M7 else gd_ (kd_ sh v0 = (0, 9)) (gd_ ((kd_ sh (M7 v0 26)).1 = 1 ∧ (0 : Int) ≤ (M7 v0 36) ∧ (M7 v0 36) < ((kd_ sh (M7 v0 26)).2 : Int)) (bd_ (up_ M7 (M7 v0 26) (M7 v0 36) (M7 v0 35)) fun (M11 : AwM) => (pb (fX9_reads sh M11 v0 1) <| u1 fun (M14 : AwM) => (gd_ ((kd_ sh (M14 v0 27)).1 = 1 ∧ (0 : Int) ≤ (M14 v0 36) ∧ (M14 v0 36) < ((kd_ sh (M14 v0 27)).2 : Int)) (bd_ (up_ M14 (M14 v0 27) (M14 v0 36) (M14 v0 35)) fun (M16 : AwM) => (some M16)))))))))
def fX9_presenting (sh : AwS) (M : AwM) (v0 : Int) : Option (AwM) :=
  gd_ (kd_ sh v0 = (0, 9)) (gd_ ((kd_ sh (M v0 26)).1 = 1 ∧ (0 : Int) ≤ (M v0 36) ∧ (M v0 36) < ((kd_ sh (M v0 26)).2 : Int)) ((if (M (M v0 26) (M v0 36)) = (-1) then fX9_presenting_J19 sh M v0 v0 0 else fX9_presenting_J19 sh M v0 v0 1)))
set_option maxRecDepth 100000 in
set_option maxHeartbeats 4000000 in
theorem w_X9_presenting_J19 {Γ : AwC} (hC : AOK Γ RX9 cX9_presenting 1 6 0 0 "presenting" none) {sh : AwS} {M : AwM} {v0 : Int} {s0 : Int} {s1 : Int} {M' : AwM} (h : fX9_presenting_J19 sh M v0 s0 s1 = some M') {Q : State → Prop} (hQ : Q = (fin_ Γ 0 0 none sh M')) : AW Γ sh M 0 0 19 [some (.inr (.inr v0))] [.inl s1, .inr (.inr s0)] Q := by
  unfold fX9_presenting_J19 at h
  obtain ⟨g5, h⟩ := gd_s h
  obtain ⟨⟨x6, M7⟩, q4, h⟩ := pb_s h
  replace h := u2_s h
  refine aw_cV (pc' := 22) (k2 := 0) (n2 := 0) (st := []) (stN := [.inl x6]) hC [.inl s1] (mX9_counts q4) lk_X9_355 g5 dX9_presenting_19 rfl rfl (Nat.le_of_ble_eq_true rfl) (Nat.le_of_ble_eq_true rfl) (Nat.le_of_ble_eq_true rfl) rfl (Nat.le_of_ble_eq_true rfl) rfl rfl rfl ?_
  refine aw_if_ne (tgt := 26) (pc' := 25) hC dX9_presenting_22 (by decide) rfl (fun c8 => ?_) (fun c8 => ?_)
  · replace h := it_n c8 h
    refine aw_aload_n (pc' := 27) (i := 0) hC dX9_presenting_26 rfl rfl rfl ?_
    obtain ⟨g9, h⟩ := gd_s h
    refine aw_getfield (pc' := 30) (v := (.inr (.inr (M7 v0 26)))) hC dX9_presenting_27 rfl fl_X9_90 g9 rfl ?_
    refine aw_aload_n (pc' := 31) (i := 0) hC dX9_presenting_30 rfl rfl rfl ?_
    refine aw_getfield (pc' := 34) (v := (.inl (M7 v0 36))) hC dX9_presenting_31 rfl fl_X9_121 g9 rfl ?_
    refine aw_aload_n (pc' := 35) (i := 0) hC dX9_presenting_34 rfl rfl rfl ?_
    refine aw_getfield (pc' := 38) (v := (.inl (M7 v0 35))) hC dX9_presenting_35 rfl fl_X9_118 g9 rfl ?_
    obtain ⟨g10, h⟩ := gd_s h
    obtain ⟨M11, e12, h⟩ := bd_s h
    refine aw_ias (pc' := 39) hC dX9_presenting_38 rfl g10 e12 ?_
    refine aw_aload_n (pc' := 40) (i := 0) hC dX9_presenting_39 rfl rfl rfl ?_
    refine aw_iconst (pc' := 41) hC dX9_presenting_40 rfl (by decide) ?_
    obtain ⟨M14, q13, h⟩ := pb_s h
    replace h := u1_s h
    refine aw_cV (pc' := 44) (k2 := 0) (n2 := 0) (st := []) (stN := []) hC [.inl 1] (mX9_reads q13) lk_X9_377 g9 dX9_presenting_41 rfl rfl (Nat.le_of_ble_eq_true rfl) (Nat.le_of_ble_eq_true rfl) (Nat.le_of_ble_eq_true rfl) rfl (Nat.le_of_ble_eq_true rfl) rfl rfl rfl ?_
    refine aw_aload_n (pc' := 45) (i := 0) hC dX9_presenting_44 rfl rfl rfl ?_
    refine aw_getfield (pc' := 48) (v := (.inr (.inr (M14 v0 27)))) hC dX9_presenting_45 rfl fl_X9_93 g9 rfl ?_
    refine aw_aload_n (pc' := 49) (i := 0) hC dX9_presenting_48 rfl rfl rfl ?_
    refine aw_getfield (pc' := 52) (v := (.inl (M14 v0 36))) hC dX9_presenting_49 rfl fl_X9_121 g9 rfl ?_
    refine aw_aload_n (pc' := 53) (i := 0) hC dX9_presenting_52 rfl rfl rfl ?_
    refine aw_getfield (pc' := 56) (v := (.inl (M14 v0 35))) hC dX9_presenting_53 rfl fl_X9_118 g9 rfl ?_
    obtain ⟨g15, h⟩ := gd_s h
    obtain ⟨M16, e17, h⟩ := bd_s h
    refine aw_ias (pc' := 57) hC dX9_presenting_56 rfl g15 e17 ?_
    cases h
    subst hQ
    exact aw_vret hC dX9_presenting_57 (Nat.le_of_ble_eq_true rfl) (Nat.le_of_ble_eq_true rfl)
  · replace h := it_p c8 h
    cases h
    subst hQ
    exact aw_vret hC dX9_presenting_25 (Nat.le_of_ble_eq_true rfl) (Nat.le_of_ble_eq_true rfl)
set_option maxRecDepth 100000 in
set_option maxHeartbeats 4000000 in
theorem mX9_presenting {sh : AwS} {M : AwM} {v0 : Int} {M' : AwM} (h : fX9_presenting sh M v0 = some M') : AMet yX9_presenting cX9_presenting 1 none 6 0 0 [.inr (.inr v0)] sh M none sh M' := by
  refine amet_of (by decide +kernel) (Nat.le_of_ble_eq_true rfl) (fun Γ hC => ?_)
  replace hC : AOK Γ RX9 cX9_presenting 1 6 0 0 "presenting" none := hC
  unfold fX9_presenting at h
  refine aw_sub hC [some (.inr (.inr v0))] ⟨rfl, trivial⟩ (Nat.le_of_ble_eq_true rfl) ?_
  refine aw_aload_n (pc' := 1) (i := 0) hC dX9_presenting_0 rfl rfl rfl ?_
  refine aw_aload_n (pc' := 2) (i := 0) hC dX9_presenting_1 rfl rfl rfl ?_
  obtain ⟨g1, h⟩ := gd_s h
  refine aw_getfield (pc' := 5) (v := (.inr (.inr (M v0 26)))) hC dX9_presenting_2 rfl fl_X9_90 g1 rfl ?_
  refine aw_aload_n (pc' := 6) (i := 0) hC dX9_presenting_5 rfl rfl rfl ?_
  refine aw_getfield (pc' := 9) (v := (.inl (M v0 36))) hC dX9_presenting_6 rfl fl_X9_121 g1 rfl ?_
  obtain ⟨g2, h⟩ := gd_s h
  refine aw_iaload (pc' := 10) hC dX9_presenting_9 rfl g2 ?_
  refine aw_iconst (pc' := 11) hC dX9_presenting_10 rfl (by decide) ?_
  refine aw_icmp_eq (tgt := 18) (pc' := 14) hC dX9_presenting_11 (by decide) rfl (fun c3 => ?_) (fun c3 => ?_)
  · replace h := it_p c3 h
    refine aw_iconst (pc' := 19) hC dX9_presenting_18 rfl (by decide) ?_
    refine aw_sub hC [some (.inr (.inr v0))] ⟨rfl, trivial⟩ (Nat.le_of_ble_eq_true rfl) ?_
    exact w_X9_presenting_J19 hC h rfl
  · replace h := it_n c3 h
    refine aw_iconst (pc' := 15) hC dX9_presenting_14 rfl (by decide) ?_
    refine aw_goto (tgt := 19) hC dX9_presenting_15 (by decide) ?_
    refine aw_sub hC [some (.inr (.inr v0))] ⟨rfl, trivial⟩ (Nat.le_of_ble_eq_true rfl) ?_
    exact w_X9_presenting_J19 hC h rfl
-- CoinCircleModel.pricing()V
def fX9_pricing_J19 (sh : AwS) (M : AwM) (v0 : Int) (s0 : Int) (s1 : Int) : Option (AwM) :=
  gd_ (kd_ sh s0 = (0, 9)) (pb (fX9_counts sh M s0 s1) <| u2 fun (x6 : Int) (M7 : AwM) => ((if x6 = 0 then some M7 else gd_ (kd_ sh v0 = (0, 9)) (gd_ ((kd_ sh (M7 v0 28)).1 = 1 ∧ (0 : Int) ≤ (M7 v0 36) ∧ (M7 v0 36) < ((kd_ sh (M7 v0 28)).2 : Int)) (bd_ (up_ M7 (M7 v0 28) (M7 v0 36) (M7 v0 35)) fun (M11 : AwM) => (pb (fX9_reads sh M11 v0 0) <| u1 fun (M14 : AwM) => (gd_ ((kd_ sh (M14 v0 29)).1 = 1 ∧ (0 : Int) ≤ (M14 v0 36) ∧ (M14 v0 36) < ((kd_ sh (M14 v0 29)).2 : Int)) (bd_ (up_ M14 (M14 v0 29) (M14 v0 36) (M14 v0 35)) fun (M16 : AwM) => (some M16)))))))))
def fX9_pricing (sh : AwS) (M : AwM) (v0 : Int) : Option (AwM) :=
  gd_ (kd_ sh v0 = (0, 9)) (gd_ ((kd_ sh (M v0 28)).1 = 1 ∧ (0 : Int) ≤ (M v0 36) ∧ (M v0 36) < ((kd_ sh (M v0 28)).2 : Int)) ((if (M (M v0 28) (M v0 36)) = (-1) then fX9_pricing_J19 sh M v0 v0 0 else fX9_pricing_J19 sh M v0 v0 1)))
set_option maxRecDepth 100000 in
set_option maxHeartbeats 4000000 in
theorem w_X9_pricing_J19 {Γ : AwC} (hC : AOK Γ RX9 cX9_pricing 1 6 0 0 "pricing" none) {sh : AwS} {M : AwM} {v0 : Int} {s0 : Int} {s1 : Int} {M' : AwM} (h : fX9_pricing_J19 sh M v0 s0 s1 = some M') {Q : State → Prop} (hQ : Q = (fin_ Γ 0 0 none sh M')) : AW Γ sh M 0 0 19 [some (.inr (.inr v0))] [.inl s1, .inr (.inr s0)] Q := by
  unfold fX9_pricing_J19 at h
  obtain ⟨g5, h⟩ := gd_s h
  obtain ⟨⟨x6, M7⟩, q4, h⟩ := pb_s h
  replace h := u2_s h
  refine aw_cV (pc' := 22) (k2 := 0) (n2 := 0) (st := []) (stN := [.inl x6]) hC [.inl s1] (mX9_counts q4) lk_X9_355 g5 dX9_pricing_19 rfl rfl (Nat.le_of_ble_eq_true rfl) (Nat.le_of_ble_eq_true rfl) (Nat.le_of_ble_eq_true rfl) rfl (Nat.le_of_ble_eq_true rfl) rfl rfl rfl ?_
  refine aw_if_ne (tgt := 26) (pc' := 25) hC dX9_pricing_22 (by decide) rfl (fun c8 => ?_) (fun c8 => ?_)
  · replace h := it_n c8 h
    refine aw_aload_n (pc' := 27) (i := 0) hC dX9_pricing_26 rfl rfl rfl ?_
    obtain ⟨g9, h⟩ := gd_s h
    refine aw_getfield (pc' := 30) (v := (.inr (.inr (M7 v0 28)))) hC dX9_pricing_27 rfl fl_X9_96 g9 rfl ?_
    refine aw_aload_n (pc' := 31) (i := 0) hC dX9_pricing_30 rfl rfl rfl ?_
    refine aw_getfield (pc' := 34) (v := (.inl (M7 v0 36))) hC dX9_pricing_31 rfl fl_X9_121 g9 rfl ?_
    refine aw_aload_n (pc' := 35) (i := 0) hC dX9_pricing_34 rfl rfl rfl ?_
    refine aw_getfield (pc' := 38) (v := (.inl (M7 v0 35))) hC dX9_pricing_35 rfl fl_X9_118 g9 rfl ?_
    obtain ⟨g10, h⟩ := gd_s h
    obtain ⟨M11, e12, h⟩ := bd_s h
    refine aw_ias (pc' := 39) hC dX9_pricing_38 rfl g10 e12 ?_
    refine aw_aload_n (pc' := 40) (i := 0) hC dX9_pricing_39 rfl rfl rfl ?_
    refine aw_iconst (pc' := 41) hC dX9_pricing_40 rfl (by decide) ?_
    obtain ⟨M14, q13, h⟩ := pb_s h
    replace h := u1_s h
    refine aw_cV (pc' := 44) (k2 := 0) (n2 := 0) (st := []) (stN := []) hC [.inl 0] (mX9_reads q13) lk_X9_377 g9 dX9_pricing_41 rfl rfl (Nat.le_of_ble_eq_true rfl) (Nat.le_of_ble_eq_true rfl) (Nat.le_of_ble_eq_true rfl) rfl (Nat.le_of_ble_eq_true rfl) rfl rfl rfl ?_
    refine aw_aload_n (pc' := 45) (i := 0) hC dX9_pricing_44 rfl rfl rfl ?_
    refine aw_getfield (pc' := 48) (v := (.inr (.inr (M14 v0 29)))) hC dX9_pricing_45 rfl fl_X9_99 g9 rfl ?_
    refine aw_aload_n (pc' := 49) (i := 0) hC dX9_pricing_48 rfl rfl rfl ?_
    refine aw_getfield (pc' := 52) (v := (.inl (M14 v0 36))) hC dX9_pricing_49 rfl fl_X9_121 g9 rfl ?_
    refine aw_aload_n (pc' := 53) (i := 0) hC dX9_pricing_52 rfl rfl rfl ?_
    refine aw_getfield (pc' := 56) (v := (.inl (M14 v0 35))) hC dX9_pricing_53 rfl fl_X9_118 g9 rfl ?_
    obtain ⟨g15, h⟩ := gd_s h
    obtain ⟨M16, e17, h⟩ := bd_s h
    refine aw_ias (pc' := 57) hC dX9_pricing_56 rfl g15 e17 ?_
    cases h
    subst hQ
    exact aw_vret hC dX9_pricing_57 (Nat.le_of_ble_eq_true rfl) (Nat.le_of_ble_eq_true rfl)
  · replace h := it_p c8 h
    cases h
    subst hQ
    exact aw_vret hC dX9_pricing_25 (Nat.le_of_ble_eq_true rfl) (Nat.le_of_ble_eq_true rfl)
set_option maxRecDepth 100000 in
set_option maxHeartbeats 4000000 in
theorem mX9_pricing {sh : AwS} {M : AwM} {v0 : Int} {M' : AwM} (h : fX9_pricing sh M v0 = some M') : AMet yX9_pricing cX9_pricing 1 none 6 0 0 [.inr (.inr v0)] sh M none sh M' := by
  refine amet_of (by decide +kernel) (Nat.le_of_ble_eq_true rfl) (fun Γ hC => ?_)
  replace hC : AOK Γ RX9 cX9_pricing 1 6 0 0 "pricing" none := hC
  unfold fX9_pricing at h
  refine aw_sub hC [some (.inr (.inr v0))] ⟨rfl, trivial⟩ (Nat.le_of_ble_eq_true rfl) ?_
  refine aw_aload_n (pc' := 1) (i := 0) hC dX9_pricing_0 rfl rfl rfl ?_
  refine aw_aload_n (pc' := 2) (i := 0) hC dX9_pricing_1 rfl rfl rfl ?_
  obtain ⟨g1, h⟩ := gd_s h
  refine aw_getfield (pc' := 5) (v := (.inr (.inr (M v0 28)))) hC dX9_pricing_2 rfl fl_X9_96 g1 rfl ?_
  refine aw_aload_n (pc' := 6) (i := 0) hC dX9_pricing_5 rfl rfl rfl ?_
  refine aw_getfield (pc' := 9) (v := (.inl (M v0 36))) hC dX9_pricing_6 rfl fl_X9_121 g1 rfl ?_
  obtain ⟨g2, h⟩ := gd_s h
  refine aw_iaload (pc' := 10) hC dX9_pricing_9 rfl g2 ?_
  refine aw_iconst (pc' := 11) hC dX9_pricing_10 rfl (by decide) ?_
  refine aw_icmp_eq (tgt := 18) (pc' := 14) hC dX9_pricing_11 (by decide) rfl (fun c3 => ?_) (fun c3 => ?_)
  · replace h := it_p c3 h
    refine aw_iconst (pc' := 19) hC dX9_pricing_18 rfl (by decide) ?_
    refine aw_sub hC [some (.inr (.inr v0))] ⟨rfl, trivial⟩ (Nat.le_of_ble_eq_true rfl) ?_
    exact w_X9_pricing_J19 hC h rfl
  · replace h := it_n c3 h
    refine aw_iconst (pc' := 15) hC dX9_pricing_14 rfl (by decide) ?_
    refine aw_goto (tgt := 19) hC dX9_pricing_15 (by decide) ?_
    refine aw_sub hC [some (.inr (.inr v0))] ⟨rfl, trivial⟩ (Nat.le_of_ble_eq_true rfl) ?_
    exact w_X9_pricing_J19 hC h rfl
-- CoinCircleModel.statement()V
def fX9_statement (sh : AwS) (M : AwM) (v0 : Int) : Option (AwM) :=
  gd_ (kd_ sh v0 = (0, 9)) (pb (fX9_lex sh M v0) <| u1 fun (M3 : AwM) => ((if 0 < (M3 v0 8) then some M3 else pb (fX9_isWord sh M3 v0 123581014175598) <| u1 fun (x6 : Int) => ((if x6 = 0 then pb (fX9_isWord sh M3 v0 1668245870) <| u1 fun (x9 : Int) => ((if x9 = 0 then pb (fX9_isWord sh M3 v0 444251202675) <| u1 fun (x12 : Int) => ((if x12 = 0 then pb (fX9_isWord sh M3 v0 1936618850) <| u1 fun (x15 : Int) => ((if x15 = 0 then pb (fX9_isWord sh M3 v0 439720633715) <| u1 fun (x18 : Int) => ((if x18 = 0 then pb (fX9_isWord sh M3 v0 508675192165) <| u1 fun (x21 : Int) => ((if x21 = 0 then pb (fX9_isWord sh M3 v0 8102650225890325619) <| u1 fun (x24 : Int) => ((if x24 = 0 then pb (fX9_isWord sh M3 v0 482955846501) <| u1 fun (x27 : Int) => ((if x27 = 0 then pb (fX9_blame sh M3 v0 1 (M3 v0 4)) <| u1 fun (M30 : AwM) => (some M30) else pb (fX9_pricing sh M3 v0) <| u1 fun (M32 : AwM) => (some M32))) else pb (fX9_presenting sh M3 v0) <| u1 fun (M34 : AwM) => (some M34))) else pb (fX9_telling sh M3 v0 0) <| u1 fun (M36 : AwM) => (some M36))) else pb (fX9_telling sh M3 v0 1) <| u1 fun (M38 : AwM) => (some M38))) else pb (fX9_snubbing sh M3 v0) <| u1 fun (M40 : AwM) => (some M40))) else pb (fX9_waring sh M3 v0) <| u1 fun (M42 : AwM) => (some M42))) else pb (fX9_coining sh M3 v0) <| u1 fun (M44 : AwM) => (some M44))) else pb (fX9_personing sh M3 v0) <| u1 fun (M46 : AwM) => (some M46))))))
set_option maxRecDepth 100000 in
set_option maxHeartbeats 4000000 in
theorem mX9_statement {sh : AwS} {M : AwM} {v0 : Int} {M' : AwM} (h : fX9_statement sh M v0 = some M') : AMet yX9_statement cX9_statement 1 none 7 0 0 [.inr (.inr v0)] sh M none sh M' := by
  refine amet_of (by decide +kernel) (Nat.le_of_ble_eq_true rfl) (fun Γ hC => ?_)
  replace hC : AOK Γ RX9 cX9_statement 1 7 0 0 "statement" none := hC
  unfold fX9_statement at h
  refine aw_sub hC [some (.inr (.inr v0))] ⟨rfl, trivial⟩ (Nat.le_of_ble_eq_true rfl) ?_
  refine aw_aload_n (pc' := 1) (i := 0) hC dX9_statement_0 rfl rfl rfl ?_
  obtain ⟨g2, h⟩ := gd_s h
  obtain ⟨M3, q1, h⟩ := pb_s h
  replace h := u1_s h
  refine aw_cV (pc' := 4) (k2 := 0) (n2 := 0) (st := []) (stN := []) hC [] (mX9_lex q1) lk_X9_251 g2 dX9_statement_1 rfl rfl (Nat.le_of_ble_eq_true rfl) (Nat.le_of_ble_eq_true rfl) (Nat.le_of_ble_eq_true rfl) rfl (Nat.le_of_ble_eq_true rfl) rfl rfl rfl ?_
  refine aw_aload_n (pc' := 5) (i := 0) hC dX9_statement_4 rfl rfl rfl ?_
  refine aw_getfield (pc' := 8) (v := (.inl (M3 v0 8))) hC dX9_statement_5 rfl fl_X9_36 g2 rfl ?_
  refine aw_if_le (tgt := 12) (pc' := 11) hC dX9_statement_8 (by decide) rfl (fun c4 => ?_) (fun c4 => ?_)
  · replace h := it_n c4 h
    refine aw_aload_n (pc' := 13) (i := 0) hC dX9_statement_12 rfl rfl rfl ?_
    refine aw_ldc2 (pc' := 16) (v := 123581014175598) hC dX9_statement_13 rfl ck_X9_260 (by unfold I64; omega) ?_
    obtain ⟨x6, q5, h⟩ := pb_s h
    replace h := u1_s h
    refine aw_cV (pc' := 19) (k2 := 0) (n2 := 0) (st := []) (stN := [.inl x6]) hC [.inr (.inl 123581014175598)] (mX9_isWord q5) lk_X9_330 g2 dX9_statement_16 rfl rfl (Nat.le_of_ble_eq_true rfl) (Nat.le_of_ble_eq_true rfl) (Nat.le_of_ble_eq_true rfl) rfl (Nat.le_of_ble_eq_true rfl) rfl rfl rfl ?_
    refine aw_if_eq (tgt := 29) (pc' := 22) hC dX9_statement_19 (by decide) rfl (fun c7 => ?_) (fun c7 => ?_)
    · replace h := it_p c7 h
      refine aw_aload_n (pc' := 30) (i := 0) hC dX9_statement_29 rfl rfl rfl ?_
      refine aw_ldc2 (pc' := 33) (v := 1668245870) hC dX9_statement_30 rfl ck_X9_264 (by unfold I64; omega) ?_
      obtain ⟨x9, q8, h⟩ := pb_s h
      replace h := u1_s h
      refine aw_cV (pc' := 36) (k2 := 0) (n2 := 0) (st := []) (stN := [.inl x9]) hC [.inr (.inl 1668245870)] (mX9_isWord q8) lk_X9_330 g2 dX9_statement_33 rfl rfl (Nat.le_of_ble_eq_true rfl) (Nat.le_of_ble_eq_true rfl) (Nat.le_of_ble_eq_true rfl) rfl (Nat.le_of_ble_eq_true rfl) rfl rfl rfl ?_
      refine aw_if_eq (tgt := 46) (pc' := 39) hC dX9_statement_36 (by decide) rfl (fun c10 => ?_) (fun c10 => ?_)
      · replace h := it_p c10 h
        refine aw_aload_n (pc' := 47) (i := 0) hC dX9_statement_46 rfl rfl rfl ?_
        refine aw_ldc2 (pc' := 50) (v := 444251202675) hC dX9_statement_47 rfl ck_X9_272 (by unfold I64; omega) ?_
        obtain ⟨x12, q11, h⟩ := pb_s h
        replace h := u1_s h
        refine aw_cV (pc' := 53) (k2 := 0) (n2 := 0) (st := []) (stN := [.inl x12]) hC [.inr (.inl 444251202675)] (mX9_isWord q11) lk_X9_330 g2 dX9_statement_50 rfl rfl (Nat.le_of_ble_eq_true rfl) (Nat.le_of_ble_eq_true rfl) (Nat.le_of_ble_eq_true rfl) rfl (Nat.le_of_ble_eq_true rfl) rfl rfl rfl ?_
        refine aw_if_eq (tgt := 63) (pc' := 56) hC dX9_statement_53 (by decide) rfl (fun c13 => ?_) (fun c13 => ?_)
        · replace h := it_p c13 h
          refine aw_aload_n (pc' := 64) (i := 0) hC dX9_statement_63 rfl rfl rfl ?_
          refine aw_ldc2 (pc' := 67) (v := 1936618850) hC dX9_statement_64 rfl ck_X9_276 (by unfold I64; omega) ?_
          obtain ⟨x15, q14, h⟩ := pb_s h
          replace h := u1_s h
          refine aw_cV (pc' := 70) (k2 := 0) (n2 := 0) (st := []) (stN := [.inl x15]) hC [.inr (.inl 1936618850)] (mX9_isWord q14) lk_X9_330 g2 dX9_statement_67 rfl rfl (Nat.le_of_ble_eq_true rfl) (Nat.le_of_ble_eq_true rfl) (Nat.le_of_ble_eq_true rfl) rfl (Nat.le_of_ble_eq_true rfl) rfl rfl rfl ?_
          refine aw_if_eq (tgt := 80) (pc' := 73) hC dX9_statement_70 (by decide) rfl (fun c16 => ?_) (fun c16 => ?_)
          · replace h := it_p c16 h
            refine aw_aload_n (pc' := 81) (i := 0) hC dX9_statement_80 rfl rfl rfl ?_
            refine aw_ldc2 (pc' := 84) (v := 439720633715) hC dX9_statement_81 rfl ck_X9_278 (by unfold I64; omega) ?_
            obtain ⟨x18, q17, h⟩ := pb_s h
            replace h := u1_s h
            refine aw_cV (pc' := 87) (k2 := 0) (n2 := 0) (st := []) (stN := [.inl x18]) hC [.inr (.inl 439720633715)] (mX9_isWord q17) lk_X9_330 g2 dX9_statement_84 rfl rfl (Nat.le_of_ble_eq_true rfl) (Nat.le_of_ble_eq_true rfl) (Nat.le_of_ble_eq_true rfl) rfl (Nat.le_of_ble_eq_true rfl) rfl rfl rfl ?_
            refine aw_if_eq (tgt := 98) (pc' := 90) hC dX9_statement_87 (by decide) rfl (fun c19 => ?_) (fun c19 => ?_)
            · replace h := it_p c19 h
              refine aw_aload_n (pc' := 99) (i := 0) hC dX9_statement_98 rfl rfl rfl ?_
              refine aw_ldc2 (pc' := 102) (v := 508675192165) hC dX9_statement_99 rfl ck_X9_280 (by unfold I64; omega) ?_
              obtain ⟨x21, q20, h⟩ := pb_s h
              replace h := u1_s h
              refine aw_cV (pc' := 105) (k2 := 0) (n2 := 0) (st := []) (stN := [.inl x21]) hC [.inr (.inl 508675192165)] (mX9_isWord q20) lk_X9_330 g2 dX9_statement_102 rfl rfl (Nat.le_of_ble_eq_true rfl) (Nat.le_of_ble_eq_true rfl) (Nat.le_of_ble_eq_true rfl) rfl (Nat.le_of_ble_eq_true rfl) rfl rfl rfl ?_
              refine aw_if_eq (tgt := 116) (pc' := 108) hC dX9_statement_105 (by decide) rfl (fun c22 => ?_) (fun c22 => ?_)
              · replace h := it_p c22 h
                refine aw_aload_n (pc' := 117) (i := 0) hC dX9_statement_116 rfl rfl rfl ?_
                refine aw_ldc2 (pc' := 120) (v := 8102650225890325619) hC dX9_statement_117 rfl ck_X9_282 (by unfold I64; omega) ?_
                obtain ⟨x24, q23, h⟩ := pb_s h
                replace h := u1_s h
                refine aw_cV (pc' := 123) (k2 := 0) (n2 := 0) (st := []) (stN := [.inl x24]) hC [.inr (.inl 8102650225890325619)] (mX9_isWord q23) lk_X9_330 g2 dX9_statement_120 rfl rfl (Nat.le_of_ble_eq_true rfl) (Nat.le_of_ble_eq_true rfl) (Nat.le_of_ble_eq_true rfl) rfl (Nat.le_of_ble_eq_true rfl) rfl rfl rfl ?_
                refine aw_if_eq (tgt := 133) (pc' := 126) hC dX9_statement_123 (by decide) rfl (fun c25 => ?_) (fun c25 => ?_)
                · replace h := it_p c25 h
                  refine aw_aload_n (pc' := 134) (i := 0) hC dX9_statement_133 rfl rfl rfl ?_
                  refine aw_ldc2 (pc' := 137) (v := 482955846501) hC dX9_statement_134 rfl ck_X9_284 (by unfold I64; omega) ?_
                  obtain ⟨x27, q26, h⟩ := pb_s h
                  replace h := u1_s h
                  refine aw_cV (pc' := 140) (k2 := 0) (n2 := 0) (st := []) (stN := [.inl x27]) hC [.inr (.inl 482955846501)] (mX9_isWord q26) lk_X9_330 g2 dX9_statement_137 rfl rfl (Nat.le_of_ble_eq_true rfl) (Nat.le_of_ble_eq_true rfl) (Nat.le_of_ble_eq_true rfl) rfl (Nat.le_of_ble_eq_true rfl) rfl rfl rfl ?_
                  refine aw_if_eq (tgt := 150) (pc' := 143) hC dX9_statement_140 (by decide) rfl (fun c28 => ?_) (fun c28 => ?_)
                  · replace h := it_p c28 h
                    refine aw_aload_n (pc' := 151) (i := 0) hC dX9_statement_150 rfl rfl rfl ?_
                    refine aw_iconst (pc' := 152) hC dX9_statement_151 rfl (by decide) ?_
                    refine aw_aload_n (pc' := 153) (i := 0) hC dX9_statement_152 rfl rfl rfl ?_
                    refine aw_getfield (pc' := 156) (v := (.inl (M3 v0 4))) hC dX9_statement_153 rfl fl_X9_23 g2 rfl ?_
                    obtain ⟨M30, q29, h⟩ := pb_s h
                    replace h := u1_s h
                    refine aw_cV (pc' := 159) (k2 := 0) (n2 := 0) (st := []) (stN := []) hC [.inl 1, .inl (M3 v0 4)] (mX9_blame q29) lk_X9_236 g2 dX9_statement_156 rfl rfl (Nat.le_of_ble_eq_true rfl) (Nat.le_of_ble_eq_true rfl) (Nat.le_of_ble_eq_true rfl) rfl (Nat.le_of_ble_eq_true rfl) rfl rfl rfl ?_
                    cases h
                    exact aw_vret hC dX9_statement_159 (Nat.le_of_ble_eq_true rfl) (Nat.le_of_ble_eq_true rfl)
                  · replace h := it_n c28 h
                    refine aw_aload_n (pc' := 144) (i := 0) hC dX9_statement_143 rfl rfl rfl ?_
                    obtain ⟨M32, q31, h⟩ := pb_s h
                    replace h := u1_s h
                    refine aw_cV (pc' := 147) (k2 := 0) (n2 := 0) (st := []) (stN := []) hC [] (mX9_pricing q31) lk_X9_399 g2 dX9_statement_144 rfl rfl (Nat.le_of_ble_eq_true rfl) (Nat.le_of_ble_eq_true rfl) (Nat.le_of_ble_eq_true rfl) rfl (Nat.le_of_ble_eq_true rfl) rfl rfl rfl ?_
                    refine aw_goto (tgt := 159) hC dX9_statement_147 (by decide) ?_
                    cases h
                    exact aw_vret hC dX9_statement_159 (Nat.le_of_ble_eq_true rfl) (Nat.le_of_ble_eq_true rfl)
                · replace h := it_n c25 h
                  refine aw_aload_n (pc' := 127) (i := 0) hC dX9_statement_126 rfl rfl rfl ?_
                  obtain ⟨M34, q33, h⟩ := pb_s h
                  replace h := u1_s h
                  refine aw_cV (pc' := 130) (k2 := 0) (n2 := 0) (st := []) (stN := []) hC [] (mX9_presenting q33) lk_X9_396 g2 dX9_statement_127 rfl rfl (Nat.le_of_ble_eq_true rfl) (Nat.le_of_ble_eq_true rfl) (Nat.le_of_ble_eq_true rfl) rfl (Nat.le_of_ble_eq_true rfl) rfl rfl rfl ?_
                  refine aw_goto (tgt := 159) hC dX9_statement_130 (by decide) ?_
                  cases h
                  exact aw_vret hC dX9_statement_159 (Nat.le_of_ble_eq_true rfl) (Nat.le_of_ble_eq_true rfl)
              · replace h := it_n c22 h
                refine aw_aload_n (pc' := 109) (i := 0) hC dX9_statement_108 rfl rfl rfl ?_
                refine aw_iconst (pc' := 110) hC dX9_statement_109 rfl (by decide) ?_
                obtain ⟨M36, q35, h⟩ := pb_s h
                replace h := u1_s h
                refine aw_cV (pc' := 113) (k2 := 0) (n2 := 0) (st := []) (stN := []) hC [.inl 0] (mX9_telling q35) lk_X9_393 g2 dX9_statement_110 rfl rfl (Nat.le_of_ble_eq_true rfl) (Nat.le_of_ble_eq_true rfl) (Nat.le_of_ble_eq_true rfl) rfl (Nat.le_of_ble_eq_true rfl) rfl rfl rfl ?_
                refine aw_goto (tgt := 159) hC dX9_statement_113 (by decide) ?_
                cases h
                exact aw_vret hC dX9_statement_159 (Nat.le_of_ble_eq_true rfl) (Nat.le_of_ble_eq_true rfl)
            · replace h := it_n c19 h
              refine aw_aload_n (pc' := 91) (i := 0) hC dX9_statement_90 rfl rfl rfl ?_
              refine aw_iconst (pc' := 92) hC dX9_statement_91 rfl (by decide) ?_
              obtain ⟨M38, q37, h⟩ := pb_s h
              replace h := u1_s h
              refine aw_cV (pc' := 95) (k2 := 0) (n2 := 0) (st := []) (stN := []) hC [.inl 1] (mX9_telling q37) lk_X9_393 g2 dX9_statement_92 rfl rfl (Nat.le_of_ble_eq_true rfl) (Nat.le_of_ble_eq_true rfl) (Nat.le_of_ble_eq_true rfl) rfl (Nat.le_of_ble_eq_true rfl) rfl rfl rfl ?_
              refine aw_goto (tgt := 159) hC dX9_statement_95 (by decide) ?_
              cases h
              exact aw_vret hC dX9_statement_159 (Nat.le_of_ble_eq_true rfl) (Nat.le_of_ble_eq_true rfl)
          · replace h := it_n c16 h
            refine aw_aload_n (pc' := 74) (i := 0) hC dX9_statement_73 rfl rfl rfl ?_
            obtain ⟨M40, q39, h⟩ := pb_s h
            replace h := u1_s h
            refine aw_cV (pc' := 77) (k2 := 0) (n2 := 0) (st := []) (stN := []) hC [] (mX9_snubbing q39) lk_X9_390 g2 dX9_statement_74 rfl rfl (Nat.le_of_ble_eq_true rfl) (Nat.le_of_ble_eq_true rfl) (Nat.le_of_ble_eq_true rfl) rfl (Nat.le_of_ble_eq_true rfl) rfl rfl rfl ?_
            refine aw_goto (tgt := 159) hC dX9_statement_77 (by decide) ?_
            cases h
            exact aw_vret hC dX9_statement_159 (Nat.le_of_ble_eq_true rfl) (Nat.le_of_ble_eq_true rfl)
        · replace h := it_n c13 h
          refine aw_aload_n (pc' := 57) (i := 0) hC dX9_statement_56 rfl rfl rfl ?_
          obtain ⟨M42, q41, h⟩ := pb_s h
          replace h := u1_s h
          refine aw_cV (pc' := 60) (k2 := 0) (n2 := 0) (st := []) (stN := []) hC [] (mX9_waring q41) lk_X9_387 g2 dX9_statement_57 rfl rfl (Nat.le_of_ble_eq_true rfl) (Nat.le_of_ble_eq_true rfl) (Nat.le_of_ble_eq_true rfl) rfl (Nat.le_of_ble_eq_true rfl) rfl rfl rfl ?_
          refine aw_goto (tgt := 159) hC dX9_statement_60 (by decide) ?_
          cases h
          exact aw_vret hC dX9_statement_159 (Nat.le_of_ble_eq_true rfl) (Nat.le_of_ble_eq_true rfl)
      · replace h := it_n c10 h
        refine aw_aload_n (pc' := 40) (i := 0) hC dX9_statement_39 rfl rfl rfl ?_
        obtain ⟨M44, q43, h⟩ := pb_s h
        replace h := u1_s h
        refine aw_cV (pc' := 43) (k2 := 0) (n2 := 0) (st := []) (stN := []) hC [] (mX9_coining q43) lk_X9_384 g2 dX9_statement_40 rfl rfl (Nat.le_of_ble_eq_true rfl) (Nat.le_of_ble_eq_true rfl) (Nat.le_of_ble_eq_true rfl) rfl (Nat.le_of_ble_eq_true rfl) rfl rfl rfl ?_
        refine aw_goto (tgt := 159) hC dX9_statement_43 (by decide) ?_
        cases h
        exact aw_vret hC dX9_statement_159 (Nat.le_of_ble_eq_true rfl) (Nat.le_of_ble_eq_true rfl)
    · replace h := it_n c7 h
      refine aw_aload_n (pc' := 23) (i := 0) hC dX9_statement_22 rfl rfl rfl ?_
      obtain ⟨M46, q45, h⟩ := pb_s h
      replace h := u1_s h
      refine aw_cV (pc' := 26) (k2 := 0) (n2 := 0) (st := []) (stN := []) hC [] (mX9_personing q45) lk_X9_381 g2 dX9_statement_23 rfl rfl (Nat.le_of_ble_eq_true rfl) (Nat.le_of_ble_eq_true rfl) (Nat.le_of_ble_eq_true rfl) rfl (Nat.le_of_ble_eq_true rfl) rfl rfl rfl ?_
      refine aw_goto (tgt := 159) hC dX9_statement_26 (by decide) ?_
      cases h
      exact aw_vret hC dX9_statement_159 (Nat.le_of_ble_eq_true rfl) (Nat.le_of_ble_eq_true rfl)
  · replace h := it_p c4 h
    cases h
    exact aw_vret hC dX9_statement_11 (Nat.le_of_ble_eq_true rfl) (Nat.le_of_ble_eq_true rfl)
-- CoinCircleModel.finishes(I)V
def fX9_finishes_L17 (sh : AwS) (M : AwM) (v0 : Int) (v1 : Int) (v2 : Int) : Option ((Int) ⊕ (Int)) :=
  gd_ (kd_ sh v0 = (0, 9)) ((if v2 < (M v0 2) then gd_ ((kd_ sh (M v0 0)).1 = 1 ∧ (0 : Int) ≤ v2 ∧ v2 < ((kd_ sh (M v0 0)).2 : Int)) ((if (M (M v0 0) v2) = 32 then some (.inl (w32 (v2 + 1))) else (if (M (M v0 0) v2) = 10 then some (.inl (w32 (v2 + 1))) else some (.inr v2)))) else some (.inr v2)))
def p_X9_finishes_L17 (Γ : AwC) (sh : AwS) (M : AwM) (v0 : Int) (v1 : Int) (Q : State → Prop) (s : Int) : Prop := AW Γ sh M 0 0 17 [some (.inr (.inr v0)), some (.inl v1), some (.inl (s))] [] Q
def x_X9_finishes_L17 (Γ : AwC) (sh : AwS) (M : AwM) (v0 : Int) (v1 : Int) (Q : State → Prop) : (Int) → Prop := (fun (t : Int) => AW Γ sh M 0 0 53 [some (.inr (.inr v0)), some (.inl v1), some (.inl (t))] [] Q)
def fX9_finishes_J53 (sh : AwS) (M : AwM) (v0 : Int) (v1 : Int) (v2 : Int) : Option (AwM) :=
  gd_ (kd_ sh v0 = (0, 9)) (pb (fX9_isSign sh M v0 59) <| u1 fun (x13 : Int) => ((if x13 = 0 then pb (fX9_must sh M v0 59) <| u1 fun (M16 : AwM) => (some M16) else (if v1 = 80 then (if v2 < (M v0 2) then pb (fX9_blame sh M v0 6 v2) <| u1 fun (M24 : AwM) => (pb (fX9_must sh M24 v0 59) <| u1 fun (M26 : AwM) => (some M26)) else pb (fX9_must sh M v0 59) <| u1 fun (M22 : AwM) => (some M22)) else pb (fX9_must sh M v0 59) <| u1 fun (M19 : AwM) => (some M19)))))
def fX9_finishes (sh : AwS) (M : AwM) (v0 : Int) (v1 : Int) : Option (AwM) :=
  gd_ (kd_ sh v0 = (0, 9)) (pb (fX9_lex sh M v0) <| u1 fun (M3 : AwM) => ((if 0 < (M3 v0 8) then some M3 else pb (lp (u1 (fX9_finishes_L17 sh M3 v0 v1)) FU (M3 v0 5)) (u1 (fun (tq10 : Int) => fX9_finishes_J53 sh M3 v0 v1 tq10)))))
set_option maxRecDepth 100000 in
set_option maxHeartbeats 4000000 in
theorem w_X9_finishes_L17 {Γ : AwC} (hC : AOK Γ RX9 cX9_finishes 3 4 0 0 "finishes" none) {sh : AwS} {M : AwM} {v0 : Int} {v1 : Int} {Q : State → Prop} : ∀ s r, u1 (fX9_finishes_L17 sh M v0 v1) s = some r → (∀ s', r = .inl s' → p_X9_finishes_L17 Γ sh M v0 v1 Q s') → (∀ t, r = .inr t → x_X9_finishes_L17 Γ sh M v0 v1 Q t) → p_X9_finishes_L17 Γ sh M v0 v1 Q s := by
  intro v2 r h hL hX
  replace h := u1_s h
  unfold fX9_finishes_L17 at h
  show AW Γ sh M 0 0 17 [some (.inr (.inr v0)), some (.inl v1), some (.inl v2)] [] Q
  refine aw_iload_n (pc' := 18) (i := 2) hC dX9_finishes_17 rfl rfl rfl ?_
  refine aw_aload_n (pc' := 19) (i := 0) hC dX9_finishes_18 rfl rfl rfl ?_
  obtain ⟨g5, h⟩ := gd_s h
  refine aw_getfield (pc' := 22) (v := (.inl (M v0 2))) hC dX9_finishes_19 rfl fl_X9_17 g5 rfl ?_
  refine aw_icmp_ge (tgt := 53) (pc' := 25) hC dX9_finishes_22 (by decide) rfl (fun c6 => ?_) (fun c6 => ?_)
  · replace h := it_n c6 h
    refine aw_sub hC [some (.inr (.inr v0)), some (.inl v1), some (.inl v2)] ⟨rfl, ⟨rfl, ⟨rfl, trivial⟩⟩⟩ (Nat.le_of_ble_eq_true rfl) ?_
    cases h
    exact hX _ rfl
  · replace h := it_p c6 h
    refine aw_aload_n (pc' := 26) (i := 0) hC dX9_finishes_25 rfl rfl rfl ?_
    refine aw_getfield (pc' := 29) (v := (.inr (.inr (M v0 0)))) hC dX9_finishes_26 rfl fl_X9_7 g5 rfl ?_
    refine aw_iload_n (pc' := 30) (i := 2) hC dX9_finishes_29 rfl rfl rfl ?_
    obtain ⟨g7, h⟩ := gd_s h
    refine aw_iaload (pc' := 31) hC dX9_finishes_30 rfl g7 ?_
    refine aw_bipush (pc' := 33) hC dX9_finishes_31 rfl (by decide) ?_
    refine aw_icmp_eq (tgt := 47) (pc' := 36) hC dX9_finishes_33 (by decide) rfl (fun c8 => ?_) (fun c8 => ?_)
    · replace h := it_p c8 h
      refine aw_iinc (pc' := 50) (ls' := [some (.inr (.inr v0)), some (.inl v1), some (.inl (w32 (v2 + 1)))]) hC dX9_finishes_47 rfl rfl rfl rfl ?_
      refine aw_goto (tgt := 17) hC dX9_finishes_50 (by decide) ?_
      refine aw_sub hC [some (.inr (.inr v0)), some (.inl v1), some (.inl (w32 (v2 + 1)))] ⟨rfl, ⟨rfl, ⟨rfl, trivial⟩⟩⟩ (Nat.le_of_ble_eq_true rfl) ?_
      cases h
      exact hL _ rfl
    · replace h := it_n c8 h
      refine aw_aload_n (pc' := 37) (i := 0) hC dX9_finishes_36 rfl rfl rfl ?_
      refine aw_getfield (pc' := 40) (v := (.inr (.inr (M v0 0)))) hC dX9_finishes_37 rfl fl_X9_7 g5 rfl ?_
      refine aw_iload_n (pc' := 41) (i := 2) hC dX9_finishes_40 rfl rfl rfl ?_
      refine aw_iaload (pc' := 42) hC dX9_finishes_41 rfl g7 ?_
      refine aw_bipush (pc' := 44) hC dX9_finishes_42 rfl (by decide) ?_
      refine aw_icmp_ne (tgt := 53) (pc' := 47) hC dX9_finishes_44 (by decide) rfl (fun c9 => ?_) (fun c9 => ?_)
      · replace h := it_n c9 h
        refine aw_sub hC [some (.inr (.inr v0)), some (.inl v1), some (.inl v2)] ⟨rfl, ⟨rfl, ⟨rfl, trivial⟩⟩⟩ (Nat.le_of_ble_eq_true rfl) ?_
        cases h
        exact hX _ rfl
      · replace h := it_p c9 h
        refine aw_iinc (pc' := 50) (ls' := [some (.inr (.inr v0)), some (.inl v1), some (.inl (w32 (v2 + 1)))]) hC dX9_finishes_47 rfl rfl rfl rfl ?_
        refine aw_goto (tgt := 17) hC dX9_finishes_50 (by decide) ?_
        refine aw_sub hC [some (.inr (.inr v0)), some (.inl v1), some (.inl (w32 (v2 + 1)))] ⟨rfl, ⟨rfl, ⟨rfl, trivial⟩⟩⟩ (Nat.le_of_ble_eq_true rfl) ?_
        cases h
        exact hL _ rfl
set_option maxRecDepth 100000 in
set_option maxHeartbeats 4000000 in
theorem w_X9_finishes_J53 {Γ : AwC} (hC : AOK Γ RX9 cX9_finishes 3 4 0 0 "finishes" none) {sh : AwS} {M : AwM} {v0 : Int} {v1 : Int} {v2 : Int} {M' : AwM} (h : fX9_finishes_J53 sh M v0 v1 v2 = some M') {Q : State → Prop} (hQ : Q = (fin_ Γ 0 0 none sh M')) : AW Γ sh M 0 0 53 [some (.inr (.inr v0)), some (.inl v1), some (.inl v2)] [] Q := by
  unfold fX9_finishes_J53 at h
  refine aw_aload_n (pc' := 54) (i := 0) hC dX9_finishes_53 rfl rfl rfl ?_
  refine aw_bipush (pc' := 56) hC dX9_finishes_54 rfl (by decide) ?_
  obtain ⟨g12, h⟩ := gd_s h
  obtain ⟨x13, q11, h⟩ := pb_s h
  replace h := u1_s h
  refine aw_cV (pc' := 59) (k2 := 0) (n2 := 0) (st := []) (stN := [.inl x13]) hC [.inl 59] (mX9_isSign q11) lk_X9_254 g12 dX9_finishes_56 rfl rfl (Nat.le_of_ble_eq_true rfl) (Nat.le_of_ble_eq_true rfl) (Nat.le_of_ble_eq_true rfl) rfl (Nat.le_of_ble_eq_true rfl) rfl rfl rfl ?_
  refine aw_if_eq (tgt := 83) (pc' := 62) hC dX9_finishes_59 (by decide) rfl (fun c14 => ?_) (fun c14 => ?_)
  · replace h := it_p c14 h
    refine aw_aload_n (pc' := 84) (i := 0) hC dX9_finishes_83 rfl rfl rfl ?_
    refine aw_bipush (pc' := 86) hC dX9_finishes_84 rfl (by decide) ?_
    obtain ⟨M16, q15, h⟩ := pb_s h
    replace h := u1_s h
    refine aw_cV (pc' := 89) (k2 := 0) (n2 := 0) (st := []) (stN := []) hC [.inl 59] (mX9_must q15) lk_X9_402 g12 dX9_finishes_86 rfl rfl (Nat.le_of_ble_eq_true rfl) (Nat.le_of_ble_eq_true rfl) (Nat.le_of_ble_eq_true rfl) rfl (Nat.le_of_ble_eq_true rfl) rfl rfl rfl ?_
    cases h
    subst hQ
    exact aw_vret hC dX9_finishes_89 (Nat.le_of_ble_eq_true rfl) (Nat.le_of_ble_eq_true rfl)
  · replace h := it_n c14 h
    refine aw_iload_n (pc' := 63) (i := 1) hC dX9_finishes_62 rfl rfl rfl ?_
    refine aw_bipush (pc' := 65) hC dX9_finishes_63 rfl (by decide) ?_
    refine aw_icmp_ne (tgt := 83) (pc' := 68) hC dX9_finishes_65 (by decide) rfl (fun c17 => ?_) (fun c17 => ?_)
    · replace h := it_n c17 h
      refine aw_aload_n (pc' := 84) (i := 0) hC dX9_finishes_83 rfl rfl rfl ?_
      refine aw_bipush (pc' := 86) hC dX9_finishes_84 rfl (by decide) ?_
      obtain ⟨M19, q18, h⟩ := pb_s h
      replace h := u1_s h
      refine aw_cV (pc' := 89) (k2 := 0) (n2 := 0) (st := []) (stN := []) hC [.inl 59] (mX9_must q18) lk_X9_402 g12 dX9_finishes_86 rfl rfl (Nat.le_of_ble_eq_true rfl) (Nat.le_of_ble_eq_true rfl) (Nat.le_of_ble_eq_true rfl) rfl (Nat.le_of_ble_eq_true rfl) rfl rfl rfl ?_
      cases h
      subst hQ
      exact aw_vret hC dX9_finishes_89 (Nat.le_of_ble_eq_true rfl) (Nat.le_of_ble_eq_true rfl)
    · replace h := it_p c17 h
      refine aw_iload_n (pc' := 69) (i := 2) hC dX9_finishes_68 rfl rfl rfl ?_
      refine aw_aload_n (pc' := 70) (i := 0) hC dX9_finishes_69 rfl rfl rfl ?_
      refine aw_getfield (pc' := 73) (v := (.inl (M v0 2))) hC dX9_finishes_70 rfl fl_X9_17 g12 rfl ?_
      refine aw_icmp_ge (tgt := 83) (pc' := 76) hC dX9_finishes_73 (by decide) rfl (fun c20 => ?_) (fun c20 => ?_)
      · replace h := it_n c20 h
        refine aw_aload_n (pc' := 84) (i := 0) hC dX9_finishes_83 rfl rfl rfl ?_
        refine aw_bipush (pc' := 86) hC dX9_finishes_84 rfl (by decide) ?_
        obtain ⟨M22, q21, h⟩ := pb_s h
        replace h := u1_s h
        refine aw_cV (pc' := 89) (k2 := 0) (n2 := 0) (st := []) (stN := []) hC [.inl 59] (mX9_must q21) lk_X9_402 g12 dX9_finishes_86 rfl rfl (Nat.le_of_ble_eq_true rfl) (Nat.le_of_ble_eq_true rfl) (Nat.le_of_ble_eq_true rfl) rfl (Nat.le_of_ble_eq_true rfl) rfl rfl rfl ?_
        cases h
        subst hQ
        exact aw_vret hC dX9_finishes_89 (Nat.le_of_ble_eq_true rfl) (Nat.le_of_ble_eq_true rfl)
      · replace h := it_p c20 h
        refine aw_aload_n (pc' := 77) (i := 0) hC dX9_finishes_76 rfl rfl rfl ?_
        refine aw_bipush (pc' := 79) hC dX9_finishes_77 rfl (by decide) ?_
        refine aw_iload_n (pc' := 80) (i := 2) hC dX9_finishes_79 rfl rfl rfl ?_
        obtain ⟨M24, q23, h⟩ := pb_s h
        replace h := u1_s h
        refine aw_cV (pc' := 83) (k2 := 0) (n2 := 0) (st := []) (stN := []) hC [.inl 6, .inl v2] (mX9_blame q23) lk_X9_236 g12 dX9_finishes_80 rfl rfl (Nat.le_of_ble_eq_true rfl) (Nat.le_of_ble_eq_true rfl) (Nat.le_of_ble_eq_true rfl) rfl (Nat.le_of_ble_eq_true rfl) rfl rfl rfl ?_
        refine aw_aload_n (pc' := 84) (i := 0) hC dX9_finishes_83 rfl rfl rfl ?_
        refine aw_bipush (pc' := 86) hC dX9_finishes_84 rfl (by decide) ?_
        obtain ⟨M26, q25, h⟩ := pb_s h
        replace h := u1_s h
        refine aw_cV (pc' := 89) (k2 := 0) (n2 := 0) (st := []) (stN := []) hC [.inl 59] (mX9_must q25) lk_X9_402 g12 dX9_finishes_86 rfl rfl (Nat.le_of_ble_eq_true rfl) (Nat.le_of_ble_eq_true rfl) (Nat.le_of_ble_eq_true rfl) rfl (Nat.le_of_ble_eq_true rfl) rfl rfl rfl ?_
        cases h
        subst hQ
        exact aw_vret hC dX9_finishes_89 (Nat.le_of_ble_eq_true rfl) (Nat.le_of_ble_eq_true rfl)
set_option maxRecDepth 100000 in
set_option maxHeartbeats 4000000 in
theorem mX9_finishes {sh : AwS} {M : AwM} {v0 : Int} {v1 : Int} {M' : AwM} (h : fX9_finishes sh M v0 v1 = some M') : AMet yX9_finishes cX9_finishes 3 none 4 0 0 [.inr (.inr v0), .inl v1] sh M none sh M' := by
  refine amet_of (by decide +kernel) (Nat.le_of_ble_eq_true rfl) (fun Γ hC => ?_)
  replace hC : AOK Γ RX9 cX9_finishes 3 4 0 0 "finishes" none := hC
  unfold fX9_finishes at h
  refine aw_sub hC [some (.inr (.inr v0)), some (.inl v1), none] ⟨rfl, ⟨rfl, trivial⟩⟩ (Nat.le_of_ble_eq_true rfl) ?_
  refine aw_aload_n (pc' := 1) (i := 0) hC dX9_finishes_0 rfl rfl rfl ?_
  obtain ⟨g2, h⟩ := gd_s h
  obtain ⟨M3, q1, h⟩ := pb_s h
  replace h := u1_s h
  refine aw_cV (pc' := 4) (k2 := 0) (n2 := 0) (st := []) (stN := []) hC [] (mX9_lex q1) lk_X9_251 g2 dX9_finishes_1 rfl rfl (Nat.le_of_ble_eq_true rfl) (Nat.le_of_ble_eq_true rfl) (Nat.le_of_ble_eq_true rfl) rfl (Nat.le_of_ble_eq_true rfl) rfl rfl rfl ?_
  refine aw_aload_n (pc' := 5) (i := 0) hC dX9_finishes_4 rfl rfl rfl ?_
  refine aw_getfield (pc' := 8) (v := (.inl (M3 v0 8))) hC dX9_finishes_5 rfl fl_X9_36 g2 rfl ?_
  refine aw_if_le (tgt := 12) (pc' := 11) hC dX9_finishes_8 (by decide) rfl (fun c4 => ?_) (fun c4 => ?_)
  · replace h := it_n c4 h
    refine aw_aload_n (pc' := 13) (i := 0) hC dX9_finishes_12 rfl rfl rfl ?_
    refine aw_getfield (pc' := 16) (v := (.inl (M3 v0 5))) hC dX9_finishes_13 rfl fl_X9_26 g2 rfl ?_
    refine aw_istore_n (pc' := 17) (i := 2) (ls' := [some (.inr (.inr v0)), some (.inl v1), some (.inl (M3 v0 5))]) hC dX9_finishes_16 rfl rfl (Nat.le_of_ble_eq_true rfl) rfl rfl ?_
    obtain ⟨tq10, q10, h⟩ := pb_s h
    refine aw_sub hC [some (.inr (.inr v0)), some (.inl v1), some (.inl (M3 v0 5))] ⟨rfl, ⟨rfl, ⟨rfl, trivial⟩⟩⟩ (Nat.le_of_ble_eq_true rfl) ?_
    refine (lp_aw (p_X9_finishes_L17 Γ sh M3 v0 v1 (fin_ Γ 0 0 none sh M')) (x_X9_finishes_L17 Γ sh M3 v0 v1 (fin_ Γ 0 0 none sh M')) (w_X9_finishes_L17 hC ) FU _ _ q10 ?_ : p_X9_finishes_L17 Γ sh M3 v0 v1 (fin_ Γ 0 0 none sh M') (M3 v0 5))
    replace h := u1_s h
    show AW Γ sh M3 0 0 53 [some (.inr (.inr v0)), some (.inl v1), some (.inl tq10)] [] _
    refine aw_sub hC [some (.inr (.inr v0)), some (.inl v1), some (.inl tq10)] ⟨rfl, ⟨rfl, ⟨rfl, trivial⟩⟩⟩ (Nat.le_of_ble_eq_true rfl) ?_
    exact w_X9_finishes_J53 hC h rfl
  · replace h := it_p c4 h
    cases h
    exact aw_vret hC dX9_finishes_11 (Nat.le_of_ble_eq_true rfl) (Nat.le_of_ble_eq_true rfl)
