-- CoinCircle$Formula.bounded(J)I
def fX1_bounded (sh : AwS) (M : AwM) (v0 : Int) : Option Int :=
  pb (fJ9_min_f86c9 sh M 1000000 v0) <| u1 fun (x2 : Int) => (pb (fJ9_max_f86c9 sh M (-1000000) x2) <| u1 fun (x4 : Int) => (some (w32 x4)))
set_option maxRecDepth 100000 in
set_option maxHeartbeats 4000000 in
theorem mX1_bounded {sh : AwS} {M : AwM} {v0 : Int} {r : Int} (h : fX1_bounded sh M v0 = some r) : AMet yX1_bounded cX1_bounded 2 (some .int) 2 0 0 [.inr (.inl v0)] sh M (some (.inl r)) sh M := by
  refine amet_of (by decide +kernel) (Nat.le_of_ble_eq_true rfl) (fun Γ hC => ?_)
  replace hC : AOK Γ RX1 cX1_bounded 2 2 0 0 "bounded" (some .int) := hC
  unfold fX1_bounded at h
  refine aw_sub hC [some (.inr (.inl v0)), none] ⟨rfl, trivial⟩ (Nat.le_of_ble_eq_true rfl) ?_
  refine aw_ldc2 (pc' := 3) (v := (-1000000)) hC dX1_bounded_0 rfl ck_X1_49 (by unfold I64; omega) ?_
  refine aw_ldc2 (pc' := 6) (v := 1000000) hC dX1_bounded_3 rfl ck_X1_51 (by unfold I64; omega) ?_
  refine aw_lload_n (pc' := 7) (i := 0) hC dX1_bounded_6 rfl rfl rfl ?_
  obtain ⟨x2, q1, h⟩ := pb_s h
  replace h := u1_s h
  refine aw_cS (pc' := 10) (k2 := 0) (n2 := 0) (st := [.inr (.inl (-1000000))]) (stN := [.inr (.inl x2), .inr (.inl (-1000000))]) hC [.inr (.inl 1000000), .inr (.inl v0)] (mJ9_min_f86c9 q1) lk_X1_34 dX1_bounded_7 rfl rfl (Nat.le_of_ble_eq_true rfl) (Nat.le_of_ble_eq_true rfl) (Nat.le_of_ble_eq_true rfl) rfl (Nat.le_of_ble_eq_true rfl) rfl rfl rfl ?_
  obtain ⟨x4, q3, h⟩ := pb_s h
  replace h := u1_s h
  refine aw_cS (pc' := 13) (k2 := 0) (n2 := 0) (st := []) (stN := [.inr (.inl x4)]) hC [.inr (.inl (-1000000)), .inr (.inl x2)] (mJ9_max_f86c9 q3) lk_X1_40 dX1_bounded_10 rfl rfl (Nat.le_of_ble_eq_true rfl) (Nat.le_of_ble_eq_true rfl) (Nat.le_of_ble_eq_true rfl) rfl (Nat.le_of_ble_eq_true rfl) rfl rfl rfl ?_
  refine aw_l2i (pc' := 14) hC dX1_bounded_13 rfl  ?_
  cases h
  exact aw_iret hC dX1_bounded_14 (Nat.le_of_ble_eq_true rfl) (Nat.le_of_ble_eq_true rfl)
-- CoinCircle$Formula.value([I)I
def fX1_value_J143_4 (sh : AwS) (M : AwM) (v0 : Int) (v1 : Int) (v2 : Int) (v3 : Int) : Option ((Int × Int × AwM) ⊕ (Int × AwM)) :=
  some (.inl (v2, (w32 (v3 + 1)), M))
def fX1_value_L4 (sh : AwS) (v0 : Int) (v1 : Int) (v2 : Int) (v3 : Int) (M : AwM) : Option ((Int × Int × AwM) ⊕ (Int × AwM)) :=
  gd_ (kd_ sh v0 = (0, 1)) ((if v3 < (M v0 1) then (if v3 < 1600 then gd_ ((kd_ sh (M v0 0)).1 = 1 ∧ (0 : Int) ≤ v3 ∧ v3 < ((kd_ sh (M v0 0)).2 : Int)) ((if (M (M v0 0) v3) < (-6) then (if (M (M v0 0) v3) = (-9) then (if v2 < 1 then fX1_value_J143_4 sh M v0 v1 v2 v3 else gd_ ((kd_ sh (M v0 2)).1 = 1 ∧ (0 : Int) ≤ (w32 (v2 - 1)) ∧ (w32 (v2 - 1)) < ((kd_ sh (M v0 2)).2 : Int)) (bd_ (up_ M (M v0 2) (w32 (v2 - 1)) (w32 (1 - (M (M v0 2) (w32 (v2 - 1)))))) fun (M18 : AwM) => (fX1_value_J143_4 sh M18 v0 v1 v2 v3))) else (if v2 < 2 then fX1_value_J143_4 sh M v0 v1 v2 v3 else gd_ ((kd_ sh (M v0 2)).1 = 1 ∧ (0 : Int) ≤ (w32 ((w32 (v2 + (-1))) - 1)) ∧ (w32 ((w32 (v2 + (-1))) - 1)) < ((kd_ sh (M v0 2)).2 : Int)) (gd_ ((kd_ sh (M v0 2)).1 = 1 ∧ (0 : Int) ≤ (w32 (v2 + (-1))) ∧ (w32 (v2 + (-1))) < ((kd_ sh (M v0 2)).2 : Int)) (pb (fX1_done sh M (M (M v0 0) v3) (M (M v0 2) (w32 ((w32 (v2 + (-1))) - 1))) (M (M v0 2) (w32 (v2 + (-1))))) <| u1 fun (x11 : Int) => (pb (fX1_bounded sh M x11) <| u1 fun (x13 : Int) => (bd_ (up_ M (M v0 2) (w32 ((w32 (v2 + (-1))) - 1)) x13) fun (M14 : AwM) => (fX1_value_J143_4 sh M14 v0 v1 (w32 (v2 + (-1))) v3))))))) else (if v2 < 64 then (if (M (M v0 0) v3) < 0 then pb (fX1_factOf sh M v1 (w32 ((-1) - (M (M v0 0) v3)))) <| u1 fun (x23 : Int) => (gd_ ((kd_ sh (M v0 2)).1 = 1 ∧ (0 : Int) ≤ v2 ∧ v2 < ((kd_ sh (M v0 2)).2 : Int)) (bd_ (up_ M (M v0 2) v2 x23) fun (M25 : AwM) => (fX1_value_J143_4 sh M25 v0 v1 (w32 (v2 + 1)) v3))) else gd_ ((kd_ sh (M v0 2)).1 = 1 ∧ (0 : Int) ≤ v2 ∧ v2 < ((kd_ sh (M v0 2)).2 : Int)) (bd_ (up_ M (M v0 2) v2 (M (M v0 0) v3)) fun (M28 : AwM) => (fX1_value_J143_4 sh M28 v0 v1 (w32 (v2 + 1)) v3))) else fX1_value_J143_4 sh M v0 v1 v2 v3))) else some (.inr (v2, M))) else some (.inr (v2, M))))
def p_X1_value_L4 (Γ : AwC) (sh : AwS) (v0 : Int) (v1 : Int) (Q : State → Prop) (s : Int × Int × AwM) : Prop := AW Γ sh (s.2.2) 0 0 4 [some (.inr (.inr v0)), some (.inr (.inr v1)), some (.inl (s.1)), some (.inl (s.2.1)), none] [] Q
def x_X1_value_L4 (Γ : AwC) (sh : AwS) (v0 : Int) (v1 : Int) (Q : State → Prop) : (Int × AwM) → Prop := (fun (t : Int × AwM) => AW Γ sh (t.2) 0 0 149 [some (.inr (.inr v0)), none, some (.inl (t.1)), none, none] [] Q)
def fX1_value (sh : AwS) (M : AwM) (v0 : Int) (v1 : Int) : Option (Int × AwM) :=
  pb (lp (u3 (fX1_value_L4 sh v0 v1)) FU (0, 0, M)) (u2 (fun (x31 : Int) (M32 : AwM) => (if 0 < x31 then gd_ (kd_ sh v0 = (0, 1)) (gd_ ((kd_ sh (M32 v0 2)).1 = 1 ∧ (0 : Int) ≤ 0 ∧ 0 < ((kd_ sh (M32 v0 2)).2 : Int)) (some ((M32 (M32 v0 2) 0), M32))) else some (0, M32))))
set_option maxRecDepth 100000 in
set_option maxHeartbeats 4000000 in
theorem w_X1_value_J143_4 {Γ : AwC} (hC : AOK Γ RX1 cX1_value 5 3 0 0 "value" (some .int)) {sh : AwS} {M : AwM} {v0 : Int} {v1 : Int} {v2 : Int} {v3 : Int} {Q : State → Prop} {r : (Int × Int × AwM) ⊕ (Int × AwM)} (h : fX1_value_J143_4 sh M v0 v1 v2 v3 = some r) (hL : ∀ s', r = .inl s' → p_X1_value_L4 Γ sh v0 v1 Q s') (hX : ∀ t, r = .inr t → x_X1_value_L4 Γ sh v0 v1 Q t) : AW Γ sh M 0 0 143 [some (.inr (.inr v0)), some (.inr (.inr v1)), some (.inl v2), some (.inl v3), none] [] Q := by
  unfold fX1_value_J143_4 at h
  refine aw_iinc (pc' := 146) (ls' := [some (.inr (.inr v0)), some (.inr (.inr v1)), some (.inl v2), some (.inl (w32 (v3 + 1))), none]) hC dX1_value_143 rfl rfl rfl rfl ?_
  refine aw_goto (tgt := 4) hC dX1_value_146 (by decide) ?_
  refine aw_sub hC [some (.inr (.inr v0)), some (.inr (.inr v1)), some (.inl v2), some (.inl (w32 (v3 + 1))), none] ⟨rfl, ⟨rfl, ⟨rfl, ⟨rfl, trivial⟩⟩⟩⟩ (Nat.le_of_ble_eq_true rfl) ?_
  cases h
  exact hL _ rfl
set_option maxRecDepth 100000 in
set_option maxHeartbeats 4000000 in
theorem w_X1_value_L4 {Γ : AwC} (hC : AOK Γ RX1 cX1_value 5 3 0 0 "value" (some .int)) {sh : AwS} {v0 : Int} {v1 : Int} {Q : State → Prop} : ∀ s r, u3 (fX1_value_L4 sh v0 v1) s = some r → (∀ s', r = .inl s' → p_X1_value_L4 Γ sh v0 v1 Q s') → (∀ t, r = .inr t → x_X1_value_L4 Γ sh v0 v1 Q t) → p_X1_value_L4 Γ sh v0 v1 Q s := by
  intro s r h hL hX
  obtain ⟨v2, v3, M⟩ := s
  replace h := u3_s h
  unfold fX1_value_L4 at h
  show AW Γ sh M 0 0 4 [some (.inr (.inr v0)), some (.inr (.inr v1)), some (.inl v2), some (.inl v3), none] [] Q
  refine aw_iload_n (pc' := 5) (i := 3) hC dX1_value_4 rfl rfl rfl ?_
  refine aw_aload_n (pc' := 6) (i := 0) hC dX1_value_5 rfl rfl rfl ?_
  obtain ⟨g1, h⟩ := gd_s h
  refine aw_getfield (pc' := 9) (v := (.inl (M v0 1))) hC dX1_value_6 rfl fl_X1_18 g1 rfl ?_
  refine aw_icmp_ge (tgt := 149) (pc' := 12) hC dX1_value_9 (by decide) rfl (fun c2 => ?_) (fun c2 => ?_)
  · replace h := it_n c2 h
    refine aw_sub hC [some (.inr (.inr v0)), none, some (.inl v2), none, none] ⟨rfl, ⟨rfl, trivial⟩⟩ (Nat.le_of_ble_eq_true rfl) ?_
    cases h
    exact hX _ rfl
  · replace h := it_p c2 h
    refine aw_iload_n (pc' := 13) (i := 3) hC dX1_value_12 rfl rfl rfl ?_
    refine aw_sipush (pc' := 16) hC dX1_value_13 rfl (by decide) ?_
    refine aw_icmp_ge (tgt := 149) (pc' := 19) hC dX1_value_16 (by decide) rfl (fun c3 => ?_) (fun c3 => ?_)
    · replace h := it_n c3 h
      refine aw_sub hC [some (.inr (.inr v0)), none, some (.inl v2), none, none] ⟨rfl, ⟨rfl, trivial⟩⟩ (Nat.le_of_ble_eq_true rfl) ?_
      cases h
      exact hX _ rfl
    · replace h := it_p c3 h
      refine aw_aload_n (pc' := 20) (i := 0) hC dX1_value_19 rfl rfl rfl ?_
      refine aw_getfield (pc' := 23) (v := (.inr (.inr (M v0 0)))) hC dX1_value_20 rfl fl_X1_9 g1 rfl ?_
      refine aw_iload_n (pc' := 24) (i := 3) hC dX1_value_23 rfl rfl rfl ?_
      obtain ⟨g4, h⟩ := gd_s h
      refine aw_iaload (pc' := 25) hC dX1_value_24 rfl g4 ?_
      refine aw_istore (pc' := 27) (ls' := [some (.inr (.inr v0)), some (.inr (.inr v1)), some (.inl v2), some (.inl v3), some (.inl (M (M v0 0) v3))]) hC dX1_value_25 rfl (Nat.le_of_ble_eq_true rfl) rfl rfl ?_
      refine aw_iload (pc' := 29) hC dX1_value_27 rfl rfl ?_
      refine aw_bipush (pc' := 31) hC dX1_value_29 rfl (by decide) ?_
      refine aw_icmp_lt (tgt := 70) (pc' := 34) hC dX1_value_31 (by decide) rfl (fun c5 => ?_) (fun c5 => ?_)
      · replace h := it_p c5 h
        refine aw_iload (pc' := 72) hC dX1_value_70 rfl rfl ?_
        refine aw_bipush (pc' := 74) hC dX1_value_72 rfl (by decide) ?_
        refine aw_icmp_ne (tgt := 103) (pc' := 77) hC dX1_value_74 (by decide) rfl (fun c6 => ?_) (fun c6 => ?_)
        · replace h := it_n c6 h
          refine aw_iload_n (pc' := 104) (i := 2) hC dX1_value_103 rfl rfl rfl ?_
          refine aw_iconst (pc' := 105) hC dX1_value_104 rfl (by decide) ?_
          refine aw_icmp_lt (tgt := 143) (pc' := 108) hC dX1_value_105 (by decide) rfl (fun c7 => ?_) (fun c7 => ?_)
          · replace h := it_p c7 h
            refine aw_sub hC [some (.inr (.inr v0)), some (.inr (.inr v1)), some (.inl v2), some (.inl v3), none] ⟨rfl, ⟨rfl, ⟨rfl, ⟨rfl, trivial⟩⟩⟩⟩ (Nat.le_of_ble_eq_true rfl) ?_
            exact w_X1_value_J143_4 hC h hL hX
          · replace h := it_n c7 h
            refine aw_iinc (pc' := 111) (ls' := [some (.inr (.inr v0)), some (.inr (.inr v1)), some (.inl (w32 (v2 + (-1)))), some (.inl v3), some (.inl (M (M v0 0) v3))]) hC dX1_value_108 rfl rfl rfl rfl ?_
            refine aw_aload_n (pc' := 112) (i := 0) hC dX1_value_111 rfl rfl rfl ?_
            refine aw_getfield (pc' := 115) (v := (.inr (.inr (M v0 2)))) hC dX1_value_112 rfl fl_X1_15 g1 rfl ?_
            refine aw_iload_n (pc' := 116) (i := 2) hC dX1_value_115 rfl rfl rfl ?_
            refine aw_iconst (pc' := 117) hC dX1_value_116 rfl (by decide) ?_
            refine aw_isub (pc' := 118) hC dX1_value_117 rfl  ?_
            refine aw_iload (pc' := 120) hC dX1_value_118 rfl rfl ?_
            refine aw_aload_n (pc' := 121) (i := 0) hC dX1_value_120 rfl rfl rfl ?_
            refine aw_getfield (pc' := 124) (v := (.inr (.inr (M v0 2)))) hC dX1_value_121 rfl fl_X1_15 g1 rfl ?_
            refine aw_iload_n (pc' := 125) (i := 2) hC dX1_value_124 rfl rfl rfl ?_
            refine aw_iconst (pc' := 126) hC dX1_value_125 rfl (by decide) ?_
            refine aw_isub (pc' := 127) hC dX1_value_126 rfl  ?_
            obtain ⟨g8, h⟩ := gd_s h
            refine aw_iaload (pc' := 128) hC dX1_value_127 rfl g8 ?_
            refine aw_i2l (pc' := 129) hC dX1_value_128 rfl  ?_
            refine aw_aload_n (pc' := 130) (i := 0) hC dX1_value_129 rfl rfl rfl ?_
            refine aw_getfield (pc' := 133) (v := (.inr (.inr (M v0 2)))) hC dX1_value_130 rfl fl_X1_15 g1 rfl ?_
            refine aw_iload_n (pc' := 134) (i := 2) hC dX1_value_133 rfl rfl rfl ?_
            obtain ⟨g9, h⟩ := gd_s h
            refine aw_iaload (pc' := 135) hC dX1_value_134 rfl g9 ?_
            refine aw_i2l (pc' := 136) hC dX1_value_135 rfl  ?_
            obtain ⟨x11, q10, h⟩ := pb_s h
            replace h := u1_s h
            refine aw_cS (pc' := 139) (k2 := 0) (n2 := 0) (st := [.inl (w32 ((w32 (v2 + (-1))) - 1)), .inr (.inr (M v0 2))]) (stN := [.inr (.inl x11), .inl (w32 ((w32 (v2 + (-1))) - 1)), .inr (.inr (M v0 2))]) hC [.inl (M (M v0 0) v3), .inr (.inl (M (M v0 2) (w32 ((w32 (v2 + (-1))) - 1)))), .inr (.inl (M (M v0 2) (w32 (v2 + (-1)))))] (mX1_done q10) lk_X1_26 dX1_value_136 rfl rfl (Nat.le_of_ble_eq_true rfl) (Nat.le_of_ble_eq_true rfl) (Nat.le_of_ble_eq_true rfl) rfl (Nat.le_of_ble_eq_true rfl) rfl rfl rfl ?_
            obtain ⟨x13, q12, h⟩ := pb_s h
            replace h := u1_s h
            refine aw_cS (pc' := 142) (k2 := 0) (n2 := 0) (st := [.inl (w32 ((w32 (v2 + (-1))) - 1)), .inr (.inr (M v0 2))]) (stN := [.inl x13, .inl (w32 ((w32 (v2 + (-1))) - 1)), .inr (.inr (M v0 2))]) hC [.inr (.inl x11)] (mX1_bounded q12) lk_X1_30 dX1_value_139 rfl rfl (Nat.le_of_ble_eq_true rfl) (Nat.le_of_ble_eq_true rfl) (Nat.le_of_ble_eq_true rfl) rfl (Nat.le_of_ble_eq_true rfl) rfl rfl rfl ?_
            obtain ⟨M14, e15, h⟩ := bd_s h
            refine aw_ias (pc' := 143) hC dX1_value_142 rfl g8 e15 ?_
            refine aw_sub hC [some (.inr (.inr v0)), some (.inr (.inr v1)), some (.inl (w32 (v2 + (-1)))), some (.inl v3), none] ⟨rfl, ⟨rfl, ⟨rfl, ⟨rfl, trivial⟩⟩⟩⟩ (Nat.le_of_ble_eq_true rfl) ?_
            exact w_X1_value_J143_4 hC h hL hX
        · replace h := it_p c6 h
          refine aw_iload_n (pc' := 78) (i := 2) hC dX1_value_77 rfl rfl rfl ?_
          refine aw_iconst (pc' := 79) hC dX1_value_78 rfl (by decide) ?_
          refine aw_icmp_lt (tgt := 143) (pc' := 82) hC dX1_value_79 (by decide) rfl (fun c16 => ?_) (fun c16 => ?_)
          · replace h := it_p c16 h
            refine aw_sub hC [some (.inr (.inr v0)), some (.inr (.inr v1)), some (.inl v2), some (.inl v3), none] ⟨rfl, ⟨rfl, ⟨rfl, ⟨rfl, trivial⟩⟩⟩⟩ (Nat.le_of_ble_eq_true rfl) ?_
            exact w_X1_value_J143_4 hC h hL hX
          · replace h := it_n c16 h
            refine aw_aload_n (pc' := 83) (i := 0) hC dX1_value_82 rfl rfl rfl ?_
            refine aw_getfield (pc' := 86) (v := (.inr (.inr (M v0 2)))) hC dX1_value_83 rfl fl_X1_15 g1 rfl ?_
            refine aw_iload_n (pc' := 87) (i := 2) hC dX1_value_86 rfl rfl rfl ?_
            refine aw_iconst (pc' := 88) hC dX1_value_87 rfl (by decide) ?_
            refine aw_isub (pc' := 89) hC dX1_value_88 rfl  ?_
            refine aw_iconst (pc' := 90) hC dX1_value_89 rfl (by decide) ?_
            refine aw_aload_n (pc' := 91) (i := 0) hC dX1_value_90 rfl rfl rfl ?_
            refine aw_getfield (pc' := 94) (v := (.inr (.inr (M v0 2)))) hC dX1_value_91 rfl fl_X1_15 g1 rfl ?_
            refine aw_iload_n (pc' := 95) (i := 2) hC dX1_value_94 rfl rfl rfl ?_
            refine aw_iconst (pc' := 96) hC dX1_value_95 rfl (by decide) ?_
            refine aw_isub (pc' := 97) hC dX1_value_96 rfl  ?_
            obtain ⟨g17, h⟩ := gd_s h
            refine aw_iaload (pc' := 98) hC dX1_value_97 rfl g17 ?_
            refine aw_isub (pc' := 99) hC dX1_value_98 rfl  ?_
            obtain ⟨M18, e19, h⟩ := bd_s h
            refine aw_ias (pc' := 100) hC dX1_value_99 rfl g17 e19 ?_
            refine aw_goto (tgt := 143) hC dX1_value_100 (by decide) ?_
            refine aw_sub hC [some (.inr (.inr v0)), some (.inr (.inr v1)), some (.inl v2), some (.inl v3), none] ⟨rfl, ⟨rfl, ⟨rfl, ⟨rfl, trivial⟩⟩⟩⟩ (Nat.le_of_ble_eq_true rfl) ?_
            exact w_X1_value_J143_4 hC h hL hX
      · replace h := it_n c5 h
        refine aw_iload_n (pc' := 35) (i := 2) hC dX1_value_34 rfl rfl rfl ?_
        refine aw_bipush (pc' := 37) hC dX1_value_35 rfl (by decide) ?_
        refine aw_icmp_ge (tgt := 143) (pc' := 40) hC dX1_value_37 (by decide) rfl (fun c20 => ?_) (fun c20 => ?_)
        · replace h := it_n c20 h
          refine aw_sub hC [some (.inr (.inr v0)), some (.inr (.inr v1)), some (.inl v2), some (.inl v3), none] ⟨rfl, ⟨rfl, ⟨rfl, ⟨rfl, trivial⟩⟩⟩⟩ (Nat.le_of_ble_eq_true rfl) ?_
          exact w_X1_value_J143_4 hC h hL hX
        · replace h := it_p c20 h
          refine aw_aload_n (pc' := 41) (i := 0) hC dX1_value_40 rfl rfl rfl ?_
          refine aw_getfield (pc' := 44) (v := (.inr (.inr (M v0 2)))) hC dX1_value_41 rfl fl_X1_15 g1 rfl ?_
          refine aw_iload_n (pc' := 45) (i := 2) hC dX1_value_44 rfl rfl rfl ?_
          refine aw_iload (pc' := 47) hC dX1_value_45 rfl rfl ?_
          refine aw_if_lt (tgt := 55) (pc' := 50) hC dX1_value_47 (by decide) rfl (fun c21 => ?_) (fun c21 => ?_)
          · replace h := it_p c21 h
            refine aw_aload_n (pc' := 56) (i := 1) hC dX1_value_55 rfl rfl rfl ?_
            refine aw_iconst (pc' := 57) hC dX1_value_56 rfl (by decide) ?_
            refine aw_iload (pc' := 59) hC dX1_value_57 rfl rfl ?_
            refine aw_isub (pc' := 60) hC dX1_value_59 rfl  ?_
            obtain ⟨x23, q22, h⟩ := pb_s h
            replace h := u1_s h
            refine aw_cS (pc' := 63) (k2 := 0) (n2 := 0) (st := [.inl v2, .inr (.inr (M v0 2))]) (stN := [.inl x23, .inl v2, .inr (.inr (M v0 2))]) hC [.inr (.inr v1), .inl (w32 ((-1) - (M (M v0 0) v3)))] (mX1_factOf q22) lk_X1_22 dX1_value_60 rfl rfl (Nat.le_of_ble_eq_true rfl) (Nat.le_of_ble_eq_true rfl) (Nat.le_of_ble_eq_true rfl) rfl (Nat.le_of_ble_eq_true rfl) rfl rfl rfl ?_
            obtain ⟨g24, h⟩ := gd_s h
            obtain ⟨M25, e26, h⟩ := bd_s h
            refine aw_ias (pc' := 64) hC dX1_value_63 rfl g24 e26 ?_
            refine aw_iinc (pc' := 67) (ls' := [some (.inr (.inr v0)), some (.inr (.inr v1)), some (.inl (w32 (v2 + 1))), some (.inl v3), some (.inl (M (M v0 0) v3))]) hC dX1_value_64 rfl rfl rfl rfl ?_
            refine aw_goto (tgt := 143) hC dX1_value_67 (by decide) ?_
            refine aw_sub hC [some (.inr (.inr v0)), some (.inr (.inr v1)), some (.inl (w32 (v2 + 1))), some (.inl v3), none] ⟨rfl, ⟨rfl, ⟨rfl, ⟨rfl, trivial⟩⟩⟩⟩ (Nat.le_of_ble_eq_true rfl) ?_
            exact w_X1_value_J143_4 hC h hL hX
          · replace h := it_n c21 h
            refine aw_iload (pc' := 52) hC dX1_value_50 rfl rfl ?_
            refine aw_goto (tgt := 63) hC dX1_value_52 (by decide) ?_
            obtain ⟨g27, h⟩ := gd_s h
            obtain ⟨M28, e29, h⟩ := bd_s h
            refine aw_ias (pc' := 64) hC dX1_value_63 rfl g27 e29 ?_
            refine aw_iinc (pc' := 67) (ls' := [some (.inr (.inr v0)), some (.inr (.inr v1)), some (.inl (w32 (v2 + 1))), some (.inl v3), some (.inl (M (M v0 0) v3))]) hC dX1_value_64 rfl rfl rfl rfl ?_
            refine aw_goto (tgt := 143) hC dX1_value_67 (by decide) ?_
            refine aw_sub hC [some (.inr (.inr v0)), some (.inr (.inr v1)), some (.inl (w32 (v2 + 1))), some (.inl v3), none] ⟨rfl, ⟨rfl, ⟨rfl, ⟨rfl, trivial⟩⟩⟩⟩ (Nat.le_of_ble_eq_true rfl) ?_
            exact w_X1_value_J143_4 hC h hL hX
set_option maxRecDepth 100000 in
set_option maxHeartbeats 4000000 in
theorem mX1_value {sh : AwS} {M : AwM} {v0 : Int} {v1 : Int} {r : Int} {M' : AwM} (h : fX1_value sh M v0 v1 = some (r, M')) : AMet yX1_value cX1_value 5 (some .int) 3 0 0 [.inr (.inr v0), .inr (.inr v1)] sh M (some (.inl r)) sh M' := by
  refine amet_of (by decide +kernel) (Nat.le_of_ble_eq_true rfl) (fun Γ hC => ?_)
  replace hC : AOK Γ RX1 cX1_value 5 3 0 0 "value" (some .int) := hC
  unfold fX1_value at h
  refine aw_sub hC [some (.inr (.inr v0)), some (.inr (.inr v1)), none, none, none] ⟨rfl, ⟨rfl, trivial⟩⟩ (Nat.le_of_ble_eq_true rfl) ?_
  refine aw_iconst (pc' := 1) hC dX1_value_0 rfl (by decide) ?_
  refine aw_istore_n (pc' := 2) (i := 2) (ls' := [some (.inr (.inr v0)), some (.inr (.inr v1)), some (.inl 0), none, none]) hC dX1_value_1 rfl rfl (Nat.le_of_ble_eq_true rfl) rfl rfl ?_
  refine aw_iconst (pc' := 3) hC dX1_value_2 rfl (by decide) ?_
  refine aw_istore_n (pc' := 4) (i := 3) (ls' := [some (.inr (.inr v0)), some (.inr (.inr v1)), some (.inl 0), some (.inl 0), none]) hC dX1_value_3 rfl rfl (Nat.le_of_ble_eq_true rfl) rfl rfl ?_
  obtain ⟨tq30, q30, h⟩ := pb_s h
  refine aw_sub hC [some (.inr (.inr v0)), some (.inr (.inr v1)), some (.inl 0), some (.inl 0), none] ⟨rfl, ⟨rfl, ⟨rfl, ⟨rfl, trivial⟩⟩⟩⟩ (Nat.le_of_ble_eq_true rfl) ?_
  refine (lp_aw (p_X1_value_L4 Γ sh v0 v1 (fin_ Γ 0 0 (some (.inl r)) sh M')) (x_X1_value_L4 Γ sh v0 v1 (fin_ Γ 0 0 (some (.inl r)) sh M')) (w_X1_value_L4 hC ) FU _ _ q30 ?_ : p_X1_value_L4 Γ sh v0 v1 (fin_ Γ 0 0 (some (.inl r)) sh M') (0, 0, M))
  obtain ⟨x31, M32⟩ := tq30
  replace h := u2_s h
  show AW Γ sh M32 0 0 149 [some (.inr (.inr v0)), none, some (.inl x31), none, none] [] _
  refine aw_iload_n (pc' := 150) (i := 2) hC dX1_value_149 rfl rfl rfl ?_
  refine aw_if_le (tgt := 162) (pc' := 153) hC dX1_value_150 (by decide) rfl (fun c33 => ?_) (fun c33 => ?_)
  · replace h := it_n c33 h
    refine aw_iconst (pc' := 163) hC dX1_value_162 rfl (by decide) ?_
    cases h
    exact aw_iret hC dX1_value_163 (Nat.le_of_ble_eq_true rfl) (Nat.le_of_ble_eq_true rfl)
  · replace h := it_p c33 h
    refine aw_aload_n (pc' := 154) (i := 0) hC dX1_value_153 rfl rfl rfl ?_
    obtain ⟨g34, h⟩ := gd_s h
    refine aw_getfield (pc' := 157) (v := (.inr (.inr (M32 v0 2)))) hC dX1_value_154 rfl fl_X1_15 g34 rfl ?_
    refine aw_iconst (pc' := 158) hC dX1_value_157 rfl (by decide) ?_
    obtain ⟨g35, h⟩ := gd_s h
    refine aw_iaload (pc' := 159) hC dX1_value_158 rfl g35 ?_
    refine aw_goto (tgt := 163) hC dX1_value_159 (by decide) ?_
    cases h
    exact aw_iret hC dX1_value_163 (Nat.le_of_ble_eq_true rfl) (Nat.le_of_ble_eq_true rfl)
-- CoinCircle$Circle.testWouldHold(IIIII)Z
def fX0_testWouldHold (sh : AwS) (M : AwM) (v0 : Int) (v1 : Int) (v2 : Int) (v3 : Int) (v4 : Int) (v5 : Int) : Option (Int × AwM) :=
  gd_ (kd_ sh v0 = (0, 0)) (gd_ (kd_ sh (M v0 1) = (0, 5)) (gd_ (kd_ sh (M (M v0 1) 9) = (0, 1)) (pb (fX1_isTold sh M (M (M v0 1) 9)) <| u1 fun (x5 : Int) => ((if x5 = 0 then some (1, M) else gd_ ((kd_ sh (M (M v0 1) 3)).1 = 1 ∧ (0 : Int) ≤ v1 ∧ v1 < ((kd_ sh (M (M v0 1) 3)).2 : Int)) (pb (fX0_putFacts sh M v0 (M (M (M v0 1) 3) v1) v2 v3 v4 v5) <| u1 fun (M9 : AwM) => (gd_ (kd_ sh (M9 v0 1) = (0, 5)) (gd_ (kd_ sh (M9 (M9 v0 1) 9) = (0, 1)) (pb (fX1_value sh M9 (M9 (M9 v0 1) 9) (M9 v0 2)) <| u2 fun (x13 : Int) (M14 : AwM) => ((if x13 = 0 then some (0, M14) else some (1, M14))))))))))))
set_option maxRecDepth 100000 in
set_option maxHeartbeats 4000000 in
theorem mX0_testWouldHold {sh : AwS} {M : AwM} {v0 : Int} {v1 : Int} {v2 : Int} {v3 : Int} {v4 : Int} {v5 : Int} {r : Int} {M' : AwM} (h : fX0_testWouldHold sh M v0 v1 v2 v3 v4 v5 = some (r, M')) : AMet yX0_testWouldHold cX0_testWouldHold 6 (some .boolean) 4 0 0 [.inr (.inr v0), .inl v1, .inl v2, .inl v3, .inl v4, .inl v5] sh M (some (.inl r)) sh M' := by
  refine amet_of (by decide +kernel) (Nat.le_of_ble_eq_true rfl) (fun Γ hC => ?_)
  replace hC : AOK Γ RX0 cX0_testWouldHold 6 4 0 0 "testWouldHold" (some .boolean) := hC
  unfold fX0_testWouldHold at h
  refine aw_sub hC [some (.inr (.inr v0)), some (.inl v1), some (.inl v2), some (.inl v3), some (.inl v4), some (.inl v5)] ⟨rfl, ⟨rfl, ⟨rfl, ⟨rfl, ⟨rfl, ⟨rfl, trivial⟩⟩⟩⟩⟩⟩ (Nat.le_of_ble_eq_true rfl) ?_
  refine aw_aload_n (pc' := 1) (i := 0) hC dX0_testWouldHold_0 rfl rfl rfl ?_
  obtain ⟨g1, h⟩ := gd_s h
  refine aw_getfield (pc' := 4) (v := (.inr (.inr (M v0 1)))) hC dX0_testWouldHold_1 rfl fl_X0_22 g1 rfl ?_
  obtain ⟨g2, h⟩ := gd_s h
  refine aw_getfield (pc' := 7) (v := (.inr (.inr (M (M v0 1) 9)))) hC dX0_testWouldHold_4 rfl fl_X0_91 g2 rfl ?_
  obtain ⟨g4, h⟩ := gd_s h
  obtain ⟨x5, q3, h⟩ := pb_s h
  replace h := u1_s h
  refine aw_cV (pc' := 10) (k2 := 0) (n2 := 0) (st := []) (stN := [.inl x5]) hC [] (mX1_isTold q3) lk_X0_95 g4 dX0_testWouldHold_7 rfl rfl (Nat.le_of_ble_eq_true rfl) (Nat.le_of_ble_eq_true rfl) (Nat.le_of_ble_eq_true rfl) rfl (Nat.le_of_ble_eq_true rfl) rfl rfl rfl ?_
  refine aw_if_ne (tgt := 15) (pc' := 13) hC dX0_testWouldHold_10 (by decide) rfl (fun c6 => ?_) (fun c6 => ?_)
  · replace h := it_n c6 h
    refine aw_aload_n (pc' := 16) (i := 0) hC dX0_testWouldHold_15 rfl rfl rfl ?_
    refine aw_aload_n (pc' := 17) (i := 0) hC dX0_testWouldHold_16 rfl rfl rfl ?_
    refine aw_getfield (pc' := 20) (v := (.inr (.inr (M v0 1)))) hC dX0_testWouldHold_17 rfl fl_X0_22 g1 rfl ?_
    refine aw_getfield (pc' := 23) (v := (.inr (.inr (M (M v0 1) 3)))) hC dX0_testWouldHold_20 rfl fl_X0_62 g2 rfl ?_
    refine aw_iload_n (pc' := 24) (i := 1) hC dX0_testWouldHold_23 rfl rfl rfl ?_
    obtain ⟨g7, h⟩ := gd_s h
    refine aw_iaload (pc' := 25) hC dX0_testWouldHold_24 rfl g7 ?_
    refine aw_iload_n (pc' := 26) (i := 2) hC dX0_testWouldHold_25 rfl rfl rfl ?_
    refine aw_iload_n (pc' := 27) (i := 3) hC dX0_testWouldHold_26 rfl rfl rfl ?_
    refine aw_iload (pc' := 29) hC dX0_testWouldHold_27 rfl rfl ?_
    refine aw_iload (pc' := 31) hC dX0_testWouldHold_29 rfl rfl ?_
    obtain ⟨M9, q8, h⟩ := pb_s h
    replace h := u1_s h
    refine aw_cV (pc' := 34) (k2 := 0) (n2 := 0) (st := []) (stN := []) hC [.inl (M (M (M v0 1) 3) v1), .inl v2, .inl v3, .inl v4, .inl v5] (mX0_putFacts q8) lk_X0_101 g1 dX0_testWouldHold_31 rfl rfl (Nat.le_of_ble_eq_true rfl) (Nat.le_of_ble_eq_true rfl) (Nat.le_of_ble_eq_true rfl) rfl (Nat.le_of_ble_eq_true rfl) rfl rfl rfl ?_
    refine aw_aload_n (pc' := 35) (i := 0) hC dX0_testWouldHold_34 rfl rfl rfl ?_
    refine aw_getfield (pc' := 38) (v := (.inr (.inr (M9 v0 1)))) hC dX0_testWouldHold_35 rfl fl_X0_22 g1 rfl ?_
    obtain ⟨g10, h⟩ := gd_s h
    refine aw_getfield (pc' := 41) (v := (.inr (.inr (M9 (M9 v0 1) 9)))) hC dX0_testWouldHold_38 rfl fl_X0_91 g10 rfl ?_
    refine aw_aload_n (pc' := 42) (i := 0) hC dX0_testWouldHold_41 rfl rfl rfl ?_
    refine aw_getfield (pc' := 45) (v := (.inr (.inr (M9 v0 2)))) hC dX0_testWouldHold_42 rfl fl_X0_18 g1 rfl ?_
    obtain ⟨g12, h⟩ := gd_s h
    obtain ⟨⟨x13, M14⟩, q11, h⟩ := pb_s h
    replace h := u2_s h
    refine aw_cV (pc' := 48) (k2 := 0) (n2 := 0) (st := []) (stN := [.inl x13]) hC [.inr (.inr (M9 v0 2))] (mX1_value q11) lk_X0_105 g12 dX0_testWouldHold_45 rfl rfl (Nat.le_of_ble_eq_true rfl) (Nat.le_of_ble_eq_true rfl) (Nat.le_of_ble_eq_true rfl) rfl (Nat.le_of_ble_eq_true rfl) rfl rfl rfl ?_
    refine aw_if_eq (tgt := 55) (pc' := 51) hC dX0_testWouldHold_48 (by decide) rfl (fun c15 => ?_) (fun c15 => ?_)
    · replace h := it_p c15 h
      refine aw_iconst (pc' := 56) hC dX0_testWouldHold_55 rfl (by decide) ?_
      cases h
      exact aw_zret hC (Or.inl rfl) dX0_testWouldHold_56 (Nat.le_of_ble_eq_true rfl) (Nat.le_of_ble_eq_true rfl)
    · replace h := it_n c15 h
      refine aw_iconst (pc' := 52) hC dX0_testWouldHold_51 rfl (by decide) ?_
      refine aw_goto (tgt := 56) hC dX0_testWouldHold_52 (by decide) ?_
      cases h
      exact aw_zret hC (Or.inr rfl) dX0_testWouldHold_56 (Nat.le_of_ble_eq_true rfl) (Nat.le_of_ble_eq_true rfl)
  · replace h := it_p c6 h
    refine aw_iconst (pc' := 14) hC dX0_testWouldHold_13 rfl (by decide) ?_
    cases h
    exact aw_zret hC (Or.inr rfl) dX0_testWouldHold_14 (Nat.le_of_ble_eq_true rfl) (Nat.le_of_ble_eq_true rfl)
-- CoinCircle$Circle.testHolds(II)Z
def fX0_testHolds (sh : AwS) (M : AwM) (v0 : Int) (v1 : Int) (v2 : Int) : Option (Int × AwM) :=
  gd_ (kd_ sh v0 = (0, 0)) (gd_ (kd_ sh (M v0 0) = (0, 3)) (gd_ ((kd_ sh (M (M v0 0) 1)).1 = 1 ∧ (0 : Int) ≤ v1 ∧ v1 < ((kd_ sh (M (M v0 0) 1)).2 : Int)) (gd_ ((kd_ sh (M (M v0 0) 2)).1 = 1 ∧ (0 : Int) ≤ v1 ∧ v1 < ((kd_ sh (M (M v0 0) 2)).2 : Int)) (pb (fJ6_bitCount_0f7a4 sh M (M (M (M v0 0) 2) v1)) <| u1 fun (x6 : Int) => (pb (fX0_heldBy sh M v0 (M (M (M v0 0) 1) v1)) <| u1 fun (x8 : Int) => (pb (fJ6_bitCount_0f7a4 sh M x8) <| u1 fun (x10 : Int) => (pb (fX0_testWouldHold sh M v0 v1 (M (M (M v0 0) 1) v1) v2 x6 x10) <| u2 fun (x12 : Int) (M13 : AwM) => (gd_ (x12 = 0 ∨ x12 = 1) (some (x12, M13))))))))))
set_option maxRecDepth 100000 in
set_option maxHeartbeats 4000000 in
theorem mX0_testHolds {sh : AwS} {M : AwM} {v0 : Int} {v1 : Int} {v2 : Int} {r : Int} {M' : AwM} (h : fX0_testHolds sh M v0 v1 v2 = some (r, M')) : AMet yX0_testHolds cX0_testHolds 4 (some .boolean) 5 0 0 [.inr (.inr v0), .inl v1, .inl v2] sh M (some (.inl r)) sh M' := by
  refine amet_of (by decide +kernel) (Nat.le_of_ble_eq_true rfl) (fun Γ hC => ?_)
  replace hC : AOK Γ RX0 cX0_testHolds 4 5 0 0 "testHolds" (some .boolean) := hC
  unfold fX0_testHolds at h
  refine aw_sub hC [some (.inr (.inr v0)), some (.inl v1), some (.inl v2), none] ⟨rfl, ⟨rfl, ⟨rfl, trivial⟩⟩⟩ (Nat.le_of_ble_eq_true rfl) ?_
  refine aw_aload_n (pc' := 1) (i := 0) hC dX0_testHolds_0 rfl rfl rfl ?_
  obtain ⟨g1, h⟩ := gd_s h
  refine aw_getfield (pc' := 4) (v := (.inr (.inr (M v0 0)))) hC dX0_testHolds_1 rfl fl_X0_12 g1 rfl ?_
  obtain ⟨g2, h⟩ := gd_s h
  refine aw_getfield (pc' := 7) (v := (.inr (.inr (M (M v0 0) 1)))) hC dX0_testHolds_4 rfl fl_X0_30 g2 rfl ?_
  refine aw_iload_n (pc' := 8) (i := 1) hC dX0_testHolds_7 rfl rfl rfl ?_
  obtain ⟨g3, h⟩ := gd_s h
  refine aw_iaload (pc' := 9) hC dX0_testHolds_8 rfl g3 ?_
  refine aw_istore_n (pc' := 10) (i := 3) (ls' := [some (.inr (.inr v0)), some (.inl v1), some (.inl v2), some (.inl (M (M (M v0 0) 1) v1))]) hC dX0_testHolds_9 rfl rfl (Nat.le_of_ble_eq_true rfl) rfl rfl ?_
  refine aw_aload_n (pc' := 11) (i := 0) hC dX0_testHolds_10 rfl rfl rfl ?_
  refine aw_iload_n (pc' := 12) (i := 1) hC dX0_testHolds_11 rfl rfl rfl ?_
  refine aw_iload_n (pc' := 13) (i := 3) hC dX0_testHolds_12 rfl rfl rfl ?_
  refine aw_iload_n (pc' := 14) (i := 2) hC dX0_testHolds_13 rfl rfl rfl ?_
  refine aw_aload_n (pc' := 15) (i := 0) hC dX0_testHolds_14 rfl rfl rfl ?_
  refine aw_getfield (pc' := 18) (v := (.inr (.inr (M v0 0)))) hC dX0_testHolds_15 rfl fl_X0_12 g1 rfl ?_
  refine aw_getfield (pc' := 21) (v := (.inr (.inr (M (M v0 0) 2)))) hC dX0_testHolds_18 rfl fl_X0_36 g2 rfl ?_
  refine aw_iload_n (pc' := 22) (i := 1) hC dX0_testHolds_21 rfl rfl rfl ?_
  obtain ⟨g4, h⟩ := gd_s h
  refine aw_iaload (pc' := 23) hC dX0_testHolds_22 rfl g4 ?_
  obtain ⟨x6, q5, h⟩ := pb_s h
  replace h := u1_s h
  refine aw_cS (pc' := 26) (k2 := 0) (n2 := 0) (st := [.inl v2, .inl (M (M (M v0 0) 1) v1), .inl v1, .inr (.inr v0)]) (stN := [.inl x6, .inl v2, .inl (M (M (M v0 0) 1) v1), .inl v1, .inr (.inr v0)]) hC [.inl (M (M (M v0 0) 2) v1)] (mJ6_bitCount_0f7a4 q5) lk_X0_65 dX0_testHolds_23 rfl rfl (Nat.le_of_ble_eq_true rfl) (Nat.le_of_ble_eq_true rfl) (Nat.le_of_ble_eq_true rfl) rfl (Nat.le_of_ble_eq_true rfl) rfl rfl rfl ?_
  refine aw_aload_n (pc' := 27) (i := 0) hC dX0_testHolds_26 rfl rfl rfl ?_
  refine aw_iload_n (pc' := 28) (i := 3) hC dX0_testHolds_27 rfl rfl rfl ?_
  obtain ⟨x8, q7, h⟩ := pb_s h
  replace h := u1_s h
  refine aw_cV (pc' := 31) (k2 := 0) (n2 := 0) (st := [.inl x6, .inl v2, .inl (M (M (M v0 0) 1) v1), .inl v1, .inr (.inr v0)]) (stN := [.inl x8, .inl x6, .inl v2, .inl (M (M (M v0 0) 1) v1), .inl v1, .inr (.inr v0)]) hC [.inl (M (M (M v0 0) 1) v1)] (mX0_heldBy q7) lk_X0_74 g1 dX0_testHolds_28 rfl rfl (Nat.le_of_ble_eq_true rfl) (Nat.le_of_ble_eq_true rfl) (Nat.le_of_ble_eq_true rfl) rfl (Nat.le_of_ble_eq_true rfl) rfl rfl rfl ?_
  obtain ⟨x10, q9, h⟩ := pb_s h
  replace h := u1_s h
  refine aw_cS (pc' := 34) (k2 := 0) (n2 := 0) (st := [.inl x6, .inl v2, .inl (M (M (M v0 0) 1) v1), .inl v1, .inr (.inr v0)]) (stN := [.inl x10, .inl x6, .inl v2, .inl (M (M (M v0 0) 1) v1), .inl v1, .inr (.inr v0)]) hC [.inl x8] (mJ6_bitCount_0f7a4 q9) lk_X0_65 dX0_testHolds_31 rfl rfl (Nat.le_of_ble_eq_true rfl) (Nat.le_of_ble_eq_true rfl) (Nat.le_of_ble_eq_true rfl) rfl (Nat.le_of_ble_eq_true rfl) rfl rfl rfl ?_
  obtain ⟨⟨x12, M13⟩, q11, h⟩ := pb_s h
  replace h := u2_s h
  refine aw_cV (pc' := 37) (k2 := 0) (n2 := 0) (st := []) (stN := [.inl x12]) hC [.inl v1, .inl (M (M (M v0 0) 1) v1), .inl v2, .inl x6, .inl x10] (mX0_testWouldHold q11) lk_X0_87 g1 dX0_testHolds_34 rfl rfl (Nat.le_of_ble_eq_true rfl) (Nat.le_of_ble_eq_true rfl) (Nat.le_of_ble_eq_true rfl) rfl (Nat.le_of_ble_eq_true rfl) rfl rfl rfl ?_
  obtain ⟨g14, h⟩ := gd_s h
  cases h
  exact aw_zret hC g14 dX0_testHolds_37 (Nat.le_of_ble_eq_true rfl) (Nat.le_of_ble_eq_true rfl)
-- CoinCircle.may(II)I
def fX8_may (sh : AwS) (M : AwM) (v0 : Int) (v1 : Int) (v2 : Int) : Option (Int × AwM) :=
  gd_ (kd_ sh v0 = (0, 8)) (pb (fX8_areThere sh M v0 v1 v2) <| u1 fun (x3 : Int) => ((if x3 = 0 then some ((-1), M) else gd_ (kd_ sh (M v0 4) = (0, 0)) (pb (fX0_canBePresented sh M (M v0 4) v1 v2) <| u1 fun (x7 : Int) => ((if x7 = 0 then some ((-1), M) else pb (fX0_testHolds sh M (M v0 4) v1 v2) <| u2 fun (x10 : Int) (M11 : AwM) => ((if x10 = 0 then some (0, M11) else some (1, M11)))))))))
set_option maxRecDepth 100000 in
set_option maxHeartbeats 4000000 in
theorem mX8_may {sh : AwS} {M : AwM} {v0 : Int} {v1 : Int} {v2 : Int} {r : Int} {M' : AwM} (h : fX8_may sh M v0 v1 v2 = some (r, M')) : AMet yX8_may cX8_may 3 (some .int) 6 0 0 [.inr (.inr v0), .inl v1, .inl v2] sh M (some (.inl r)) sh M' := by
  refine amet_of (by decide +kernel) (Nat.le_of_ble_eq_true rfl) (fun Γ hC => ?_)
  replace hC : AOK Γ RX8 cX8_may 3 6 0 0 "may" (some .int) := hC
  unfold fX8_may at h
  refine aw_sub hC [some (.inr (.inr v0)), some (.inl v1), some (.inl v2)] ⟨rfl, ⟨rfl, ⟨rfl, trivial⟩⟩⟩ (Nat.le_of_ble_eq_true rfl) ?_
  refine aw_aload_n (pc' := 1) (i := 0) hC dX8_may_0 rfl rfl rfl ?_
  refine aw_iload_n (pc' := 2) (i := 1) hC dX8_may_1 rfl rfl rfl ?_
  refine aw_iload_n (pc' := 3) (i := 2) hC dX8_may_2 rfl rfl rfl ?_
  obtain ⟨g2, h⟩ := gd_s h
  obtain ⟨x3, q1, h⟩ := pb_s h
  replace h := u1_s h
  refine aw_cV (pc' := 6) (k2 := 0) (n2 := 0) (st := []) (stN := [.inl x3]) hC [.inl v1, .inl v2] (mX8_areThere q1) lk_X8_183 g2 dX8_may_3 rfl rfl (Nat.le_of_ble_eq_true rfl) (Nat.le_of_ble_eq_true rfl) (Nat.le_of_ble_eq_true rfl) rfl (Nat.le_of_ble_eq_true rfl) rfl rfl rfl ?_
  refine aw_if_eq (tgt := 21) (pc' := 9) hC dX8_may_6 (by decide) rfl (fun c4 => ?_) (fun c4 => ?_)
  · replace h := it_p c4 h
    refine aw_iconst (pc' := 22) hC dX8_may_21 rfl (by decide) ?_
    cases h
    exact aw_iret hC dX8_may_22 (Nat.le_of_ble_eq_true rfl) (Nat.le_of_ble_eq_true rfl)
  · replace h := it_n c4 h
    refine aw_aload_n (pc' := 10) (i := 0) hC dX8_may_9 rfl rfl rfl ?_
    refine aw_getfield (pc' := 13) (v := (.inr (.inr (M v0 4)))) hC dX8_may_10 rfl fl_X8_60 g2 rfl ?_
    refine aw_iload_n (pc' := 14) (i := 1) hC dX8_may_13 rfl rfl rfl ?_
    refine aw_iload_n (pc' := 15) (i := 2) hC dX8_may_14 rfl rfl rfl ?_
    obtain ⟨g6, h⟩ := gd_s h
    obtain ⟨x7, q5, h⟩ := pb_s h
    replace h := u1_s h
    refine aw_cV (pc' := 18) (k2 := 0) (n2 := 0) (st := []) (stN := [.inl x7]) hC [.inl v1, .inl v2] (mX0_canBePresented q5) lk_X8_192 g6 dX8_may_15 rfl rfl (Nat.le_of_ble_eq_true rfl) (Nat.le_of_ble_eq_true rfl) (Nat.le_of_ble_eq_true rfl) rfl (Nat.le_of_ble_eq_true rfl) rfl rfl rfl ?_
    refine aw_if_ne (tgt := 23) (pc' := 21) hC dX8_may_18 (by decide) rfl (fun c8 => ?_) (fun c8 => ?_)
    · replace h := it_n c8 h
      refine aw_aload_n (pc' := 24) (i := 0) hC dX8_may_23 rfl rfl rfl ?_
      refine aw_getfield (pc' := 27) (v := (.inr (.inr (M v0 4)))) hC dX8_may_24 rfl fl_X8_60 g2 rfl ?_
      refine aw_iload_n (pc' := 28) (i := 1) hC dX8_may_27 rfl rfl rfl ?_
      refine aw_iload_n (pc' := 29) (i := 2) hC dX8_may_28 rfl rfl rfl ?_
      obtain ⟨⟨x10, M11⟩, q9, h⟩ := pb_s h
      replace h := u2_s h
      refine aw_cV (pc' := 32) (k2 := 0) (n2 := 0) (st := []) (stN := [.inl x10]) hC [.inl v1, .inl v2] (mX0_testHolds q9) lk_X8_195 g6 dX8_may_29 rfl rfl (Nat.le_of_ble_eq_true rfl) (Nat.le_of_ble_eq_true rfl) (Nat.le_of_ble_eq_true rfl) rfl (Nat.le_of_ble_eq_true rfl) rfl rfl rfl ?_
      refine aw_if_eq (tgt := 39) (pc' := 35) hC dX8_may_32 (by decide) rfl (fun c12 => ?_) (fun c12 => ?_)
      · replace h := it_p c12 h
        refine aw_iconst (pc' := 40) hC dX8_may_39 rfl (by decide) ?_
        cases h
        exact aw_iret hC dX8_may_40 (Nat.le_of_ble_eq_true rfl) (Nat.le_of_ble_eq_true rfl)
      · replace h := it_n c12 h
        refine aw_iconst (pc' := 36) hC dX8_may_35 rfl (by decide) ?_
        refine aw_goto (tgt := 40) hC dX8_may_36 (by decide) ?_
        cases h
        exact aw_iret hC dX8_may_40 (Nat.le_of_ble_eq_true rfl) (Nat.le_of_ble_eq_true rfl)
    · replace h := it_p c8 h
      refine aw_iconst (pc' := 22) hC dX8_may_21 rfl (by decide) ?_
      cases h
      exact aw_iret hC dX8_may_22 (Nat.le_of_ble_eq_true rfl) (Nat.le_of_ble_eq_true rfl)
-- CoinCircle$Circle.priceFor(II)I
def fX0_priceFor (sh : AwS) (M : AwM) (v0 : Int) (v1 : Int) (v2 : Int) : Option (Int × AwM) :=
  gd_ (kd_ sh v0 = (0, 0)) (gd_ (kd_ sh (M v0 1) = (0, 5)) (gd_ (kd_ sh (M (M v0 1) 10) = (0, 1)) (pb (fX1_isTold sh M (M (M v0 1) 10)) <| u1 fun (x5 : Int) => ((if x5 = 0 then gd_ ((kd_ sh (M (M v0 1) 7)).1 = 1 ∧ (0 : Int) ≤ v1 ∧ v1 < ((kd_ sh (M (M v0 1) 7)).2 : Int)) (some ((M (M (M v0 1) 7) v1), M)) else gd_ ((kd_ sh (M (M v0 1) 8)).1 = 1 ∧ (0 : Int) ≤ v1 ∧ v1 < ((kd_ sh (M (M v0 1) 8)).2 : Int)) (pb (fX0_heldBy sh M v0 v2) <| u1 fun (x9 : Int) => (pb (fX0_knowing sh M v0 (M (M (M v0 1) 8) v1)) <| u1 fun (x11 : Int) => (pb (fJ6_bitCount_0f7a4 sh M (an_ x9 x11)) <| u1 fun (x13 : Int) => (gd_ ((kd_ sh (M (M v0 1) 7)).1 = 1 ∧ (0 : Int) ≤ v1 ∧ v1 < ((kd_ sh (M (M v0 1) 7)).2 : Int)) (pb (fJ6_bitCount_0f7a4 sh M x9) <| u1 fun (x16 : Int) => (pb (fX0_putFacts sh M v0 (M (M (M v0 1) 7) v1) v2 (M (M (M v0 1) 8) v1) x13 x16) <| u1 fun (M18 : AwM) => (gd_ (kd_ sh (M18 v0 1) = (0, 5)) (gd_ (kd_ sh (M18 (M18 v0 1) 10) = (0, 1)) (pb (fX1_value sh M18 (M18 (M18 v0 1) 10) (M18 v0 2)) <| u2 fun (x22 : Int) (M23 : AwM) => (pb (fJ9_min_7cf53 sh M23 999 x22) <| u1 fun (x25 : Int) => (pb (fJ9_max_7cf53 sh M23 0 x25) <| u1 fun (x27 : Int) => (some (x27, M23))))))))))))))))))
set_option maxRecDepth 100000 in
set_option maxHeartbeats 4000000 in
theorem mX0_priceFor {sh : AwS} {M : AwM} {v0 : Int} {v1 : Int} {v2 : Int} {r : Int} {M' : AwM} (h : fX0_priceFor sh M v0 v1 v2 = some (r, M')) : AMet yX0_priceFor cX0_priceFor 6 (some .int) 4 0 0 [.inr (.inr v0), .inl v1, .inl v2] sh M (some (.inl r)) sh M' := by
  refine amet_of (by decide +kernel) (Nat.le_of_ble_eq_true rfl) (fun Γ hC => ?_)
  replace hC : AOK Γ RX0 cX0_priceFor 6 4 0 0 "priceFor" (some .int) := hC
  unfold fX0_priceFor at h
  refine aw_sub hC [some (.inr (.inr v0)), some (.inl v1), some (.inl v2), none, none, none] ⟨rfl, ⟨rfl, ⟨rfl, trivial⟩⟩⟩ (Nat.le_of_ble_eq_true rfl) ?_
  refine aw_aload_n (pc' := 1) (i := 0) hC dX0_priceFor_0 rfl rfl rfl ?_
  obtain ⟨g1, h⟩ := gd_s h
  refine aw_getfield (pc' := 4) (v := (.inr (.inr (M v0 1)))) hC dX0_priceFor_1 rfl fl_X0_22 g1 rfl ?_
  obtain ⟨g2, h⟩ := gd_s h
  refine aw_getfield (pc' := 7) (v := (.inr (.inr (M (M v0 1) 10)))) hC dX0_priceFor_4 rfl fl_X0_112 g2 rfl ?_
  obtain ⟨g4, h⟩ := gd_s h
  obtain ⟨x5, q3, h⟩ := pb_s h
  replace h := u1_s h
  refine aw_cV (pc' := 10) (k2 := 0) (n2 := 0) (st := []) (stN := [.inl x5]) hC [] (mX1_isTold q3) lk_X0_95 g4 dX0_priceFor_7 rfl rfl (Nat.le_of_ble_eq_true rfl) (Nat.le_of_ble_eq_true rfl) (Nat.le_of_ble_eq_true rfl) rfl (Nat.le_of_ble_eq_true rfl) rfl rfl rfl ?_
  refine aw_if_ne (tgt := 23) (pc' := 13) hC dX0_priceFor_10 (by decide) rfl (fun c6 => ?_) (fun c6 => ?_)
  · replace h := it_n c6 h
    refine aw_aload_n (pc' := 24) (i := 0) hC dX0_priceFor_23 rfl rfl rfl ?_
    refine aw_getfield (pc' := 27) (v := (.inr (.inr (M v0 1)))) hC dX0_priceFor_24 rfl fl_X0_22 g1 rfl ?_
    refine aw_getfield (pc' := 30) (v := (.inr (.inr (M (M v0 1) 8)))) hC dX0_priceFor_27 rfl fl_X0_118 g2 rfl ?_
    refine aw_iload_n (pc' := 31) (i := 1) hC dX0_priceFor_30 rfl rfl rfl ?_
    obtain ⟨g7, h⟩ := gd_s h
    refine aw_iaload (pc' := 32) hC dX0_priceFor_31 rfl g7 ?_
    refine aw_istore_n (pc' := 33) (i := 3) (ls' := [some (.inr (.inr v0)), some (.inl v1), some (.inl v2), some (.inl (M (M (M v0 1) 8) v1)), none, none]) hC dX0_priceFor_32 rfl rfl (Nat.le_of_ble_eq_true rfl) rfl rfl ?_
    refine aw_aload_n (pc' := 34) (i := 0) hC dX0_priceFor_33 rfl rfl rfl ?_
    refine aw_iload_n (pc' := 35) (i := 2) hC dX0_priceFor_34 rfl rfl rfl ?_
    obtain ⟨x9, q8, h⟩ := pb_s h
    replace h := u1_s h
    refine aw_cV (pc' := 38) (k2 := 0) (n2 := 0) (st := []) (stN := [.inl x9]) hC [.inl v2] (mX0_heldBy q8) lk_X0_74 g1 dX0_priceFor_35 rfl rfl (Nat.le_of_ble_eq_true rfl) (Nat.le_of_ble_eq_true rfl) (Nat.le_of_ble_eq_true rfl) rfl (Nat.le_of_ble_eq_true rfl) rfl rfl rfl ?_
    refine aw_istore (pc' := 40) (ls' := [some (.inr (.inr v0)), some (.inl v1), some (.inl v2), some (.inl (M (M (M v0 1) 8) v1)), some (.inl x9), none]) hC dX0_priceFor_38 rfl (Nat.le_of_ble_eq_true rfl) rfl rfl ?_
    refine aw_iload (pc' := 42) hC dX0_priceFor_40 rfl rfl ?_
    refine aw_aload_n (pc' := 43) (i := 0) hC dX0_priceFor_42 rfl rfl rfl ?_
    refine aw_iload_n (pc' := 44) (i := 3) hC dX0_priceFor_43 rfl rfl rfl ?_
    obtain ⟨x11, q10, h⟩ := pb_s h
    replace h := u1_s h
    refine aw_cV (pc' := 47) (k2 := 0) (n2 := 0) (st := [.inl x9]) (stN := [.inl x11, .inl x9]) hC [.inl (M (M (M v0 1) 8) v1)] (mX0_knowing q10) lk_X0_81 g1 dX0_priceFor_44 rfl rfl (Nat.le_of_ble_eq_true rfl) (Nat.le_of_ble_eq_true rfl) (Nat.le_of_ble_eq_true rfl) rfl (Nat.le_of_ble_eq_true rfl) rfl rfl rfl ?_
    refine aw_iand (pc' := 48) hC dX0_priceFor_47 rfl  ?_
    obtain ⟨x13, q12, h⟩ := pb_s h
    replace h := u1_s h
    refine aw_cS (pc' := 51) (k2 := 0) (n2 := 0) (st := []) (stN := [.inl x13]) hC [.inl (an_ x9 x11)] (mJ6_bitCount_0f7a4 q12) lk_X0_65 dX0_priceFor_48 rfl rfl (Nat.le_of_ble_eq_true rfl) (Nat.le_of_ble_eq_true rfl) (Nat.le_of_ble_eq_true rfl) rfl (Nat.le_of_ble_eq_true rfl) rfl rfl rfl ?_
    refine aw_istore (pc' := 53) (ls' := [some (.inr (.inr v0)), some (.inl v1), some (.inl v2), some (.inl (M (M (M v0 1) 8) v1)), some (.inl x9), some (.inl x13)]) hC dX0_priceFor_51 rfl (Nat.le_of_ble_eq_true rfl) rfl rfl ?_
    refine aw_aload_n (pc' := 54) (i := 0) hC dX0_priceFor_53 rfl rfl rfl ?_
    refine aw_aload_n (pc' := 55) (i := 0) hC dX0_priceFor_54 rfl rfl rfl ?_
    refine aw_getfield (pc' := 58) (v := (.inr (.inr (M v0 1)))) hC dX0_priceFor_55 rfl fl_X0_22 g1 rfl ?_
    refine aw_getfield (pc' := 61) (v := (.inr (.inr (M (M v0 1) 7)))) hC dX0_priceFor_58 rfl fl_X0_115 g2 rfl ?_
    refine aw_iload_n (pc' := 62) (i := 1) hC dX0_priceFor_61 rfl rfl rfl ?_
    obtain ⟨g14, h⟩ := gd_s h
    refine aw_iaload (pc' := 63) hC dX0_priceFor_62 rfl g14 ?_
    refine aw_iload_n (pc' := 64) (i := 2) hC dX0_priceFor_63 rfl rfl rfl ?_
    refine aw_iload_n (pc' := 65) (i := 3) hC dX0_priceFor_64 rfl rfl rfl ?_
    refine aw_iload (pc' := 67) hC dX0_priceFor_65 rfl rfl ?_
    refine aw_iload (pc' := 69) hC dX0_priceFor_67 rfl rfl ?_
    obtain ⟨x16, q15, h⟩ := pb_s h
    replace h := u1_s h
    refine aw_cS (pc' := 72) (k2 := 0) (n2 := 0) (st := [.inl x13, .inl (M (M (M v0 1) 8) v1), .inl v2, .inl (M (M (M v0 1) 7) v1), .inr (.inr v0)]) (stN := [.inl x16, .inl x13, .inl (M (M (M v0 1) 8) v1), .inl v2, .inl (M (M (M v0 1) 7) v1), .inr (.inr v0)]) hC [.inl x9] (mJ6_bitCount_0f7a4 q15) lk_X0_65 dX0_priceFor_69 rfl rfl (Nat.le_of_ble_eq_true rfl) (Nat.le_of_ble_eq_true rfl) (Nat.le_of_ble_eq_true rfl) rfl (Nat.le_of_ble_eq_true rfl) rfl rfl rfl ?_
    obtain ⟨M18, q17, h⟩ := pb_s h
    replace h := u1_s h
    refine aw_cV (pc' := 75) (k2 := 0) (n2 := 0) (st := []) (stN := []) hC [.inl (M (M (M v0 1) 7) v1), .inl v2, .inl (M (M (M v0 1) 8) v1), .inl x13, .inl x16] (mX0_putFacts q17) lk_X0_101 g1 dX0_priceFor_72 rfl rfl (Nat.le_of_ble_eq_true rfl) (Nat.le_of_ble_eq_true rfl) (Nat.le_of_ble_eq_true rfl) rfl (Nat.le_of_ble_eq_true rfl) rfl rfl rfl ?_
    refine aw_iconst (pc' := 76) hC dX0_priceFor_75 rfl (by decide) ?_
    refine aw_sipush (pc' := 79) hC dX0_priceFor_76 rfl (by decide) ?_
    refine aw_aload_n (pc' := 80) (i := 0) hC dX0_priceFor_79 rfl rfl rfl ?_
    refine aw_getfield (pc' := 83) (v := (.inr (.inr (M18 v0 1)))) hC dX0_priceFor_80 rfl fl_X0_22 g1 rfl ?_
    obtain ⟨g19, h⟩ := gd_s h
    refine aw_getfield (pc' := 86) (v := (.inr (.inr (M18 (M18 v0 1) 10)))) hC dX0_priceFor_83 rfl fl_X0_112 g19 rfl ?_
    refine aw_aload_n (pc' := 87) (i := 0) hC dX0_priceFor_86 rfl rfl rfl ?_
    refine aw_getfield (pc' := 90) (v := (.inr (.inr (M18 v0 2)))) hC dX0_priceFor_87 rfl fl_X0_18 g1 rfl ?_
    obtain ⟨g21, h⟩ := gd_s h
    obtain ⟨⟨x22, M23⟩, q20, h⟩ := pb_s h
    replace h := u2_s h
    refine aw_cV (pc' := 93) (k2 := 0) (n2 := 0) (st := [.inl 999, .inl 0]) (stN := [.inl x22, .inl 999, .inl 0]) hC [.inr (.inr (M18 v0 2))] (mX1_value q20) lk_X0_105 g21 dX0_priceFor_90 rfl rfl (Nat.le_of_ble_eq_true rfl) (Nat.le_of_ble_eq_true rfl) (Nat.le_of_ble_eq_true rfl) rfl (Nat.le_of_ble_eq_true rfl) rfl rfl rfl ?_
    obtain ⟨x25, q24, h⟩ := pb_s h
    replace h := u1_s h
    refine aw_cS (pc' := 96) (k2 := 0) (n2 := 0) (st := [.inl 0]) (stN := [.inl x25, .inl 0]) hC [.inl 999, .inl x22] (mJ9_min_7cf53 q24) lk_X0_121 dX0_priceFor_93 rfl rfl (Nat.le_of_ble_eq_true rfl) (Nat.le_of_ble_eq_true rfl) (Nat.le_of_ble_eq_true rfl) rfl (Nat.le_of_ble_eq_true rfl) rfl rfl rfl ?_
    obtain ⟨x27, q26, h⟩ := pb_s h
    replace h := u1_s h
    refine aw_cS (pc' := 99) (k2 := 0) (n2 := 0) (st := []) (stN := [.inl x27]) hC [.inl 0, .inl x25] (mJ9_max_7cf53 q26) lk_X0_127 dX0_priceFor_96 rfl rfl (Nat.le_of_ble_eq_true rfl) (Nat.le_of_ble_eq_true rfl) (Nat.le_of_ble_eq_true rfl) rfl (Nat.le_of_ble_eq_true rfl) rfl rfl rfl ?_
    cases h
    exact aw_iret hC dX0_priceFor_99 (Nat.le_of_ble_eq_true rfl) (Nat.le_of_ble_eq_true rfl)
  · replace h := it_p c6 h
    refine aw_aload_n (pc' := 14) (i := 0) hC dX0_priceFor_13 rfl rfl rfl ?_
    refine aw_getfield (pc' := 17) (v := (.inr (.inr (M v0 1)))) hC dX0_priceFor_14 rfl fl_X0_22 g1 rfl ?_
    refine aw_getfield (pc' := 20) (v := (.inr (.inr (M (M v0 1) 7)))) hC dX0_priceFor_17 rfl fl_X0_115 g2 rfl ?_
    refine aw_iload_n (pc' := 21) (i := 1) hC dX0_priceFor_20 rfl rfl rfl ?_
    obtain ⟨g28, h⟩ := gd_s h
    refine aw_iaload (pc' := 22) hC dX0_priceFor_21 rfl g28 ?_
    cases h
    exact aw_iret hC dX0_priceFor_22 (Nat.le_of_ble_eq_true rfl) (Nat.le_of_ble_eq_true rfl)
-- CoinCircle.goods(III)I
def fX8_goods (sh : AwS) (M : AwM) (v0 : Int) (v1 : Int) (v2 : Int) (v3 : Int) : Option (Int × AwM) :=
  gd_ (kd_ sh v0 = (0, 8)) (gd_ (kd_ sh (M v0 3) = (0, 5)) (pb (fX5_isThere sh M (M v0 3) 2 v1) <| u1 fun (x4 : Int) => ((if x4 = 0 then some ((-1), M) else pb (fX5_isThere sh M (M v0 3) 0 v2) <| u1 fun (x7 : Int) => ((if x7 = 0 then some ((-1), M) else (if v3 = 0 then gd_ ((kd_ sh (M (M v0 3) 7)).1 = 1 ∧ (0 : Int) ≤ v1 ∧ v1 < ((kd_ sh (M (M v0 3) 7)).2 : Int)) (some ((M (M (M v0 3) 7) v1), M)) else (if v3 = 1 then gd_ ((kd_ sh (M (M v0 3) 8)).1 = 1 ∧ (0 : Int) ≤ v1 ∧ v1 < ((kd_ sh (M (M v0 3) 8)).2 : Int)) (some ((M (M (M v0 3) 8) v1), M)) else (if v3 = 2 then gd_ (kd_ sh (M v0 4) = (0, 0)) (pb (fX0_priceFor sh M (M v0 4) v1 v2) <| u2 fun (x16 : Int) (M17 : AwM) => (some (x16, M17))) else some ((-1), M))))))))))
set_option maxRecDepth 100000 in
set_option maxHeartbeats 4000000 in
theorem mX8_goods {sh : AwS} {M : AwM} {v0 : Int} {v1 : Int} {v2 : Int} {v3 : Int} {r : Int} {M' : AwM} (h : fX8_goods sh M v0 v1 v2 v3 = some (r, M')) : AMet yX8_goods cX8_goods 4 (some .int) 5 0 0 [.inr (.inr v0), .inl v1, .inl v2, .inl v3] sh M (some (.inl r)) sh M' := by
  refine amet_of (by decide +kernel) (Nat.le_of_ble_eq_true rfl) (fun Γ hC => ?_)
  replace hC : AOK Γ RX8 cX8_goods 4 5 0 0 "goods" (some .int) := hC
  unfold fX8_goods at h
  refine aw_sub hC [some (.inr (.inr v0)), some (.inl v1), some (.inl v2), some (.inl v3)] ⟨rfl, ⟨rfl, ⟨rfl, ⟨rfl, trivial⟩⟩⟩⟩ (Nat.le_of_ble_eq_true rfl) ?_
  refine aw_aload_n (pc' := 1) (i := 0) hC dX8_goods_0 rfl rfl rfl ?_
  obtain ⟨g1, h⟩ := gd_s h
  refine aw_getfield (pc' := 4) (v := (.inr (.inr (M v0 3)))) hC dX8_goods_1 rfl fl_X8_51 g1 rfl ?_
  refine aw_iconst (pc' := 5) hC dX8_goods_4 rfl (by decide) ?_
  refine aw_iload_n (pc' := 6) (i := 1) hC dX8_goods_5 rfl rfl rfl ?_
  obtain ⟨g3, h⟩ := gd_s h
  obtain ⟨x4, q2, h⟩ := pb_s h
  replace h := u1_s h
  refine aw_cV (pc' := 9) (k2 := 0) (n2 := 0) (st := []) (stN := [.inl x4]) hC [.inl 2, .inl v1] (mX5_isThere q2) lk_X8_135 g3 dX8_goods_6 rfl rfl (Nat.le_of_ble_eq_true rfl) (Nat.le_of_ble_eq_true rfl) (Nat.le_of_ble_eq_true rfl) rfl (Nat.le_of_ble_eq_true rfl) rfl rfl rfl ?_
  refine aw_if_eq (tgt := 24) (pc' := 12) hC dX8_goods_9 (by decide) rfl (fun c5 => ?_) (fun c5 => ?_)
  · replace h := it_p c5 h
    refine aw_iconst (pc' := 25) hC dX8_goods_24 rfl (by decide) ?_
    cases h
    exact aw_iret hC dX8_goods_25 (Nat.le_of_ble_eq_true rfl) (Nat.le_of_ble_eq_true rfl)
  · replace h := it_n c5 h
    refine aw_aload_n (pc' := 13) (i := 0) hC dX8_goods_12 rfl rfl rfl ?_
    refine aw_getfield (pc' := 16) (v := (.inr (.inr (M v0 3)))) hC dX8_goods_13 rfl fl_X8_51 g1 rfl ?_
    refine aw_iconst (pc' := 17) hC dX8_goods_16 rfl (by decide) ?_
    refine aw_iload_n (pc' := 18) (i := 2) hC dX8_goods_17 rfl rfl rfl ?_
    obtain ⟨x7, q6, h⟩ := pb_s h
    replace h := u1_s h
    refine aw_cV (pc' := 21) (k2 := 0) (n2 := 0) (st := []) (stN := [.inl x7]) hC [.inl 0, .inl v2] (mX5_isThere q6) lk_X8_135 g3 dX8_goods_18 rfl rfl (Nat.le_of_ble_eq_true rfl) (Nat.le_of_ble_eq_true rfl) (Nat.le_of_ble_eq_true rfl) rfl (Nat.le_of_ble_eq_true rfl) rfl rfl rfl ?_
    refine aw_if_ne (tgt := 26) (pc' := 24) hC dX8_goods_21 (by decide) rfl (fun c8 => ?_) (fun c8 => ?_)
    · replace h := it_n c8 h
      refine aw_iload_n (pc' := 27) (i := 3) hC dX8_goods_26 rfl rfl rfl ?_
      by_cases c9 : v3 = 0
      · replace h := it_p c9 h
        refine aw_tsIn (tgt := 52) (off := 25) hC dX8_goods_27 ⟨by omega, by omega, by rw [c9]; rfl⟩ (by decide) ?_
        refine aw_aload_n (pc' := 53) (i := 0) hC dX8_goods_52 rfl rfl rfl ?_
        refine aw_getfield (pc' := 56) (v := (.inr (.inr (M v0 3)))) hC dX8_goods_53 rfl fl_X8_51 g1 rfl ?_
        refine aw_getfield (pc' := 59) (v := (.inr (.inr (M (M v0 3) 7)))) hC dX8_goods_56 rfl fl_X8_198 g3 rfl ?_
        refine aw_iload_n (pc' := 60) (i := 1) hC dX8_goods_59 rfl rfl rfl ?_
        obtain ⟨g12, h⟩ := gd_s h
        refine aw_iaload (pc' := 61) hC dX8_goods_60 rfl g12 ?_
        cases h
        exact aw_iret hC dX8_goods_61 (Nat.le_of_ble_eq_true rfl) (Nat.le_of_ble_eq_true rfl)
      · replace h := it_n c9 h
        by_cases c10 : v3 = 1
        · replace h := it_p c10 h
          refine aw_tsIn (tgt := 62) (off := 35) hC dX8_goods_27 ⟨by omega, by omega, by rw [c10]; rfl⟩ (by decide) ?_
          refine aw_aload_n (pc' := 63) (i := 0) hC dX8_goods_62 rfl rfl rfl ?_
          refine aw_getfield (pc' := 66) (v := (.inr (.inr (M v0 3)))) hC dX8_goods_63 rfl fl_X8_51 g1 rfl ?_
          refine aw_getfield (pc' := 69) (v := (.inr (.inr (M (M v0 3) 8)))) hC dX8_goods_66 rfl fl_X8_201 g3 rfl ?_
          refine aw_iload_n (pc' := 70) (i := 1) hC dX8_goods_69 rfl rfl rfl ?_
          obtain ⟨g13, h⟩ := gd_s h
          refine aw_iaload (pc' := 71) hC dX8_goods_70 rfl g13 ?_
          cases h
          exact aw_iret hC dX8_goods_71 (Nat.le_of_ble_eq_true rfl) (Nat.le_of_ble_eq_true rfl)
        · replace h := it_n c10 h
          by_cases c11 : v3 = 2
          · replace h := it_p c11 h
            refine aw_tsIn (tgt := 72) (off := 45) hC dX8_goods_27 ⟨by omega, by omega, by rw [c11]; rfl⟩ (by decide) ?_
            refine aw_aload_n (pc' := 73) (i := 0) hC dX8_goods_72 rfl rfl rfl ?_
            refine aw_getfield (pc' := 76) (v := (.inr (.inr (M v0 4)))) hC dX8_goods_73 rfl fl_X8_60 g1 rfl ?_
            refine aw_iload_n (pc' := 77) (i := 1) hC dX8_goods_76 rfl rfl rfl ?_
            refine aw_iload_n (pc' := 78) (i := 2) hC dX8_goods_77 rfl rfl rfl ?_
            obtain ⟨g15, h⟩ := gd_s h
            obtain ⟨⟨x16, M17⟩, q14, h⟩ := pb_s h
            replace h := u2_s h
            refine aw_cV (pc' := 81) (k2 := 0) (n2 := 0) (st := []) (stN := [.inl x16]) hC [.inl v1, .inl v2] (mX0_priceFor q14) lk_X8_204 g15 dX8_goods_78 rfl rfl (Nat.le_of_ble_eq_true rfl) (Nat.le_of_ble_eq_true rfl) (Nat.le_of_ble_eq_true rfl) rfl (Nat.le_of_ble_eq_true rfl) rfl rfl rfl ?_
            cases h
            exact aw_iret hC dX8_goods_81 (Nat.le_of_ble_eq_true rfl) (Nat.le_of_ble_eq_true rfl)
          · replace h := it_n c11 h
            refine aw_tsOut (tgt := 82) hC dX8_goods_27 (by omega) (by decide) ?_
            refine aw_iconst (pc' := 83) hC dX8_goods_82 rfl (by decide) ?_
            cases h
            exact aw_iret hC dX8_goods_83 (Nat.le_of_ble_eq_true rfl) (Nat.le_of_ble_eq_true rfl)
    · replace h := it_p c8 h
      refine aw_iconst (pc' := 25) hC dX8_goods_24 rfl (by decide) ?_
      cases h
      exact aw_iret hC dX8_goods_25 (Nat.le_of_ble_eq_true rfl) (Nat.le_of_ble_eq_true rfl)
-- CoinCircle.areTwo(II)Z
def fX8_areTwo (sh : AwS) (M : AwM) (v0 : Int) (v1 : Int) (v2 : Int) : Option Int :=
  gd_ (kd_ sh v0 = (0, 8)) (gd_ (kd_ sh (M v0 3) = (0, 5)) (pb (fX5_isThere sh M (M v0 3) 0 v1) <| u1 fun (x4 : Int) => ((if x4 = 0 then some 0 else pb (fX5_isThere sh M (M v0 3) 0 v2) <| u1 fun (x7 : Int) => ((if x7 = 0 then some 0 else (if v1 = v2 then some 0 else some 1)))))))
set_option maxRecDepth 100000 in
set_option maxHeartbeats 4000000 in
theorem mX8_areTwo {sh : AwS} {M : AwM} {v0 : Int} {v1 : Int} {v2 : Int} {r : Int} (h : fX8_areTwo sh M v0 v1 v2 = some r) : AMet yX8_areTwo cX8_areTwo 3 (some .boolean) 2 0 0 [.inr (.inr v0), .inl v1, .inl v2] sh M (some (.inl r)) sh M := by
  refine amet_of (by decide +kernel) (Nat.le_of_ble_eq_true rfl) (fun Γ hC => ?_)
  replace hC : AOK Γ RX8 cX8_areTwo 3 2 0 0 "areTwo" (some .boolean) := hC
  unfold fX8_areTwo at h
  refine aw_sub hC [some (.inr (.inr v0)), some (.inl v1), some (.inl v2)] ⟨rfl, ⟨rfl, ⟨rfl, trivial⟩⟩⟩ (Nat.le_of_ble_eq_true rfl) ?_
  refine aw_aload_n (pc' := 1) (i := 0) hC dX8_areTwo_0 rfl rfl rfl ?_
  obtain ⟨g1, h⟩ := gd_s h
  refine aw_getfield (pc' := 4) (v := (.inr (.inr (M v0 3)))) hC dX8_areTwo_1 rfl fl_X8_51 g1 rfl ?_
  refine aw_iconst (pc' := 5) hC dX8_areTwo_4 rfl (by decide) ?_
  refine aw_iload_n (pc' := 6) (i := 1) hC dX8_areTwo_5 rfl rfl rfl ?_
  obtain ⟨g3, h⟩ := gd_s h
  obtain ⟨x4, q2, h⟩ := pb_s h
  replace h := u1_s h
  refine aw_cV (pc' := 9) (k2 := 0) (n2 := 0) (st := []) (stN := [.inl x4]) hC [.inl 0, .inl v1] (mX5_isThere q2) lk_X8_135 g3 dX8_areTwo_6 rfl rfl (Nat.le_of_ble_eq_true rfl) (Nat.le_of_ble_eq_true rfl) (Nat.le_of_ble_eq_true rfl) rfl (Nat.le_of_ble_eq_true rfl) rfl rfl rfl ?_
  refine aw_if_eq (tgt := 33) (pc' := 12) hC dX8_areTwo_9 (by decide) rfl (fun c5 => ?_) (fun c5 => ?_)
  · replace h := it_p c5 h
    refine aw_iconst (pc' := 34) hC dX8_areTwo_33 rfl (by decide) ?_
    cases h
    exact aw_zret hC (Or.inl rfl) dX8_areTwo_34 (Nat.le_of_ble_eq_true rfl) (Nat.le_of_ble_eq_true rfl)
  · replace h := it_n c5 h
    refine aw_aload_n (pc' := 13) (i := 0) hC dX8_areTwo_12 rfl rfl rfl ?_
    refine aw_getfield (pc' := 16) (v := (.inr (.inr (M v0 3)))) hC dX8_areTwo_13 rfl fl_X8_51 g1 rfl ?_
    refine aw_iconst (pc' := 17) hC dX8_areTwo_16 rfl (by decide) ?_
    refine aw_iload_n (pc' := 18) (i := 2) hC dX8_areTwo_17 rfl rfl rfl ?_
    obtain ⟨x7, q6, h⟩ := pb_s h
    replace h := u1_s h
    refine aw_cV (pc' := 21) (k2 := 0) (n2 := 0) (st := []) (stN := [.inl x7]) hC [.inl 0, .inl v2] (mX5_isThere q6) lk_X8_135 g3 dX8_areTwo_18 rfl rfl (Nat.le_of_ble_eq_true rfl) (Nat.le_of_ble_eq_true rfl) (Nat.le_of_ble_eq_true rfl) rfl (Nat.le_of_ble_eq_true rfl) rfl rfl rfl ?_
    refine aw_if_eq (tgt := 33) (pc' := 24) hC dX8_areTwo_21 (by decide) rfl (fun c8 => ?_) (fun c8 => ?_)
    · replace h := it_p c8 h
      refine aw_iconst (pc' := 34) hC dX8_areTwo_33 rfl (by decide) ?_
      cases h
      exact aw_zret hC (Or.inl rfl) dX8_areTwo_34 (Nat.le_of_ble_eq_true rfl) (Nat.le_of_ble_eq_true rfl)
    · replace h := it_n c8 h
      refine aw_iload_n (pc' := 25) (i := 1) hC dX8_areTwo_24 rfl rfl rfl ?_
      refine aw_iload_n (pc' := 26) (i := 2) hC dX8_areTwo_25 rfl rfl rfl ?_
      refine aw_icmp_eq (tgt := 33) (pc' := 29) hC dX8_areTwo_26 (by decide) rfl (fun c9 => ?_) (fun c9 => ?_)
      · replace h := it_p c9 h
        refine aw_iconst (pc' := 34) hC dX8_areTwo_33 rfl (by decide) ?_
        cases h
        exact aw_zret hC (Or.inl rfl) dX8_areTwo_34 (Nat.le_of_ble_eq_true rfl) (Nat.le_of_ble_eq_true rfl)
      · replace h := it_n c9 h
        refine aw_iconst (pc' := 30) hC dX8_areTwo_29 rfl (by decide) ?_
        refine aw_goto (tgt := 34) hC dX8_areTwo_30 (by decide) ?_
        cases h
        exact aw_zret hC (Or.inr rfl) dX8_areTwo_34 (Nat.le_of_ble_eq_true rfl) (Nat.le_of_ble_eq_true rfl)
-- CoinCircle$Circle.canSpend(II)I
def fX0_canSpend (sh : AwS) (M : AwM) (v0 : Int) (v1 : Int) (v2 : Int) : Option Int :=
  gd_ (kd_ sh v0 = (0, 0)) (pb (fX0_heldBy sh M v0 v1) <| u1 fun (x3 : Int) => (pb (fX0_knowing sh M v0 v2) <| u1 fun (x5 : Int) => (gd_ (kd_ sh (M v0 1) = (0, 5)) (pb (fX5_worthOf sh M (M v0 1) (an_ x3 x5)) <| u1 fun (x8 : Int) => (some x8)))))
set_option maxRecDepth 100000 in
set_option maxHeartbeats 4000000 in
theorem mX0_canSpend {sh : AwS} {M : AwM} {v0 : Int} {v1 : Int} {v2 : Int} {r : Int} (h : fX0_canSpend sh M v0 v1 v2 = some r) : AMet yX0_canSpend cX0_canSpend 3 (some .int) 4 0 0 [.inr (.inr v0), .inl v1, .inl v2] sh M (some (.inl r)) sh M := by
  refine amet_of (by decide +kernel) (Nat.le_of_ble_eq_true rfl) (fun Γ hC => ?_)
  replace hC : AOK Γ RX0 cX0_canSpend 3 4 0 0 "canSpend" (some .int) := hC
  unfold fX0_canSpend at h
  refine aw_sub hC [some (.inr (.inr v0)), some (.inl v1), some (.inl v2)] ⟨rfl, ⟨rfl, ⟨rfl, trivial⟩⟩⟩ (Nat.le_of_ble_eq_true rfl) ?_
  refine aw_aload_n (pc' := 1) (i := 0) hC dX0_canSpend_0 rfl rfl rfl ?_
  obtain ⟨g1, h⟩ := gd_s h
  refine aw_getfield (pc' := 4) (v := (.inr (.inr (M v0 1)))) hC dX0_canSpend_1 rfl fl_X0_22 g1 rfl ?_
  refine aw_aload_n (pc' := 5) (i := 0) hC dX0_canSpend_4 rfl rfl rfl ?_
  refine aw_iload_n (pc' := 6) (i := 1) hC dX0_canSpend_5 rfl rfl rfl ?_
  obtain ⟨x3, q2, h⟩ := pb_s h
  replace h := u1_s h
  refine aw_cV (pc' := 9) (k2 := 0) (n2 := 0) (st := [.inr (.inr (M v0 1))]) (stN := [.inl x3, .inr (.inr (M v0 1))]) hC [.inl v1] (mX0_heldBy q2) lk_X0_74 g1 dX0_canSpend_6 rfl rfl (Nat.le_of_ble_eq_true rfl) (Nat.le_of_ble_eq_true rfl) (Nat.le_of_ble_eq_true rfl) rfl (Nat.le_of_ble_eq_true rfl) rfl rfl rfl ?_
  refine aw_aload_n (pc' := 10) (i := 0) hC dX0_canSpend_9 rfl rfl rfl ?_
  refine aw_iload_n (pc' := 11) (i := 2) hC dX0_canSpend_10 rfl rfl rfl ?_
  obtain ⟨x5, q4, h⟩ := pb_s h
  replace h := u1_s h
  refine aw_cV (pc' := 14) (k2 := 0) (n2 := 0) (st := [.inl x3, .inr (.inr (M v0 1))]) (stN := [.inl x5, .inl x3, .inr (.inr (M v0 1))]) hC [.inl v2] (mX0_knowing q4) lk_X0_81 g1 dX0_canSpend_11 rfl rfl (Nat.le_of_ble_eq_true rfl) (Nat.le_of_ble_eq_true rfl) (Nat.le_of_ble_eq_true rfl) rfl (Nat.le_of_ble_eq_true rfl) rfl rfl rfl ?_
  refine aw_iand (pc' := 15) hC dX0_canSpend_14 rfl  ?_
  obtain ⟨g7, h⟩ := gd_s h
  obtain ⟨x8, q6, h⟩ := pb_s h
  replace h := u1_s h
  refine aw_cV (pc' := 18) (k2 := 0) (n2 := 0) (st := []) (stN := [.inl x8]) hC [.inl (an_ x3 x5)] (mX5_worthOf q6) lk_X0_84 g7 dX0_canSpend_15 rfl rfl (Nat.le_of_ble_eq_true rfl) (Nat.le_of_ble_eq_true rfl) (Nat.le_of_ble_eq_true rfl) rfl (Nat.le_of_ble_eq_true rfl) rfl rfl rfl ?_
  cases h
  exact aw_iret hC dX0_canSpend_18 (Nat.le_of_ble_eq_true rfl) (Nat.le_of_ble_eq_true rfl)
-- CoinCircle.spend(II)I
def fX8_spend (sh : AwS) (M : AwM) (v0 : Int) (v1 : Int) (v2 : Int) : Option Int :=
  gd_ (kd_ sh v0 = (0, 8)) (pb (fX8_areTwo sh M v0 v1 v2) <| u1 fun (x3 : Int) => ((if x3 = 0 then some (-1) else gd_ (kd_ sh (M v0 4) = (0, 0)) (pb (fX0_canSpend sh M (M v0 4) v1 v2) <| u1 fun (x7 : Int) => (some x7)))))
set_option maxRecDepth 100000 in
set_option maxHeartbeats 4000000 in
theorem mX8_spend {sh : AwS} {M : AwM} {v0 : Int} {v1 : Int} {v2 : Int} {r : Int} (h : fX8_spend sh M v0 v1 v2 = some r) : AMet yX8_spend cX8_spend 3 (some .int) 5 0 0 [.inr (.inr v0), .inl v1, .inl v2] sh M (some (.inl r)) sh M := by
  refine amet_of (by decide +kernel) (Nat.le_of_ble_eq_true rfl) (fun Γ hC => ?_)
  replace hC : AOK Γ RX8 cX8_spend 3 5 0 0 "spend" (some .int) := hC
  unfold fX8_spend at h
  refine aw_sub hC [some (.inr (.inr v0)), some (.inl v1), some (.inl v2)] ⟨rfl, ⟨rfl, ⟨rfl, trivial⟩⟩⟩ (Nat.le_of_ble_eq_true rfl) ?_
  refine aw_aload_n (pc' := 1) (i := 0) hC dX8_spend_0 rfl rfl rfl ?_
  refine aw_iload_n (pc' := 2) (i := 1) hC dX8_spend_1 rfl rfl rfl ?_
  refine aw_iload_n (pc' := 3) (i := 2) hC dX8_spend_2 rfl rfl rfl ?_
  obtain ⟨g2, h⟩ := gd_s h
  obtain ⟨x3, q1, h⟩ := pb_s h
  replace h := u1_s h
  refine aw_cV (pc' := 6) (k2 := 0) (n2 := 0) (st := []) (stN := [.inl x3]) hC [.inl v1, .inl v2] (mX8_areTwo q1) lk_X8_207 g2 dX8_spend_3 rfl rfl (Nat.le_of_ble_eq_true rfl) (Nat.le_of_ble_eq_true rfl) (Nat.le_of_ble_eq_true rfl) rfl (Nat.le_of_ble_eq_true rfl) rfl rfl rfl ?_
  refine aw_if_eq (tgt := 21) (pc' := 9) hC dX8_spend_6 (by decide) rfl (fun c4 => ?_) (fun c4 => ?_)
  · replace h := it_p c4 h
    refine aw_iconst (pc' := 22) hC dX8_spend_21 rfl (by decide) ?_
    cases h
    exact aw_iret hC dX8_spend_22 (Nat.le_of_ble_eq_true rfl) (Nat.le_of_ble_eq_true rfl)
  · replace h := it_n c4 h
    refine aw_aload_n (pc' := 10) (i := 0) hC dX8_spend_9 rfl rfl rfl ?_
    refine aw_getfield (pc' := 13) (v := (.inr (.inr (M v0 4)))) hC dX8_spend_10 rfl fl_X8_60 g2 rfl ?_
    refine aw_iload_n (pc' := 14) (i := 1) hC dX8_spend_13 rfl rfl rfl ?_
    refine aw_iload_n (pc' := 15) (i := 2) hC dX8_spend_14 rfl rfl rfl ?_
    obtain ⟨g6, h⟩ := gd_s h
    obtain ⟨x7, q5, h⟩ := pb_s h
    replace h := u1_s h
    refine aw_cV (pc' := 18) (k2 := 0) (n2 := 0) (st := []) (stN := [.inl x7]) hC [.inl v1, .inl v2] (mX0_canSpend q5) lk_X8_210 g6 dX8_spend_15 rfl rfl (Nat.le_of_ble_eq_true rfl) (Nat.le_of_ble_eq_true rfl) (Nat.le_of_ble_eq_true rfl) rfl (Nat.le_of_ble_eq_true rfl) rfl rfl rfl ?_
    refine aw_goto (tgt := 22) hC dX8_spend_18 (by decide) ?_
    cases h
    exact aw_iret hC dX8_spend_22 (Nat.le_of_ble_eq_true rfl) (Nat.le_of_ble_eq_true rfl)
-- CoinCircle$Ledger.copyFrom(LCoinCircle$Ledger;)V
def fX3_copyFrom (sh : AwS) (M : AwM) (v0 : Int) (v1 : Int) : Option (AwM) :=
  gd_ (kd_ sh v1 = (0, 3)) (gd_ (kd_ sh v0 = (0, 3)) (bd_ (up_ M v0 0 (M v1 0)) fun (M3 : AwM) => (gd_ ((kd_ sh (M3 v1 1)).1 = 1 ∧ (kd_ sh (M3 v0 1)).1 = 1 ∧ (0 : Int) ≤ 0 ∧ (0 : Int) ≤ 0 ∧ (0 : Int) ≤ 12 ∧ 0 + 12 ≤ ((kd_ sh (M3 v1 1)).2 : Int) ∧ 0 + 12 ≤ ((kd_ sh (M3 v0 1)).2 : Int)) (bd_ (cp_ M3 (M3 v1 1) 0 (M3 v0 1) 0 12) fun (M6 : AwM) => (gd_ ((kd_ sh (M6 v1 2)).1 = 1 ∧ (kd_ sh (M6 v0 2)).1 = 1 ∧ (0 : Int) ≤ 0 ∧ (0 : Int) ≤ 0 ∧ (0 : Int) ≤ 12 ∧ 0 + 12 ≤ ((kd_ sh (M6 v1 2)).2 : Int) ∧ 0 + 12 ≤ ((kd_ sh (M6 v0 2)).2 : Int)) (bd_ (cp_ M6 (M6 v1 2) 0 (M6 v0 2) 0 12) fun (M9 : AwM) => (gd_ ((kd_ sh (M9 v1 3)).1 = 1 ∧ (kd_ sh (M9 v0 3)).1 = 1 ∧ (0 : Int) ≤ 0 ∧ (0 : Int) ≤ 0 ∧ (0 : Int) ≤ 12 ∧ 0 + 12 ≤ ((kd_ sh (M9 v1 3)).2 : Int) ∧ 0 + 12 ≤ ((kd_ sh (M9 v0 3)).2 : Int)) (bd_ (cp_ M9 (M9 v1 3) 0 (M9 v0 3) 0 12) fun (M12 : AwM) => (gd_ ((kd_ sh (M12 v1 4)).1 = 1 ∧ (kd_ sh (M12 v0 4)).1 = 1 ∧ (0 : Int) ≤ 0 ∧ (0 : Int) ≤ 0 ∧ (0 : Int) ≤ 120 ∧ 0 + 120 ≤ ((kd_ sh (M12 v1 4)).2 : Int) ∧ 0 + 120 ≤ ((kd_ sh (M12 v0 4)).2 : Int)) (bd_ (cp_ M12 (M12 v1 4) 0 (M12 v0 4) 0 120) fun (M15 : AwM) => (some M15)))))))))))
set_option maxRecDepth 100000 in
set_option maxHeartbeats 4000000 in
theorem mX3_copyFrom {sh : AwS} {M : AwM} {v0 : Int} {v1 : Int} {M' : AwM} (h : fX3_copyFrom sh M v0 v1 = some M') : AMet yX3_copyFrom cX3_copyFrom 2 none 2 0 0 [.inr (.inr v0), .inr (.inr v1)] sh M none sh M' := by
  refine amet_of (by decide +kernel) (Nat.le_of_ble_eq_true rfl) (fun Γ hC => ?_)
  replace hC : AOK Γ RX3 cX3_copyFrom 2 2 0 0 "copyFrom" none := hC
  unfold fX3_copyFrom at h
  refine aw_sub hC [some (.inr (.inr v0)), some (.inr (.inr v1))] ⟨rfl, ⟨rfl, trivial⟩⟩ (Nat.le_of_ble_eq_true rfl) ?_
  refine aw_aload_n (pc' := 1) (i := 0) hC dX3_copyFrom_0 rfl rfl rfl ?_
  refine aw_aload_n (pc' := 2) (i := 1) hC dX3_copyFrom_1 rfl rfl rfl ?_
  obtain ⟨g1, h⟩ := gd_s h
  refine aw_getfield (pc' := 5) (v := (.inl (M v1 0))) hC dX3_copyFrom_2 rfl fl_X3_24 g1 rfl ?_
  obtain ⟨g2, h⟩ := gd_s h
  obtain ⟨M3, e4, h⟩ := bd_s h
  refine aw_pf (pc' := 8) hC dX3_copyFrom_5 rfl fp_X3_24 g2 rfl trivial e4 ?_
  refine aw_aload_n (pc' := 9) (i := 1) hC dX3_copyFrom_8 rfl rfl rfl ?_
  refine aw_getfield (pc' := 12) (v := (.inr (.inr (M3 v1 1)))) hC dX3_copyFrom_9 rfl fl_X3_9 g1 rfl ?_
  refine aw_iconst (pc' := 13) hC dX3_copyFrom_12 rfl (by decide) ?_
  refine aw_aload_n (pc' := 14) (i := 0) hC dX3_copyFrom_13 rfl rfl rfl ?_
  refine aw_getfield (pc' := 17) (v := (.inr (.inr (M3 v0 1)))) hC dX3_copyFrom_14 rfl fl_X3_9 g2 rfl ?_
  refine aw_iconst (pc' := 18) hC dX3_copyFrom_17 rfl (by decide) ?_
  refine aw_bipush (pc' := 20) hC dX3_copyFrom_18 rfl (by decide) ?_
  obtain ⟨g5, h⟩ := gd_s h
  obtain ⟨M6, e7, h⟩ := bd_s h
  refine aw_copy (pc' := 23) hC lc_X3_28 dX3_copyFrom_20 rfl (Nat.le_of_ble_eq_true rfl) (Nat.le_of_ble_eq_true rfl) g5 e7 ?_
  refine aw_aload_n (pc' := 24) (i := 1) hC dX3_copyFrom_23 rfl rfl rfl ?_
  refine aw_getfield (pc' := 27) (v := (.inr (.inr (M6 v1 2)))) hC dX3_copyFrom_24 rfl fl_X3_15 g1 rfl ?_
  refine aw_iconst (pc' := 28) hC dX3_copyFrom_27 rfl (by decide) ?_
  refine aw_aload_n (pc' := 29) (i := 0) hC dX3_copyFrom_28 rfl rfl rfl ?_
  refine aw_getfield (pc' := 32) (v := (.inr (.inr (M6 v0 2)))) hC dX3_copyFrom_29 rfl fl_X3_15 g2 rfl ?_
  refine aw_iconst (pc' := 33) hC dX3_copyFrom_32 rfl (by decide) ?_
  refine aw_bipush (pc' := 35) hC dX3_copyFrom_33 rfl (by decide) ?_
  obtain ⟨g8, h⟩ := gd_s h
  obtain ⟨M9, e10, h⟩ := bd_s h
  refine aw_copy (pc' := 38) hC lc_X3_28 dX3_copyFrom_35 rfl (Nat.le_of_ble_eq_true rfl) (Nat.le_of_ble_eq_true rfl) g8 e10 ?_
  refine aw_aload_n (pc' := 39) (i := 1) hC dX3_copyFrom_38 rfl rfl rfl ?_
  refine aw_getfield (pc' := 42) (v := (.inr (.inr (M9 v1 3)))) hC dX3_copyFrom_39 rfl fl_X3_18 g1 rfl ?_
  refine aw_iconst (pc' := 43) hC dX3_copyFrom_42 rfl (by decide) ?_
  refine aw_aload_n (pc' := 44) (i := 0) hC dX3_copyFrom_43 rfl rfl rfl ?_
  refine aw_getfield (pc' := 47) (v := (.inr (.inr (M9 v0 3)))) hC dX3_copyFrom_44 rfl fl_X3_18 g2 rfl ?_
  refine aw_iconst (pc' := 48) hC dX3_copyFrom_47 rfl (by decide) ?_
  refine aw_bipush (pc' := 50) hC dX3_copyFrom_48 rfl (by decide) ?_
  obtain ⟨g11, h⟩ := gd_s h
  obtain ⟨M12, e13, h⟩ := bd_s h
  refine aw_copy (pc' := 53) hC lc_X3_28 dX3_copyFrom_50 rfl (Nat.le_of_ble_eq_true rfl) (Nat.le_of_ble_eq_true rfl) g11 e13 ?_
  refine aw_aload_n (pc' := 54) (i := 1) hC dX3_copyFrom_53 rfl rfl rfl ?_
  refine aw_getfield (pc' := 57) (v := (.inr (.inr (M12 v1 4)))) hC dX3_copyFrom_54 rfl fl_X3_21 g1 rfl ?_
  refine aw_iconst (pc' := 58) hC dX3_copyFrom_57 rfl (by decide) ?_
  refine aw_aload_n (pc' := 59) (i := 0) hC dX3_copyFrom_58 rfl rfl rfl ?_
  refine aw_getfield (pc' := 62) (v := (.inr (.inr (M12 v0 4)))) hC dX3_copyFrom_59 rfl fl_X3_21 g2 rfl ?_
  refine aw_iconst (pc' := 63) hC dX3_copyFrom_62 rfl (by decide) ?_
  refine aw_bipush (pc' := 65) hC dX3_copyFrom_63 rfl (by decide) ?_
  obtain ⟨g14, h⟩ := gd_s h
  obtain ⟨M15, e16, h⟩ := bd_s h
  refine aw_copy (pc' := 68) hC lc_X3_28 dX3_copyFrom_65 rfl (Nat.le_of_ble_eq_true rfl) (Nat.le_of_ble_eq_true rfl) g14 e16 ?_
  cases h
  exact aw_vret hC dX3_copyFrom_68 (Nat.le_of_ble_eq_true rfl) (Nat.le_of_ble_eq_true rfl)
-- CoinCircle$History.keep(LCoinCircle$Ledger;)V
def fX2_keep (sh : AwS) (M : AwM) (v0 : Int) (v1 : Int) : Option (AwM) :=
  gd_ (kd_ sh v0 = (0, 2)) (gd_ ((kd_ sh (M v0 0)).1 = 5 ∧ (0 : Int) ≤ (M v0 1) ∧ (M v0 1) < ((kd_ sh (M v0 0)).2 : Int)) (gd_ (kd_ sh (M (M v0 0) (M v0 1)) = (0, 3)) (pb (fX3_copyFrom sh M (M (M v0 0) (M v0 1)) v1) <| u1 fun (M5 : AwM) => (bd_ (up_ M5 v0 1 (((w32 ((M5 v0 1) + 1)) : Int).tmod 20)) fun (M6 : AwM) => (pb (fJ9_min_7cf53 sh M6 20 (w32 ((M6 v0 2) + 1))) <| u1 fun (x9 : Int) => (bd_ (up_ M6 v0 2 x9) fun (M10 : AwM) => (some M10)))))))
set_option maxRecDepth 100000 in
set_option maxHeartbeats 4000000 in
theorem mX2_keep {sh : AwS} {M : AwM} {v0 : Int} {v1 : Int} {M' : AwM} (h : fX2_keep sh M v0 v1 = some M') : AMet yX2_keep cX2_keep 2 none 3 0 0 [.inr (.inr v0), .inr (.inr v1)] sh M none sh M' := by
  refine amet_of (by decide +kernel) (Nat.le_of_ble_eq_true rfl) (fun Γ hC => ?_)
  replace hC : AOK Γ RX2 cX2_keep 2 3 0 0 "keep" none := hC
  unfold fX2_keep at h
  refine aw_sub hC [some (.inr (.inr v0)), some (.inr (.inr v1))] ⟨rfl, ⟨rfl, trivial⟩⟩ (Nat.le_of_ble_eq_true rfl) ?_
  refine aw_aload_n (pc' := 1) (i := 0) hC dX2_keep_0 rfl rfl rfl ?_
  obtain ⟨g1, h⟩ := gd_s h
  refine aw_getfield (pc' := 4) (v := (.inr (.inr (M v0 0)))) hC dX2_keep_1 rfl fl_X2_11 g1 rfl ?_
  refine aw_aload_n (pc' := 5) (i := 0) hC dX2_keep_4 rfl rfl rfl ?_
  refine aw_getfield (pc' := 8) (v := (.inl (M v0 1))) hC dX2_keep_5 rfl fl_X2_22 g1 rfl ?_
  obtain ⟨g2, h⟩ := gd_s h
  refine aw_aaload (pc' := 9) hC dX2_keep_8 rfl g2 ?_
  refine aw_aload_n (pc' := 10) (i := 1) hC dX2_keep_9 rfl rfl rfl ?_
  obtain ⟨g4, h⟩ := gd_s h
  obtain ⟨M5, q3, h⟩ := pb_s h
  replace h := u1_s h
  refine aw_cV (pc' := 13) (k2 := 0) (n2 := 0) (st := []) (stN := []) hC [.inr (.inr v1)] (mX3_copyFrom q3) lk_X2_25 g4 dX2_keep_10 rfl rfl (Nat.le_of_ble_eq_true rfl) (Nat.le_of_ble_eq_true rfl) (Nat.le_of_ble_eq_true rfl) rfl (Nat.le_of_ble_eq_true rfl) rfl rfl rfl ?_
  refine aw_aload_n (pc' := 14) (i := 0) hC dX2_keep_13 rfl rfl rfl ?_
  refine aw_aload_n (pc' := 15) (i := 0) hC dX2_keep_14 rfl rfl rfl ?_
  refine aw_getfield (pc' := 18) (v := (.inl (M5 v0 1))) hC dX2_keep_15 rfl fl_X2_22 g1 rfl ?_
  refine aw_iconst (pc' := 19) hC dX2_keep_18 rfl (by decide) ?_
  refine aw_iadd (pc' := 20) hC dX2_keep_19 rfl  ?_
  refine aw_bipush (pc' := 22) hC dX2_keep_20 rfl (by decide) ?_
  refine aw_irem (pc' := 23) hC dX2_keep_22 rfl (by decide) ?_
  obtain ⟨M6, e7, h⟩ := bd_s h
  refine aw_pf (pc' := 26) hC dX2_keep_23 rfl fp_X2_22 g1 rfl trivial e7 ?_
  refine aw_aload_n (pc' := 27) (i := 0) hC dX2_keep_26 rfl rfl rfl ?_
  refine aw_bipush (pc' := 29) hC dX2_keep_27 rfl (by decide) ?_
  refine aw_aload_n (pc' := 30) (i := 0) hC dX2_keep_29 rfl rfl rfl ?_
  refine aw_getfield (pc' := 33) (v := (.inl (M6 v0 2))) hC dX2_keep_30 rfl fl_X2_18 g1 rfl ?_
  refine aw_iconst (pc' := 34) hC dX2_keep_33 rfl (by decide) ?_
  refine aw_iadd (pc' := 35) hC dX2_keep_34 rfl  ?_
  obtain ⟨x9, q8, h⟩ := pb_s h
  replace h := u1_s h
  refine aw_cS (pc' := 38) (k2 := 0) (n2 := 0) (st := [.inr (.inr v0)]) (stN := [.inl x9, .inr (.inr v0)]) hC [.inl 20, .inl (w32 ((M6 v0 2) + 1))] (mJ9_min_7cf53 q8) lk_X2_29 dX2_keep_35 rfl rfl (Nat.le_of_ble_eq_true rfl) (Nat.le_of_ble_eq_true rfl) (Nat.le_of_ble_eq_true rfl) rfl (Nat.le_of_ble_eq_true rfl) rfl rfl rfl ?_
  obtain ⟨M10, e11, h⟩ := bd_s h
  refine aw_pf (pc' := 41) hC dX2_keep_38 rfl fp_X2_18 g1 rfl trivial e11 ?_
  cases h
  exact aw_vret hC dX2_keep_41 (Nat.le_of_ble_eq_true rfl) (Nat.le_of_ble_eq_true rfl)
-- CoinCircle$Circle.meet(II)V
def fX0_meet (sh : AwS) (M : AwM) (v0 : Int) (v1 : Int) (v2 : Int) : Option (AwM) :=
  gd_ (kd_ sh v0 = (0, 0)) (gd_ (kd_ sh (M v0 0) = (0, 3)) (gd_ ((kd_ sh (M (M v0 0) 2)).1 = 1 ∧ (0 : Int) ≤ v1 ∧ v1 < ((kd_ sh (M (M v0 0) 2)).2 : Int)) (bd_ (up_ M (M (M v0 0) 2) v1 (or_ (M (M (M v0 0) 2) v1) (sl_ 1 v2))) fun (M4 : AwM) => (gd_ (kd_ sh (M4 v0 0) = (0, 3)) (pb (fX3_setMet sh M4 (M4 v0 0) v1 v2 (M4 (M4 v0 0) 0)) <| u1 fun (M8 : AwM) => (some M8))))))
set_option maxRecDepth 100000 in
set_option maxHeartbeats 4000000 in
theorem mX0_meet {sh : AwS} {M : AwM} {v0 : Int} {v1 : Int} {v2 : Int} {M' : AwM} (h : fX0_meet sh M v0 v1 v2 = some M') : AMet yX0_meet cX0_meet 3 none 2 0 0 [.inr (.inr v0), .inl v1, .inl v2] sh M none sh M' := by
  refine amet_of (by decide +kernel) (Nat.le_of_ble_eq_true rfl) (fun Γ hC => ?_)
  replace hC : AOK Γ RX0 cX0_meet 3 2 0 0 "meet" none := hC
  unfold fX0_meet at h
  refine aw_sub hC [some (.inr (.inr v0)), some (.inl v1), some (.inl v2)] ⟨rfl, ⟨rfl, ⟨rfl, trivial⟩⟩⟩ (Nat.le_of_ble_eq_true rfl) ?_
  refine aw_aload_n (pc' := 1) (i := 0) hC dX0_meet_0 rfl rfl rfl ?_
  obtain ⟨g1, h⟩ := gd_s h
  refine aw_getfield (pc' := 4) (v := (.inr (.inr (M v0 0)))) hC dX0_meet_1 rfl fl_X0_12 g1 rfl ?_
  obtain ⟨g2, h⟩ := gd_s h
  refine aw_getfield (pc' := 7) (v := (.inr (.inr (M (M v0 0) 2)))) hC dX0_meet_4 rfl fl_X0_36 g2 rfl ?_
  refine aw_iload_n (pc' := 8) (i := 1) hC dX0_meet_7 rfl rfl rfl ?_
  refine aw_dup2 (pc' := 9) hC dX0_meet_8 rfl rfl rfl ?_
  obtain ⟨g3, h⟩ := gd_s h
  refine aw_iaload (pc' := 10) hC dX0_meet_9 rfl g3 ?_
  refine aw_iconst (pc' := 11) hC dX0_meet_10 rfl (by decide) ?_
  refine aw_iload_n (pc' := 12) (i := 2) hC dX0_meet_11 rfl rfl rfl ?_
  refine aw_ishl (pc' := 13) hC dX0_meet_12 rfl  ?_
  refine aw_ior (pc' := 14) hC dX0_meet_13 rfl  ?_
  obtain ⟨M4, e5, h⟩ := bd_s h
  refine aw_ias (pc' := 15) hC dX0_meet_14 rfl g3 e5 ?_
  refine aw_aload_n (pc' := 16) (i := 0) hC dX0_meet_15 rfl rfl rfl ?_
  refine aw_getfield (pc' := 19) (v := (.inr (.inr (M4 v0 0)))) hC dX0_meet_16 rfl fl_X0_12 g1 rfl ?_
  refine aw_iload_n (pc' := 20) (i := 1) hC dX0_meet_19 rfl rfl rfl ?_
  refine aw_iload_n (pc' := 21) (i := 2) hC dX0_meet_20 rfl rfl rfl ?_
  refine aw_aload_n (pc' := 22) (i := 0) hC dX0_meet_21 rfl rfl rfl ?_
  refine aw_getfield (pc' := 25) (v := (.inr (.inr (M4 v0 0)))) hC dX0_meet_22 rfl fl_X0_12 g1 rfl ?_
  obtain ⟨g6, h⟩ := gd_s h
  refine aw_getfield (pc' := 28) (v := (.inl (M4 (M4 v0 0) 0))) hC dX0_meet_25 rfl fl_X0_26 g6 rfl ?_
  obtain ⟨M8, q7, h⟩ := pb_s h
  replace h := u1_s h
  refine aw_cV (pc' := 31) (k2 := 0) (n2 := 0) (st := []) (stN := []) hC [.inl v1, .inl v2, .inl (M4 (M4 v0 0) 0)] (mX3_setMet q7) lk_X0_44 g6 dX0_meet_28 rfl rfl (Nat.le_of_ble_eq_true rfl) (Nat.le_of_ble_eq_true rfl) (Nat.le_of_ble_eq_true rfl) rfl (Nat.le_of_ble_eq_true rfl) rfl rfl rfl ?_
  cases h
  exact aw_vret hC dX0_meet_31 (Nat.le_of_ble_eq_true rfl) (Nat.le_of_ble_eq_true rfl)
-- CoinCircle$Circle.presentTo(II)Z
def fX0_presentTo (sh : AwS) (M : AwM) (v0 : Int) (v1 : Int) (v2 : Int) : Option (Int × AwM) :=
  gd_ (kd_ sh v0 = (0, 0)) (pb (fX0_testHolds sh M v0 v1 v2) <| u2 fun (x3 : Int) (M4 : AwM) => ((if x3 = 0 then gd_ (kd_ sh (M4 v0 0) = (0, 3)) (gd_ ((kd_ sh (M4 (M4 v0 0) 3)).1 = 1 ∧ (0 : Int) ≤ v1 ∧ v1 < ((kd_ sh (M4 (M4 v0 0) 3)).2 : Int)) (bd_ (up_ M4 (M4 (M4 v0 0) 3) v1 (or_ (M4 (M4 (M4 v0 0) 3) v1) (sl_ 1 v2))) fun (M8 : AwM) => (some (0, M8)))) else pb (fX0_meet sh M4 v0 v1 v2) <| u1 fun (M11 : AwM) => (some (1, M11)))))
set_option maxRecDepth 100000 in
set_option maxHeartbeats 4000000 in
theorem mX0_presentTo {sh : AwS} {M : AwM} {v0 : Int} {v1 : Int} {v2 : Int} {r : Int} {M' : AwM} (h : fX0_presentTo sh M v0 v1 v2 = some (r, M')) : AMet yX0_presentTo cX0_presentTo 3 (some .boolean) 6 0 0 [.inr (.inr v0), .inl v1, .inl v2] sh M (some (.inl r)) sh M' := by
  refine amet_of (by decide +kernel) (Nat.le_of_ble_eq_true rfl) (fun Γ hC => ?_)
  replace hC : AOK Γ RX0 cX0_presentTo 3 6 0 0 "presentTo" (some .boolean) := hC
  unfold fX0_presentTo at h
  refine aw_sub hC [some (.inr (.inr v0)), some (.inl v1), some (.inl v2)] ⟨rfl, ⟨rfl, ⟨rfl, trivial⟩⟩⟩ (Nat.le_of_ble_eq_true rfl) ?_
  refine aw_aload_n (pc' := 1) (i := 0) hC dX0_presentTo_0 rfl rfl rfl ?_
  refine aw_iload_n (pc' := 2) (i := 1) hC dX0_presentTo_1 rfl rfl rfl ?_
  refine aw_iload_n (pc' := 3) (i := 2) hC dX0_presentTo_2 rfl rfl rfl ?_
  obtain ⟨g2, h⟩ := gd_s h
  obtain ⟨⟨x3, M4⟩, q1, h⟩ := pb_s h
  replace h := u2_s h
  refine aw_cV (pc' := 6) (k2 := 0) (n2 := 0) (st := []) (stN := [.inl x3]) hC [.inl v1, .inl v2] (mX0_testHolds q1) lk_X0_130 g2 dX0_presentTo_3 rfl rfl (Nat.le_of_ble_eq_true rfl) (Nat.le_of_ble_eq_true rfl) (Nat.le_of_ble_eq_true rfl) rfl (Nat.le_of_ble_eq_true rfl) rfl rfl rfl ?_
  refine aw_if_eq (tgt := 17) (pc' := 9) hC dX0_presentTo_6 (by decide) rfl (fun c5 => ?_) (fun c5 => ?_)
  · replace h := it_p c5 h
    refine aw_aload_n (pc' := 18) (i := 0) hC dX0_presentTo_17 rfl rfl rfl ?_
    refine aw_getfield (pc' := 21) (v := (.inr (.inr (M4 v0 0)))) hC dX0_presentTo_18 rfl fl_X0_12 g2 rfl ?_
    obtain ⟨g6, h⟩ := gd_s h
    refine aw_getfield (pc' := 24) (v := (.inr (.inr (M4 (M4 v0 0) 3)))) hC dX0_presentTo_21 rfl fl_X0_40 g6 rfl ?_
    refine aw_iload_n (pc' := 25) (i := 1) hC dX0_presentTo_24 rfl rfl rfl ?_
    refine aw_dup2 (pc' := 26) hC dX0_presentTo_25 rfl rfl rfl ?_
    obtain ⟨g7, h⟩ := gd_s h
    refine aw_iaload (pc' := 27) hC dX0_presentTo_26 rfl g7 ?_
    refine aw_iconst (pc' := 28) hC dX0_presentTo_27 rfl (by decide) ?_
    refine aw_iload_n (pc' := 29) (i := 2) hC dX0_presentTo_28 rfl rfl rfl ?_
    refine aw_ishl (pc' := 30) hC dX0_presentTo_29 rfl  ?_
    refine aw_ior (pc' := 31) hC dX0_presentTo_30 rfl  ?_
    obtain ⟨M8, e9, h⟩ := bd_s h
    refine aw_ias (pc' := 32) hC dX0_presentTo_31 rfl g7 e9 ?_
    refine aw_iconst (pc' := 33) hC dX0_presentTo_32 rfl (by decide) ?_
    cases h
    exact aw_zret hC (Or.inl rfl) dX0_presentTo_33 (Nat.le_of_ble_eq_true rfl) (Nat.le_of_ble_eq_true rfl)
  · replace h := it_n c5 h
    refine aw_aload_n (pc' := 10) (i := 0) hC dX0_presentTo_9 rfl rfl rfl ?_
    refine aw_iload_n (pc' := 11) (i := 1) hC dX0_presentTo_10 rfl rfl rfl ?_
    refine aw_iload_n (pc' := 12) (i := 2) hC dX0_presentTo_11 rfl rfl rfl ?_
    obtain ⟨M11, q10, h⟩ := pb_s h
    replace h := u1_s h
    refine aw_cV (pc' := 15) (k2 := 0) (n2 := 0) (st := []) (stN := []) hC [.inl v1, .inl v2] (mX0_meet q10) lk_X0_133 g2 dX0_presentTo_12 rfl rfl (Nat.le_of_ble_eq_true rfl) (Nat.le_of_ble_eq_true rfl) (Nat.le_of_ble_eq_true rfl) rfl (Nat.le_of_ble_eq_true rfl) rfl rfl rfl ?_
    refine aw_iconst (pc' := 16) hC dX0_presentTo_15 rfl (by decide) ?_
    cases h
    exact aw_zret hC (Or.inr rfl) dX0_presentTo_16 (Nat.le_of_ble_eq_true rfl) (Nat.le_of_ble_eq_true rfl)
-- CoinCircle.present(II)I
def fX8_present (sh : AwS) (M : AwM) (v0 : Int) (v1 : Int) (v2 : Int) : Option (Int × AwM) :=
  gd_ (kd_ sh v0 = (0, 8)) (pb (fX8_areThere sh M v0 v1 v2) <| u1 fun (x3 : Int) => ((if x3 = 0 then pb (fX8_refuse sh M v0 2) <| u2 fun (x6 : Int) (M7 : AwM) => (some (x6, M7)) else gd_ (kd_ sh (M v0 4) = (0, 0)) (pb (fX0_canBePresented sh M (M v0 4) v1 v2) <| u1 fun (x10 : Int) => ((if x10 = 0 then pb (fX8_refuse sh M v0 2) <| u2 fun (x21 : Int) (M22 : AwM) => (some (x21, M22)) else gd_ (kd_ sh (M v0 6) = (0, 2)) (pb (fX2_keep sh M (M v0 6) (M (M v0 4) 0)) <| u1 fun (M14 : AwM) => (gd_ (kd_ sh (M14 v0 4) = (0, 0)) (pb (fX0_presentTo sh M14 (M14 v0 4) v1 v2) <| u2 fun (x17 : Int) (M18 : AwM) => ((if x17 = 0 then some (0, M18) else some (1, M18))))))))))))
set_option maxRecDepth 100000 in
set_option maxHeartbeats 4000000 in
theorem mX8_present {sh : AwS} {M : AwM} {v0 : Int} {v1 : Int} {v2 : Int} {r : Int} {M' : AwM} (h : fX8_present sh M v0 v1 v2 = some (r, M')) : AMet yX8_present cX8_present 3 (some .int) 7 0 0 [.inr (.inr v0), .inl v1, .inl v2] sh M (some (.inl r)) sh M' := by
  refine amet_of (by decide +kernel) (Nat.le_of_ble_eq_true rfl) (fun Γ hC => ?_)
  replace hC : AOK Γ RX8 cX8_present 3 7 0 0 "present" (some .int) := hC
  unfold fX8_present at h
  refine aw_sub hC [some (.inr (.inr v0)), some (.inl v1), some (.inl v2)] ⟨rfl, ⟨rfl, ⟨rfl, trivial⟩⟩⟩ (Nat.le_of_ble_eq_true rfl) ?_
  refine aw_aload_n (pc' := 1) (i := 0) hC dX8_present_0 rfl rfl rfl ?_
  refine aw_iload_n (pc' := 2) (i := 1) hC dX8_present_1 rfl rfl rfl ?_
  refine aw_iload_n (pc' := 3) (i := 2) hC dX8_present_2 rfl rfl rfl ?_
  obtain ⟨g2, h⟩ := gd_s h
  obtain ⟨x3, q1, h⟩ := pb_s h
  replace h := u1_s h
  refine aw_cV (pc' := 6) (k2 := 0) (n2 := 0) (st := []) (stN := [.inl x3]) hC [.inl v1, .inl v2] (mX8_areThere q1) lk_X8_183 g2 dX8_present_3 rfl rfl (Nat.le_of_ble_eq_true rfl) (Nat.le_of_ble_eq_true rfl) (Nat.le_of_ble_eq_true rfl) rfl (Nat.le_of_ble_eq_true rfl) rfl rfl rfl ?_
  refine aw_if_eq (tgt := 21) (pc' := 9) hC dX8_present_6 (by decide) rfl (fun c4 => ?_) (fun c4 => ?_)
  · replace h := it_p c4 h
    refine aw_aload_n (pc' := 22) (i := 0) hC dX8_present_21 rfl rfl rfl ?_
    refine aw_iconst (pc' := 23) hC dX8_present_22 rfl (by decide) ?_
    obtain ⟨⟨x6, M7⟩, q5, h⟩ := pb_s h
    replace h := u2_s h
    refine aw_cV (pc' := 26) (k2 := 0) (n2 := 0) (st := []) (stN := [.inl x6]) hC [.inl 2] (mX8_refuse q5) lk_X8_70 g2 dX8_present_23 rfl rfl (Nat.le_of_ble_eq_true rfl) (Nat.le_of_ble_eq_true rfl) (Nat.le_of_ble_eq_true rfl) rfl (Nat.le_of_ble_eq_true rfl) rfl rfl rfl ?_
    cases h
    exact aw_iret hC dX8_present_26 (Nat.le_of_ble_eq_true rfl) (Nat.le_of_ble_eq_true rfl)
  · replace h := it_n c4 h
    refine aw_aload_n (pc' := 10) (i := 0) hC dX8_present_9 rfl rfl rfl ?_
    refine aw_getfield (pc' := 13) (v := (.inr (.inr (M v0 4)))) hC dX8_present_10 rfl fl_X8_60 g2 rfl ?_
    refine aw_iload_n (pc' := 14) (i := 1) hC dX8_present_13 rfl rfl rfl ?_
    refine aw_iload_n (pc' := 15) (i := 2) hC dX8_present_14 rfl rfl rfl ?_
    obtain ⟨g9, h⟩ := gd_s h
    obtain ⟨x10, q8, h⟩ := pb_s h
    replace h := u1_s h
    refine aw_cV (pc' := 18) (k2 := 0) (n2 := 0) (st := []) (stN := [.inl x10]) hC [.inl v1, .inl v2] (mX0_canBePresented q8) lk_X8_192 g9 dX8_present_15 rfl rfl (Nat.le_of_ble_eq_true rfl) (Nat.le_of_ble_eq_true rfl) (Nat.le_of_ble_eq_true rfl) rfl (Nat.le_of_ble_eq_true rfl) rfl rfl rfl ?_
    refine aw_if_ne (tgt := 27) (pc' := 21) hC dX8_present_18 (by decide) rfl (fun c11 => ?_) (fun c11 => ?_)
    · replace h := it_n c11 h
      refine aw_aload_n (pc' := 28) (i := 0) hC dX8_present_27 rfl rfl rfl ?_
      refine aw_getfield (pc' := 31) (v := (.inr (.inr (M v0 6)))) hC dX8_present_28 rfl fl_X8_23 g2 rfl ?_
      refine aw_aload_n (pc' := 32) (i := 0) hC dX8_present_31 rfl rfl rfl ?_
      refine aw_getfield (pc' := 35) (v := (.inr (.inr (M v0 4)))) hC dX8_present_32 rfl fl_X8_60 g2 rfl ?_
      refine aw_getfield (pc' := 38) (v := (.inr (.inr (M (M v0 4) 0)))) hC dX8_present_35 rfl fl_X8_110 g9 rfl ?_
      obtain ⟨g13, h⟩ := gd_s h
      obtain ⟨M14, q12, h⟩ := pb_s h
      replace h := u1_s h
      refine aw_cV (pc' := 41) (k2 := 0) (n2 := 0) (st := []) (stN := []) hC [.inr (.inr (M (M v0 4) 0))] (mX2_keep q12) lk_X8_213 g13 dX8_present_38 rfl rfl (Nat.le_of_ble_eq_true rfl) (Nat.le_of_ble_eq_true rfl) (Nat.le_of_ble_eq_true rfl) rfl (Nat.le_of_ble_eq_true rfl) rfl rfl rfl ?_
      refine aw_aload_n (pc' := 42) (i := 0) hC dX8_present_41 rfl rfl rfl ?_
      refine aw_getfield (pc' := 45) (v := (.inr (.inr (M14 v0 4)))) hC dX8_present_42 rfl fl_X8_60 g2 rfl ?_
      refine aw_iload_n (pc' := 46) (i := 1) hC dX8_present_45 rfl rfl rfl ?_
      refine aw_iload_n (pc' := 47) (i := 2) hC dX8_present_46 rfl rfl rfl ?_
      obtain ⟨g16, h⟩ := gd_s h
      obtain ⟨⟨x17, M18⟩, q15, h⟩ := pb_s h
      replace h := u2_s h
      refine aw_cV (pc' := 50) (k2 := 0) (n2 := 0) (st := []) (stN := [.inl x17]) hC [.inl v1, .inl v2] (mX0_presentTo q15) lk_X8_217 g16 dX8_present_47 rfl rfl (Nat.le_of_ble_eq_true rfl) (Nat.le_of_ble_eq_true rfl) (Nat.le_of_ble_eq_true rfl) rfl (Nat.le_of_ble_eq_true rfl) rfl rfl rfl ?_
      refine aw_if_eq (tgt := 57) (pc' := 53) hC dX8_present_50 (by decide) rfl (fun c19 => ?_) (fun c19 => ?_)
      · replace h := it_p c19 h
        refine aw_iconst (pc' := 58) hC dX8_present_57 rfl (by decide) ?_
        cases h
        exact aw_iret hC dX8_present_58 (Nat.le_of_ble_eq_true rfl) (Nat.le_of_ble_eq_true rfl)
      · replace h := it_n c19 h
        refine aw_iconst (pc' := 54) hC dX8_present_53 rfl (by decide) ?_
        refine aw_goto (tgt := 58) hC dX8_present_54 (by decide) ?_
        cases h
        exact aw_iret hC dX8_present_58 (Nat.le_of_ble_eq_true rfl) (Nat.le_of_ble_eq_true rfl)
    · replace h := it_p c11 h
      refine aw_aload_n (pc' := 22) (i := 0) hC dX8_present_21 rfl rfl rfl ?_
      refine aw_iconst (pc' := 23) hC dX8_present_22 rfl (by decide) ?_
      obtain ⟨⟨x21, M22⟩, q20, h⟩ := pb_s h
      replace h := u2_s h
      refine aw_cV (pc' := 26) (k2 := 0) (n2 := 0) (st := []) (stN := [.inl x21]) hC [.inl 2] (mX8_refuse q20) lk_X8_70 g2 dX8_present_23 rfl rfl (Nat.le_of_ble_eq_true rfl) (Nat.le_of_ble_eq_true rfl) (Nat.le_of_ble_eq_true rfl) rfl (Nat.le_of_ble_eq_true rfl) rfl rfl rfl ?_
      cases h
      exact aw_iret hC dX8_present_26 (Nat.le_of_ble_eq_true rfl) (Nat.le_of_ble_eq_true rfl)
-- CoinCircle$Circle.payTo(II)V
def fX0_payTo (sh : AwS) (M : AwM) (v0 : Int) (v1 : Int) (v2 : Int) : Option (AwM) :=
  gd_ (kd_ sh v0 = (0, 0)) (gd_ (kd_ sh (M v0 0) = (0, 3)) (gd_ ((kd_ sh (M (M v0 0) 1)).1 = 1 ∧ (0 : Int) ≤ v1 ∧ v1 < ((kd_ sh (M (M v0 0) 1)).2 : Int)) (pb (fX0_meet sh M v0 v1 (M (M (M v0 0) 1) v1)) <| u1 fun (M5 : AwM) => (pb (fX0_meet sh M5 v0 v1 v2) <| u1 fun (M7 : AwM) => (gd_ (kd_ sh (M7 v0 0) = (0, 3)) (gd_ ((kd_ sh (M7 (M7 v0 0) 1)).1 = 1 ∧ (0 : Int) ≤ v1 ∧ v1 < ((kd_ sh (M7 (M7 v0 0) 1)).2 : Int)) (bd_ (up_ M7 (M7 (M7 v0 0) 1) v1 v2) fun (M10 : AwM) => (some M10))))))))
set_option maxRecDepth 100000 in
set_option maxHeartbeats 4000000 in
theorem mX0_payTo {sh : AwS} {M : AwM} {v0 : Int} {v1 : Int} {v2 : Int} {M' : AwM} (h : fX0_payTo sh M v0 v1 v2 = some M') : AMet yX0_payTo cX0_payTo 3 none 3 0 0 [.inr (.inr v0), .inl v1, .inl v2] sh M none sh M' := by
  refine amet_of (by decide +kernel) (Nat.le_of_ble_eq_true rfl) (fun Γ hC => ?_)
  replace hC : AOK Γ RX0 cX0_payTo 3 3 0 0 "payTo" none := hC
  unfold fX0_payTo at h
  refine aw_sub hC [some (.inr (.inr v0)), some (.inl v1), some (.inl v2)] ⟨rfl, ⟨rfl, ⟨rfl, trivial⟩⟩⟩ (Nat.le_of_ble_eq_true rfl) ?_
  refine aw_aload_n (pc' := 1) (i := 0) hC dX0_payTo_0 rfl rfl rfl ?_
  refine aw_iload_n (pc' := 2) (i := 1) hC dX0_payTo_1 rfl rfl rfl ?_
  refine aw_aload_n (pc' := 3) (i := 0) hC dX0_payTo_2 rfl rfl rfl ?_
  obtain ⟨g1, h⟩ := gd_s h
  refine aw_getfield (pc' := 6) (v := (.inr (.inr (M v0 0)))) hC dX0_payTo_3 rfl fl_X0_12 g1 rfl ?_
  obtain ⟨g2, h⟩ := gd_s h
  refine aw_getfield (pc' := 9) (v := (.inr (.inr (M (M v0 0) 1)))) hC dX0_payTo_6 rfl fl_X0_30 g2 rfl ?_
  refine aw_iload_n (pc' := 10) (i := 1) hC dX0_payTo_9 rfl rfl rfl ?_
  obtain ⟨g3, h⟩ := gd_s h
  refine aw_iaload (pc' := 11) hC dX0_payTo_10 rfl g3 ?_
  obtain ⟨M5, q4, h⟩ := pb_s h
  replace h := u1_s h
  refine aw_cV (pc' := 14) (k2 := 0) (n2 := 0) (st := []) (stN := []) hC [.inl v1, .inl (M (M (M v0 0) 1) v1)] (mX0_meet q4) lk_X0_133 g1 dX0_payTo_11 rfl rfl (Nat.le_of_ble_eq_true rfl) (Nat.le_of_ble_eq_true rfl) (Nat.le_of_ble_eq_true rfl) rfl (Nat.le_of_ble_eq_true rfl) rfl rfl rfl ?_
  refine aw_aload_n (pc' := 15) (i := 0) hC dX0_payTo_14 rfl rfl rfl ?_
  refine aw_iload_n (pc' := 16) (i := 1) hC dX0_payTo_15 rfl rfl rfl ?_
  refine aw_iload_n (pc' := 17) (i := 2) hC dX0_payTo_16 rfl rfl rfl ?_
  obtain ⟨M7, q6, h⟩ := pb_s h
  replace h := u1_s h
  refine aw_cV (pc' := 20) (k2 := 0) (n2 := 0) (st := []) (stN := []) hC [.inl v1, .inl v2] (mX0_meet q6) lk_X0_133 g1 dX0_payTo_17 rfl rfl (Nat.le_of_ble_eq_true rfl) (Nat.le_of_ble_eq_true rfl) (Nat.le_of_ble_eq_true rfl) rfl (Nat.le_of_ble_eq_true rfl) rfl rfl rfl ?_
  refine aw_aload_n (pc' := 21) (i := 0) hC dX0_payTo_20 rfl rfl rfl ?_
  refine aw_getfield (pc' := 24) (v := (.inr (.inr (M7 v0 0)))) hC dX0_payTo_21 rfl fl_X0_12 g1 rfl ?_
  obtain ⟨g8, h⟩ := gd_s h
  refine aw_getfield (pc' := 27) (v := (.inr (.inr (M7 (M7 v0 0) 1)))) hC dX0_payTo_24 rfl fl_X0_30 g8 rfl ?_
  refine aw_iload_n (pc' := 28) (i := 1) hC dX0_payTo_27 rfl rfl rfl ?_
  refine aw_iload_n (pc' := 29) (i := 2) hC dX0_payTo_28 rfl rfl rfl ?_
  obtain ⟨g9, h⟩ := gd_s h
  obtain ⟨M10, e11, h⟩ := bd_s h
  refine aw_ias (pc' := 30) hC dX0_payTo_29 rfl g9 e11 ?_
  cases h
  exact aw_vret hC dX0_payTo_30 (Nat.le_of_ble_eq_true rfl) (Nat.le_of_ble_eq_true rfl)
-- CoinCircle.pay(II)Z
def fX8_pay (sh : AwS) (M : AwM) (v0 : Int) (v1 : Int) (v2 : Int) : Option (Int × AwM) :=
  gd_ (kd_ sh v0 = (0, 8)) (pb (fX8_areThere sh M v0 v1 v2) <| u1 fun (x3 : Int) => ((if x3 = 0 then pb (fX8_refuse sh M v0 2) <| u2 fun (x6 : Int) (M7 : AwM) => (some (0, M7)) else gd_ (kd_ sh (M v0 4) = (0, 0)) (gd_ (kd_ sh (M (M v0 4) 0) = (0, 3)) (gd_ ((kd_ sh (M (M (M v0 4) 0) 1)).1 = 1 ∧ (0 : Int) ≤ v1 ∧ v1 < ((kd_ sh (M (M (M v0 4) 0) 1)).2 : Int)) ((if (M (M (M (M v0 4) 0) 1) v1) = v2 then pb (fX8_refuse sh M v0 2) <| u2 fun (x13 : Int) (M14 : AwM) => (some (0, M14)) else pb (fX0_knows sh M (M v0 4) v1 v2) <| u1 fun (x16 : Int) => ((if x16 = 0 then pb (fX8_refuse sh M v0 2) <| u2 fun (x25 : Int) (M26 : AwM) => (some (0, M26)) else gd_ (kd_ sh (M v0 6) = (0, 2)) (pb (fX2_keep sh M (M v0 6) (M (M v0 4) 0)) <| u1 fun (M20 : AwM) => (gd_ (kd_ sh (M20 v0 4) = (0, 0)) (pb (fX0_payTo sh M20 (M20 v0 4) v1 v2) <| u1 fun (M23 : AwM) => (some (1, M23))))))))))))))
set_option maxRecDepth 100000 in
set_option maxHeartbeats 4000000 in
theorem mX8_pay {sh : AwS} {M : AwM} {v0 : Int} {v1 : Int} {v2 : Int} {r : Int} {M' : AwM} (h : fX8_pay sh M v0 v1 v2 = some (r, M')) : AMet yX8_pay cX8_pay 3 (some .boolean) 4 0 0 [.inr (.inr v0), .inl v1, .inl v2] sh M (some (.inl r)) sh M' := by
  refine amet_of (by decide +kernel) (Nat.le_of_ble_eq_true rfl) (fun Γ hC => ?_)
  replace hC : AOK Γ RX8 cX8_pay 3 4 0 0 "pay" (some .boolean) := hC
  unfold fX8_pay at h
  refine aw_sub hC [some (.inr (.inr v0)), some (.inl v1), some (.inl v2)] ⟨rfl, ⟨rfl, ⟨rfl, trivial⟩⟩⟩ (Nat.le_of_ble_eq_true rfl) ?_
  refine aw_aload_n (pc' := 1) (i := 0) hC dX8_pay_0 rfl rfl rfl ?_
  refine aw_iload_n (pc' := 2) (i := 1) hC dX8_pay_1 rfl rfl rfl ?_
  refine aw_iload_n (pc' := 3) (i := 2) hC dX8_pay_2 rfl rfl rfl ?_
  obtain ⟨g2, h⟩ := gd_s h
  obtain ⟨x3, q1, h⟩ := pb_s h
  replace h := u1_s h
  refine aw_cV (pc' := 6) (k2 := 0) (n2 := 0) (st := []) (stN := [.inl x3]) hC [.inl v1, .inl v2] (mX8_areThere q1) lk_X8_183 g2 dX8_pay_3 rfl rfl (Nat.le_of_ble_eq_true rfl) (Nat.le_of_ble_eq_true rfl) (Nat.le_of_ble_eq_true rfl) rfl (Nat.le_of_ble_eq_true rfl) rfl rfl rfl ?_
  refine aw_if_eq (tgt := 37) (pc' := 9) hC dX8_pay_6 (by decide) rfl (fun c4 => ?_) (fun c4 => ?_)
  · replace h := it_p c4 h
    refine aw_aload_n (pc' := 38) (i := 0) hC dX8_pay_37 rfl rfl rfl ?_
    refine aw_iconst (pc' := 39) hC dX8_pay_38 rfl (by decide) ?_
    obtain ⟨⟨x6, M7⟩, q5, h⟩ := pb_s h
    replace h := u2_s h
    refine aw_cV (pc' := 42) (k2 := 0) (n2 := 0) (st := []) (stN := [.inl x6]) hC [.inl 2] (mX8_refuse q5) lk_X8_70 g2 dX8_pay_39 rfl rfl (Nat.le_of_ble_eq_true rfl) (Nat.le_of_ble_eq_true rfl) (Nat.le_of_ble_eq_true rfl) rfl (Nat.le_of_ble_eq_true rfl) rfl rfl rfl ?_
    refine aw_pop (pc' := 43) hC dX8_pay_42 rfl rfl ?_
    refine aw_iconst (pc' := 44) hC dX8_pay_43 rfl (by decide) ?_
    cases h
    exact aw_zret hC (Or.inl rfl) dX8_pay_44 (Nat.le_of_ble_eq_true rfl) (Nat.le_of_ble_eq_true rfl)
  · replace h := it_n c4 h
    refine aw_aload_n (pc' := 10) (i := 0) hC dX8_pay_9 rfl rfl rfl ?_
    refine aw_getfield (pc' := 13) (v := (.inr (.inr (M v0 4)))) hC dX8_pay_10 rfl fl_X8_60 g2 rfl ?_
    obtain ⟨g8, h⟩ := gd_s h
    refine aw_getfield (pc' := 16) (v := (.inr (.inr (M (M v0 4) 0)))) hC dX8_pay_13 rfl fl_X8_110 g8 rfl ?_
    obtain ⟨g9, h⟩ := gd_s h
    refine aw_getfield (pc' := 19) (v := (.inr (.inr (M (M (M v0 4) 0) 1)))) hC dX8_pay_16 rfl fl_X8_169 g9 rfl ?_
    refine aw_iload_n (pc' := 20) (i := 1) hC dX8_pay_19 rfl rfl rfl ?_
    obtain ⟨g10, h⟩ := gd_s h
    refine aw_iaload (pc' := 21) hC dX8_pay_20 rfl g10 ?_
    refine aw_iload_n (pc' := 22) (i := 2) hC dX8_pay_21 rfl rfl rfl ?_
    refine aw_icmp_eq (tgt := 37) (pc' := 25) hC dX8_pay_22 (by decide) rfl (fun c11 => ?_) (fun c11 => ?_)
    · replace h := it_p c11 h
      refine aw_aload_n (pc' := 38) (i := 0) hC dX8_pay_37 rfl rfl rfl ?_
      refine aw_iconst (pc' := 39) hC dX8_pay_38 rfl (by decide) ?_
      obtain ⟨⟨x13, M14⟩, q12, h⟩ := pb_s h
      replace h := u2_s h
      refine aw_cV (pc' := 42) (k2 := 0) (n2 := 0) (st := []) (stN := [.inl x13]) hC [.inl 2] (mX8_refuse q12) lk_X8_70 g2 dX8_pay_39 rfl rfl (Nat.le_of_ble_eq_true rfl) (Nat.le_of_ble_eq_true rfl) (Nat.le_of_ble_eq_true rfl) rfl (Nat.le_of_ble_eq_true rfl) rfl rfl rfl ?_
      refine aw_pop (pc' := 43) hC dX8_pay_42 rfl rfl ?_
      refine aw_iconst (pc' := 44) hC dX8_pay_43 rfl (by decide) ?_
      cases h
      exact aw_zret hC (Or.inl rfl) dX8_pay_44 (Nat.le_of_ble_eq_true rfl) (Nat.le_of_ble_eq_true rfl)
    · replace h := it_n c11 h
      refine aw_aload_n (pc' := 26) (i := 0) hC dX8_pay_25 rfl rfl rfl ?_
      refine aw_getfield (pc' := 29) (v := (.inr (.inr (M v0 4)))) hC dX8_pay_26 rfl fl_X8_60 g2 rfl ?_
      refine aw_iload_n (pc' := 30) (i := 1) hC dX8_pay_29 rfl rfl rfl ?_
      refine aw_iload_n (pc' := 31) (i := 2) hC dX8_pay_30 rfl rfl rfl ?_
      obtain ⟨x16, q15, h⟩ := pb_s h
      replace h := u1_s h
      refine aw_cV (pc' := 34) (k2 := 0) (n2 := 0) (st := []) (stN := [.inl x16]) hC [.inl v1, .inl v2] (mX0_knows q15) lk_X8_186 g8 dX8_pay_31 rfl rfl (Nat.le_of_ble_eq_true rfl) (Nat.le_of_ble_eq_true rfl) (Nat.le_of_ble_eq_true rfl) rfl (Nat.le_of_ble_eq_true rfl) rfl rfl rfl ?_
      refine aw_if_ne (tgt := 45) (pc' := 37) hC dX8_pay_34 (by decide) rfl (fun c17 => ?_) (fun c17 => ?_)
      · replace h := it_n c17 h
        refine aw_aload_n (pc' := 46) (i := 0) hC dX8_pay_45 rfl rfl rfl ?_
        refine aw_getfield (pc' := 49) (v := (.inr (.inr (M v0 6)))) hC dX8_pay_46 rfl fl_X8_23 g2 rfl ?_
        refine aw_aload_n (pc' := 50) (i := 0) hC dX8_pay_49 rfl rfl rfl ?_
        refine aw_getfield (pc' := 53) (v := (.inr (.inr (M v0 4)))) hC dX8_pay_50 rfl fl_X8_60 g2 rfl ?_
        refine aw_getfield (pc' := 56) (v := (.inr (.inr (M (M v0 4) 0)))) hC dX8_pay_53 rfl fl_X8_110 g8 rfl ?_
        obtain ⟨g19, h⟩ := gd_s h
        obtain ⟨M20, q18, h⟩ := pb_s h
        replace h := u1_s h
        refine aw_cV (pc' := 59) (k2 := 0) (n2 := 0) (st := []) (stN := []) hC [.inr (.inr (M (M v0 4) 0))] (mX2_keep q18) lk_X8_213 g19 dX8_pay_56 rfl rfl (Nat.le_of_ble_eq_true rfl) (Nat.le_of_ble_eq_true rfl) (Nat.le_of_ble_eq_true rfl) rfl (Nat.le_of_ble_eq_true rfl) rfl rfl rfl ?_
        refine aw_aload_n (pc' := 60) (i := 0) hC dX8_pay_59 rfl rfl rfl ?_
        refine aw_getfield (pc' := 63) (v := (.inr (.inr (M20 v0 4)))) hC dX8_pay_60 rfl fl_X8_60 g2 rfl ?_
        refine aw_iload_n (pc' := 64) (i := 1) hC dX8_pay_63 rfl rfl rfl ?_
        refine aw_iload_n (pc' := 65) (i := 2) hC dX8_pay_64 rfl rfl rfl ?_
        obtain ⟨g22, h⟩ := gd_s h
        obtain ⟨M23, q21, h⟩ := pb_s h
        replace h := u1_s h
        refine aw_cV (pc' := 68) (k2 := 0) (n2 := 0) (st := []) (stN := []) hC [.inl v1, .inl v2] (mX0_payTo q21) lk_X8_220 g22 dX8_pay_65 rfl rfl (Nat.le_of_ble_eq_true rfl) (Nat.le_of_ble_eq_true rfl) (Nat.le_of_ble_eq_true rfl) rfl (Nat.le_of_ble_eq_true rfl) rfl rfl rfl ?_
        refine aw_iconst (pc' := 69) hC dX8_pay_68 rfl (by decide) ?_
        cases h
        exact aw_zret hC (Or.inr rfl) dX8_pay_69 (Nat.le_of_ble_eq_true rfl) (Nat.le_of_ble_eq_true rfl)
      · replace h := it_p c17 h
        refine aw_aload_n (pc' := 38) (i := 0) hC dX8_pay_37 rfl rfl rfl ?_
        refine aw_iconst (pc' := 39) hC dX8_pay_38 rfl (by decide) ?_
        obtain ⟨⟨x25, M26⟩, q24, h⟩ := pb_s h
        replace h := u2_s h
        refine aw_cV (pc' := 42) (k2 := 0) (n2 := 0) (st := []) (stN := [.inl x25]) hC [.inl 2] (mX8_refuse q24) lk_X8_70 g2 dX8_pay_39 rfl rfl (Nat.le_of_ble_eq_true rfl) (Nat.le_of_ble_eq_true rfl) (Nat.le_of_ble_eq_true rfl) rfl (Nat.le_of_ble_eq_true rfl) rfl rfl rfl ?_
        refine aw_pop (pc' := 43) hC dX8_pay_42 rfl rfl ?_
        refine aw_iconst (pc' := 44) hC dX8_pay_43 rfl (by decide) ?_
        cases h
        exact aw_zret hC (Or.inl rfl) dX8_pay_44 (Nat.le_of_ble_eq_true rfl) (Nat.le_of_ble_eq_true rfl)
-- CoinCircle$Society.fewestWorth(II)I
def fX5_fewestWorth_J51_12 (sh : AwS) (M : AwM) (v0 : Int) (v1 : Int) (v2 : Int) (v3 : Int) (v4 : Int) (v5 : Int) (v6 : Int) : Option ((Int × Int × Int × Int) ⊕ ((Int) ⊕ (Int))) :=
  (if (an_ (w32 (v5 - v1)) v1) = 0 then some (.inr (.inr v3)) else some (.inl (v3, v4, (an_ (w32 (v5 - v1)) v1), (w32 (v6 + 1)))))
def fX5_fewestWorth_L12 (sh : AwS) (M : AwM) (v0 : Int) (v1 : Int) (v2 : Int) (v3 : Int) (v4 : Int) (v5 : Int) (v6 : Int) : Option ((Int × Int × Int × Int) ⊕ ((Int) ⊕ (Int))) :=
  (if v6 < 4096 then pb (fJ6_bitCount_0f7a4 sh M v5) <| u1 fun (x3 : Int) => ((if x3 < v4 then gd_ (kd_ sh v0 = (0, 5)) (pb (fX5_worthOf sh M v0 v5) <| u1 fun (x8 : Int) => ((if x8 = v2 then fX5_fewestWorth_J51_12 sh M v0 v1 v2 v5 x3 v5 v6 else fX5_fewestWorth_J51_12 sh M v0 v1 v2 v3 v4 v5 v6))) else fX5_fewestWorth_J51_12 sh M v0 v1 v2 v3 v4 v5 v6)) else some (.inr (.inl v3)))
def p_X5_fewestWorth_L12 (Γ : AwC) (sh : AwS) (M : AwM) (v0 : Int) (v1 : Int) (v2 : Int) (Q : State → Prop) (s : Int × Int × Int × Int) : Prop := AW Γ sh M 0 0 12 [some (.inr (.inr v0)), some (.inl v1), some (.inl v2), some (.inl (s.1)), some (.inl (s.2.1)), some (.inl (s.2.2.1)), some (.inl (s.2.2.2)), none] [] Q
def x_X5_fewestWorth_L12 (Γ : AwC) (sh : AwS) (M : AwM) (v0 : Int) (v1 : Int) (v2 : Int) (Q : State → Prop) : ((Int) ⊕ (Int)) → Prop := (Sum.elim (fun (t : Int) => AW Γ sh M 0 0 72 [none, none, none, some (.inl (t)), none, none, none, none] [] Q) (fun (t : Int) => AW Γ sh M 0 0 64 [none, none, none, some (.inl (t)), none, none, none, none] [] Q))
def fX5_fewestWorth (sh : AwS) (M : AwM) (v0 : Int) (v1 : Int) (v2 : Int) : Option Int :=
  pb (lp (u4 (fX5_fewestWorth_L12 sh M v0 v1 v2)) FU ((-1), 13, 0, 0)) (Sum.elim (u1 (fun (tq10 : Int) => some tq10)) (u1 (fun (tq10 : Int) => some tq10)))
set_option maxRecDepth 100000 in
set_option maxHeartbeats 4000000 in
theorem w_X5_fewestWorth_J51_12 {Γ : AwC} (hC : AOK Γ RX5 cX5_fewestWorth 8 3 0 0 "fewestWorth" (some .int)) {sh : AwS} {M : AwM} {v0 : Int} {v1 : Int} {v2 : Int} {v3 : Int} {v4 : Int} {v5 : Int} {v6 : Int} {Q : State → Prop} {r : (Int × Int × Int × Int) ⊕ ((Int) ⊕ (Int))} (h : fX5_fewestWorth_J51_12 sh M v0 v1 v2 v3 v4 v5 v6 = some r) (hL : ∀ s', r = .inl s' → p_X5_fewestWorth_L12 Γ sh M v0 v1 v2 Q s') (hX : ∀ t, r = .inr t → x_X5_fewestWorth_L12 Γ sh M v0 v1 v2 Q t) : AW Γ sh M 0 0 51 [some (.inr (.inr v0)), some (.inl v1), some (.inl v2), some (.inl v3), some (.inl v4), some (.inl v5), some (.inl v6), none] [] Q := by
  unfold fX5_fewestWorth_J51_12 at h
  refine aw_iload (pc' := 53) hC dX5_fewestWorth_51 rfl rfl ?_
  refine aw_iload_n (pc' := 54) (i := 1) hC dX5_fewestWorth_53 rfl rfl rfl ?_
  refine aw_isub (pc' := 55) hC dX5_fewestWorth_54 rfl  ?_
  refine aw_iload_n (pc' := 56) (i := 1) hC dX5_fewestWorth_55 rfl rfl rfl ?_
  refine aw_iand (pc' := 57) hC dX5_fewestWorth_56 rfl  ?_
  refine aw_istore (pc' := 59) (ls' := [some (.inr (.inr v0)), some (.inl v1), some (.inl v2), some (.inl v3), some (.inl v4), some (.inl (an_ (w32 (v5 - v1)) v1)), some (.inl v6), none]) hC dX5_fewestWorth_57 rfl (Nat.le_of_ble_eq_true rfl) rfl rfl ?_
  refine aw_iload (pc' := 61) hC dX5_fewestWorth_59 rfl rfl ?_
  refine aw_if_ne (tgt := 66) (pc' := 64) hC dX5_fewestWorth_61 (by decide) rfl (fun c5 => ?_) (fun c5 => ?_)
  · replace h := it_n c5 h
    refine aw_iinc (pc' := 69) (ls' := [some (.inr (.inr v0)), some (.inl v1), some (.inl v2), some (.inl v3), some (.inl v4), some (.inl (an_ (w32 (v5 - v1)) v1)), some (.inl (w32 (v6 + 1))), none]) hC dX5_fewestWorth_66 rfl rfl rfl rfl ?_
    refine aw_goto (tgt := 12) hC dX5_fewestWorth_69 (by decide) ?_
    refine aw_sub hC [some (.inr (.inr v0)), some (.inl v1), some (.inl v2), some (.inl v3), some (.inl v4), some (.inl (an_ (w32 (v5 - v1)) v1)), some (.inl (w32 (v6 + 1))), none] ⟨rfl, ⟨rfl, ⟨rfl, ⟨rfl, ⟨rfl, ⟨rfl, ⟨rfl, trivial⟩⟩⟩⟩⟩⟩⟩ (Nat.le_of_ble_eq_true rfl) ?_
    cases h
    exact hL _ rfl
  · replace h := it_p c5 h
    refine aw_sub hC [none, none, none, some (.inl v3), none, none, none, none] ⟨rfl, trivial⟩ (Nat.le_of_ble_eq_true rfl) ?_
    cases h
    exact hX _ rfl
set_option maxRecDepth 100000 in
set_option maxHeartbeats 4000000 in
theorem w_X5_fewestWorth_L12 {Γ : AwC} (hC : AOK Γ RX5 cX5_fewestWorth 8 3 0 0 "fewestWorth" (some .int)) {sh : AwS} {M : AwM} {v0 : Int} {v1 : Int} {v2 : Int} {Q : State → Prop} : ∀ s r, u4 (fX5_fewestWorth_L12 sh M v0 v1 v2) s = some r → (∀ s', r = .inl s' → p_X5_fewestWorth_L12 Γ sh M v0 v1 v2 Q s') → (∀ t, r = .inr t → x_X5_fewestWorth_L12 Γ sh M v0 v1 v2 Q t) → p_X5_fewestWorth_L12 Γ sh M v0 v1 v2 Q s := by
  intro s r h hL hX
  obtain ⟨v3, v4, v5, v6⟩ := s
  replace h := u4_s h
  unfold fX5_fewestWorth_L12 at h
  show AW Γ sh M 0 0 12 [some (.inr (.inr v0)), some (.inl v1), some (.inl v2), some (.inl v3), some (.inl v4), some (.inl v5), some (.inl v6), none] [] Q
  refine aw_iload (pc' := 14) hC dX5_fewestWorth_12 rfl rfl ?_
  refine aw_sipush (pc' := 17) hC dX5_fewestWorth_14 rfl (by decide) ?_
  refine aw_icmp_ge (tgt := 72) (pc' := 20) hC dX5_fewestWorth_17 (by decide) rfl (fun c1 => ?_) (fun c1 => ?_)
  · replace h := it_n c1 h
    refine aw_sub hC [none, none, none, some (.inl v3), none, none, none, none] ⟨rfl, trivial⟩ (Nat.le_of_ble_eq_true rfl) ?_
    cases h
    exact hX _ rfl
  · replace h := it_p c1 h
    refine aw_iload (pc' := 22) hC dX5_fewestWorth_20 rfl rfl ?_
    obtain ⟨x3, q2, h⟩ := pb_s h
    replace h := u1_s h
    refine aw_cS (pc' := 25) (k2 := 0) (n2 := 0) (st := []) (stN := [.inl x3]) hC [.inl v5] (mJ6_bitCount_0f7a4 q2) lk_X5_89 dX5_fewestWorth_22 rfl rfl (Nat.le_of_ble_eq_true rfl) (Nat.le_of_ble_eq_true rfl) (Nat.le_of_ble_eq_true rfl) rfl (Nat.le_of_ble_eq_true rfl) rfl rfl rfl ?_
    refine aw_istore (pc' := 27) (ls' := [some (.inr (.inr v0)), some (.inl v1), some (.inl v2), some (.inl v3), some (.inl v4), some (.inl v5), some (.inl v6), some (.inl x3)]) hC dX5_fewestWorth_25 rfl (Nat.le_of_ble_eq_true rfl) rfl rfl ?_
    refine aw_iload (pc' := 29) hC dX5_fewestWorth_27 rfl rfl ?_
    refine aw_iload (pc' := 31) hC dX5_fewestWorth_29 rfl rfl ?_
    refine aw_icmp_ge (tgt := 51) (pc' := 34) hC dX5_fewestWorth_31 (by decide) rfl (fun c4 => ?_) (fun c4 => ?_)
    · replace h := it_n c4 h
      refine aw_sub hC [some (.inr (.inr v0)), some (.inl v1), some (.inl v2), some (.inl v3), some (.inl v4), some (.inl v5), some (.inl v6), none] ⟨rfl, ⟨rfl, ⟨rfl, ⟨rfl, ⟨rfl, ⟨rfl, ⟨rfl, trivial⟩⟩⟩⟩⟩⟩⟩ (Nat.le_of_ble_eq_true rfl) ?_
      exact w_X5_fewestWorth_J51_12 hC h hL hX
    · replace h := it_p c4 h
      refine aw_aload_n (pc' := 35) (i := 0) hC dX5_fewestWorth_34 rfl rfl rfl ?_
      refine aw_iload (pc' := 37) hC dX5_fewestWorth_35 rfl rfl ?_
      obtain ⟨g7, h⟩ := gd_s h
      obtain ⟨x8, q6, h⟩ := pb_s h
      replace h := u1_s h
      refine aw_cV (pc' := 40) (k2 := 0) (n2 := 0) (st := []) (stN := [.inl x8]) hC [.inl v5] (mX5_worthOf q6) lk_X5_78 g7 dX5_fewestWorth_37 rfl rfl (Nat.le_of_ble_eq_true rfl) (Nat.le_of_ble_eq_true rfl) (Nat.le_of_ble_eq_true rfl) rfl (Nat.le_of_ble_eq_true rfl) rfl rfl rfl ?_
      refine aw_iload_n (pc' := 41) (i := 2) hC dX5_fewestWorth_40 rfl rfl rfl ?_
      refine aw_icmp_ne (tgt := 51) (pc' := 44) hC dX5_fewestWorth_41 (by decide) rfl (fun c9 => ?_) (fun c9 => ?_)
      · replace h := it_n c9 h
        refine aw_sub hC [some (.inr (.inr v0)), some (.inl v1), some (.inl v2), some (.inl v3), some (.inl v4), some (.inl v5), some (.inl v6), none] ⟨rfl, ⟨rfl, ⟨rfl, ⟨rfl, ⟨rfl, ⟨rfl, ⟨rfl, trivial⟩⟩⟩⟩⟩⟩⟩ (Nat.le_of_ble_eq_true rfl) ?_
        exact w_X5_fewestWorth_J51_12 hC h hL hX
      · replace h := it_p c9 h
        refine aw_iload (pc' := 46) hC dX5_fewestWorth_44 rfl rfl ?_
        refine aw_istore (pc' := 48) (ls' := [some (.inr (.inr v0)), some (.inl v1), some (.inl v2), some (.inl v3), some (.inl x3), some (.inl v5), some (.inl v6), some (.inl x3)]) hC dX5_fewestWorth_46 rfl (Nat.le_of_ble_eq_true rfl) rfl rfl ?_
        refine aw_iload (pc' := 50) hC dX5_fewestWorth_48 rfl rfl ?_
        refine aw_istore_n (pc' := 51) (i := 3) (ls' := [some (.inr (.inr v0)), some (.inl v1), some (.inl v2), some (.inl v5), some (.inl x3), some (.inl v5), some (.inl v6), some (.inl x3)]) hC dX5_fewestWorth_50 rfl rfl (Nat.le_of_ble_eq_true rfl) rfl rfl ?_
        refine aw_sub hC [some (.inr (.inr v0)), some (.inl v1), some (.inl v2), some (.inl v5), some (.inl x3), some (.inl v5), some (.inl v6), none] ⟨rfl, ⟨rfl, ⟨rfl, ⟨rfl, ⟨rfl, ⟨rfl, ⟨rfl, trivial⟩⟩⟩⟩⟩⟩⟩ (Nat.le_of_ble_eq_true rfl) ?_
        exact w_X5_fewestWorth_J51_12 hC h hL hX
set_option maxRecDepth 100000 in
set_option maxHeartbeats 4000000 in
theorem mX5_fewestWorth {sh : AwS} {M : AwM} {v0 : Int} {v1 : Int} {v2 : Int} {r : Int} (h : fX5_fewestWorth sh M v0 v1 v2 = some r) : AMet yX5_fewestWorth cX5_fewestWorth 8 (some .int) 3 0 0 [.inr (.inr v0), .inl v1, .inl v2] sh M (some (.inl r)) sh M := by
  refine amet_of (by decide +kernel) (Nat.le_of_ble_eq_true rfl) (fun Γ hC => ?_)
  replace hC : AOK Γ RX5 cX5_fewestWorth 8 3 0 0 "fewestWorth" (some .int) := hC
  unfold fX5_fewestWorth at h
  refine aw_sub hC [some (.inr (.inr v0)), some (.inl v1), some (.inl v2), none, none, none, none, none] ⟨rfl, ⟨rfl, ⟨rfl, trivial⟩⟩⟩ (Nat.le_of_ble_eq_true rfl) ?_
  refine aw_iconst (pc' := 1) hC dX5_fewestWorth_0 rfl (by decide) ?_
  refine aw_istore_n (pc' := 2) (i := 3) (ls' := [some (.inr (.inr v0)), some (.inl v1), some (.inl v2), some (.inl (-1)), none, none, none, none]) hC dX5_fewestWorth_1 rfl rfl (Nat.le_of_ble_eq_true rfl) rfl rfl ?_
  refine aw_bipush (pc' := 4) hC dX5_fewestWorth_2 rfl (by decide) ?_
  refine aw_istore (pc' := 6) (ls' := [some (.inr (.inr v0)), some (.inl v1), some (.inl v2), some (.inl (-1)), some (.inl 13), none, none, none]) hC dX5_fewestWorth_4 rfl (Nat.le_of_ble_eq_true rfl) rfl rfl ?_
  refine aw_iconst (pc' := 7) hC dX5_fewestWorth_6 rfl (by decide) ?_
  refine aw_istore (pc' := 9) (ls' := [some (.inr (.inr v0)), some (.inl v1), some (.inl v2), some (.inl (-1)), some (.inl 13), some (.inl 0), none, none]) hC dX5_fewestWorth_7 rfl (Nat.le_of_ble_eq_true rfl) rfl rfl ?_
  refine aw_iconst (pc' := 10) hC dX5_fewestWorth_9 rfl (by decide) ?_
  refine aw_istore (pc' := 12) (ls' := [some (.inr (.inr v0)), some (.inl v1), some (.inl v2), some (.inl (-1)), some (.inl 13), some (.inl 0), some (.inl 0), none]) hC dX5_fewestWorth_10 rfl (Nat.le_of_ble_eq_true rfl) rfl rfl ?_
  obtain ⟨tq10, q10, h⟩ := pb_s h
  refine aw_sub hC [some (.inr (.inr v0)), some (.inl v1), some (.inl v2), some (.inl (-1)), some (.inl 13), some (.inl 0), some (.inl 0), none] ⟨rfl, ⟨rfl, ⟨rfl, ⟨rfl, ⟨rfl, ⟨rfl, ⟨rfl, trivial⟩⟩⟩⟩⟩⟩⟩ (Nat.le_of_ble_eq_true rfl) ?_
  refine (lp_aw (p_X5_fewestWorth_L12 Γ sh M v0 v1 v2 (fin_ Γ 0 0 (some (.inl r)) sh M)) (x_X5_fewestWorth_L12 Γ sh M v0 v1 v2 (fin_ Γ 0 0 (some (.inl r)) sh M)) (w_X5_fewestWorth_L12 hC ) FU _ _ q10 ?_ : p_X5_fewestWorth_L12 Γ sh M v0 v1 v2 (fin_ Γ 0 0 (some (.inl r)) sh M) ((-1), 13, 0, 0))
  rcases tq10 with tq10 | tq10
  · replace h := se_l h
    replace h := u1_s h
    show AW Γ sh M 0 0 72 [none, none, none, some (.inl tq10), none, none, none, none] [] _
    refine aw_iload_n (pc' := 73) (i := 3) hC dX5_fewestWorth_72 rfl rfl rfl ?_
    cases h
    exact aw_iret hC dX5_fewestWorth_73 (Nat.le_of_ble_eq_true rfl) (Nat.le_of_ble_eq_true rfl)
  · replace h := se_r h
    replace h := u1_s h
    show AW Γ sh M 0 0 64 [none, none, none, some (.inl tq10), none, none, none, none] [] _
    refine aw_iload_n (pc' := 65) (i := 3) hC dX5_fewestWorth_64 rfl rfl rfl ?_
    cases h
    exact aw_iret hC dX5_fewestWorth_65 (Nat.le_of_ble_eq_true rfl) (Nat.le_of_ble_eq_true rfl)
-- CoinCircle$Circle.changeOf(III)I
def fX0_changeOf (sh : AwS) (M : AwM) (v0 : Int) (v1 : Int) (v2 : Int) (v3 : Int) : Option (Int × AwM) :=
  gd_ (kd_ sh v0 = (0, 0)) (gd_ (kd_ sh (M v0 1) = (0, 5)) (gd_ ((kd_ sh (M (M v0 1) 8)).1 = 1 ∧ (0 : Int) ≤ v2 ∧ v2 < ((kd_ sh (M (M v0 1) 8)).2 : Int)) ((if v1 = (M (M (M v0 1) 8) v2) then some ((-1), M) else pb (fX0_heldBy sh M v0 v1) <| u1 fun (x6 : Int) => (pb (fX0_knowing sh M v0 (M (M (M v0 1) 8) v2)) <| u1 fun (x8 : Int) => ((if (an_ v3 (xo_ (an_ x6 x8) (-1))) = 0 then pb (fX5_worthOf sh M (M v0 1) v3) <| u1 fun (x11 : Int) => (pb (fX0_priceFor sh M v0 v2 v1) <| u2 fun (x13 : Int) (M14 : AwM) => ((if (w32 (x11 - x13)) < 0 then some ((-1), M14) else pb (fX0_heldBy sh M14 v0 (M (M (M v0 1) 8) v2)) <| u1 fun (x17 : Int) => (pb (fX0_knowing sh M14 v0 v1) <| u1 fun (x19 : Int) => (gd_ (kd_ sh (M14 v0 1) = (0, 5)) (pb (fX5_fewestWorth sh M14 (M14 v0 1) (an_ x17 x19) (w32 (x11 - x13))) <| u1 fun (x22 : Int) => (some (x22, M14)))))))) else some ((-1), M))))))))
set_option maxRecDepth 100000 in
set_option maxHeartbeats 4000000 in
theorem mX0_changeOf {sh : AwS} {M : AwM} {v0 : Int} {v1 : Int} {v2 : Int} {v3 : Int} {r : Int} {M' : AwM} (h : fX0_changeOf sh M v0 v1 v2 v3 = some (r, M')) : AMet yX0_changeOf cX0_changeOf 6 (some .int) 5 0 0 [.inr (.inr v0), .inl v1, .inl v2, .inl v3] sh M (some (.inl r)) sh M' := by
  refine amet_of (by decide +kernel) (Nat.le_of_ble_eq_true rfl) (fun Γ hC => ?_)
  replace hC : AOK Γ RX0 cX0_changeOf 6 5 0 0 "changeOf" (some .int) := hC
  unfold fX0_changeOf at h
  refine aw_sub hC [some (.inr (.inr v0)), some (.inl v1), some (.inl v2), some (.inl v3), none, none] ⟨rfl, ⟨rfl, ⟨rfl, ⟨rfl, trivial⟩⟩⟩⟩ (Nat.le_of_ble_eq_true rfl) ?_
  refine aw_aload_n (pc' := 1) (i := 0) hC dX0_changeOf_0 rfl rfl rfl ?_
  obtain ⟨g1, h⟩ := gd_s h
  refine aw_getfield (pc' := 4) (v := (.inr (.inr (M v0 1)))) hC dX0_changeOf_1 rfl fl_X0_22 g1 rfl ?_
  obtain ⟨g2, h⟩ := gd_s h
  refine aw_getfield (pc' := 7) (v := (.inr (.inr (M (M v0 1) 8)))) hC dX0_changeOf_4 rfl fl_X0_118 g2 rfl ?_
  refine aw_iload_n (pc' := 8) (i := 2) hC dX0_changeOf_7 rfl rfl rfl ?_
  obtain ⟨g3, h⟩ := gd_s h
  refine aw_iaload (pc' := 9) hC dX0_changeOf_8 rfl g3 ?_
  refine aw_istore (pc' := 11) (ls' := [some (.inr (.inr v0)), some (.inl v1), some (.inl v2), some (.inl v3), some (.inl (M (M (M v0 1) 8) v2)), none]) hC dX0_changeOf_9 rfl (Nat.le_of_ble_eq_true rfl) rfl rfl ?_
  refine aw_iload_n (pc' := 12) (i := 1) hC dX0_changeOf_11 rfl rfl rfl ?_
  refine aw_iload (pc' := 14) hC dX0_changeOf_12 rfl rfl ?_
  refine aw_icmp_eq (tgt := 36) (pc' := 17) hC dX0_changeOf_14 (by decide) rfl (fun c4 => ?_) (fun c4 => ?_)
  · replace h := it_p c4 h
    refine aw_iconst (pc' := 37) hC dX0_changeOf_36 rfl (by decide) ?_
    cases h
    exact aw_iret hC dX0_changeOf_37 (Nat.le_of_ble_eq_true rfl) (Nat.le_of_ble_eq_true rfl)
  · replace h := it_n c4 h
    refine aw_iload_n (pc' := 18) (i := 3) hC dX0_changeOf_17 rfl rfl rfl ?_
    refine aw_aload_n (pc' := 19) (i := 0) hC dX0_changeOf_18 rfl rfl rfl ?_
    refine aw_iload_n (pc' := 20) (i := 1) hC dX0_changeOf_19 rfl rfl rfl ?_
    obtain ⟨x6, q5, h⟩ := pb_s h
    replace h := u1_s h
    refine aw_cV (pc' := 23) (k2 := 0) (n2 := 0) (st := [.inl v3]) (stN := [.inl x6, .inl v3]) hC [.inl v1] (mX0_heldBy q5) lk_X0_74 g1 dX0_changeOf_20 rfl rfl (Nat.le_of_ble_eq_true rfl) (Nat.le_of_ble_eq_true rfl) (Nat.le_of_ble_eq_true rfl) rfl (Nat.le_of_ble_eq_true rfl) rfl rfl rfl ?_
    refine aw_aload_n (pc' := 24) (i := 0) hC dX0_changeOf_23 rfl rfl rfl ?_
    refine aw_iload (pc' := 26) hC dX0_changeOf_24 rfl rfl ?_
    obtain ⟨x8, q7, h⟩ := pb_s h
    replace h := u1_s h
    refine aw_cV (pc' := 29) (k2 := 0) (n2 := 0) (st := [.inl x6, .inl v3]) (stN := [.inl x8, .inl x6, .inl v3]) hC [.inl (M (M (M v0 1) 8) v2)] (mX0_knowing q7) lk_X0_81 g1 dX0_changeOf_26 rfl rfl (Nat.le_of_ble_eq_true rfl) (Nat.le_of_ble_eq_true rfl) (Nat.le_of_ble_eq_true rfl) rfl (Nat.le_of_ble_eq_true rfl) rfl rfl rfl ?_
    refine aw_iand (pc' := 30) hC dX0_changeOf_29 rfl  ?_
    refine aw_iconst (pc' := 31) hC dX0_changeOf_30 rfl (by decide) ?_
    refine aw_ixor (pc' := 32) hC dX0_changeOf_31 rfl  ?_
    refine aw_iand (pc' := 33) hC dX0_changeOf_32 rfl  ?_
    refine aw_if_eq (tgt := 38) (pc' := 36) hC dX0_changeOf_33 (by decide) rfl (fun c9 => ?_) (fun c9 => ?_)
    · replace h := it_p c9 h
      refine aw_aload_n (pc' := 39) (i := 0) hC dX0_changeOf_38 rfl rfl rfl ?_
      refine aw_getfield (pc' := 42) (v := (.inr (.inr (M v0 1)))) hC dX0_changeOf_39 rfl fl_X0_22 g1 rfl ?_
      refine aw_iload_n (pc' := 43) (i := 3) hC dX0_changeOf_42 rfl rfl rfl ?_
      obtain ⟨x11, q10, h⟩ := pb_s h
      replace h := u1_s h
      refine aw_cV (pc' := 46) (k2 := 0) (n2 := 0) (st := []) (stN := [.inl x11]) hC [.inl v3] (mX5_worthOf q10) lk_X0_84 g2 dX0_changeOf_43 rfl rfl (Nat.le_of_ble_eq_true rfl) (Nat.le_of_ble_eq_true rfl) (Nat.le_of_ble_eq_true rfl) rfl (Nat.le_of_ble_eq_true rfl) rfl rfl rfl ?_
      refine aw_aload_n (pc' := 47) (i := 0) hC dX0_changeOf_46 rfl rfl rfl ?_
      refine aw_iload_n (pc' := 48) (i := 2) hC dX0_changeOf_47 rfl rfl rfl ?_
      refine aw_iload_n (pc' := 49) (i := 1) hC dX0_changeOf_48 rfl rfl rfl ?_
      obtain ⟨⟨x13, M14⟩, q12, h⟩ := pb_s h
      replace h := u2_s h
      refine aw_cV (pc' := 52) (k2 := 0) (n2 := 0) (st := [.inl x11]) (stN := [.inl x13, .inl x11]) hC [.inl v2, .inl v1] (mX0_priceFor q12) lk_X0_140 g1 dX0_changeOf_49 rfl rfl (Nat.le_of_ble_eq_true rfl) (Nat.le_of_ble_eq_true rfl) (Nat.le_of_ble_eq_true rfl) rfl (Nat.le_of_ble_eq_true rfl) rfl rfl rfl ?_
      refine aw_isub (pc' := 53) hC dX0_changeOf_52 rfl  ?_
      refine aw_istore (pc' := 55) (ls' := [some (.inr (.inr v0)), some (.inl v1), some (.inl v2), some (.inl v3), some (.inl (M (M (M v0 1) 8) v2)), some (.inl (w32 (x11 - x13)))]) hC dX0_changeOf_53 rfl (Nat.le_of_ble_eq_true rfl) rfl rfl ?_
      refine aw_iload (pc' := 57) hC dX0_changeOf_55 rfl rfl ?_
      refine aw_if_ge (tgt := 62) (pc' := 60) hC dX0_changeOf_57 (by decide) rfl (fun c15 => ?_) (fun c15 => ?_)
      · replace h := it_n c15 h
        refine aw_aload_n (pc' := 63) (i := 0) hC dX0_changeOf_62 rfl rfl rfl ?_
        refine aw_getfield (pc' := 66) (v := (.inr (.inr (M14 v0 1)))) hC dX0_changeOf_63 rfl fl_X0_22 g1 rfl ?_
        refine aw_aload_n (pc' := 67) (i := 0) hC dX0_changeOf_66 rfl rfl rfl ?_
        refine aw_iload (pc' := 69) hC dX0_changeOf_67 rfl rfl ?_
        obtain ⟨x17, q16, h⟩ := pb_s h
        replace h := u1_s h
        refine aw_cV (pc' := 72) (k2 := 0) (n2 := 0) (st := [.inr (.inr (M14 v0 1))]) (stN := [.inl x17, .inr (.inr (M14 v0 1))]) hC [.inl (M (M (M v0 1) 8) v2)] (mX0_heldBy q16) lk_X0_74 g1 dX0_changeOf_69 rfl rfl (Nat.le_of_ble_eq_true rfl) (Nat.le_of_ble_eq_true rfl) (Nat.le_of_ble_eq_true rfl) rfl (Nat.le_of_ble_eq_true rfl) rfl rfl rfl ?_
        refine aw_aload_n (pc' := 73) (i := 0) hC dX0_changeOf_72 rfl rfl rfl ?_
        refine aw_iload_n (pc' := 74) (i := 1) hC dX0_changeOf_73 rfl rfl rfl ?_
        obtain ⟨x19, q18, h⟩ := pb_s h
        replace h := u1_s h
        refine aw_cV (pc' := 77) (k2 := 0) (n2 := 0) (st := [.inl x17, .inr (.inr (M14 v0 1))]) (stN := [.inl x19, .inl x17, .inr (.inr (M14 v0 1))]) hC [.inl v1] (mX0_knowing q18) lk_X0_81 g1 dX0_changeOf_74 rfl rfl (Nat.le_of_ble_eq_true rfl) (Nat.le_of_ble_eq_true rfl) (Nat.le_of_ble_eq_true rfl) rfl (Nat.le_of_ble_eq_true rfl) rfl rfl rfl ?_
        refine aw_iand (pc' := 78) hC dX0_changeOf_77 rfl  ?_
        refine aw_iload (pc' := 80) hC dX0_changeOf_78 rfl rfl ?_
        obtain ⟨g21, h⟩ := gd_s h
        obtain ⟨x22, q20, h⟩ := pb_s h
        replace h := u1_s h
        refine aw_cV (pc' := 83) (k2 := 0) (n2 := 0) (st := []) (stN := [.inl x22]) hC [.inl (an_ x17 x19), .inl (w32 (x11 - x13))] (mX5_fewestWorth q20) lk_X0_143 g21 dX0_changeOf_80 rfl rfl (Nat.le_of_ble_eq_true rfl) (Nat.le_of_ble_eq_true rfl) (Nat.le_of_ble_eq_true rfl) rfl (Nat.le_of_ble_eq_true rfl) rfl rfl rfl ?_
        cases h
        exact aw_iret hC dX0_changeOf_83 (Nat.le_of_ble_eq_true rfl) (Nat.le_of_ble_eq_true rfl)
      · replace h := it_p c15 h
        refine aw_iconst (pc' := 61) hC dX0_changeOf_60 rfl (by decide) ?_
        cases h
        exact aw_iret hC dX0_changeOf_61 (Nat.le_of_ble_eq_true rfl) (Nat.le_of_ble_eq_true rfl)
    · replace h := it_n c9 h
      refine aw_iconst (pc' := 37) hC dX0_changeOf_36 rfl (by decide) ?_
      cases h
      exact aw_iret hC dX0_changeOf_37 (Nat.le_of_ble_eq_true rfl) (Nat.le_of_ble_eq_true rfl)
-- CoinCircle$Circle.payAll(II)V
def fX0_payAll_L2 (sh : AwS) (v0 : Int) (v1 : Int) (v2 : Int) (v3 : Int) (M : AwM) : Option ((Int × AwM) ⊕ (AwM)) :=
  gd_ (kd_ sh v0 = (0, 0)) (pb (fX0_coins sh M v0) <| u1 fun (x3 : Int) => ((if v3 < x3 then pb (fX8_isIn sh M v1 v3) <| u1 fun (x6 : Int) => ((if x6 = 0 then some (.inl ((w32 (v3 + 1)), M)) else pb (fX0_payTo sh M v0 v3 v2) <| u1 fun (M9 : AwM) => (some (.inl ((w32 (v3 + 1)), M9))))) else some (.inr M))))
def p_X0_payAll_L2 (Γ : AwC) (sh : AwS) (v0 : Int) (v1 : Int) (v2 : Int) (Q : State → Prop) (s : Int × AwM) : Prop := AW Γ sh (s.2) 0 0 2 [some (.inr (.inr v0)), some (.inl v1), some (.inl v2), some (.inl (s.1))] [] Q
def x_X0_payAll_L2 (Γ : AwC) (sh : AwS) (v0 : Int) (v1 : Int) (v2 : Int) (Q : State → Prop) : (AwM) → Prop := (fun (t : AwM) => AW Γ sh (t) 0 0 30 [none, none, none, none] [] Q)
def fX0_payAll (sh : AwS) (M : AwM) (v0 : Int) (v1 : Int) (v2 : Int) : Option (AwM) :=
  pb (lp (u2 (fX0_payAll_L2 sh v0 v1 v2)) FU (0, M)) (u1 (fun (tq10 : AwM) => some tq10))
set_option maxRecDepth 100000 in
set_option maxHeartbeats 4000000 in
theorem w_X0_payAll_L2 {Γ : AwC} (hC : AOK Γ RX0 cX0_payAll 4 4 0 0 "payAll" none) {sh : AwS} {v0 : Int} {v1 : Int} {v2 : Int} {Q : State → Prop} : ∀ s r, u2 (fX0_payAll_L2 sh v0 v1 v2) s = some r → (∀ s', r = .inl s' → p_X0_payAll_L2 Γ sh v0 v1 v2 Q s') → (∀ t, r = .inr t → x_X0_payAll_L2 Γ sh v0 v1 v2 Q t) → p_X0_payAll_L2 Γ sh v0 v1 v2 Q s := by
  intro s r h hL hX
  obtain ⟨v3, M⟩ := s
  replace h := u2_s h
  unfold fX0_payAll_L2 at h
  show AW Γ sh M 0 0 2 [some (.inr (.inr v0)), some (.inl v1), some (.inl v2), some (.inl v3)] [] Q
  refine aw_iload_n (pc' := 3) (i := 3) hC dX0_payAll_2 rfl rfl rfl ?_
  refine aw_aload_n (pc' := 4) (i := 0) hC dX0_payAll_3 rfl rfl rfl ?_
  obtain ⟨g2, h⟩ := gd_s h
  obtain ⟨x3, q1, h⟩ := pb_s h
  replace h := u1_s h
  refine aw_cV (pc' := 7) (k2 := 0) (n2 := 0) (st := [.inl v3]) (stN := [.inl x3, .inl v3]) hC [] (mX0_coins q1) lk_X0_55 g2 dX0_payAll_4 rfl rfl (Nat.le_of_ble_eq_true rfl) (Nat.le_of_ble_eq_true rfl) (Nat.le_of_ble_eq_true rfl) rfl (Nat.le_of_ble_eq_true rfl) rfl rfl rfl ?_
  refine aw_icmp_ge (tgt := 30) (pc' := 10) hC dX0_payAll_7 (by decide) rfl (fun c4 => ?_) (fun c4 => ?_)
  · replace h := it_n c4 h
    refine aw_sub hC [none, none, none, none] trivial (Nat.le_of_ble_eq_true rfl) ?_
    cases h
    exact hX _ rfl
  · replace h := it_p c4 h
    refine aw_iload_n (pc' := 11) (i := 1) hC dX0_payAll_10 rfl rfl rfl ?_
    refine aw_iload_n (pc' := 12) (i := 3) hC dX0_payAll_11 rfl rfl rfl ?_
    obtain ⟨x6, q5, h⟩ := pb_s h
    replace h := u1_s h
    refine aw_cSN (pc' := 15) (k2 := 0) (n2 := 0) (st := []) (stN := [.inl x6]) hC [.inl v1, .inl v3] (mX8_isIn q5) lk_X0_51 dX0_payAll_12 rfl rfl (Nat.le_of_ble_eq_true rfl) (Nat.le_of_ble_eq_true rfl) (Nat.le_of_ble_eq_true rfl) rfl (Nat.le_of_ble_eq_true rfl) rfl rfl rfl ?_
    refine aw_if_eq (tgt := 24) (pc' := 18) hC dX0_payAll_15 (by decide) rfl (fun c7 => ?_) (fun c7 => ?_)
    · replace h := it_p c7 h
      refine aw_iinc (pc' := 27) (ls' := [some (.inr (.inr v0)), some (.inl v1), some (.inl v2), some (.inl (w32 (v3 + 1)))]) hC dX0_payAll_24 rfl rfl rfl rfl ?_
      refine aw_goto (tgt := 2) hC dX0_payAll_27 (by decide) ?_
      refine aw_sub hC [some (.inr (.inr v0)), some (.inl v1), some (.inl v2), some (.inl (w32 (v3 + 1)))] ⟨rfl, ⟨rfl, ⟨rfl, ⟨rfl, trivial⟩⟩⟩⟩ (Nat.le_of_ble_eq_true rfl) ?_
      cases h
      exact hL _ rfl
    · replace h := it_n c7 h
      refine aw_aload_n (pc' := 19) (i := 0) hC dX0_payAll_18 rfl rfl rfl ?_
      refine aw_iload_n (pc' := 20) (i := 3) hC dX0_payAll_19 rfl rfl rfl ?_
      refine aw_iload_n (pc' := 21) (i := 2) hC dX0_payAll_20 rfl rfl rfl ?_
      obtain ⟨M9, q8, h⟩ := pb_s h
      replace h := u1_s h
      refine aw_cV (pc' := 24) (k2 := 0) (n2 := 0) (st := []) (stN := []) hC [.inl v3, .inl v2] (mX0_payTo q8) lk_X0_137 g2 dX0_payAll_21 rfl rfl (Nat.le_of_ble_eq_true rfl) (Nat.le_of_ble_eq_true rfl) (Nat.le_of_ble_eq_true rfl) rfl (Nat.le_of_ble_eq_true rfl) rfl rfl rfl ?_
      refine aw_iinc (pc' := 27) (ls' := [some (.inr (.inr v0)), some (.inl v1), some (.inl v2), some (.inl (w32 (v3 + 1)))]) hC dX0_payAll_24 rfl rfl rfl rfl ?_
      refine aw_goto (tgt := 2) hC dX0_payAll_27 (by decide) ?_
      refine aw_sub hC [some (.inr (.inr v0)), some (.inl v1), some (.inl v2), some (.inl (w32 (v3 + 1)))] ⟨rfl, ⟨rfl, ⟨rfl, ⟨rfl, trivial⟩⟩⟩⟩ (Nat.le_of_ble_eq_true rfl) ?_
      cases h
      exact hL _ rfl
set_option maxRecDepth 100000 in
set_option maxHeartbeats 4000000 in
theorem mX0_payAll {sh : AwS} {M : AwM} {v0 : Int} {v1 : Int} {v2 : Int} {M' : AwM} (h : fX0_payAll sh M v0 v1 v2 = some M') : AMet yX0_payAll cX0_payAll 4 none 4 0 0 [.inr (.inr v0), .inl v1, .inl v2] sh M none sh M' := by
  refine amet_of (by decide +kernel) (Nat.le_of_ble_eq_true rfl) (fun Γ hC => ?_)
  replace hC : AOK Γ RX0 cX0_payAll 4 4 0 0 "payAll" none := hC
  unfold fX0_payAll at h
  refine aw_sub hC [some (.inr (.inr v0)), some (.inl v1), some (.inl v2), none] ⟨rfl, ⟨rfl, ⟨rfl, trivial⟩⟩⟩ (Nat.le_of_ble_eq_true rfl) ?_
  refine aw_iconst (pc' := 1) hC dX0_payAll_0 rfl (by decide) ?_
  refine aw_istore_n (pc' := 2) (i := 3) (ls' := [some (.inr (.inr v0)), some (.inl v1), some (.inl v2), some (.inl 0)]) hC dX0_payAll_1 rfl rfl (Nat.le_of_ble_eq_true rfl) rfl rfl ?_
  obtain ⟨tq10, q10, h⟩ := pb_s h
  refine aw_sub hC [some (.inr (.inr v0)), some (.inl v1), some (.inl v2), some (.inl 0)] ⟨rfl, ⟨rfl, ⟨rfl, ⟨rfl, trivial⟩⟩⟩⟩ (Nat.le_of_ble_eq_true rfl) ?_
  refine (lp_aw (p_X0_payAll_L2 Γ sh v0 v1 v2 (fin_ Γ 0 0 none sh M')) (x_X0_payAll_L2 Γ sh v0 v1 v2 (fin_ Γ 0 0 none sh M')) (w_X0_payAll_L2 hC ) FU _ _ q10 ?_ : p_X0_payAll_L2 Γ sh v0 v1 v2 (fin_ Γ 0 0 none sh M') (0, M))
  replace h := u1_s h
  show AW Γ sh tq10 0 0 30 [none, none, none, none] [] _
  cases h
  exact aw_vret hC dX0_payAll_30 (Nat.le_of_ble_eq_true rfl) (Nat.le_of_ble_eq_true rfl)
-- CoinCircle.buy(III)I
def fX8_buy (sh : AwS) (M : AwM) (v0 : Int) (v1 : Int) (v2 : Int) (v3 : Int) : Option (Int × AwM) :=
  gd_ (kd_ sh v0 = (0, 8)) (gd_ (kd_ sh (M v0 3) = (0, 5)) (pb (fX5_isThere sh M (M v0 3) 0 v1) <| u1 fun (x4 : Int) => ((if x4 = 0 then pb (fX8_refuse sh M v0 3) <| u2 fun (x7 : Int) (M8 : AwM) => (some (x7, M8)) else pb (fX5_isThere sh M (M v0 3) 2 v2) <| u1 fun (x10 : Int) => ((if x10 = 0 then pb (fX8_refuse sh M v0 3) <| u2 fun (x33 : Int) (M34 : AwM) => (some (x33, M34)) else gd_ (kd_ sh (M v0 4) = (0, 0)) (pb (fX0_changeOf sh M (M v0 4) v1 v2 v3) <| u2 fun (x14 : Int) (M15 : AwM) => ((if x14 = (-1) then pb (fX8_refuse sh M15 v0 3) <| u2 fun (x30 : Int) (M31 : AwM) => (some (x30, M31)) else gd_ (kd_ sh (M15 v0 4) = (0, 0)) (gd_ (kd_ sh (M15 v0 6) = (0, 2)) (pb (fX2_keep sh M15 (M15 v0 6) (M15 (M15 v0 4) 0)) <| u1 fun (M20 : AwM) => (gd_ (kd_ sh (M20 v0 3) = (0, 5)) (gd_ ((kd_ sh (M20 (M20 v0 3) 8)).1 = 1 ∧ (0 : Int) ≤ v2 ∧ v2 < ((kd_ sh (M20 (M20 v0 3) 8)).2 : Int)) (gd_ (kd_ sh (M20 v0 4) = (0, 0)) (pb (fX0_payAll sh M20 (M20 v0 4) v3 (M20 (M20 (M20 v0 3) 8) v2)) <| u1 fun (M25 : AwM) => (gd_ (kd_ sh (M25 v0 4) = (0, 0)) (pb (fX0_payAll sh M25 (M25 v0 4) x14 v1) <| u1 fun (M28 : AwM) => (some (x14, M28)))))))))))))))))))
set_option maxRecDepth 100000 in
set_option maxHeartbeats 4000000 in
theorem mX8_buy {sh : AwS} {M : AwM} {v0 : Int} {v1 : Int} {v2 : Int} {v3 : Int} {r : Int} {M' : AwM} (h : fX8_buy sh M v0 v1 v2 v3 = some (r, M')) : AMet yX8_buy cX8_buy 5 (some .int) 6 0 0 [.inr (.inr v0), .inl v1, .inl v2, .inl v3] sh M (some (.inl r)) sh M' := by
  refine amet_of (by decide +kernel) (Nat.le_of_ble_eq_true rfl) (fun Γ hC => ?_)
  replace hC : AOK Γ RX8 cX8_buy 5 6 0 0 "buy" (some .int) := hC
  unfold fX8_buy at h
  refine aw_sub hC [some (.inr (.inr v0)), some (.inl v1), some (.inl v2), some (.inl v3), none] ⟨rfl, ⟨rfl, ⟨rfl, ⟨rfl, trivial⟩⟩⟩⟩ (Nat.le_of_ble_eq_true rfl) ?_
  refine aw_aload_n (pc' := 1) (i := 0) hC dX8_buy_0 rfl rfl rfl ?_
  obtain ⟨g1, h⟩ := gd_s h
  refine aw_getfield (pc' := 4) (v := (.inr (.inr (M v0 3)))) hC dX8_buy_1 rfl fl_X8_51 g1 rfl ?_
  refine aw_iconst (pc' := 5) hC dX8_buy_4 rfl (by decide) ?_
  refine aw_iload_n (pc' := 6) (i := 1) hC dX8_buy_5 rfl rfl rfl ?_
  obtain ⟨g3, h⟩ := gd_s h
  obtain ⟨x4, q2, h⟩ := pb_s h
  replace h := u1_s h
  refine aw_cV (pc' := 9) (k2 := 0) (n2 := 0) (st := []) (stN := [.inl x4]) hC [.inl 0, .inl v1] (mX5_isThere q2) lk_X8_135 g3 dX8_buy_6 rfl rfl (Nat.le_of_ble_eq_true rfl) (Nat.le_of_ble_eq_true rfl) (Nat.le_of_ble_eq_true rfl) rfl (Nat.le_of_ble_eq_true rfl) rfl rfl rfl ?_
  refine aw_if_eq (tgt := 24) (pc' := 12) hC dX8_buy_9 (by decide) rfl (fun c5 => ?_) (fun c5 => ?_)
  · replace h := it_p c5 h
    refine aw_aload_n (pc' := 25) (i := 0) hC dX8_buy_24 rfl rfl rfl ?_
    refine aw_iconst (pc' := 26) hC dX8_buy_25 rfl (by decide) ?_
    obtain ⟨⟨x7, M8⟩, q6, h⟩ := pb_s h
    replace h := u2_s h
    refine aw_cV (pc' := 29) (k2 := 0) (n2 := 0) (st := []) (stN := [.inl x7]) hC [.inl 3] (mX8_refuse q6) lk_X8_70 g1 dX8_buy_26 rfl rfl (Nat.le_of_ble_eq_true rfl) (Nat.le_of_ble_eq_true rfl) (Nat.le_of_ble_eq_true rfl) rfl (Nat.le_of_ble_eq_true rfl) rfl rfl rfl ?_
    cases h
    exact aw_iret hC dX8_buy_29 (Nat.le_of_ble_eq_true rfl) (Nat.le_of_ble_eq_true rfl)
  · replace h := it_n c5 h
    refine aw_aload_n (pc' := 13) (i := 0) hC dX8_buy_12 rfl rfl rfl ?_
    refine aw_getfield (pc' := 16) (v := (.inr (.inr (M v0 3)))) hC dX8_buy_13 rfl fl_X8_51 g1 rfl ?_
    refine aw_iconst (pc' := 17) hC dX8_buy_16 rfl (by decide) ?_
    refine aw_iload_n (pc' := 18) (i := 2) hC dX8_buy_17 rfl rfl rfl ?_
    obtain ⟨x10, q9, h⟩ := pb_s h
    replace h := u1_s h
    refine aw_cV (pc' := 21) (k2 := 0) (n2 := 0) (st := []) (stN := [.inl x10]) hC [.inl 2, .inl v2] (mX5_isThere q9) lk_X8_135 g3 dX8_buy_18 rfl rfl (Nat.le_of_ble_eq_true rfl) (Nat.le_of_ble_eq_true rfl) (Nat.le_of_ble_eq_true rfl) rfl (Nat.le_of_ble_eq_true rfl) rfl rfl rfl ?_
    refine aw_if_ne (tgt := 30) (pc' := 24) hC dX8_buy_21 (by decide) rfl (fun c11 => ?_) (fun c11 => ?_)
    · replace h := it_n c11 h
      refine aw_aload_n (pc' := 31) (i := 0) hC dX8_buy_30 rfl rfl rfl ?_
      refine aw_getfield (pc' := 34) (v := (.inr (.inr (M v0 4)))) hC dX8_buy_31 rfl fl_X8_60 g1 rfl ?_
      refine aw_iload_n (pc' := 35) (i := 1) hC dX8_buy_34 rfl rfl rfl ?_
      refine aw_iload_n (pc' := 36) (i := 2) hC dX8_buy_35 rfl rfl rfl ?_
      refine aw_iload_n (pc' := 37) (i := 3) hC dX8_buy_36 rfl rfl rfl ?_
      obtain ⟨g13, h⟩ := gd_s h
      obtain ⟨⟨x14, M15⟩, q12, h⟩ := pb_s h
      replace h := u2_s h
      refine aw_cV (pc' := 40) (k2 := 0) (n2 := 0) (st := []) (stN := [.inl x14]) hC [.inl v1, .inl v2, .inl v3] (mX0_changeOf q12) lk_X8_223 g13 dX8_buy_37 rfl rfl (Nat.le_of_ble_eq_true rfl) (Nat.le_of_ble_eq_true rfl) (Nat.le_of_ble_eq_true rfl) rfl (Nat.le_of_ble_eq_true rfl) rfl rfl rfl ?_
      refine aw_istore (pc' := 42) (ls' := [some (.inr (.inr v0)), some (.inl v1), some (.inl v2), some (.inl v3), some (.inl x14)]) hC dX8_buy_40 rfl (Nat.le_of_ble_eq_true rfl) rfl rfl ?_
      refine aw_iload (pc' := 44) hC dX8_buy_42 rfl rfl ?_
      refine aw_iconst (pc' := 45) hC dX8_buy_44 rfl (by decide) ?_
      refine aw_icmp_ne (tgt := 54) (pc' := 48) hC dX8_buy_45 (by decide) rfl (fun c16 => ?_) (fun c16 => ?_)
      · replace h := it_n c16 h
        refine aw_aload_n (pc' := 55) (i := 0) hC dX8_buy_54 rfl rfl rfl ?_
        refine aw_getfield (pc' := 58) (v := (.inr (.inr (M15 v0 6)))) hC dX8_buy_55 rfl fl_X8_23 g1 rfl ?_
        refine aw_aload_n (pc' := 59) (i := 0) hC dX8_buy_58 rfl rfl rfl ?_
        refine aw_getfield (pc' := 62) (v := (.inr (.inr (M15 v0 4)))) hC dX8_buy_59 rfl fl_X8_60 g1 rfl ?_
        obtain ⟨g17, h⟩ := gd_s h
        refine aw_getfield (pc' := 65) (v := (.inr (.inr (M15 (M15 v0 4) 0)))) hC dX8_buy_62 rfl fl_X8_110 g17 rfl ?_
        obtain ⟨g19, h⟩ := gd_s h
        obtain ⟨M20, q18, h⟩ := pb_s h
        replace h := u1_s h
        refine aw_cV (pc' := 68) (k2 := 0) (n2 := 0) (st := []) (stN := []) hC [.inr (.inr (M15 (M15 v0 4) 0))] (mX2_keep q18) lk_X8_213 g19 dX8_buy_65 rfl rfl (Nat.le_of_ble_eq_true rfl) (Nat.le_of_ble_eq_true rfl) (Nat.le_of_ble_eq_true rfl) rfl (Nat.le_of_ble_eq_true rfl) rfl rfl rfl ?_
        refine aw_aload_n (pc' := 69) (i := 0) hC dX8_buy_68 rfl rfl rfl ?_
        refine aw_getfield (pc' := 72) (v := (.inr (.inr (M20 v0 4)))) hC dX8_buy_69 rfl fl_X8_60 g1 rfl ?_
        refine aw_iload_n (pc' := 73) (i := 3) hC dX8_buy_72 rfl rfl rfl ?_
        refine aw_aload_n (pc' := 74) (i := 0) hC dX8_buy_73 rfl rfl rfl ?_
        refine aw_getfield (pc' := 77) (v := (.inr (.inr (M20 v0 3)))) hC dX8_buy_74 rfl fl_X8_51 g1 rfl ?_
        obtain ⟨g21, h⟩ := gd_s h
        refine aw_getfield (pc' := 80) (v := (.inr (.inr (M20 (M20 v0 3) 8)))) hC dX8_buy_77 rfl fl_X8_201 g21 rfl ?_
        refine aw_iload_n (pc' := 81) (i := 2) hC dX8_buy_80 rfl rfl rfl ?_
        obtain ⟨g22, h⟩ := gd_s h
        refine aw_iaload (pc' := 82) hC dX8_buy_81 rfl g22 ?_
        obtain ⟨g24, h⟩ := gd_s h
        obtain ⟨M25, q23, h⟩ := pb_s h
        replace h := u1_s h
        refine aw_cV (pc' := 85) (k2 := 0) (n2 := 0) (st := []) (stN := []) hC [.inl v3, .inl (M20 (M20 (M20 v0 3) 8) v2)] (mX0_payAll q23) lk_X8_227 g24 dX8_buy_82 rfl rfl (Nat.le_of_ble_eq_true rfl) (Nat.le_of_ble_eq_true rfl) (Nat.le_of_ble_eq_true rfl) rfl (Nat.le_of_ble_eq_true rfl) rfl rfl rfl ?_
        refine aw_aload_n (pc' := 86) (i := 0) hC dX8_buy_85 rfl rfl rfl ?_
        refine aw_getfield (pc' := 89) (v := (.inr (.inr (M25 v0 4)))) hC dX8_buy_86 rfl fl_X8_60 g1 rfl ?_
        refine aw_iload (pc' := 91) hC dX8_buy_89 rfl rfl ?_
        refine aw_iload_n (pc' := 92) (i := 1) hC dX8_buy_91 rfl rfl rfl ?_
        obtain ⟨g27, h⟩ := gd_s h
        obtain ⟨M28, q26, h⟩ := pb_s h
        replace h := u1_s h
        refine aw_cV (pc' := 95) (k2 := 0) (n2 := 0) (st := []) (stN := []) hC [.inl x14, .inl v1] (mX0_payAll q26) lk_X8_227 g27 dX8_buy_92 rfl rfl (Nat.le_of_ble_eq_true rfl) (Nat.le_of_ble_eq_true rfl) (Nat.le_of_ble_eq_true rfl) rfl (Nat.le_of_ble_eq_true rfl) rfl rfl rfl ?_
        refine aw_iload (pc' := 97) hC dX8_buy_95 rfl rfl ?_
        cases h
        exact aw_iret hC dX8_buy_97 (Nat.le_of_ble_eq_true rfl) (Nat.le_of_ble_eq_true rfl)
      · replace h := it_p c16 h
        refine aw_aload_n (pc' := 49) (i := 0) hC dX8_buy_48 rfl rfl rfl ?_
        refine aw_iconst (pc' := 50) hC dX8_buy_49 rfl (by decide) ?_
        obtain ⟨⟨x30, M31⟩, q29, h⟩ := pb_s h
        replace h := u2_s h
        refine aw_cV (pc' := 53) (k2 := 0) (n2 := 0) (st := []) (stN := [.inl x30]) hC [.inl 3] (mX8_refuse q29) lk_X8_70 g1 dX8_buy_50 rfl rfl (Nat.le_of_ble_eq_true rfl) (Nat.le_of_ble_eq_true rfl) (Nat.le_of_ble_eq_true rfl) rfl (Nat.le_of_ble_eq_true rfl) rfl rfl rfl ?_
        cases h
        exact aw_iret hC dX8_buy_53 (Nat.le_of_ble_eq_true rfl) (Nat.le_of_ble_eq_true rfl)
    · replace h := it_p c11 h
      refine aw_aload_n (pc' := 25) (i := 0) hC dX8_buy_24 rfl rfl rfl ?_
      refine aw_iconst (pc' := 26) hC dX8_buy_25 rfl (by decide) ?_
      obtain ⟨⟨x33, M34⟩, q32, h⟩ := pb_s h
      replace h := u2_s h
      refine aw_cV (pc' := 29) (k2 := 0) (n2 := 0) (st := []) (stN := [.inl x33]) hC [.inl 3] (mX8_refuse q32) lk_X8_70 g1 dX8_buy_26 rfl rfl (Nat.le_of_ble_eq_true rfl) (Nat.le_of_ble_eq_true rfl) (Nat.le_of_ble_eq_true rfl) rfl (Nat.le_of_ble_eq_true rfl) rfl rfl rfl ?_
      cases h
      exact aw_iret hC dX8_buy_29 (Nat.le_of_ble_eq_true rfl) (Nat.le_of_ble_eq_true rfl)
-- CoinCircle$Circle.takeTea(I)I
def fX0_takeTea_J84_31 (sh : AwS) (M : AwM) (v0 : Int) (v1 : Int) (v2 : Int) (v3 : Int) (v4 : Int) : Option ((Int × Int × AwM) ⊕ (Int × AwM)) :=
  some (.inl (v2, (w32 (v4 + 1)), M))
def fX0_takeTea_L31 (sh : AwS) (v0 : Int) (v1 : Int) (v3 : Int) (v2 : Int) (v4 : Int) (M : AwM) : Option ((Int × Int × AwM) ⊕ (Int × AwM)) :=
  gd_ (kd_ sh v0 = (0, 0)) (gd_ (kd_ sh (M v0 1) = (0, 5)) (gd_ ((kd_ sh (M (M v0 1) 0)).1 = 1 ∧ (0 : Int) ≤ 0 ∧ 0 < ((kd_ sh (M (M v0 1) 0)).2 : Int)) ((if v4 < (M (M (M v0 1) 0) 0) then pb (fX8_isIn sh M v1 v4) <| u1 fun (x15 : Int) => ((if x15 = 0 then fX0_takeTea_J84_31 sh M v0 v1 v2 v3 v4 else pb (fX0_canBePresented sh M v0 v3 v4) <| u1 fun (x18 : Int) => ((if x18 = 0 then fX0_takeTea_J84_31 sh M v0 v1 v2 v3 v4 else pb (fX0_testHolds sh M v0 v3 v4) <| u2 fun (x21 : Int) (M22 : AwM) => ((if x21 = 0 then fX0_takeTea_J84_31 sh M22 v0 v1 v2 v3 v4 else pb (fX0_meet sh M22 v0 v3 v4) <| u1 fun (M25 : AwM) => (fX0_takeTea_J84_31 sh M25 v0 v1 (w32 (v2 + 1)) v3 v4))))))) else some (.inr (v2, M))))))
def p_X0_takeTea_L31 (Γ : AwC) (sh : AwS) (v0 : Int) (v1 : Int) (v3 : Int) (Q : State → Prop) (s : Int × Int × AwM) : Prop := AW Γ sh (s.2.2) 0 0 31 [some (.inr (.inr v0)), some (.inl v1), some (.inl (s.1)), some (.inl v3), some (.inl (s.2.1))] [] Q
def x_X0_takeTea_L31 (Γ : AwC) (sh : AwS) (v0 : Int) (v1 : Int) (v3 : Int) (Q : State → Prop) : (Int × AwM) → Prop := (fun (t : Int × AwM) => AW Γ sh (t.2) 0 0 90 [some (.inr (.inr v0)), some (.inl v1), some (.inl (t.1)), some (.inl v3), none] [] Q)
def fX0_takeTea_L4 (sh : AwS) (v0 : Int) (v1 : Int) (v2 : Int) (v3 : Int) (M : AwM) : Option ((Int × Int × AwM) ⊕ (Int × AwM)) :=
  gd_ (kd_ sh v0 = (0, 0)) (pb (fX0_coins sh M v0) <| u1 fun (x3 : Int) => ((if v3 < x3 then gd_ (kd_ sh (M v0 0) = (0, 3)) (gd_ ((kd_ sh (M (M v0 0) 1)).1 = 1 ∧ (0 : Int) ≤ v3 ∧ v3 < ((kd_ sh (M (M v0 0) 1)).2 : Int)) (pb (fX8_isIn sh M v1 (M (M (M v0 0) 1) v3)) <| u1 fun (x8 : Int) => ((if x8 = 0 then some (.inl (v2, (w32 (v3 + 1)), M)) else pb (lp (u3 (fX0_takeTea_L31 sh v0 v1 v3)) FU (v2, 0, M)) (u2 (fun (x27 : Int) (M28 : AwM) => some (.inl (x27, (w32 (v3 + 1)), M28)))))))) else some (.inr (v2, M)))))
def p_X0_takeTea_L4 (Γ : AwC) (sh : AwS) (v0 : Int) (v1 : Int) (Q : State → Prop) (s : Int × Int × AwM) : Prop := AW Γ sh (s.2.2) 0 0 4 [some (.inr (.inr v0)), some (.inl v1), some (.inl (s.1)), some (.inl (s.2.1)), none] [] Q
def x_X0_takeTea_L4 (Γ : AwC) (sh : AwS) (v0 : Int) (v1 : Int) (Q : State → Prop) : (Int × AwM) → Prop := (fun (t : Int × AwM) => AW Γ sh (t.2) 0 0 96 [none, none, some (.inl (t.1)), none, none] [] Q)
def fX0_takeTea (sh : AwS) (M : AwM) (v0 : Int) (v1 : Int) : Option (Int × AwM) :=
  pb (lp (u3 (fX0_takeTea_L4 sh v0 v1)) FU (0, 0, M)) (u2 (fun (x30 : Int) (M31 : AwM) => some (x30, M31)))
set_option maxRecDepth 100000 in
set_option maxHeartbeats 4000000 in
theorem w_X0_takeTea_J84_31 {Γ : AwC} (hC : AOK Γ RX0 cX0_takeTea 5 6 0 0 "takeTea" (some .int)) {sh : AwS} {M : AwM} {v0 : Int} {v1 : Int} {v2 : Int} {v3 : Int} {v4 : Int} {Q : State → Prop} {r : (Int × Int × AwM) ⊕ (Int × AwM)} (h : fX0_takeTea_J84_31 sh M v0 v1 v2 v3 v4 = some r) (hL : ∀ s', r = .inl s' → p_X0_takeTea_L31 Γ sh v0 v1 v3 Q s') (hX : ∀ t, r = .inr t → x_X0_takeTea_L31 Γ sh v0 v1 v3 Q t) : AW Γ sh M 0 0 84 [some (.inr (.inr v0)), some (.inl v1), some (.inl v2), some (.inl v3), some (.inl v4)] [] Q := by
  unfold fX0_takeTea_J84_31 at h
  refine aw_iinc (pc' := 87) (ls' := [some (.inr (.inr v0)), some (.inl v1), some (.inl v2), some (.inl v3), some (.inl (w32 (v4 + 1)))]) hC dX0_takeTea_84 rfl rfl rfl rfl ?_
  refine aw_goto (tgt := 31) hC dX0_takeTea_87 (by decide) ?_
  refine aw_sub hC [some (.inr (.inr v0)), some (.inl v1), some (.inl v2), some (.inl v3), some (.inl (w32 (v4 + 1)))] ⟨rfl, ⟨rfl, ⟨rfl, ⟨rfl, ⟨rfl, trivial⟩⟩⟩⟩⟩ (Nat.le_of_ble_eq_true rfl) ?_
  cases h
  exact hL _ rfl
set_option maxRecDepth 100000 in
set_option maxHeartbeats 4000000 in
theorem w_X0_takeTea_L31 {Γ : AwC} (hC : AOK Γ RX0 cX0_takeTea 5 6 0 0 "takeTea" (some .int)) {sh : AwS} {v0 : Int} {v1 : Int} {v3 : Int} {Q : State → Prop} : ∀ s r, u3 (fX0_takeTea_L31 sh v0 v1 v3) s = some r → (∀ s', r = .inl s' → p_X0_takeTea_L31 Γ sh v0 v1 v3 Q s') → (∀ t, r = .inr t → x_X0_takeTea_L31 Γ sh v0 v1 v3 Q t) → p_X0_takeTea_L31 Γ sh v0 v1 v3 Q s := by
  intro s r h hL hX
  obtain ⟨v2, v4, M⟩ := s
  replace h := u3_s h
  unfold fX0_takeTea_L31 at h
  show AW Γ sh M 0 0 31 [some (.inr (.inr v0)), some (.inl v1), some (.inl v2), some (.inl v3), some (.inl v4)] [] Q
  refine aw_iload (pc' := 33) hC dX0_takeTea_31 rfl rfl ?_
  refine aw_aload_n (pc' := 34) (i := 0) hC dX0_takeTea_33 rfl rfl rfl ?_
  obtain ⟨g10, h⟩ := gd_s h
  refine aw_getfield (pc' := 37) (v := (.inr (.inr (M v0 1)))) hC dX0_takeTea_34 rfl fl_X0_22 g10 rfl ?_
  obtain ⟨g11, h⟩ := gd_s h
  refine aw_getfield (pc' := 40) (v := (.inr (.inr (M (M v0 1) 0)))) hC dX0_takeTea_37 rfl fl_X0_48 g11 rfl ?_
  refine aw_iconst (pc' := 41) hC dX0_takeTea_40 rfl (by decide) ?_
  obtain ⟨g12, h⟩ := gd_s h
  refine aw_iaload (pc' := 42) hC dX0_takeTea_41 rfl g12 ?_
  refine aw_icmp_ge (tgt := 90) (pc' := 45) hC dX0_takeTea_42 (by decide) rfl (fun c13 => ?_) (fun c13 => ?_)
  · replace h := it_n c13 h
    refine aw_sub hC [some (.inr (.inr v0)), some (.inl v1), some (.inl v2), some (.inl v3), none] ⟨rfl, ⟨rfl, ⟨rfl, ⟨rfl, trivial⟩⟩⟩⟩ (Nat.le_of_ble_eq_true rfl) ?_
    cases h
    exact hX _ rfl
  · replace h := it_p c13 h
    refine aw_iload_n (pc' := 46) (i := 1) hC dX0_takeTea_45 rfl rfl rfl ?_
    refine aw_iload (pc' := 48) hC dX0_takeTea_46 rfl rfl ?_
    obtain ⟨x15, q14, h⟩ := pb_s h
    replace h := u1_s h
    refine aw_cSN (pc' := 51) (k2 := 0) (n2 := 0) (st := []) (stN := [.inl x15]) hC [.inl v1, .inl v4] (mX8_isIn q14) lk_X0_51 dX0_takeTea_48 rfl rfl (Nat.le_of_ble_eq_true rfl) (Nat.le_of_ble_eq_true rfl) (Nat.le_of_ble_eq_true rfl) rfl (Nat.le_of_ble_eq_true rfl) rfl rfl rfl ?_
    refine aw_if_eq (tgt := 84) (pc' := 54) hC dX0_takeTea_51 (by decide) rfl (fun c16 => ?_) (fun c16 => ?_)
    · replace h := it_p c16 h
      refine aw_sub hC [some (.inr (.inr v0)), some (.inl v1), some (.inl v2), some (.inl v3), some (.inl v4)] ⟨rfl, ⟨rfl, ⟨rfl, ⟨rfl, ⟨rfl, trivial⟩⟩⟩⟩⟩ (Nat.le_of_ble_eq_true rfl) ?_
      exact w_X0_takeTea_J84_31 hC h hL hX
    · replace h := it_n c16 h
      refine aw_aload_n (pc' := 55) (i := 0) hC dX0_takeTea_54 rfl rfl rfl ?_
      refine aw_iload_n (pc' := 56) (i := 3) hC dX0_takeTea_55 rfl rfl rfl ?_
      refine aw_iload (pc' := 58) hC dX0_takeTea_56 rfl rfl ?_
      obtain ⟨x18, q17, h⟩ := pb_s h
      replace h := u1_s h
      refine aw_cV (pc' := 61) (k2 := 0) (n2 := 0) (st := []) (stN := [.inl x18]) hC [.inl v3, .inl v4] (mX0_canBePresented q17) lk_X0_146 g10 dX0_takeTea_58 rfl rfl (Nat.le_of_ble_eq_true rfl) (Nat.le_of_ble_eq_true rfl) (Nat.le_of_ble_eq_true rfl) rfl (Nat.le_of_ble_eq_true rfl) rfl rfl rfl ?_
      refine aw_if_eq (tgt := 84) (pc' := 64) hC dX0_takeTea_61 (by decide) rfl (fun c19 => ?_) (fun c19 => ?_)
      · replace h := it_p c19 h
        refine aw_sub hC [some (.inr (.inr v0)), some (.inl v1), some (.inl v2), some (.inl v3), some (.inl v4)] ⟨rfl, ⟨rfl, ⟨rfl, ⟨rfl, ⟨rfl, trivial⟩⟩⟩⟩⟩ (Nat.le_of_ble_eq_true rfl) ?_
        exact w_X0_takeTea_J84_31 hC h hL hX
      · replace h := it_n c19 h
        refine aw_aload_n (pc' := 65) (i := 0) hC dX0_takeTea_64 rfl rfl rfl ?_
        refine aw_iload_n (pc' := 66) (i := 3) hC dX0_takeTea_65 rfl rfl rfl ?_
        refine aw_iload (pc' := 68) hC dX0_takeTea_66 rfl rfl ?_
        obtain ⟨⟨x21, M22⟩, q20, h⟩ := pb_s h
        replace h := u2_s h
        refine aw_cV (pc' := 71) (k2 := 0) (n2 := 0) (st := []) (stN := [.inl x21]) hC [.inl v3, .inl v4] (mX0_testHolds q20) lk_X0_130 g10 dX0_takeTea_68 rfl rfl (Nat.le_of_ble_eq_true rfl) (Nat.le_of_ble_eq_true rfl) (Nat.le_of_ble_eq_true rfl) rfl (Nat.le_of_ble_eq_true rfl) rfl rfl rfl ?_
        refine aw_if_eq (tgt := 84) (pc' := 74) hC dX0_takeTea_71 (by decide) rfl (fun c23 => ?_) (fun c23 => ?_)
        · replace h := it_p c23 h
          refine aw_sub hC [some (.inr (.inr v0)), some (.inl v1), some (.inl v2), some (.inl v3), some (.inl v4)] ⟨rfl, ⟨rfl, ⟨rfl, ⟨rfl, ⟨rfl, trivial⟩⟩⟩⟩⟩ (Nat.le_of_ble_eq_true rfl) ?_
          exact w_X0_takeTea_J84_31 hC h hL hX
        · replace h := it_n c23 h
          refine aw_aload_n (pc' := 75) (i := 0) hC dX0_takeTea_74 rfl rfl rfl ?_
          refine aw_iload_n (pc' := 76) (i := 3) hC dX0_takeTea_75 rfl rfl rfl ?_
          refine aw_iload (pc' := 78) hC dX0_takeTea_76 rfl rfl ?_
          obtain ⟨M25, q24, h⟩ := pb_s h
          replace h := u1_s h
          refine aw_cV (pc' := 81) (k2 := 0) (n2 := 0) (st := []) (stN := []) hC [.inl v3, .inl v4] (mX0_meet q24) lk_X0_133 g10 dX0_takeTea_78 rfl rfl (Nat.le_of_ble_eq_true rfl) (Nat.le_of_ble_eq_true rfl) (Nat.le_of_ble_eq_true rfl) rfl (Nat.le_of_ble_eq_true rfl) rfl rfl rfl ?_
          refine aw_iinc (pc' := 84) (ls' := [some (.inr (.inr v0)), some (.inl v1), some (.inl (w32 (v2 + 1))), some (.inl v3), some (.inl v4)]) hC dX0_takeTea_81 rfl rfl rfl rfl ?_
          refine aw_sub hC [some (.inr (.inr v0)), some (.inl v1), some (.inl (w32 (v2 + 1))), some (.inl v3), some (.inl v4)] ⟨rfl, ⟨rfl, ⟨rfl, ⟨rfl, ⟨rfl, trivial⟩⟩⟩⟩⟩ (Nat.le_of_ble_eq_true rfl) ?_
          exact w_X0_takeTea_J84_31 hC h hL hX
set_option maxRecDepth 100000 in
set_option maxHeartbeats 4000000 in
theorem w_X0_takeTea_L4 {Γ : AwC} (hC : AOK Γ RX0 cX0_takeTea 5 6 0 0 "takeTea" (some .int)) {sh : AwS} {v0 : Int} {v1 : Int} {Q : State → Prop} : ∀ s r, u3 (fX0_takeTea_L4 sh v0 v1) s = some r → (∀ s', r = .inl s' → p_X0_takeTea_L4 Γ sh v0 v1 Q s') → (∀ t, r = .inr t → x_X0_takeTea_L4 Γ sh v0 v1 Q t) → p_X0_takeTea_L4 Γ sh v0 v1 Q s := by
  intro s r h hL hX
  obtain ⟨v2, v3, M⟩ := s
  replace h := u3_s h
  unfold fX0_takeTea_L4 at h
  show AW Γ sh M 0 0 4 [some (.inr (.inr v0)), some (.inl v1), some (.inl v2), some (.inl v3), none] [] Q
  refine aw_iload_n (pc' := 5) (i := 3) hC dX0_takeTea_4 rfl rfl rfl ?_
  refine aw_aload_n (pc' := 6) (i := 0) hC dX0_takeTea_5 rfl rfl rfl ?_
  obtain ⟨g2, h⟩ := gd_s h
  obtain ⟨x3, q1, h⟩ := pb_s h
  replace h := u1_s h
  refine aw_cV (pc' := 9) (k2 := 0) (n2 := 0) (st := [.inl v3]) (stN := [.inl x3, .inl v3]) hC [] (mX0_coins q1) lk_X0_55 g2 dX0_takeTea_6 rfl rfl (Nat.le_of_ble_eq_true rfl) (Nat.le_of_ble_eq_true rfl) (Nat.le_of_ble_eq_true rfl) rfl (Nat.le_of_ble_eq_true rfl) rfl rfl rfl ?_
  refine aw_icmp_ge (tgt := 96) (pc' := 12) hC dX0_takeTea_9 (by decide) rfl (fun c4 => ?_) (fun c4 => ?_)
  · replace h := it_n c4 h
    refine aw_sub hC [none, none, some (.inl v2), none, none] ⟨rfl, trivial⟩ (Nat.le_of_ble_eq_true rfl) ?_
    cases h
    exact hX _ rfl
  · replace h := it_p c4 h
    refine aw_iload_n (pc' := 13) (i := 1) hC dX0_takeTea_12 rfl rfl rfl ?_
    refine aw_aload_n (pc' := 14) (i := 0) hC dX0_takeTea_13 rfl rfl rfl ?_
    refine aw_getfield (pc' := 17) (v := (.inr (.inr (M v0 0)))) hC dX0_takeTea_14 rfl fl_X0_12 g2 rfl ?_
    obtain ⟨g5, h⟩ := gd_s h
    refine aw_getfield (pc' := 20) (v := (.inr (.inr (M (M v0 0) 1)))) hC dX0_takeTea_17 rfl fl_X0_30 g5 rfl ?_
    refine aw_iload_n (pc' := 21) (i := 3) hC dX0_takeTea_20 rfl rfl rfl ?_
    obtain ⟨g6, h⟩ := gd_s h
    refine aw_iaload (pc' := 22) hC dX0_takeTea_21 rfl g6 ?_
    obtain ⟨x8, q7, h⟩ := pb_s h
    replace h := u1_s h
    refine aw_cSN (pc' := 25) (k2 := 0) (n2 := 0) (st := []) (stN := [.inl x8]) hC [.inl v1, .inl (M (M (M v0 0) 1) v3)] (mX8_isIn q7) lk_X0_51 dX0_takeTea_22 rfl rfl (Nat.le_of_ble_eq_true rfl) (Nat.le_of_ble_eq_true rfl) (Nat.le_of_ble_eq_true rfl) rfl (Nat.le_of_ble_eq_true rfl) rfl rfl rfl ?_
    refine aw_if_eq (tgt := 90) (pc' := 28) hC dX0_takeTea_25 (by decide) rfl (fun c9 => ?_) (fun c9 => ?_)
    · replace h := it_p c9 h
      refine aw_iinc (pc' := 93) (ls' := [some (.inr (.inr v0)), some (.inl v1), some (.inl v2), some (.inl (w32 (v3 + 1))), none]) hC dX0_takeTea_90 rfl rfl rfl rfl ?_
      refine aw_goto (tgt := 4) hC dX0_takeTea_93 (by decide) ?_
      refine aw_sub hC [some (.inr (.inr v0)), some (.inl v1), some (.inl v2), some (.inl (w32 (v3 + 1))), none] ⟨rfl, ⟨rfl, ⟨rfl, ⟨rfl, trivial⟩⟩⟩⟩ (Nat.le_of_ble_eq_true rfl) ?_
      cases h
      exact hL _ rfl
    · replace h := it_n c9 h
      refine aw_iconst (pc' := 29) hC dX0_takeTea_28 rfl (by decide) ?_
      refine aw_istore (pc' := 31) (ls' := [some (.inr (.inr v0)), some (.inl v1), some (.inl v2), some (.inl v3), some (.inl 0)]) hC dX0_takeTea_29 rfl (Nat.le_of_ble_eq_true rfl) rfl rfl ?_
      obtain ⟨tq26, q26, h⟩ := pb_s h
      refine aw_sub hC [some (.inr (.inr v0)), some (.inl v1), some (.inl v2), some (.inl v3), some (.inl 0)] ⟨rfl, ⟨rfl, ⟨rfl, ⟨rfl, ⟨rfl, trivial⟩⟩⟩⟩⟩ (Nat.le_of_ble_eq_true rfl) ?_
      refine (lp_aw (p_X0_takeTea_L31 Γ sh v0 v1 v3 Q) (x_X0_takeTea_L31 Γ sh v0 v1 v3 Q) (w_X0_takeTea_L31 hC ) FU _ _ q26 ?_ : p_X0_takeTea_L31 Γ sh v0 v1 v3 Q (v2, 0, M))
      obtain ⟨x27, M28⟩ := tq26
      replace h := u2_s h
      show AW Γ sh M28 0 0 90 [some (.inr (.inr v0)), some (.inl v1), some (.inl x27), some (.inl v3), none] [] _
      refine aw_iinc (pc' := 93) (ls' := [some (.inr (.inr v0)), some (.inl v1), some (.inl x27), some (.inl (w32 (v3 + 1))), none]) hC dX0_takeTea_90 rfl rfl rfl rfl ?_
      refine aw_goto (tgt := 4) hC dX0_takeTea_93 (by decide) ?_
      refine aw_sub hC [some (.inr (.inr v0)), some (.inl v1), some (.inl x27), some (.inl (w32 (v3 + 1))), none] ⟨rfl, ⟨rfl, ⟨rfl, ⟨rfl, trivial⟩⟩⟩⟩ (Nat.le_of_ble_eq_true rfl) ?_
      cases h
      exact hL _ rfl
set_option maxRecDepth 100000 in
set_option maxHeartbeats 4000000 in
theorem mX0_takeTea {sh : AwS} {M : AwM} {v0 : Int} {v1 : Int} {r : Int} {M' : AwM} (h : fX0_takeTea sh M v0 v1 = some (r, M')) : AMet yX0_takeTea cX0_takeTea 5 (some .int) 6 0 0 [.inr (.inr v0), .inl v1] sh M (some (.inl r)) sh M' := by
  refine amet_of (by decide +kernel) (Nat.le_of_ble_eq_true rfl) (fun Γ hC => ?_)
  replace hC : AOK Γ RX0 cX0_takeTea 5 6 0 0 "takeTea" (some .int) := hC
  unfold fX0_takeTea at h
  refine aw_sub hC [some (.inr (.inr v0)), some (.inl v1), none, none, none] ⟨rfl, ⟨rfl, trivial⟩⟩ (Nat.le_of_ble_eq_true rfl) ?_
  refine aw_iconst (pc' := 1) hC dX0_takeTea_0 rfl (by decide) ?_
  refine aw_istore_n (pc' := 2) (i := 2) (ls' := [some (.inr (.inr v0)), some (.inl v1), some (.inl 0), none, none]) hC dX0_takeTea_1 rfl rfl (Nat.le_of_ble_eq_true rfl) rfl rfl ?_
  refine aw_iconst (pc' := 3) hC dX0_takeTea_2 rfl (by decide) ?_
  refine aw_istore_n (pc' := 4) (i := 3) (ls' := [some (.inr (.inr v0)), some (.inl v1), some (.inl 0), some (.inl 0), none]) hC dX0_takeTea_3 rfl rfl (Nat.le_of_ble_eq_true rfl) rfl rfl ?_
  obtain ⟨tq29, q29, h⟩ := pb_s h
  refine aw_sub hC [some (.inr (.inr v0)), some (.inl v1), some (.inl 0), some (.inl 0), none] ⟨rfl, ⟨rfl, ⟨rfl, ⟨rfl, trivial⟩⟩⟩⟩ (Nat.le_of_ble_eq_true rfl) ?_
  refine (lp_aw (p_X0_takeTea_L4 Γ sh v0 v1 (fin_ Γ 0 0 (some (.inl r)) sh M')) (x_X0_takeTea_L4 Γ sh v0 v1 (fin_ Γ 0 0 (some (.inl r)) sh M')) (w_X0_takeTea_L4 hC ) FU _ _ q29 ?_ : p_X0_takeTea_L4 Γ sh v0 v1 (fin_ Γ 0 0 (some (.inl r)) sh M') (0, 0, M))
  obtain ⟨x30, M31⟩ := tq29
  replace h := u2_s h
  show AW Γ sh M31 0 0 96 [none, none, some (.inl x30), none, none] [] _
  refine aw_iload_n (pc' := 97) (i := 2) hC dX0_takeTea_96 rfl rfl rfl ?_
  cases h
  exact aw_iret hC dX0_takeTea_97 (Nat.le_of_ble_eq_true rfl) (Nat.le_of_ble_eq_true rfl)
-- CoinCircle.tea(I)I
def fX8_tea (sh : AwS) (M : AwM) (v0 : Int) (v1 : Int) : Option (Int × AwM) :=
  pb (fJ6_bitCount_0f7a4 sh M v1) <| u1 fun (x2 : Int) => (gd_ (kd_ sh v0 = (0, 8)) (gd_ (kd_ sh (M v0 3) = (0, 5)) (pb (fX5_allPeople sh M (M v0 3)) <| u1 fun (x6 : Int) => ((if (an_ v1 (xo_ x6 (-1))) = 0 then (if x2 < 2 then pb (fX8_refuse sh M v0 3) <| u2 fun (x13 : Int) (M14 : AwM) => (some (x13, M14)) else (if 4 < x2 then pb (fX8_refuse sh M v0 3) <| u2 fun (x25 : Int) (M26 : AwM) => (some (x25, M26)) else gd_ (kd_ sh (M v0 4) = (0, 0)) (gd_ (kd_ sh (M v0 6) = (0, 2)) (pb (fX2_keep sh M (M v0 6) (M (M v0 4) 0)) <| u1 fun (M19 : AwM) => (gd_ (kd_ sh (M19 v0 4) = (0, 0)) (pb (fX0_takeTea sh M19 (M19 v0 4) v1) <| u2 fun (x22 : Int) (M23 : AwM) => (some (x22, M23)))))))) else pb (fX8_refuse sh M v0 3) <| u2 fun (x9 : Int) (M10 : AwM) => (some (x9, M10)))))))
set_option maxRecDepth 100000 in
set_option maxHeartbeats 4000000 in
theorem mX8_tea {sh : AwS} {M : AwM} {v0 : Int} {v1 : Int} {r : Int} {M' : AwM} (h : fX8_tea sh M v0 v1 = some (r, M')) : AMet yX8_tea cX8_tea 3 (some .int) 7 0 0 [.inr (.inr v0), .inl v1] sh M (some (.inl r)) sh M' := by
  refine amet_of (by decide +kernel) (Nat.le_of_ble_eq_true rfl) (fun Γ hC => ?_)
  replace hC : AOK Γ RX8 cX8_tea 3 7 0 0 "tea" (some .int) := hC
  unfold fX8_tea at h
  refine aw_sub hC [some (.inr (.inr v0)), some (.inl v1), none] ⟨rfl, ⟨rfl, trivial⟩⟩ (Nat.le_of_ble_eq_true rfl) ?_
  refine aw_iload_n (pc' := 1) (i := 1) hC dX8_tea_0 rfl rfl rfl ?_
  obtain ⟨x2, q1, h⟩ := pb_s h
  replace h := u1_s h
  refine aw_cS (pc' := 4) (k2 := 0) (n2 := 0) (st := []) (stN := [.inl x2]) hC [.inl v1] (mJ6_bitCount_0f7a4 q1) lk_X8_178 dX8_tea_1 rfl rfl (Nat.le_of_ble_eq_true rfl) (Nat.le_of_ble_eq_true rfl) (Nat.le_of_ble_eq_true rfl) rfl (Nat.le_of_ble_eq_true rfl) rfl rfl rfl ?_
  refine aw_istore_n (pc' := 5) (i := 2) (ls' := [some (.inr (.inr v0)), some (.inl v1), some (.inl x2)]) hC dX8_tea_4 rfl rfl (Nat.le_of_ble_eq_true rfl) rfl rfl ?_
  refine aw_iload_n (pc' := 6) (i := 1) hC dX8_tea_5 rfl rfl rfl ?_
  refine aw_aload_n (pc' := 7) (i := 0) hC dX8_tea_6 rfl rfl rfl ?_
  obtain ⟨g3, h⟩ := gd_s h
  refine aw_getfield (pc' := 10) (v := (.inr (.inr (M v0 3)))) hC dX8_tea_7 rfl fl_X8_51 g3 rfl ?_
  obtain ⟨g5, h⟩ := gd_s h
  obtain ⟨x6, q4, h⟩ := pb_s h
  replace h := u1_s h
  refine aw_cV (pc' := 13) (k2 := 0) (n2 := 0) (st := [.inl v1]) (stN := [.inl x6, .inl v1]) hC [] (mX5_allPeople q4) lk_X8_230 g5 dX8_tea_10 rfl rfl (Nat.le_of_ble_eq_true rfl) (Nat.le_of_ble_eq_true rfl) (Nat.le_of_ble_eq_true rfl) rfl (Nat.le_of_ble_eq_true rfl) rfl rfl rfl ?_
  refine aw_iconst (pc' := 14) hC dX8_tea_13 rfl (by decide) ?_
  refine aw_ixor (pc' := 15) hC dX8_tea_14 rfl  ?_
  refine aw_iand (pc' := 16) hC dX8_tea_15 rfl  ?_
  refine aw_if_ne (tgt := 29) (pc' := 19) hC dX8_tea_16 (by decide) rfl (fun c7 => ?_) (fun c7 => ?_)
  · replace h := it_n c7 h
    refine aw_aload_n (pc' := 30) (i := 0) hC dX8_tea_29 rfl rfl rfl ?_
    refine aw_iconst (pc' := 31) hC dX8_tea_30 rfl (by decide) ?_
    obtain ⟨⟨x9, M10⟩, q8, h⟩ := pb_s h
    replace h := u2_s h
    refine aw_cV (pc' := 34) (k2 := 0) (n2 := 0) (st := []) (stN := [.inl x9]) hC [.inl 3] (mX8_refuse q8) lk_X8_70 g3 dX8_tea_31 rfl rfl (Nat.le_of_ble_eq_true rfl) (Nat.le_of_ble_eq_true rfl) (Nat.le_of_ble_eq_true rfl) rfl (Nat.le_of_ble_eq_true rfl) rfl rfl rfl ?_
    cases h
    exact aw_iret hC dX8_tea_34 (Nat.le_of_ble_eq_true rfl) (Nat.le_of_ble_eq_true rfl)
  · replace h := it_p c7 h
    refine aw_iload_n (pc' := 20) (i := 2) hC dX8_tea_19 rfl rfl rfl ?_
    refine aw_iconst (pc' := 21) hC dX8_tea_20 rfl (by decide) ?_
    refine aw_icmp_lt (tgt := 29) (pc' := 24) hC dX8_tea_21 (by decide) rfl (fun c11 => ?_) (fun c11 => ?_)
    · replace h := it_p c11 h
      refine aw_aload_n (pc' := 30) (i := 0) hC dX8_tea_29 rfl rfl rfl ?_
      refine aw_iconst (pc' := 31) hC dX8_tea_30 rfl (by decide) ?_
      obtain ⟨⟨x13, M14⟩, q12, h⟩ := pb_s h
      replace h := u2_s h
      refine aw_cV (pc' := 34) (k2 := 0) (n2 := 0) (st := []) (stN := [.inl x13]) hC [.inl 3] (mX8_refuse q12) lk_X8_70 g3 dX8_tea_31 rfl rfl (Nat.le_of_ble_eq_true rfl) (Nat.le_of_ble_eq_true rfl) (Nat.le_of_ble_eq_true rfl) rfl (Nat.le_of_ble_eq_true rfl) rfl rfl rfl ?_
      cases h
      exact aw_iret hC dX8_tea_34 (Nat.le_of_ble_eq_true rfl) (Nat.le_of_ble_eq_true rfl)
    · replace h := it_n c11 h
      refine aw_iload_n (pc' := 25) (i := 2) hC dX8_tea_24 rfl rfl rfl ?_
      refine aw_iconst (pc' := 26) hC dX8_tea_25 rfl (by decide) ?_
      refine aw_icmp_le (tgt := 35) (pc' := 29) hC dX8_tea_26 (by decide) rfl (fun c15 => ?_) (fun c15 => ?_)
      · replace h := it_n c15 h
        refine aw_aload_n (pc' := 36) (i := 0) hC dX8_tea_35 rfl rfl rfl ?_
        refine aw_getfield (pc' := 39) (v := (.inr (.inr (M v0 6)))) hC dX8_tea_36 rfl fl_X8_23 g3 rfl ?_
        refine aw_aload_n (pc' := 40) (i := 0) hC dX8_tea_39 rfl rfl rfl ?_
        refine aw_getfield (pc' := 43) (v := (.inr (.inr (M v0 4)))) hC dX8_tea_40 rfl fl_X8_60 g3 rfl ?_
        obtain ⟨g16, h⟩ := gd_s h
        refine aw_getfield (pc' := 46) (v := (.inr (.inr (M (M v0 4) 0)))) hC dX8_tea_43 rfl fl_X8_110 g16 rfl ?_
        obtain ⟨g18, h⟩ := gd_s h
        obtain ⟨M19, q17, h⟩ := pb_s h
        replace h := u1_s h
        refine aw_cV (pc' := 49) (k2 := 0) (n2 := 0) (st := []) (stN := []) hC [.inr (.inr (M (M v0 4) 0))] (mX2_keep q17) lk_X8_213 g18 dX8_tea_46 rfl rfl (Nat.le_of_ble_eq_true rfl) (Nat.le_of_ble_eq_true rfl) (Nat.le_of_ble_eq_true rfl) rfl (Nat.le_of_ble_eq_true rfl) rfl rfl rfl ?_
        refine aw_aload_n (pc' := 50) (i := 0) hC dX8_tea_49 rfl rfl rfl ?_
        refine aw_getfield (pc' := 53) (v := (.inr (.inr (M19 v0 4)))) hC dX8_tea_50 rfl fl_X8_60 g3 rfl ?_
        refine aw_iload_n (pc' := 54) (i := 1) hC dX8_tea_53 rfl rfl rfl ?_
        obtain ⟨g21, h⟩ := gd_s h
        obtain ⟨⟨x22, M23⟩, q20, h⟩ := pb_s h
        replace h := u2_s h
        refine aw_cV (pc' := 57) (k2 := 0) (n2 := 0) (st := []) (stN := [.inl x22]) hC [.inl v1] (mX0_takeTea q20) lk_X8_233 g21 dX8_tea_54 rfl rfl (Nat.le_of_ble_eq_true rfl) (Nat.le_of_ble_eq_true rfl) (Nat.le_of_ble_eq_true rfl) rfl (Nat.le_of_ble_eq_true rfl) rfl rfl rfl ?_
        cases h
        exact aw_iret hC dX8_tea_57 (Nat.le_of_ble_eq_true rfl) (Nat.le_of_ble_eq_true rfl)
      · replace h := it_p c15 h
        refine aw_aload_n (pc' := 30) (i := 0) hC dX8_tea_29 rfl rfl rfl ?_
        refine aw_iconst (pc' := 31) hC dX8_tea_30 rfl (by decide) ?_
        obtain ⟨⟨x25, M26⟩, q24, h⟩ := pb_s h
        replace h := u2_s h
        refine aw_cV (pc' := 34) (k2 := 0) (n2 := 0) (st := []) (stN := [.inl x25]) hC [.inl 3] (mX8_refuse q24) lk_X8_70 g3 dX8_tea_31 rfl rfl (Nat.le_of_ble_eq_true rfl) (Nat.le_of_ble_eq_true rfl) (Nat.le_of_ble_eq_true rfl) rfl (Nat.le_of_ble_eq_true rfl) rfl rfl rfl ?_
        cases h
        exact aw_iret hC dX8_tea_34 (Nat.le_of_ble_eq_true rfl) (Nat.le_of_ble_eq_true rfl)
