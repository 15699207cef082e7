-- CoinCircle$Circle.forget(I)I
def fX0_forget_J98_4 (sh : AwS) (M : AwM) (v0 : Int) (v1 : Int) (v2 : Int) (v3 : Int) : Option ((Int × Int × AwM) ⊕ (Int × AwM)) :=
  some (.inl (v2, (w32 (v3 + 1)), M))
def fX0_forget_J49_4 (sh : AwS) (M : AwM) (v0 : Int) (v1 : Int) (v2 : Int) (v3 : Int) (s0 : Int) : Option ((Int × Int × AwM) ⊕ (Int × AwM)) :=
  (if s0 = 0 then fX0_forget_J98_4 sh M v0 v1 v2 v3 else gd_ (kd_ sh v0 = (0, 0)) (pb (fX0_knows sh M v0 v1 v3) <| u1 fun (x12 : Int) => ((if x12 = 0 then fX0_forget_J98_4 sh M v0 v1 v2 v3 else gd_ (kd_ sh (M v0 0) = (0, 3)) (gd_ ((kd_ sh (M (M v0 0) 1)).1 = 1 ∧ (0 : Int) ≤ v1 ∧ v1 < ((kd_ sh (M (M v0 0) 1)).2 : Int)) ((if v3 = (M (M (M v0 0) 1) v1) then fX0_forget_J98_4 sh M v0 v1 v2 v3 else gd_ ((kd_ sh (M (M v0 0) 2)).1 = 1 ∧ (0 : Int) ≤ v1 ∧ v1 < ((kd_ sh (M (M v0 0) 2)).2 : Int)) (bd_ (up_ M (M (M v0 0) 2) v1 (an_ (M (M (M v0 0) 2) v1) (xo_ (sl_ 1 v3) (-1)))) fun (M18 : AwM) => (fX0_forget_J98_4 sh M18 v0 v1 (w32 (v2 + 1)) v3)))))))))
def fX0_forget_L4 (sh : AwS) (v0 : Int) (v1 : Int) (v2 : Int) (v3 : Int) (M : AwM) : Option ((Int × Int × AwM) ⊕ (Int × AwM)) :=
  gd_ (kd_ sh v0 = (0, 0)) (gd_ (kd_ sh (M v0 1) = (0, 5)) (gd_ ((kd_ sh (M (M v0 1) 0)).1 = 1 ∧ (0 : Int) ≤ 0 ∧ 0 < ((kd_ sh (M (M v0 1) 0)).2 : Int)) ((if v3 < (M (M (M v0 1) 0) 0) then gd_ (kd_ sh (M v0 0) = (0, 3)) (pb (fX3_metOn sh M (M v0 0) v1 v3) <| u1 fun (x7 : Int) => ((if (w32 ((M (M v0 0) 0) - x7)) < (M (M v0 1) 11) then fX0_forget_J49_4 sh M v0 v1 v2 v3 0 else fX0_forget_J49_4 sh M v0 v1 v2 v3 1))) else some (.inr (v2, M))))))
def p_X0_forget_L4 (Γ : AwC) (sh : AwS) (v0 : Int) (v1 : Int) (Q : State → Prop) (s : Int × Int × AwM) : Prop := AW Γ sh (s.2.2) 0 0 4 [some (.inr (.inr v0)), some (.inl v1), some (.inl (s.1)), some (.inl (s.2.1)), none] [] Q
def x_X0_forget_L4 (Γ : AwC) (sh : AwS) (v0 : Int) (v1 : Int) (Q : State → Prop) : (Int × AwM) → Prop := (fun (t : Int × AwM) => AW Γ sh (t.2) 0 0 104 [none, none, some (.inl (t.1)), none, none] [] Q)
def fX0_forget (sh : AwS) (M : AwM) (v0 : Int) (v1 : Int) : Option (Int × AwM) :=
  pb (lp (u3 (fX0_forget_L4 sh v0 v1)) FU (0, 0, M)) (u2 (fun (x21 : Int) (M22 : AwM) => some (x21, M22)))
set_option maxRecDepth 100000 in
set_option maxHeartbeats 4000000 in
theorem w_X0_forget_J98_4 {Γ : AwC} (hC : AOK Γ RX0 cX0_forget 5 3 0 0 "forget" (some .int)) {sh : AwS} {M : AwM} {v0 : Int} {v1 : Int} {v2 : Int} {v3 : Int} {Q : State → Prop} {r : (Int × Int × AwM) ⊕ (Int × AwM)} (h : fX0_forget_J98_4 sh M v0 v1 v2 v3 = some r) (hL : ∀ s', r = .inl s' → p_X0_forget_L4 Γ sh v0 v1 Q s') (hX : ∀ t, r = .inr t → x_X0_forget_L4 Γ sh v0 v1 Q t) : AW Γ sh M 0 0 98 [some (.inr (.inr v0)), some (.inl v1), some (.inl v2), some (.inl v3), none] [] Q := by
  unfold fX0_forget_J98_4 at h
  refine aw_iinc (pc' := 101) (ls' := [some (.inr (.inr v0)), some (.inl v1), some (.inl v2), some (.inl (w32 (v3 + 1))), none]) hC dX0_forget_98 rfl rfl rfl rfl ?_
  refine aw_goto (tgt := 4) hC dX0_forget_101 (by decide) ?_
  refine aw_sub hC [some (.inr (.inr v0)), some (.inl v1), some (.inl v2), some (.inl (w32 (v3 + 1))), none] ⟨rfl, ⟨rfl, ⟨rfl, ⟨rfl, trivial⟩⟩⟩⟩ (Nat.le_of_ble_eq_true rfl) ?_
  cases h
  exact hL _ rfl
set_option maxRecDepth 100000 in
set_option maxHeartbeats 4000000 in
theorem w_X0_forget_J49_4 {Γ : AwC} (hC : AOK Γ RX0 cX0_forget 5 3 0 0 "forget" (some .int)) {sh : AwS} {M : AwM} {v0 : Int} {v1 : Int} {v2 : Int} {v3 : Int} {s0 : Int} {Q : State → Prop} {r : (Int × Int × AwM) ⊕ (Int × AwM)} (h : fX0_forget_J49_4 sh M v0 v1 v2 v3 s0 = some r) (hL : ∀ s', r = .inl s' → p_X0_forget_L4 Γ sh v0 v1 Q s') (hX : ∀ t, r = .inr t → x_X0_forget_L4 Γ sh v0 v1 Q t) : AW Γ sh M 0 0 49 [some (.inr (.inr v0)), some (.inl v1), some (.inl v2), some (.inl v3), none] [.inl s0] Q := by
  unfold fX0_forget_J49_4 at h
  refine aw_istore (pc' := 51) (ls' := [some (.inr (.inr v0)), some (.inl v1), some (.inl v2), some (.inl v3), some (.inl s0)]) hC dX0_forget_49 rfl (Nat.le_of_ble_eq_true rfl) rfl rfl ?_
  refine aw_iload (pc' := 53) hC dX0_forget_51 rfl rfl ?_
  refine aw_if_eq (tgt := 98) (pc' := 56) hC dX0_forget_53 (by decide) rfl (fun c9 => ?_) (fun c9 => ?_)
  · replace h := it_p c9 h
    refine aw_sub hC [some (.inr (.inr v0)), some (.inl v1), some (.inl v2), some (.inl v3), none] ⟨rfl, ⟨rfl, ⟨rfl, ⟨rfl, trivial⟩⟩⟩⟩ (Nat.le_of_ble_eq_true rfl) ?_
    exact w_X0_forget_J98_4 hC h hL hX
  · replace h := it_n c9 h
    refine aw_aload_n (pc' := 57) (i := 0) hC dX0_forget_56 rfl rfl rfl ?_
    refine aw_iload_n (pc' := 58) (i := 1) hC dX0_forget_57 rfl rfl rfl ?_
    refine aw_iload_n (pc' := 59) (i := 3) hC dX0_forget_58 rfl rfl rfl ?_
    obtain ⟨g11, h⟩ := gd_s h
    obtain ⟨x12, q10, h⟩ := pb_s h
    replace h := u1_s h
    refine aw_cV (pc' := 62) (k2 := 0) (n2 := 0) (st := []) (stN := [.inl x12]) hC [.inl v1, .inl v3] (mX0_knows q10) lk_X0_59 g11 dX0_forget_59 rfl rfl (Nat.le_of_ble_eq_true rfl) (Nat.le_of_ble_eq_true rfl) (Nat.le_of_ble_eq_true rfl) rfl (Nat.le_of_ble_eq_true rfl) rfl rfl rfl ?_
    refine aw_if_eq (tgt := 98) (pc' := 65) hC dX0_forget_62 (by decide) rfl (fun c13 => ?_) (fun c13 => ?_)
    · replace h := it_p c13 h
      refine aw_sub hC [some (.inr (.inr v0)), some (.inl v1), some (.inl v2), some (.inl v3), none] ⟨rfl, ⟨rfl, ⟨rfl, ⟨rfl, trivial⟩⟩⟩⟩ (Nat.le_of_ble_eq_true rfl) ?_
      exact w_X0_forget_J98_4 hC h hL hX
    · replace h := it_n c13 h
      refine aw_iload_n (pc' := 66) (i := 3) hC dX0_forget_65 rfl rfl rfl ?_
      refine aw_aload_n (pc' := 67) (i := 0) hC dX0_forget_66 rfl rfl rfl ?_
      refine aw_getfield (pc' := 70) (v := (.inr (.inr (M v0 0)))) hC dX0_forget_67 rfl fl_X0_12 g11 rfl ?_
      obtain ⟨g14, h⟩ := gd_s h
      refine aw_getfield (pc' := 73) (v := (.inr (.inr (M (M v0 0) 1)))) hC dX0_forget_70 rfl fl_X0_30 g14 rfl ?_
      refine aw_iload_n (pc' := 74) (i := 1) hC dX0_forget_73 rfl rfl rfl ?_
      obtain ⟨g15, h⟩ := gd_s h
      refine aw_iaload (pc' := 75) hC dX0_forget_74 rfl g15 ?_
      refine aw_icmp_eq (tgt := 98) (pc' := 78) hC dX0_forget_75 (by decide) rfl (fun c16 => ?_) (fun c16 => ?_)
      · replace h := it_p c16 h
        refine aw_sub hC [some (.inr (.inr v0)), some (.inl v1), some (.inl v2), some (.inl v3), none] ⟨rfl, ⟨rfl, ⟨rfl, ⟨rfl, trivial⟩⟩⟩⟩ (Nat.le_of_ble_eq_true rfl) ?_
        exact w_X0_forget_J98_4 hC h hL hX
      · replace h := it_n c16 h
        refine aw_aload_n (pc' := 79) (i := 0) hC dX0_forget_78 rfl rfl rfl ?_
        refine aw_getfield (pc' := 82) (v := (.inr (.inr (M v0 0)))) hC dX0_forget_79 rfl fl_X0_12 g11 rfl ?_
        refine aw_getfield (pc' := 85) (v := (.inr (.inr (M (M v0 0) 2)))) hC dX0_forget_82 rfl fl_X0_36 g14 rfl ?_
        refine aw_iload_n (pc' := 86) (i := 1) hC dX0_forget_85 rfl rfl rfl ?_
        refine aw_dup2 (pc' := 87) hC dX0_forget_86 rfl rfl rfl ?_
        obtain ⟨g17, h⟩ := gd_s h
        refine aw_iaload (pc' := 88) hC dX0_forget_87 rfl g17 ?_
        refine aw_iconst (pc' := 89) hC dX0_forget_88 rfl (by decide) ?_
        refine aw_iload_n (pc' := 90) (i := 3) hC dX0_forget_89 rfl rfl rfl ?_
        refine aw_ishl (pc' := 91) hC dX0_forget_90 rfl  ?_
        refine aw_iconst (pc' := 92) hC dX0_forget_91 rfl (by decide) ?_
        refine aw_ixor (pc' := 93) hC dX0_forget_92 rfl  ?_
        refine aw_iand (pc' := 94) hC dX0_forget_93 rfl  ?_
        obtain ⟨M18, e19, h⟩ := bd_s h
        refine aw_ias (pc' := 95) hC dX0_forget_94 rfl g17 e19 ?_
        refine aw_iinc (pc' := 98) (ls' := [some (.inr (.inr v0)), some (.inl v1), some (.inl (w32 (v2 + 1))), some (.inl v3), some (.inl s0)]) hC dX0_forget_95 rfl rfl rfl rfl ?_
        refine aw_sub hC [some (.inr (.inr v0)), some (.inl v1), some (.inl (w32 (v2 + 1))), some (.inl v3), none] ⟨rfl, ⟨rfl, ⟨rfl, ⟨rfl, trivial⟩⟩⟩⟩ (Nat.le_of_ble_eq_true rfl) ?_
        exact w_X0_forget_J98_4 hC h hL hX
set_option maxRecDepth 100000 in
set_option maxHeartbeats 4000000 in
theorem w_X0_forget_L4 {Γ : AwC} (hC : AOK Γ RX0 cX0_forget 5 3 0 0 "forget" (some .int)) {sh : AwS} {v0 : Int} {v1 : Int} {Q : State → Prop} : ∀ s r, u3 (fX0_forget_L4 sh v0 v1) s = some r → (∀ s', r = .inl s' → p_X0_forget_L4 Γ sh v0 v1 Q s') → (∀ t, r = .inr t → x_X0_forget_L4 Γ sh v0 v1 Q t) → p_X0_forget_L4 Γ sh v0 v1 Q s := by
  intro s r h hL hX
  obtain ⟨v2, v3, M⟩ := s
  replace h := u3_s h
  unfold fX0_forget_L4 at h
  show AW Γ sh M 0 0 4 [some (.inr (.inr v0)), some (.inl v1), some (.inl v2), some (.inl v3), none] [] Q
  refine aw_iload_n (pc' := 5) (i := 3) hC dX0_forget_4 rfl rfl rfl ?_
  refine aw_aload_n (pc' := 6) (i := 0) hC dX0_forget_5 rfl rfl rfl ?_
  obtain ⟨g1, h⟩ := gd_s h
  refine aw_getfield (pc' := 9) (v := (.inr (.inr (M v0 1)))) hC dX0_forget_6 rfl fl_X0_22 g1 rfl ?_
  obtain ⟨g2, h⟩ := gd_s h
  refine aw_getfield (pc' := 12) (v := (.inr (.inr (M (M v0 1) 0)))) hC dX0_forget_9 rfl fl_X0_48 g2 rfl ?_
  refine aw_iconst (pc' := 13) hC dX0_forget_12 rfl (by decide) ?_
  obtain ⟨g3, h⟩ := gd_s h
  refine aw_iaload (pc' := 14) hC dX0_forget_13 rfl g3 ?_
  refine aw_icmp_ge (tgt := 104) (pc' := 17) hC dX0_forget_14 (by decide) rfl (fun c4 => ?_) (fun c4 => ?_)
  · replace h := it_n c4 h
    refine aw_sub hC [none, none, some (.inl v2), none, none] ⟨rfl, trivial⟩ (Nat.le_of_ble_eq_true rfl) ?_
    cases h
    exact hX _ rfl
  · replace h := it_p c4 h
    refine aw_aload_n (pc' := 18) (i := 0) hC dX0_forget_17 rfl rfl rfl ?_
    refine aw_getfield (pc' := 21) (v := (.inr (.inr (M v0 0)))) hC dX0_forget_18 rfl fl_X0_12 g1 rfl ?_
    obtain ⟨g5, h⟩ := gd_s h
    refine aw_getfield (pc' := 24) (v := (.inl (M (M v0 0) 0))) hC dX0_forget_21 rfl fl_X0_26 g5 rfl ?_
    refine aw_aload_n (pc' := 25) (i := 0) hC dX0_forget_24 rfl rfl rfl ?_
    refine aw_getfield (pc' := 28) (v := (.inr (.inr (M v0 0)))) hC dX0_forget_25 rfl fl_X0_12 g1 rfl ?_
    refine aw_iload_n (pc' := 29) (i := 1) hC dX0_forget_28 rfl rfl rfl ?_
    refine aw_iload_n (pc' := 30) (i := 3) hC dX0_forget_29 rfl rfl rfl ?_
    obtain ⟨x7, q6, h⟩ := pb_s h
    replace h := u1_s h
    refine aw_cV (pc' := 33) (k2 := 0) (n2 := 0) (st := [.inl (M (M v0 0) 0)]) (stN := [.inl x7, .inl (M (M v0 0) 0)]) hC [.inl v1, .inl v3] (mX3_metOn q6) lk_X0_155 g5 dX0_forget_30 rfl rfl (Nat.le_of_ble_eq_true rfl) (Nat.le_of_ble_eq_true rfl) (Nat.le_of_ble_eq_true rfl) rfl (Nat.le_of_ble_eq_true rfl) rfl rfl rfl ?_
    refine aw_isub (pc' := 34) hC dX0_forget_33 rfl  ?_
    refine aw_aload_n (pc' := 35) (i := 0) hC dX0_forget_34 rfl rfl rfl ?_
    refine aw_getfield (pc' := 38) (v := (.inr (.inr (M v0 1)))) hC dX0_forget_35 rfl fl_X0_22 g1 rfl ?_
    refine aw_getfield (pc' := 41) (v := (.inl (M (M v0 1) 11))) hC dX0_forget_38 rfl fl_X0_149 g2 rfl ?_
    refine aw_icmp_lt (tgt := 48) (pc' := 44) hC dX0_forget_41 (by decide) rfl (fun c8 => ?_) (fun c8 => ?_)
    · replace h := it_p c8 h
      refine aw_iconst (pc' := 49) hC dX0_forget_48 rfl (by decide) ?_
      refine aw_sub hC [some (.inr (.inr v0)), some (.inl v1), some (.inl v2), some (.inl v3), none] ⟨rfl, ⟨rfl, ⟨rfl, ⟨rfl, trivial⟩⟩⟩⟩ (Nat.le_of_ble_eq_true rfl) ?_
      exact w_X0_forget_J49_4 hC h hL hX
    · replace h := it_n c8 h
      refine aw_iconst (pc' := 45) hC dX0_forget_44 rfl (by decide) ?_
      refine aw_goto (tgt := 49) hC dX0_forget_45 (by decide) ?_
      refine aw_sub hC [some (.inr (.inr v0)), some (.inl v1), some (.inl v2), some (.inl v3), none] ⟨rfl, ⟨rfl, ⟨rfl, ⟨rfl, trivial⟩⟩⟩⟩ (Nat.le_of_ble_eq_true rfl) ?_
      exact w_X0_forget_J49_4 hC h hL hX
set_option maxRecDepth 100000 in
set_option maxHeartbeats 4000000 in
theorem mX0_forget {sh : AwS} {M : AwM} {v0 : Int} {v1 : Int} {r : Int} {M' : AwM} (h : fX0_forget sh M v0 v1 = some (r, M')) : AMet yX0_forget cX0_forget 5 (some .int) 3 0 0 [.inr (.inr v0), .inl v1] sh M (some (.inl r)) sh M' := by
  refine amet_of (by decide +kernel) (Nat.le_of_ble_eq_true rfl) (fun Γ hC => ?_)
  replace hC : AOK Γ RX0 cX0_forget 5 3 0 0 "forget" (some .int) := hC
  unfold fX0_forget at h
  refine aw_sub hC [some (.inr (.inr v0)), some (.inl v1), none, none, none] ⟨rfl, ⟨rfl, trivial⟩⟩ (Nat.le_of_ble_eq_true rfl) ?_
  refine aw_iconst (pc' := 1) hC dX0_forget_0 rfl (by decide) ?_
  refine aw_istore_n (pc' := 2) (i := 2) (ls' := [some (.inr (.inr v0)), some (.inl v1), some (.inl 0), none, none]) hC dX0_forget_1 rfl rfl (Nat.le_of_ble_eq_true rfl) rfl rfl ?_
  refine aw_iconst (pc' := 3) hC dX0_forget_2 rfl (by decide) ?_
  refine aw_istore_n (pc' := 4) (i := 3) (ls' := [some (.inr (.inr v0)), some (.inl v1), some (.inl 0), some (.inl 0), none]) hC dX0_forget_3 rfl rfl (Nat.le_of_ble_eq_true rfl) rfl rfl ?_
  obtain ⟨tq20, q20, h⟩ := pb_s h
  refine aw_sub hC [some (.inr (.inr v0)), some (.inl v1), some (.inl 0), some (.inl 0), none] ⟨rfl, ⟨rfl, ⟨rfl, ⟨rfl, trivial⟩⟩⟩⟩ (Nat.le_of_ble_eq_true rfl) ?_
  refine (lp_aw (p_X0_forget_L4 Γ sh v0 v1 (fin_ Γ 0 0 (some (.inl r)) sh M')) (x_X0_forget_L4 Γ sh v0 v1 (fin_ Γ 0 0 (some (.inl r)) sh M')) (w_X0_forget_L4 hC ) FU _ _ q20 ?_ : p_X0_forget_L4 Γ sh v0 v1 (fin_ Γ 0 0 (some (.inl r)) sh M') (0, 0, M))
  obtain ⟨x21, M22⟩ := tq20
  replace h := u2_s h
  show AW Γ sh M22 0 0 104 [none, none, some (.inl x21), none, none] [] _
  refine aw_iload_n (pc' := 105) (i := 2) hC dX0_forget_104 rfl rfl rfl ?_
  cases h
  exact aw_iret hC dX0_forget_105 (Nat.le_of_ble_eq_true rfl) (Nat.le_of_ble_eq_true rfl)
-- CoinCircle$Circle.passDays(I)I
def fX0_passDays_L38 (sh : AwS) (v0 : Int) (v1 : Int) (v3 : Int) (v2 : Int) (v4 : Int) (M : AwM) : Option ((Int × Int × AwM) ⊕ (Int × AwM)) :=
  gd_ (kd_ sh v0 = (0, 0)) (pb (fX0_coins sh M v0) <| u1 fun (x9 : Int) => ((if v4 < x9 then gd_ (kd_ sh (M v0 1) = (0, 5)) ((if 0 < (M (M v0 1) 11) then pb (fX0_forget sh M v0 v4) <| u2 fun (x14 : Int) (M15 : AwM) => (some (.inl ((w32 (v2 + x14)), (w32 (v4 + 1)), M15))) else some (.inr (v2, M)))) else some (.inr (v2, M)))))
def p_X0_passDays_L38 (Γ : AwC) (sh : AwS) (v0 : Int) (v1 : Int) (v3 : Int) (Q : State → Prop) (s : Int × Int × AwM) : Prop := AW Γ sh (s.2.2) 0 0 38 [some (.inr (.inr v0)), some (.inl v1), some (.inl (s.1)), some (.inl v3), some (.inl (s.2.1))] [] Q
def x_X0_passDays_L38 (Γ : AwC) (sh : AwS) (v0 : Int) (v1 : Int) (v3 : Int) (Q : State → Prop) : (Int × AwM) → Prop := (fun (t : Int × AwM) => AW Γ sh (t.2) 0 0 72 [some (.inr (.inr v0)), some (.inl v1), some (.inl (t.1)), some (.inl v3), none] [] Q)
def fX0_passDays_L4 (sh : AwS) (v0 : Int) (v1 : Int) (v2 : Int) (v3 : Int) (M : AwM) : Option ((Int × Int × AwM) ⊕ (Int × AwM)) :=
  (if v3 < v1 then gd_ (kd_ sh v0 = (0, 0)) (gd_ (kd_ sh (M v0 0) = (0, 3)) ((if (M (M v0 0) 0) < 999 then bd_ (up_ M (M v0 0) 0 (w32 ((M (M v0 0) 0) + 1))) fun (M5 : AwM) => (pb (lp (u3 (fX0_passDays_L38 sh v0 v1 v3)) FU (v2, 0, M5)) (u2 (fun (x17 : Int) (M18 : AwM) => some (.inl (x17, (w32 (v3 + 1)), M18))))) else some (.inr (v2, M))))) else some (.inr (v2, M)))
def p_X0_passDays_L4 (Γ : AwC) (sh : AwS) (v0 : Int) (v1 : Int) (Q : State → Prop) (s : Int × Int × AwM) : Prop := AW Γ sh (s.2.2) 0 0 4 [some (.inr (.inr v0)), some (.inl v1), some (.inl (s.1)), some (.inl (s.2.1)), none] [] Q
def x_X0_passDays_L4 (Γ : AwC) (sh : AwS) (v0 : Int) (v1 : Int) (Q : State → Prop) : (Int × AwM) → Prop := (fun (t : Int × AwM) => AW Γ sh (t.2) 0 0 78 [none, none, some (.inl (t.1)), none, none] [] Q)
def fX0_passDays (sh : AwS) (M : AwM) (v0 : Int) (v1 : Int) : Option (Int × AwM) :=
  pb (lp (u3 (fX0_passDays_L4 sh v0 v1)) FU (0, 0, M)) (u2 (fun (x20 : Int) (M21 : AwM) => some (x20, M21)))
set_option maxRecDepth 100000 in
set_option maxHeartbeats 4000000 in
theorem w_X0_passDays_L38 {Γ : AwC} (hC : AOK Γ RX0 cX0_passDays 5 4 0 0 "passDays" (some .int)) {sh : AwS} {v0 : Int} {v1 : Int} {v3 : Int} {Q : State → Prop} : ∀ s r, u3 (fX0_passDays_L38 sh v0 v1 v3) s = some r → (∀ s', r = .inl s' → p_X0_passDays_L38 Γ sh v0 v1 v3 Q s') → (∀ t, r = .inr t → x_X0_passDays_L38 Γ sh v0 v1 v3 Q t) → p_X0_passDays_L38 Γ sh v0 v1 v3 Q s := by
  intro s r h hL hX
  obtain ⟨v2, v4, M⟩ := s
  replace h := u3_s h
  unfold fX0_passDays_L38 at h
  show AW Γ sh M 0 0 38 [some (.inr (.inr v0)), some (.inl v1), some (.inl v2), some (.inl v3), some (.inl v4)] [] Q
  refine aw_iload (pc' := 40) hC dX0_passDays_38 rfl rfl ?_
  refine aw_aload_n (pc' := 41) (i := 0) hC dX0_passDays_40 rfl rfl rfl ?_
  obtain ⟨g8, h⟩ := gd_s h
  obtain ⟨x9, q7, h⟩ := pb_s h
  replace h := u1_s h
  refine aw_cV (pc' := 44) (k2 := 0) (n2 := 0) (st := [.inl v4]) (stN := [.inl x9, .inl v4]) hC [] (mX0_coins q7) lk_X0_55 g8 dX0_passDays_41 rfl rfl (Nat.le_of_ble_eq_true rfl) (Nat.le_of_ble_eq_true rfl) (Nat.le_of_ble_eq_true rfl) rfl (Nat.le_of_ble_eq_true rfl) rfl rfl rfl ?_
  refine aw_icmp_ge (tgt := 72) (pc' := 47) hC dX0_passDays_44 (by decide) rfl (fun c10 => ?_) (fun c10 => ?_)
  · replace h := it_n c10 h
    refine aw_sub hC [some (.inr (.inr v0)), some (.inl v1), some (.inl v2), some (.inl v3), none] ⟨rfl, ⟨rfl, ⟨rfl, ⟨rfl, trivial⟩⟩⟩⟩ (Nat.le_of_ble_eq_true rfl) ?_
    cases h
    exact hX _ rfl
  · replace h := it_p c10 h
    refine aw_aload_n (pc' := 48) (i := 0) hC dX0_passDays_47 rfl rfl rfl ?_
    refine aw_getfield (pc' := 51) (v := (.inr (.inr (M v0 1)))) hC dX0_passDays_48 rfl fl_X0_22 g8 rfl ?_
    obtain ⟨g11, h⟩ := gd_s h
    refine aw_getfield (pc' := 54) (v := (.inl (M (M v0 1) 11))) hC dX0_passDays_51 rfl fl_X0_149 g11 rfl ?_
    refine aw_if_le (tgt := 72) (pc' := 57) hC dX0_passDays_54 (by decide) rfl (fun c12 => ?_) (fun c12 => ?_)
    · replace h := it_n c12 h
      refine aw_sub hC [some (.inr (.inr v0)), some (.inl v1), some (.inl v2), some (.inl v3), none] ⟨rfl, ⟨rfl, ⟨rfl, ⟨rfl, trivial⟩⟩⟩⟩ (Nat.le_of_ble_eq_true rfl) ?_
      cases h
      exact hX _ rfl
    · replace h := it_p c12 h
      refine aw_iload_n (pc' := 58) (i := 2) hC dX0_passDays_57 rfl rfl rfl ?_
      refine aw_aload_n (pc' := 59) (i := 0) hC dX0_passDays_58 rfl rfl rfl ?_
      refine aw_iload (pc' := 61) hC dX0_passDays_59 rfl rfl ?_
      obtain ⟨⟨x14, M15⟩, q13, h⟩ := pb_s h
      replace h := u2_s h
      refine aw_cV (pc' := 64) (k2 := 0) (n2 := 0) (st := [.inl v2]) (stN := [.inl x14, .inl v2]) hC [.inl v4] (mX0_forget q13) lk_X0_152 g8 dX0_passDays_61 rfl rfl (Nat.le_of_ble_eq_true rfl) (Nat.le_of_ble_eq_true rfl) (Nat.le_of_ble_eq_true rfl) rfl (Nat.le_of_ble_eq_true rfl) rfl rfl rfl ?_
      refine aw_iadd (pc' := 65) hC dX0_passDays_64 rfl  ?_
      refine aw_istore_n (pc' := 66) (i := 2) (ls' := [some (.inr (.inr v0)), some (.inl v1), some (.inl (w32 (v2 + x14))), some (.inl v3), some (.inl v4)]) hC dX0_passDays_65 rfl rfl (Nat.le_of_ble_eq_true rfl) rfl rfl ?_
      refine aw_iinc (pc' := 69) (ls' := [some (.inr (.inr v0)), some (.inl v1), some (.inl (w32 (v2 + x14))), some (.inl v3), some (.inl (w32 (v4 + 1)))]) hC dX0_passDays_66 rfl rfl rfl rfl ?_
      refine aw_goto (tgt := 38) hC dX0_passDays_69 (by decide) ?_
      refine aw_sub hC [some (.inr (.inr v0)), some (.inl v1), some (.inl (w32 (v2 + x14))), some (.inl v3), some (.inl (w32 (v4 + 1)))] ⟨rfl, ⟨rfl, ⟨rfl, ⟨rfl, ⟨rfl, trivial⟩⟩⟩⟩⟩ (Nat.le_of_ble_eq_true rfl) ?_
      cases h
      exact hL _ rfl
set_option maxRecDepth 100000 in
set_option maxHeartbeats 4000000 in
theorem w_X0_passDays_L4 {Γ : AwC} (hC : AOK Γ RX0 cX0_passDays 5 4 0 0 "passDays" (some .int)) {sh : AwS} {v0 : Int} {v1 : Int} {Q : State → Prop} : ∀ s r, u3 (fX0_passDays_L4 sh v0 v1) s = some r → (∀ s', r = .inl s' → p_X0_passDays_L4 Γ sh v0 v1 Q s') → (∀ t, r = .inr t → x_X0_passDays_L4 Γ sh v0 v1 Q t) → p_X0_passDays_L4 Γ sh v0 v1 Q s := by
  intro s r h hL hX
  obtain ⟨v2, v3, M⟩ := s
  replace h := u3_s h
  unfold fX0_passDays_L4 at h
  show AW Γ sh M 0 0 4 [some (.inr (.inr v0)), some (.inl v1), some (.inl v2), some (.inl v3), none] [] Q
  refine aw_iload_n (pc' := 5) (i := 3) hC dX0_passDays_4 rfl rfl rfl ?_
  refine aw_iload_n (pc' := 6) (i := 1) hC dX0_passDays_5 rfl rfl rfl ?_
  refine aw_icmp_ge (tgt := 78) (pc' := 9) hC dX0_passDays_6 (by decide) rfl (fun c1 => ?_) (fun c1 => ?_)
  · replace h := it_n c1 h
    refine aw_sub hC [none, none, some (.inl v2), none, none] ⟨rfl, trivial⟩ (Nat.le_of_ble_eq_true rfl) ?_
    cases h
    exact hX _ rfl
  · replace h := it_p c1 h
    refine aw_aload_n (pc' := 10) (i := 0) hC dX0_passDays_9 rfl rfl rfl ?_
    obtain ⟨g2, h⟩ := gd_s h
    refine aw_getfield (pc' := 13) (v := (.inr (.inr (M v0 0)))) hC dX0_passDays_10 rfl fl_X0_12 g2 rfl ?_
    obtain ⟨g3, h⟩ := gd_s h
    refine aw_getfield (pc' := 16) (v := (.inl (M (M v0 0) 0))) hC dX0_passDays_13 rfl fl_X0_26 g3 rfl ?_
    refine aw_sipush (pc' := 19) hC dX0_passDays_16 rfl (by decide) ?_
    refine aw_icmp_ge (tgt := 78) (pc' := 22) hC dX0_passDays_19 (by decide) rfl (fun c4 => ?_) (fun c4 => ?_)
    · replace h := it_n c4 h
      refine aw_sub hC [none, none, some (.inl v2), none, none] ⟨rfl, trivial⟩ (Nat.le_of_ble_eq_true rfl) ?_
      cases h
      exact hX _ rfl
    · replace h := it_p c4 h
      refine aw_aload_n (pc' := 23) (i := 0) hC dX0_passDays_22 rfl rfl rfl ?_
      refine aw_getfield (pc' := 26) (v := (.inr (.inr (M v0 0)))) hC dX0_passDays_23 rfl fl_X0_12 g2 rfl ?_
      refine aw_dup (pc' := 27) hC dX0_passDays_26 rfl rfl ?_
      refine aw_getfield (pc' := 30) (v := (.inl (M (M v0 0) 0))) hC dX0_passDays_27 rfl fl_X0_26 g3 rfl ?_
      refine aw_iconst (pc' := 31) hC dX0_passDays_30 rfl (by decide) ?_
      refine aw_iadd (pc' := 32) hC dX0_passDays_31 rfl  ?_
      obtain ⟨M5, e6, h⟩ := bd_s h
      refine aw_pf (pc' := 35) hC dX0_passDays_32 rfl fp_X0_26 g3 rfl trivial e6 ?_
      refine aw_iconst (pc' := 36) hC dX0_passDays_35 rfl (by decide) ?_
      refine aw_istore (pc' := 38) (ls' := [some (.inr (.inr v0)), some (.inl v1), some (.inl v2), some (.inl v3), some (.inl 0)]) hC dX0_passDays_36 rfl (Nat.le_of_ble_eq_true rfl) rfl rfl ?_
      obtain ⟨tq16, q16, h⟩ := pb_s h
      refine aw_sub hC [some (.inr (.inr v0)), some (.inl v1), some (.inl v2), some (.inl v3), some (.inl 0)] ⟨rfl, ⟨rfl, ⟨rfl, ⟨rfl, ⟨rfl, trivial⟩⟩⟩⟩⟩ (Nat.le_of_ble_eq_true rfl) ?_
      refine (lp_aw (p_X0_passDays_L38 Γ sh v0 v1 v3 Q) (x_X0_passDays_L38 Γ sh v0 v1 v3 Q) (w_X0_passDays_L38 hC ) FU _ _ q16 ?_ : p_X0_passDays_L38 Γ sh v0 v1 v3 Q (v2, 0, M5))
      obtain ⟨x17, M18⟩ := tq16
      replace h := u2_s h
      show AW Γ sh M18 0 0 72 [some (.inr (.inr v0)), some (.inl v1), some (.inl x17), some (.inl v3), none] [] _
      refine aw_iinc (pc' := 75) (ls' := [some (.inr (.inr v0)), some (.inl v1), some (.inl x17), some (.inl (w32 (v3 + 1))), none]) hC dX0_passDays_72 rfl rfl rfl rfl ?_
      refine aw_goto (tgt := 4) hC dX0_passDays_75 (by decide) ?_
      refine aw_sub hC [some (.inr (.inr v0)), some (.inl v1), some (.inl x17), some (.inl (w32 (v3 + 1))), none] ⟨rfl, ⟨rfl, ⟨rfl, ⟨rfl, trivial⟩⟩⟩⟩ (Nat.le_of_ble_eq_true rfl) ?_
      cases h
      exact hL _ rfl
set_option maxRecDepth 100000 in
set_option maxHeartbeats 4000000 in
theorem mX0_passDays {sh : AwS} {M : AwM} {v0 : Int} {v1 : Int} {r : Int} {M' : AwM} (h : fX0_passDays sh M v0 v1 = some (r, M')) : AMet yX0_passDays cX0_passDays 5 (some .int) 4 0 0 [.inr (.inr v0), .inl v1] sh M (some (.inl r)) sh M' := by
  refine amet_of (by decide +kernel) (Nat.le_of_ble_eq_true rfl) (fun Γ hC => ?_)
  replace hC : AOK Γ RX0 cX0_passDays 5 4 0 0 "passDays" (some .int) := hC
  unfold fX0_passDays at h
  refine aw_sub hC [some (.inr (.inr v0)), some (.inl v1), none, none, none] ⟨rfl, ⟨rfl, trivial⟩⟩ (Nat.le_of_ble_eq_true rfl) ?_
  refine aw_iconst (pc' := 1) hC dX0_passDays_0 rfl (by decide) ?_
  refine aw_istore_n (pc' := 2) (i := 2) (ls' := [some (.inr (.inr v0)), some (.inl v1), some (.inl 0), none, none]) hC dX0_passDays_1 rfl rfl (Nat.le_of_ble_eq_true rfl) rfl rfl ?_
  refine aw_iconst (pc' := 3) hC dX0_passDays_2 rfl (by decide) ?_
  refine aw_istore_n (pc' := 4) (i := 3) (ls' := [some (.inr (.inr v0)), some (.inl v1), some (.inl 0), some (.inl 0), none]) hC dX0_passDays_3 rfl rfl (Nat.le_of_ble_eq_true rfl) rfl rfl ?_
  obtain ⟨tq19, q19, h⟩ := pb_s h
  refine aw_sub hC [some (.inr (.inr v0)), some (.inl v1), some (.inl 0), some (.inl 0), none] ⟨rfl, ⟨rfl, ⟨rfl, ⟨rfl, trivial⟩⟩⟩⟩ (Nat.le_of_ble_eq_true rfl) ?_
  refine (lp_aw (p_X0_passDays_L4 Γ sh v0 v1 (fin_ Γ 0 0 (some (.inl r)) sh M')) (x_X0_passDays_L4 Γ sh v0 v1 (fin_ Γ 0 0 (some (.inl r)) sh M')) (w_X0_passDays_L4 hC ) FU _ _ q19 ?_ : p_X0_passDays_L4 Γ sh v0 v1 (fin_ Γ 0 0 (some (.inl r)) sh M') (0, 0, M))
  obtain ⟨x20, M21⟩ := tq19
  replace h := u2_s h
  show AW Γ sh M21 0 0 78 [none, none, some (.inl x20), none, none] [] _
  refine aw_iload_n (pc' := 79) (i := 2) hC dX0_passDays_78 rfl rfl rfl ?_
  cases h
  exact aw_iret hC dX0_passDays_79 (Nat.le_of_ble_eq_true rfl) (Nat.le_of_ble_eq_true rfl)
-- CoinCircle.days(I)I
def fX8_days (sh : AwS) (M : AwM) (v0 : Int) (v1 : Int) : Option (Int × AwM) :=
  (if v1 < 1 then gd_ (kd_ sh v0 = (0, 8)) (pb (fX8_refuse sh M v0 4) <| u2 fun (x4 : Int) (M5 : AwM) => (some (x4, M5))) else (if 100 < v1 then gd_ (kd_ sh v0 = (0, 8)) (pb (fX8_refuse sh M v0 4) <| u2 fun (x9 : Int) (M10 : AwM) => (some (x9, M10))) else gd_ (kd_ sh v0 = (0, 8)) (gd_ (kd_ sh (M v0 4) = (0, 0)) (gd_ (kd_ sh (M (M v0 4) 0) = (0, 3)) ((if 999 < (w32 ((M (M (M v0 4) 0) 0) + v1)) then pb (fX8_refuse sh M v0 4) <| u2 fun (x23 : Int) (M24 : AwM) => (some (x23, M24)) else gd_ (kd_ sh (M v0 6) = (0, 2)) (pb (fX2_keep sh M (M v0 6) (M (M v0 4) 0)) <| u1 fun (M17 : AwM) => (gd_ (kd_ sh (M17 v0 4) = (0, 0)) (pb (fX0_passDays sh M17 (M17 v0 4) v1) <| u2 fun (x20 : Int) (M21 : AwM) => (some (x20, M21)))))))))))
set_option maxRecDepth 100000 in
set_option maxHeartbeats 4000000 in
theorem mX8_days {sh : AwS} {M : AwM} {v0 : Int} {v1 : Int} {r : Int} {M' : AwM} (h : fX8_days sh M v0 v1 = some (r, M')) : AMet yX8_days cX8_days 2 (some .int) 5 0 0 [.inr (.inr v0), .inl v1] sh M (some (.inl r)) sh M' := by
  refine amet_of (by decide +kernel) (Nat.le_of_ble_eq_true rfl) (fun Γ hC => ?_)
  replace hC : AOK Γ RX8 cX8_days 2 5 0 0 "days" (some .int) := hC
  unfold fX8_days at h
  refine aw_sub hC [some (.inr (.inr v0)), some (.inl v1)] ⟨rfl, ⟨rfl, trivial⟩⟩ (Nat.le_of_ble_eq_true rfl) ?_
  refine aw_iload_n (pc' := 1) (i := 1) hC dX8_days_0 rfl rfl rfl ?_
  refine aw_iconst (pc' := 2) hC dX8_days_1 rfl (by decide) ?_
  refine aw_icmp_lt (tgt := 29) (pc' := 5) hC dX8_days_2 (by decide) rfl (fun c1 => ?_) (fun c1 => ?_)
  · replace h := it_p c1 h
    refine aw_aload_n (pc' := 30) (i := 0) hC dX8_days_29 rfl rfl rfl ?_
    refine aw_iconst (pc' := 31) hC dX8_days_30 rfl (by decide) ?_
    obtain ⟨g3, h⟩ := gd_s h
    obtain ⟨⟨x4, M5⟩, q2, h⟩ := pb_s h
    replace h := u2_s h
    refine aw_cV (pc' := 34) (k2 := 0) (n2 := 0) (st := []) (stN := [.inl x4]) hC [.inl 4] (mX8_refuse q2) lk_X8_70 g3 dX8_days_31 rfl rfl (Nat.le_of_ble_eq_true rfl) (Nat.le_of_ble_eq_true rfl) (Nat.le_of_ble_eq_true rfl) rfl (Nat.le_of_ble_eq_true rfl) rfl rfl rfl ?_
    cases h
    exact aw_iret hC dX8_days_34 (Nat.le_of_ble_eq_true rfl) (Nat.le_of_ble_eq_true rfl)
  · replace h := it_n c1 h
    refine aw_iload_n (pc' := 6) (i := 1) hC dX8_days_5 rfl rfl rfl ?_
    refine aw_bipush (pc' := 8) hC dX8_days_6 rfl (by decide) ?_
    refine aw_icmp_gt (tgt := 29) (pc' := 11) hC dX8_days_8 (by decide) rfl (fun c6 => ?_) (fun c6 => ?_)
    · replace h := it_p c6 h
      refine aw_aload_n (pc' := 30) (i := 0) hC dX8_days_29 rfl rfl rfl ?_
      refine aw_iconst (pc' := 31) hC dX8_days_30 rfl (by decide) ?_
      obtain ⟨g8, h⟩ := gd_s h
      obtain ⟨⟨x9, M10⟩, q7, h⟩ := pb_s h
      replace h := u2_s h
      refine aw_cV (pc' := 34) (k2 := 0) (n2 := 0) (st := []) (stN := [.inl x9]) hC [.inl 4] (mX8_refuse q7) lk_X8_70 g8 dX8_days_31 rfl rfl (Nat.le_of_ble_eq_true rfl) (Nat.le_of_ble_eq_true rfl) (Nat.le_of_ble_eq_true rfl) rfl (Nat.le_of_ble_eq_true rfl) rfl rfl rfl ?_
      cases h
      exact aw_iret hC dX8_days_34 (Nat.le_of_ble_eq_true rfl) (Nat.le_of_ble_eq_true rfl)
    · replace h := it_n c6 h
      refine aw_aload_n (pc' := 12) (i := 0) hC dX8_days_11 rfl rfl rfl ?_
      obtain ⟨g11, h⟩ := gd_s h
      refine aw_getfield (pc' := 15) (v := (.inr (.inr (M v0 4)))) hC dX8_days_12 rfl fl_X8_60 g11 rfl ?_
      obtain ⟨g12, h⟩ := gd_s h
      refine aw_getfield (pc' := 18) (v := (.inr (.inr (M (M v0 4) 0)))) hC dX8_days_15 rfl fl_X8_110 g12 rfl ?_
      obtain ⟨g13, h⟩ := gd_s h
      refine aw_getfield (pc' := 21) (v := (.inl (M (M (M v0 4) 0) 0))) hC dX8_days_18 rfl fl_X8_114 g13 rfl ?_
      refine aw_iload_n (pc' := 22) (i := 1) hC dX8_days_21 rfl rfl rfl ?_
      refine aw_iadd (pc' := 23) hC dX8_days_22 rfl  ?_
      refine aw_sipush (pc' := 26) hC dX8_days_23 rfl (by decide) ?_
      refine aw_icmp_le (tgt := 35) (pc' := 29) hC dX8_days_26 (by decide) rfl (fun c14 => ?_) (fun c14 => ?_)
      · replace h := it_n c14 h
        refine aw_aload_n (pc' := 36) (i := 0) hC dX8_days_35 rfl rfl rfl ?_
        refine aw_getfield (pc' := 39) (v := (.inr (.inr (M v0 6)))) hC dX8_days_36 rfl fl_X8_23 g11 rfl ?_
        refine aw_aload_n (pc' := 40) (i := 0) hC dX8_days_39 rfl rfl rfl ?_
        refine aw_getfield (pc' := 43) (v := (.inr (.inr (M v0 4)))) hC dX8_days_40 rfl fl_X8_60 g11 rfl ?_
        refine aw_getfield (pc' := 46) (v := (.inr (.inr (M (M v0 4) 0)))) hC dX8_days_43 rfl fl_X8_110 g12 rfl ?_
        obtain ⟨g16, h⟩ := gd_s h
        obtain ⟨M17, q15, h⟩ := pb_s h
        replace h := u1_s h
        refine aw_cV (pc' := 49) (k2 := 0) (n2 := 0) (st := []) (stN := []) hC [.inr (.inr (M (M v0 4) 0))] (mX2_keep q15) lk_X8_213 g16 dX8_days_46 rfl rfl (Nat.le_of_ble_eq_true rfl) (Nat.le_of_ble_eq_true rfl) (Nat.le_of_ble_eq_true rfl) rfl (Nat.le_of_ble_eq_true rfl) rfl rfl rfl ?_
        refine aw_aload_n (pc' := 50) (i := 0) hC dX8_days_49 rfl rfl rfl ?_
        refine aw_getfield (pc' := 53) (v := (.inr (.inr (M17 v0 4)))) hC dX8_days_50 rfl fl_X8_60 g11 rfl ?_
        refine aw_iload_n (pc' := 54) (i := 1) hC dX8_days_53 rfl rfl rfl ?_
        obtain ⟨g19, h⟩ := gd_s h
        obtain ⟨⟨x20, M21⟩, q18, h⟩ := pb_s h
        replace h := u2_s h
        refine aw_cV (pc' := 57) (k2 := 0) (n2 := 0) (st := []) (stN := [.inl x20]) hC [.inl v1] (mX0_passDays q18) lk_X8_236 g19 dX8_days_54 rfl rfl (Nat.le_of_ble_eq_true rfl) (Nat.le_of_ble_eq_true rfl) (Nat.le_of_ble_eq_true rfl) rfl (Nat.le_of_ble_eq_true rfl) rfl rfl rfl ?_
        cases h
        exact aw_iret hC dX8_days_57 (Nat.le_of_ble_eq_true rfl) (Nat.le_of_ble_eq_true rfl)
      · replace h := it_p c14 h
        refine aw_aload_n (pc' := 30) (i := 0) hC dX8_days_29 rfl rfl rfl ?_
        refine aw_iconst (pc' := 31) hC dX8_days_30 rfl (by decide) ?_
        obtain ⟨⟨x23, M24⟩, q22, h⟩ := pb_s h
        replace h := u2_s h
        refine aw_cV (pc' := 34) (k2 := 0) (n2 := 0) (st := []) (stN := [.inl x23]) hC [.inl 4] (mX8_refuse q22) lk_X8_70 g11 dX8_days_31 rfl rfl (Nat.le_of_ble_eq_true rfl) (Nat.le_of_ble_eq_true rfl) (Nat.le_of_ble_eq_true rfl) rfl (Nat.le_of_ble_eq_true rfl) rfl rfl rfl ?_
        cases h
        exact aw_iret hC dX8_days_34 (Nat.le_of_ble_eq_true rfl) (Nat.le_of_ble_eq_true rfl)
-- CoinCircle.draw(I)I
def fX8_draw (sh : AwS) (M : AwM) (v0 : Int) (v1 : Int) : Option (Int × AwM) :=
  gd_ (kd_ sh v0 = (0, 8)) (bd_ (up_ M v0 13 (w32 (anl_ (w64 ((w64 (1103515245 * (M v0 13))) + 12345)) 2147483647))) fun (M2 : AwM) => ((if 0 < v1 then gd_ (v1 ≠ 0) (some ((((w32 (((M2 v0 13) : Int).tdiv 64)) : Int).tmod v1), M2)) else some (0, M2))))
set_option maxRecDepth 100000 in
set_option maxHeartbeats 4000000 in
theorem mX8_draw {sh : AwS} {M : AwM} {v0 : Int} {v1 : Int} {r : Int} {M' : AwM} (h : fX8_draw sh M v0 v1 = some (r, M')) : AMet yX8_draw cX8_draw 2 (some .int) 1 0 0 [.inr (.inr v0), .inl v1] sh M (some (.inl r)) sh M' := by
  refine amet_of (by decide +kernel) (Nat.le_of_ble_eq_true rfl) (fun Γ hC => ?_)
  replace hC : AOK Γ RX8 cX8_draw 2 1 0 0 "draw" (some .int) := hC
  unfold fX8_draw at h
  refine aw_sub hC [some (.inr (.inr v0)), some (.inl v1)] ⟨rfl, ⟨rfl, trivial⟩⟩ (Nat.le_of_ble_eq_true rfl) ?_
  refine aw_aload_n (pc' := 1) (i := 0) hC dX8_draw_0 rfl rfl rfl ?_
  refine aw_ldc2 (pc' := 4) (v := 1103515245) hC dX8_draw_1 rfl ck_X8_246 (by unfold I64; omega) ?_
  refine aw_aload_n (pc' := 5) (i := 0) hC dX8_draw_4 rfl rfl rfl ?_
  obtain ⟨g1, h⟩ := gd_s h
  refine aw_getfield (pc' := 8) (v := (.inl (M v0 13))) hC dX8_draw_5 rfl fl_X8_44 g1 rfl ?_
  refine aw_i2l (pc' := 9) hC dX8_draw_8 rfl  ?_
  refine aw_lmul (pc' := 10) hC dX8_draw_9 rfl  ?_
  refine aw_ldc2 (pc' := 13) (v := 12345) hC dX8_draw_10 rfl ck_X8_248 (by unfold I64; omega) ?_
  refine aw_ladd (pc' := 14) hC dX8_draw_13 rfl  ?_
  refine aw_ldc2 (pc' := 17) (v := 2147483647) hC dX8_draw_14 rfl ck_X8_250 (by unfold I64; omega) ?_
  refine aw_land (pc' := 18) hC dX8_draw_17 rfl  ?_
  refine aw_l2i (pc' := 19) hC dX8_draw_18 rfl  ?_
  obtain ⟨M2, e3, h⟩ := bd_s h
  refine aw_pf (pc' := 22) hC dX8_draw_19 rfl fp_X8_44 g1 rfl trivial e3 ?_
  refine aw_iload_n (pc' := 23) (i := 1) hC dX8_draw_22 rfl rfl rfl ?_
  refine aw_if_le (tgt := 38) (pc' := 26) hC dX8_draw_23 (by decide) rfl (fun c4 => ?_) (fun c4 => ?_)
  · replace h := it_n c4 h
    refine aw_iconst (pc' := 39) hC dX8_draw_38 rfl (by decide) ?_
    cases h
    exact aw_iret hC dX8_draw_39 (Nat.le_of_ble_eq_true rfl) (Nat.le_of_ble_eq_true rfl)
  · replace h := it_p c4 h
    refine aw_aload_n (pc' := 27) (i := 0) hC dX8_draw_26 rfl rfl rfl ?_
    refine aw_getfield (pc' := 30) (v := (.inl (M2 v0 13))) hC dX8_draw_27 rfl fl_X8_44 g1 rfl ?_
    refine aw_bipush (pc' := 32) hC dX8_draw_30 rfl (by decide) ?_
    refine aw_idiv (pc' := 33) hC dX8_draw_32 rfl (by decide) ?_
    refine aw_iload_n (pc' := 34) (i := 1) hC dX8_draw_33 rfl rfl rfl ?_
    obtain ⟨g5, h⟩ := gd_s h
    refine aw_irem (pc' := 35) hC dX8_draw_34 rfl g5 ?_
    refine aw_goto (tgt := 39) hC dX8_draw_35 (by decide) ?_
    cases h
    exact aw_iret hC dX8_draw_39 (Nat.le_of_ble_eq_true rfl) (Nat.le_of_ble_eq_true rfl)
-- CoinCircle.callIsPaid()Z
def fX8_callIsPaid (sh : AwS) (M : AwM) (v0 : Int) : Option (Int × AwM) :=
  gd_ (kd_ sh v0 = (0, 8)) (pb (fX8_draw sh M v0 100) <| u2 fun (x3 : Int) (M4 : AwM) => (gd_ (kd_ sh (M4 v0 3) = (0, 5)) ((if x3 < (M4 (M4 v0 3) 12) then gd_ ((kd_ sh (M4 (M4 v0 3) 0)).1 = 1 ∧ (0 : Int) ≤ 1 ∧ 1 < ((kd_ sh (M4 (M4 v0 3) 0)).2 : Int)) ((if (M4 (M4 (M4 v0 3) 0) 1) = 0 then some (0, M4) else pb (fX8_draw sh M4 v0 (M4 (M4 (M4 v0 3) 0) 1)) <| u2 fun (x10 : Int) (M11 : AwM) => (gd_ (kd_ sh (M11 v0 3) = (0, 5)) (gd_ ((kd_ sh (M11 (M11 v0 3) 0)).1 = 1 ∧ (0 : Int) ≤ 0 ∧ 0 < ((kd_ sh (M11 (M11 v0 3) 0)).2 : Int)) (pb (fX8_draw sh M11 v0 (M11 (M11 (M11 v0 3) 0) 0)) <| u2 fun (x15 : Int) (M16 : AwM) => (pb (fX8_areThere sh M16 v0 x10 x15) <| u1 fun (x18 : Int) => ((if x18 = 0 then some (0, M16) else gd_ (kd_ sh (M16 v0 4) = (0, 0)) (pb (fX0_canBePresented sh M16 (M16 v0 4) x10 x15) <| u1 fun (x22 : Int) => ((if x22 = 0 then some (0, M16) else pb (fX0_presentTo sh M16 (M16 v0 4) x10 x15) <| u2 fun (x25 : Int) (M26 : AwM) => (some (1, M26))))))))))))) else some (0, M4)))))
set_option maxRecDepth 100000 in
set_option maxHeartbeats 4000000 in
theorem mX8_callIsPaid {sh : AwS} {M : AwM} {v0 : Int} {r : Int} {M' : AwM} (h : fX8_callIsPaid sh M v0 = some (r, M')) : AMet yX8_callIsPaid cX8_callIsPaid 3 (some .boolean) 7 0 0 [.inr (.inr v0)] sh M (some (.inl r)) sh M' := by
  refine amet_of (by decide +kernel) (Nat.le_of_ble_eq_true rfl) (fun Γ hC => ?_)
  replace hC : AOK Γ RX8 cX8_callIsPaid 3 7 0 0 "callIsPaid" (some .boolean) := hC
  unfold fX8_callIsPaid at h
  refine aw_sub hC [some (.inr (.inr v0)), none, none] ⟨rfl, trivial⟩ (Nat.le_of_ble_eq_true rfl) ?_
  refine aw_aload_n (pc' := 1) (i := 0) hC dX8_callIsPaid_0 rfl rfl rfl ?_
  refine aw_bipush (pc' := 3) hC dX8_callIsPaid_1 rfl (by decide) ?_
  obtain ⟨g2, h⟩ := gd_s h
  obtain ⟨⟨x3, M4⟩, q1, h⟩ := pb_s h
  replace h := u2_s h
  refine aw_cV (pc' := 6) (k2 := 0) (n2 := 0) (st := []) (stN := [.inl x3]) hC [.inl 100] (mX8_draw q1) lk_X8_243 g2 dX8_callIsPaid_3 rfl rfl (Nat.le_of_ble_eq_true rfl) (Nat.le_of_ble_eq_true rfl) (Nat.le_of_ble_eq_true rfl) rfl (Nat.le_of_ble_eq_true rfl) rfl rfl rfl ?_
  refine aw_aload_n (pc' := 7) (i := 0) hC dX8_callIsPaid_6 rfl rfl rfl ?_
  refine aw_getfield (pc' := 10) (v := (.inr (.inr (M4 v0 3)))) hC dX8_callIsPaid_7 rfl fl_X8_51 g2 rfl ?_
  obtain ⟨g5, h⟩ := gd_s h
  refine aw_getfield (pc' := 13) (v := (.inl (M4 (M4 v0 3) 12))) hC dX8_callIsPaid_10 rfl fl_X8_107 g5 rfl ?_
  refine aw_icmp_ge (tgt := 28) (pc' := 16) hC dX8_callIsPaid_13 (by decide) rfl (fun c6 => ?_) (fun c6 => ?_)
  · replace h := it_n c6 h
    refine aw_iconst (pc' := 29) hC dX8_callIsPaid_28 rfl (by decide) ?_
    cases h
    exact aw_zret hC (Or.inl rfl) dX8_callIsPaid_29 (Nat.le_of_ble_eq_true rfl) (Nat.le_of_ble_eq_true rfl)
  · replace h := it_p c6 h
    refine aw_aload_n (pc' := 17) (i := 0) hC dX8_callIsPaid_16 rfl rfl rfl ?_
    refine aw_getfield (pc' := 20) (v := (.inr (.inr (M4 v0 3)))) hC dX8_callIsPaid_17 rfl fl_X8_51 g2 rfl ?_
    refine aw_getfield (pc' := 23) (v := (.inr (.inr (M4 (M4 v0 3) 0)))) hC dX8_callIsPaid_20 rfl fl_X8_101 g5 rfl ?_
    refine aw_iconst (pc' := 24) hC dX8_callIsPaid_23 rfl (by decide) ?_
    obtain ⟨g7, h⟩ := gd_s h
    refine aw_iaload (pc' := 25) hC dX8_callIsPaid_24 rfl g7 ?_
    refine aw_if_ne (tgt := 30) (pc' := 28) hC dX8_callIsPaid_25 (by decide) rfl (fun c8 => ?_) (fun c8 => ?_)
    · replace h := it_n c8 h
      refine aw_aload_n (pc' := 31) (i := 0) hC dX8_callIsPaid_30 rfl rfl rfl ?_
      refine aw_aload_n (pc' := 32) (i := 0) hC dX8_callIsPaid_31 rfl rfl rfl ?_
      refine aw_getfield (pc' := 35) (v := (.inr (.inr (M4 v0 3)))) hC dX8_callIsPaid_32 rfl fl_X8_51 g2 rfl ?_
      refine aw_getfield (pc' := 38) (v := (.inr (.inr (M4 (M4 v0 3) 0)))) hC dX8_callIsPaid_35 rfl fl_X8_101 g5 rfl ?_
      refine aw_iconst (pc' := 39) hC dX8_callIsPaid_38 rfl (by decide) ?_
      refine aw_iaload (pc' := 40) hC dX8_callIsPaid_39 rfl g7 ?_
      obtain ⟨⟨x10, M11⟩, q9, h⟩ := pb_s h
      replace h := u2_s h
      refine aw_cV (pc' := 43) (k2 := 0) (n2 := 0) (st := []) (stN := [.inl x10]) hC [.inl (M4 (M4 (M4 v0 3) 0) 1)] (mX8_draw q9) lk_X8_243 g2 dX8_callIsPaid_40 rfl rfl (Nat.le_of_ble_eq_true rfl) (Nat.le_of_ble_eq_true rfl) (Nat.le_of_ble_eq_true rfl) rfl (Nat.le_of_ble_eq_true rfl) rfl rfl rfl ?_
      refine aw_istore_n (pc' := 44) (i := 1) (ls' := [some (.inr (.inr v0)), some (.inl x10), none]) hC dX8_callIsPaid_43 rfl rfl (Nat.le_of_ble_eq_true rfl) rfl rfl ?_
      refine aw_aload_n (pc' := 45) (i := 0) hC dX8_callIsPaid_44 rfl rfl rfl ?_
      refine aw_aload_n (pc' := 46) (i := 0) hC dX8_callIsPaid_45 rfl rfl rfl ?_
      refine aw_getfield (pc' := 49) (v := (.inr (.inr (M11 v0 3)))) hC dX8_callIsPaid_46 rfl fl_X8_51 g2 rfl ?_
      obtain ⟨g12, h⟩ := gd_s h
      refine aw_getfield (pc' := 52) (v := (.inr (.inr (M11 (M11 v0 3) 0)))) hC dX8_callIsPaid_49 rfl fl_X8_101 g12 rfl ?_
      refine aw_iconst (pc' := 53) hC dX8_callIsPaid_52 rfl (by decide) ?_
      obtain ⟨g13, h⟩ := gd_s h
      refine aw_iaload (pc' := 54) hC dX8_callIsPaid_53 rfl g13 ?_
      obtain ⟨⟨x15, M16⟩, q14, h⟩ := pb_s h
      replace h := u2_s h
      refine aw_cV (pc' := 57) (k2 := 0) (n2 := 0) (st := []) (stN := [.inl x15]) hC [.inl (M11 (M11 (M11 v0 3) 0) 0)] (mX8_draw q14) lk_X8_243 g2 dX8_callIsPaid_54 rfl rfl (Nat.le_of_ble_eq_true rfl) (Nat.le_of_ble_eq_true rfl) (Nat.le_of_ble_eq_true rfl) rfl (Nat.le_of_ble_eq_true rfl) rfl rfl rfl ?_
      refine aw_istore_n (pc' := 58) (i := 2) (ls' := [some (.inr (.inr v0)), some (.inl x10), some (.inl x15)]) hC dX8_callIsPaid_57 rfl rfl (Nat.le_of_ble_eq_true rfl) rfl rfl ?_
      refine aw_aload_n (pc' := 59) (i := 0) hC dX8_callIsPaid_58 rfl rfl rfl ?_
      refine aw_iload_n (pc' := 60) (i := 1) hC dX8_callIsPaid_59 rfl rfl rfl ?_
      refine aw_iload_n (pc' := 61) (i := 2) hC dX8_callIsPaid_60 rfl rfl rfl ?_
      obtain ⟨x18, q17, h⟩ := pb_s h
      replace h := u1_s h
      refine aw_cV (pc' := 64) (k2 := 0) (n2 := 0) (st := []) (stN := [.inl x18]) hC [.inl x10, .inl x15] (mX8_areThere q17) lk_X8_183 g2 dX8_callIsPaid_61 rfl rfl (Nat.le_of_ble_eq_true rfl) (Nat.le_of_ble_eq_true rfl) (Nat.le_of_ble_eq_true rfl) rfl (Nat.le_of_ble_eq_true rfl) rfl rfl rfl ?_
      refine aw_if_eq (tgt := 79) (pc' := 67) hC dX8_callIsPaid_64 (by decide) rfl (fun c19 => ?_) (fun c19 => ?_)
      · replace h := it_p c19 h
        refine aw_iconst (pc' := 80) hC dX8_callIsPaid_79 rfl (by decide) ?_
        cases h
        exact aw_zret hC (Or.inl rfl) dX8_callIsPaid_80 (Nat.le_of_ble_eq_true rfl) (Nat.le_of_ble_eq_true rfl)
      · replace h := it_n c19 h
        refine aw_aload_n (pc' := 68) (i := 0) hC dX8_callIsPaid_67 rfl rfl rfl ?_
        refine aw_getfield (pc' := 71) (v := (.inr (.inr (M16 v0 4)))) hC dX8_callIsPaid_68 rfl fl_X8_60 g2 rfl ?_
        refine aw_iload_n (pc' := 72) (i := 1) hC dX8_callIsPaid_71 rfl rfl rfl ?_
        refine aw_iload_n (pc' := 73) (i := 2) hC dX8_callIsPaid_72 rfl rfl rfl ?_
        obtain ⟨g21, h⟩ := gd_s h
        obtain ⟨x22, q20, h⟩ := pb_s h
        replace h := u1_s h
        refine aw_cV (pc' := 76) (k2 := 0) (n2 := 0) (st := []) (stN := [.inl x22]) hC [.inl x10, .inl x15] (mX0_canBePresented q20) lk_X8_192 g21 dX8_callIsPaid_73 rfl rfl (Nat.le_of_ble_eq_true rfl) (Nat.le_of_ble_eq_true rfl) (Nat.le_of_ble_eq_true rfl) rfl (Nat.le_of_ble_eq_true rfl) rfl rfl rfl ?_
        refine aw_if_ne (tgt := 81) (pc' := 79) hC dX8_callIsPaid_76 (by decide) rfl (fun c23 => ?_) (fun c23 => ?_)
        · replace h := it_n c23 h
          refine aw_aload_n (pc' := 82) (i := 0) hC dX8_callIsPaid_81 rfl rfl rfl ?_
          refine aw_getfield (pc' := 85) (v := (.inr (.inr (M16 v0 4)))) hC dX8_callIsPaid_82 rfl fl_X8_60 g2 rfl ?_
          refine aw_iload_n (pc' := 86) (i := 1) hC dX8_callIsPaid_85 rfl rfl rfl ?_
          refine aw_iload_n (pc' := 87) (i := 2) hC dX8_callIsPaid_86 rfl rfl rfl ?_
          obtain ⟨⟨x25, M26⟩, q24, h⟩ := pb_s h
          replace h := u2_s h
          refine aw_cV (pc' := 90) (k2 := 0) (n2 := 0) (st := []) (stN := [.inl x25]) hC [.inl x10, .inl x15] (mX0_presentTo q24) lk_X8_217 g21 dX8_callIsPaid_87 rfl rfl (Nat.le_of_ble_eq_true rfl) (Nat.le_of_ble_eq_true rfl) (Nat.le_of_ble_eq_true rfl) rfl (Nat.le_of_ble_eq_true rfl) rfl rfl rfl ?_
          refine aw_pop (pc' := 91) hC dX8_callIsPaid_90 rfl rfl ?_
          refine aw_iconst (pc' := 92) hC dX8_callIsPaid_91 rfl (by decide) ?_
          cases h
          exact aw_zret hC (Or.inr rfl) dX8_callIsPaid_92 (Nat.le_of_ble_eq_true rfl) (Nat.le_of_ble_eq_true rfl)
        · replace h := it_p c23 h
          refine aw_iconst (pc' := 80) hC dX8_callIsPaid_79 rfl (by decide) ?_
          cases h
          exact aw_zret hC (Or.inl rfl) dX8_callIsPaid_80 (Nat.le_of_ble_eq_true rfl) (Nat.le_of_ble_eq_true rfl)
    · replace h := it_p c8 h
      refine aw_iconst (pc' := 29) hC dX8_callIsPaid_28 rfl (by decide) ?_
      cases h
      exact aw_zret hC (Or.inl rfl) dX8_callIsPaid_29 (Nat.le_of_ble_eq_true rfl) (Nat.le_of_ble_eq_true rfl)
-- CoinCircle.calls(I)I
def fX8_calls_L53 (sh : AwS) (v0 : Int) (v1 : Int) (v2 : Int) (v3 : Int) (M : AwM) : Option ((Int × Int × AwM) ⊕ (Int × AwM)) :=
  (if v3 < v1 then gd_ (kd_ sh v0 = (0, 8)) (gd_ (kd_ sh (M v0 4) = (0, 0)) (pb (fX0_passDays sh M (M v0 4) 1) <| u2 fun (x22 : Int) (M23 : AwM) => (pb (fX8_callIsPaid sh M23 v0) <| u2 fun (x25 : Int) (M26 : AwM) => ((if x25 = 0 then some (.inl (v2, (w32 (v3 + 1)), M26)) else some (.inl ((w32 (v2 + 1)), (w32 (v3 + 1)), M26))))))) else some (.inr (v2, M)))
def p_X8_calls_L53 (Γ : AwC) (sh : AwS) (v0 : Int) (v1 : Int) (Q : State → Prop) (s : Int × Int × AwM) : Prop := AW Γ sh (s.2.2) 0 0 53 [some (.inr (.inr v0)), some (.inl v1), some (.inl (s.1)), some (.inl (s.2.1))] [] Q
def x_X8_calls_L53 (Γ : AwC) (sh : AwS) (v0 : Int) (v1 : Int) (Q : State → Prop) : (Int × AwM) → Prop := (fun (t : Int × AwM) => AW Γ sh (t.2) 0 0 83 [none, none, some (.inl (t.1)), none] [] Q)
def fX8_calls (sh : AwS) (M : AwM) (v0 : Int) (v1 : Int) : Option (Int × AwM) :=
  (if v1 < 1 then gd_ (kd_ sh v0 = (0, 8)) (pb (fX8_refuse sh M v0 4) <| u2 fun (x4 : Int) (M5 : AwM) => (some (x4, M5))) else (if 50 < v1 then gd_ (kd_ sh v0 = (0, 8)) (pb (fX8_refuse sh M v0 4) <| u2 fun (x9 : Int) (M10 : AwM) => (some (x9, M10))) else gd_ (kd_ sh v0 = (0, 8)) (gd_ (kd_ sh (M v0 4) = (0, 0)) (gd_ (kd_ sh (M (M v0 4) 0) = (0, 3)) ((if 999 < (w32 ((M (M (M v0 4) 0) 0) + v1)) then pb (fX8_refuse sh M v0 4) <| u2 fun (x32 : Int) (M33 : AwM) => (some (x32, M33)) else gd_ (kd_ sh (M v0 6) = (0, 2)) (pb (fX2_keep sh M (M v0 6) (M (M v0 4) 0)) <| u1 fun (M17 : AwM) => (pb (lp (u3 (fX8_calls_L53 sh v0 v1)) FU (0, 0, M17)) (u2 (fun (x29 : Int) (M30 : AwM) => some (x29, M30)))))))))))
set_option maxRecDepth 100000 in
set_option maxHeartbeats 4000000 in
theorem w_X8_calls_L53 {Γ : AwC} (hC : AOK Γ RX8 cX8_calls 4 8 0 0 "calls" (some .int)) {sh : AwS} {v0 : Int} {v1 : Int} {Q : State → Prop} : ∀ s r, u3 (fX8_calls_L53 sh v0 v1) s = some r → (∀ s', r = .inl s' → p_X8_calls_L53 Γ sh v0 v1 Q s') → (∀ t, r = .inr t → x_X8_calls_L53 Γ sh v0 v1 Q t) → p_X8_calls_L53 Γ sh v0 v1 Q s := by
  intro s r h hL hX
  obtain ⟨v2, v3, M⟩ := s
  replace h := u3_s h
  unfold fX8_calls_L53 at h
  show AW Γ sh M 0 0 53 [some (.inr (.inr v0)), some (.inl v1), some (.inl v2), some (.inl v3)] [] Q
  refine aw_iload_n (pc' := 54) (i := 3) hC dX8_calls_53 rfl rfl rfl ?_
  refine aw_iload_n (pc' := 55) (i := 1) hC dX8_calls_54 rfl rfl rfl ?_
  refine aw_icmp_ge (tgt := 83) (pc' := 58) hC dX8_calls_55 (by decide) rfl (fun c18 => ?_) (fun c18 => ?_)
  · replace h := it_n c18 h
    refine aw_sub hC [none, none, some (.inl v2), none] ⟨rfl, trivial⟩ (Nat.le_of_ble_eq_true rfl) ?_
    cases h
    exact hX _ rfl
  · replace h := it_p c18 h
    refine aw_aload_n (pc' := 59) (i := 0) hC dX8_calls_58 rfl rfl rfl ?_
    obtain ⟨g19, h⟩ := gd_s h
    refine aw_getfield (pc' := 62) (v := (.inr (.inr (M v0 4)))) hC dX8_calls_59 rfl fl_X8_60 g19 rfl ?_
    refine aw_iconst (pc' := 63) hC dX8_calls_62 rfl (by decide) ?_
    obtain ⟨g21, h⟩ := gd_s h
    obtain ⟨⟨x22, M23⟩, q20, h⟩ := pb_s h
    replace h := u2_s h
    refine aw_cV (pc' := 66) (k2 := 0) (n2 := 0) (st := []) (stN := [.inl x22]) hC [.inl 1] (mX0_passDays q20) lk_X8_236 g21 dX8_calls_63 rfl rfl (Nat.le_of_ble_eq_true rfl) (Nat.le_of_ble_eq_true rfl) (Nat.le_of_ble_eq_true rfl) rfl (Nat.le_of_ble_eq_true rfl) rfl rfl rfl ?_
    refine aw_pop (pc' := 67) hC dX8_calls_66 rfl rfl ?_
    refine aw_aload_n (pc' := 68) (i := 0) hC dX8_calls_67 rfl rfl rfl ?_
    obtain ⟨⟨x25, M26⟩, q24, h⟩ := pb_s h
    replace h := u2_s h
    refine aw_cV (pc' := 71) (k2 := 0) (n2 := 0) (st := []) (stN := [.inl x25]) hC [] (mX8_callIsPaid q24) lk_X8_239 g19 dX8_calls_68 rfl rfl (Nat.le_of_ble_eq_true rfl) (Nat.le_of_ble_eq_true rfl) (Nat.le_of_ble_eq_true rfl) rfl (Nat.le_of_ble_eq_true rfl) rfl rfl rfl ?_
    refine aw_if_eq (tgt := 77) (pc' := 74) hC dX8_calls_71 (by decide) rfl (fun c27 => ?_) (fun c27 => ?_)
    · replace h := it_p c27 h
      refine aw_iinc (pc' := 80) (ls' := [some (.inr (.inr v0)), some (.inl v1), some (.inl v2), some (.inl (w32 (v3 + 1)))]) hC dX8_calls_77 rfl rfl rfl rfl ?_
      refine aw_goto (tgt := 53) hC dX8_calls_80 (by decide) ?_
      refine aw_sub hC [some (.inr (.inr v0)), some (.inl v1), some (.inl v2), some (.inl (w32 (v3 + 1)))] ⟨rfl, ⟨rfl, ⟨rfl, ⟨rfl, trivial⟩⟩⟩⟩ (Nat.le_of_ble_eq_true rfl) ?_
      cases h
      exact hL _ rfl
    · replace h := it_n c27 h
      refine aw_iinc (pc' := 77) (ls' := [some (.inr (.inr v0)), some (.inl v1), some (.inl (w32 (v2 + 1))), some (.inl v3)]) hC dX8_calls_74 rfl rfl rfl rfl ?_
      refine aw_iinc (pc' := 80) (ls' := [some (.inr (.inr v0)), some (.inl v1), some (.inl (w32 (v2 + 1))), some (.inl (w32 (v3 + 1)))]) hC dX8_calls_77 rfl rfl rfl rfl ?_
      refine aw_goto (tgt := 53) hC dX8_calls_80 (by decide) ?_
      refine aw_sub hC [some (.inr (.inr v0)), some (.inl v1), some (.inl (w32 (v2 + 1))), some (.inl (w32 (v3 + 1)))] ⟨rfl, ⟨rfl, ⟨rfl, ⟨rfl, trivial⟩⟩⟩⟩ (Nat.le_of_ble_eq_true rfl) ?_
      cases h
      exact hL _ rfl
set_option maxRecDepth 100000 in
set_option maxHeartbeats 4000000 in
theorem mX8_calls {sh : AwS} {M : AwM} {v0 : Int} {v1 : Int} {r : Int} {M' : AwM} (h : fX8_calls sh M v0 v1 = some (r, M')) : AMet yX8_calls cX8_calls 4 (some .int) 8 0 0 [.inr (.inr v0), .inl v1] sh M (some (.inl r)) sh M' := by
  refine amet_of (by decide +kernel) (Nat.le_of_ble_eq_true rfl) (fun Γ hC => ?_)
  replace hC : AOK Γ RX8 cX8_calls 4 8 0 0 "calls" (some .int) := hC
  unfold fX8_calls at h
  refine aw_sub hC [some (.inr (.inr v0)), some (.inl v1), none, none] ⟨rfl, ⟨rfl, trivial⟩⟩ (Nat.le_of_ble_eq_true rfl) ?_
  refine aw_iload_n (pc' := 1) (i := 1) hC dX8_calls_0 rfl rfl rfl ?_
  refine aw_iconst (pc' := 2) hC dX8_calls_1 rfl (by decide) ?_
  refine aw_icmp_lt (tgt := 29) (pc' := 5) hC dX8_calls_2 (by decide) rfl (fun c1 => ?_) (fun c1 => ?_)
  · replace h := it_p c1 h
    refine aw_aload_n (pc' := 30) (i := 0) hC dX8_calls_29 rfl rfl rfl ?_
    refine aw_iconst (pc' := 31) hC dX8_calls_30 rfl (by decide) ?_
    obtain ⟨g3, h⟩ := gd_s h
    obtain ⟨⟨x4, M5⟩, q2, h⟩ := pb_s h
    replace h := u2_s h
    refine aw_cV (pc' := 34) (k2 := 0) (n2 := 0) (st := []) (stN := [.inl x4]) hC [.inl 4] (mX8_refuse q2) lk_X8_70 g3 dX8_calls_31 rfl rfl (Nat.le_of_ble_eq_true rfl) (Nat.le_of_ble_eq_true rfl) (Nat.le_of_ble_eq_true rfl) rfl (Nat.le_of_ble_eq_true rfl) rfl rfl rfl ?_
    cases h
    exact aw_iret hC dX8_calls_34 (Nat.le_of_ble_eq_true rfl) (Nat.le_of_ble_eq_true rfl)
  · replace h := it_n c1 h
    refine aw_iload_n (pc' := 6) (i := 1) hC dX8_calls_5 rfl rfl rfl ?_
    refine aw_bipush (pc' := 8) hC dX8_calls_6 rfl (by decide) ?_
    refine aw_icmp_gt (tgt := 29) (pc' := 11) hC dX8_calls_8 (by decide) rfl (fun c6 => ?_) (fun c6 => ?_)
    · replace h := it_p c6 h
      refine aw_aload_n (pc' := 30) (i := 0) hC dX8_calls_29 rfl rfl rfl ?_
      refine aw_iconst (pc' := 31) hC dX8_calls_30 rfl (by decide) ?_
      obtain ⟨g8, h⟩ := gd_s h
      obtain ⟨⟨x9, M10⟩, q7, h⟩ := pb_s h
      replace h := u2_s h
      refine aw_cV (pc' := 34) (k2 := 0) (n2 := 0) (st := []) (stN := [.inl x9]) hC [.inl 4] (mX8_refuse q7) lk_X8_70 g8 dX8_calls_31 rfl rfl (Nat.le_of_ble_eq_true rfl) (Nat.le_of_ble_eq_true rfl) (Nat.le_of_ble_eq_true rfl) rfl (Nat.le_of_ble_eq_true rfl) rfl rfl rfl ?_
      cases h
      exact aw_iret hC dX8_calls_34 (Nat.le_of_ble_eq_true rfl) (Nat.le_of_ble_eq_true rfl)
    · replace h := it_n c6 h
      refine aw_aload_n (pc' := 12) (i := 0) hC dX8_calls_11 rfl rfl rfl ?_
      obtain ⟨g11, h⟩ := gd_s h
      refine aw_getfield (pc' := 15) (v := (.inr (.inr (M v0 4)))) hC dX8_calls_12 rfl fl_X8_60 g11 rfl ?_
      obtain ⟨g12, h⟩ := gd_s h
      refine aw_getfield (pc' := 18) (v := (.inr (.inr (M (M v0 4) 0)))) hC dX8_calls_15 rfl fl_X8_110 g12 rfl ?_
      obtain ⟨g13, h⟩ := gd_s h
      refine aw_getfield (pc' := 21) (v := (.inl (M (M (M v0 4) 0) 0))) hC dX8_calls_18 rfl fl_X8_114 g13 rfl ?_
      refine aw_iload_n (pc' := 22) (i := 1) hC dX8_calls_21 rfl rfl rfl ?_
      refine aw_iadd (pc' := 23) hC dX8_calls_22 rfl  ?_
      refine aw_sipush (pc' := 26) hC dX8_calls_23 rfl (by decide) ?_
      refine aw_icmp_le (tgt := 35) (pc' := 29) hC dX8_calls_26 (by decide) rfl (fun c14 => ?_) (fun c14 => ?_)
      · replace h := it_n c14 h
        refine aw_aload_n (pc' := 36) (i := 0) hC dX8_calls_35 rfl rfl rfl ?_
        refine aw_getfield (pc' := 39) (v := (.inr (.inr (M v0 6)))) hC dX8_calls_36 rfl fl_X8_23 g11 rfl ?_
        refine aw_aload_n (pc' := 40) (i := 0) hC dX8_calls_39 rfl rfl rfl ?_
        refine aw_getfield (pc' := 43) (v := (.inr (.inr (M v0 4)))) hC dX8_calls_40 rfl fl_X8_60 g11 rfl ?_
        refine aw_getfield (pc' := 46) (v := (.inr (.inr (M (M v0 4) 0)))) hC dX8_calls_43 rfl fl_X8_110 g12 rfl ?_
        obtain ⟨g16, h⟩ := gd_s h
        obtain ⟨M17, q15, h⟩ := pb_s h
        replace h := u1_s h
        refine aw_cV (pc' := 49) (k2 := 0) (n2 := 0) (st := []) (stN := []) hC [.inr (.inr (M (M v0 4) 0))] (mX2_keep q15) lk_X8_213 g16 dX8_calls_46 rfl rfl (Nat.le_of_ble_eq_true rfl) (Nat.le_of_ble_eq_true rfl) (Nat.le_of_ble_eq_true rfl) rfl (Nat.le_of_ble_eq_true rfl) rfl rfl rfl ?_
        refine aw_iconst (pc' := 50) hC dX8_calls_49 rfl (by decide) ?_
        refine aw_istore_n (pc' := 51) (i := 2) (ls' := [some (.inr (.inr v0)), some (.inl v1), some (.inl 0), none]) hC dX8_calls_50 rfl rfl (Nat.le_of_ble_eq_true rfl) rfl rfl ?_
        refine aw_iconst (pc' := 52) hC dX8_calls_51 rfl (by decide) ?_
        refine aw_istore_n (pc' := 53) (i := 3) (ls' := [some (.inr (.inr v0)), some (.inl v1), some (.inl 0), some (.inl 0)]) hC dX8_calls_52 rfl rfl (Nat.le_of_ble_eq_true rfl) rfl rfl ?_
        obtain ⟨tq28, q28, h⟩ := pb_s h
        refine aw_sub hC [some (.inr (.inr v0)), some (.inl v1), some (.inl 0), some (.inl 0)] ⟨rfl, ⟨rfl, ⟨rfl, ⟨rfl, trivial⟩⟩⟩⟩ (Nat.le_of_ble_eq_true rfl) ?_
        refine (lp_aw (p_X8_calls_L53 Γ sh v0 v1 (fin_ Γ 0 0 (some (.inl r)) sh M')) (x_X8_calls_L53 Γ sh v0 v1 (fin_ Γ 0 0 (some (.inl r)) sh M')) (w_X8_calls_L53 hC ) FU _ _ q28 ?_ : p_X8_calls_L53 Γ sh v0 v1 (fin_ Γ 0 0 (some (.inl r)) sh M') (0, 0, M17))
        obtain ⟨x29, M30⟩ := tq28
        replace h := u2_s h
        show AW Γ sh M30 0 0 83 [none, none, some (.inl x29), none] [] _
        refine aw_iload_n (pc' := 84) (i := 2) hC dX8_calls_83 rfl rfl rfl ?_
        cases h
        exact aw_iret hC dX8_calls_84 (Nat.le_of_ble_eq_true rfl) (Nat.le_of_ble_eq_true rfl)
      · replace h := it_p c14 h
        refine aw_aload_n (pc' := 30) (i := 0) hC dX8_calls_29 rfl rfl rfl ?_
        refine aw_iconst (pc' := 31) hC dX8_calls_30 rfl (by decide) ?_
        obtain ⟨⟨x32, M33⟩, q31, h⟩ := pb_s h
        replace h := u2_s h
        refine aw_cV (pc' := 34) (k2 := 0) (n2 := 0) (st := []) (stN := [.inl x32]) hC [.inl 4] (mX8_refuse q31) lk_X8_70 g11 dX8_calls_31 rfl rfl (Nat.le_of_ble_eq_true rfl) (Nat.le_of_ble_eq_true rfl) (Nat.le_of_ble_eq_true rfl) rfl (Nat.le_of_ble_eq_true rfl) rfl rfl rfl ?_
        cases h
        exact aw_iret hC dX8_calls_34 (Nat.le_of_ble_eq_true rfl) (Nat.le_of_ble_eq_true rfl)
-- CoinCircle$History.giveBack(LCoinCircle$Ledger;)V
def fX2_giveBack (sh : AwS) (M : AwM) (v0 : Int) (v1 : Int) : Option (AwM) :=
  gd_ (kd_ sh v0 = (0, 2)) (bd_ (up_ M v0 1 (((w32 ((w32 ((M v0 1) + 20)) - 1)) : Int).tmod 20)) fun (M2 : AwM) => (gd_ ((kd_ sh (M2 v0 0)).1 = 5 ∧ (0 : Int) ≤ (M2 v0 1) ∧ (M2 v0 1) < ((kd_ sh (M2 v0 0)).2 : Int)) (gd_ (kd_ sh v1 = (0, 3)) (pb (fX3_copyFrom sh M2 v1 (M2 (M2 v0 0) (M2 v0 1))) <| u1 fun (M7 : AwM) => (bd_ (up_ M7 v0 2 (w32 ((M7 v0 2) - 1))) fun (M8 : AwM) => (some M8))))))
set_option maxRecDepth 100000 in
set_option maxHeartbeats 4000000 in
theorem mX2_giveBack {sh : AwS} {M : AwM} {v0 : Int} {v1 : Int} {M' : AwM} (h : fX2_giveBack sh M v0 v1 = some M') : AMet yX2_giveBack cX2_giveBack 2 none 3 0 0 [.inr (.inr v0), .inr (.inr v1)] sh M none sh M' := by
  refine amet_of (by decide +kernel) (Nat.le_of_ble_eq_true rfl) (fun Γ hC => ?_)
  replace hC : AOK Γ RX2 cX2_giveBack 2 3 0 0 "giveBack" none := hC
  unfold fX2_giveBack at h
  refine aw_sub hC [some (.inr (.inr v0)), some (.inr (.inr v1))] ⟨rfl, ⟨rfl, trivial⟩⟩ (Nat.le_of_ble_eq_true rfl) ?_
  refine aw_aload_n (pc' := 1) (i := 0) hC dX2_giveBack_0 rfl rfl rfl ?_
  refine aw_aload_n (pc' := 2) (i := 0) hC dX2_giveBack_1 rfl rfl rfl ?_
  obtain ⟨g1, h⟩ := gd_s h
  refine aw_getfield (pc' := 5) (v := (.inl (M v0 1))) hC dX2_giveBack_2 rfl fl_X2_22 g1 rfl ?_
  refine aw_bipush (pc' := 7) hC dX2_giveBack_5 rfl (by decide) ?_
  refine aw_iadd (pc' := 8) hC dX2_giveBack_7 rfl  ?_
  refine aw_iconst (pc' := 9) hC dX2_giveBack_8 rfl (by decide) ?_
  refine aw_isub (pc' := 10) hC dX2_giveBack_9 rfl  ?_
  refine aw_bipush (pc' := 12) hC dX2_giveBack_10 rfl (by decide) ?_
  refine aw_irem (pc' := 13) hC dX2_giveBack_12 rfl (by decide) ?_
  obtain ⟨M2, e3, h⟩ := bd_s h
  refine aw_pf (pc' := 16) hC dX2_giveBack_13 rfl fp_X2_22 g1 rfl trivial e3 ?_
  refine aw_aload_n (pc' := 17) (i := 1) hC dX2_giveBack_16 rfl rfl rfl ?_
  refine aw_aload_n (pc' := 18) (i := 0) hC dX2_giveBack_17 rfl rfl rfl ?_
  refine aw_getfield (pc' := 21) (v := (.inr (.inr (M2 v0 0)))) hC dX2_giveBack_18 rfl fl_X2_11 g1 rfl ?_
  refine aw_aload_n (pc' := 22) (i := 0) hC dX2_giveBack_21 rfl rfl rfl ?_
  refine aw_getfield (pc' := 25) (v := (.inl (M2 v0 1))) hC dX2_giveBack_22 rfl fl_X2_22 g1 rfl ?_
  obtain ⟨g4, h⟩ := gd_s h
  refine aw_aaload (pc' := 26) hC dX2_giveBack_25 rfl g4 ?_
  obtain ⟨g6, h⟩ := gd_s h
  obtain ⟨M7, q5, h⟩ := pb_s h
  replace h := u1_s h
  refine aw_cV (pc' := 29) (k2 := 0) (n2 := 0) (st := []) (stN := []) hC [.inr (.inr (M2 (M2 v0 0) (M2 v0 1)))] (mX3_copyFrom q5) lk_X2_25 g6 dX2_giveBack_26 rfl rfl (Nat.le_of_ble_eq_true rfl) (Nat.le_of_ble_eq_true rfl) (Nat.le_of_ble_eq_true rfl) rfl (Nat.le_of_ble_eq_true rfl) rfl rfl rfl ?_
  refine aw_aload_n (pc' := 30) (i := 0) hC dX2_giveBack_29 rfl rfl rfl ?_
  refine aw_dup (pc' := 31) hC dX2_giveBack_30 rfl rfl ?_
  refine aw_getfield (pc' := 34) (v := (.inl (M7 v0 2))) hC dX2_giveBack_31 rfl fl_X2_18 g1 rfl ?_
  refine aw_iconst (pc' := 35) hC dX2_giveBack_34 rfl (by decide) ?_
  refine aw_isub (pc' := 36) hC dX2_giveBack_35 rfl  ?_
  obtain ⟨M8, e9, h⟩ := bd_s h
  refine aw_pf (pc' := 39) hC dX2_giveBack_36 rfl fp_X2_18 g1 rfl trivial e9 ?_
  cases h
  exact aw_vret hC dX2_giveBack_39 (Nat.le_of_ble_eq_true rfl) (Nat.le_of_ble_eq_true rfl)
-- CoinCircle.undo()Z
def fX8_undo (sh : AwS) (M : AwM) (v0 : Int) : Option (Int × AwM) :=
  gd_ (kd_ sh v0 = (0, 8)) (gd_ (kd_ sh (M v0 6) = (0, 2)) ((if (M (M v0 6) 2) = 0 then pb (fX8_refuse sh M v0 4) <| u2 fun (x8 : Int) (M9 : AwM) => (some (0, M9)) else gd_ (kd_ sh (M v0 4) = (0, 0)) (pb (fX2_giveBack sh M (M v0 6) (M (M v0 4) 0)) <| u1 fun (M6 : AwM) => (some (1, M6))))))
set_option maxRecDepth 100000 in
set_option maxHeartbeats 4000000 in
theorem mX8_undo {sh : AwS} {M : AwM} {v0 : Int} {r : Int} {M' : AwM} (h : fX8_undo sh M v0 = some (r, M')) : AMet yX8_undo cX8_undo 1 (some .boolean) 4 0 0 [.inr (.inr v0)] sh M (some (.inl r)) sh M' := by
  refine amet_of (by decide +kernel) (Nat.le_of_ble_eq_true rfl) (fun Γ hC => ?_)
  replace hC : AOK Γ RX8 cX8_undo 1 4 0 0 "undo" (some .boolean) := hC
  unfold fX8_undo at h
  refine aw_sub hC [some (.inr (.inr v0))] ⟨rfl, trivial⟩ (Nat.le_of_ble_eq_true rfl) ?_
  refine aw_aload_n (pc' := 1) (i := 0) hC dX8_undo_0 rfl rfl rfl ?_
  obtain ⟨g1, h⟩ := gd_s h
  refine aw_getfield (pc' := 4) (v := (.inr (.inr (M v0 6)))) hC dX8_undo_1 rfl fl_X8_23 g1 rfl ?_
  obtain ⟨g2, h⟩ := gd_s h
  refine aw_getfield (pc' := 7) (v := (.inl (M (M v0 6) 2))) hC dX8_undo_4 rfl fl_X8_132 g2 rfl ?_
  refine aw_if_ne (tgt := 18) (pc' := 10) hC dX8_undo_7 (by decide) rfl (fun c3 => ?_) (fun c3 => ?_)
  · replace h := it_n c3 h
    refine aw_aload_n (pc' := 19) (i := 0) hC dX8_undo_18 rfl rfl rfl ?_
    refine aw_getfield (pc' := 22) (v := (.inr (.inr (M v0 6)))) hC dX8_undo_19 rfl fl_X8_23 g1 rfl ?_
    refine aw_aload_n (pc' := 23) (i := 0) hC dX8_undo_22 rfl rfl rfl ?_
    refine aw_getfield (pc' := 26) (v := (.inr (.inr (M v0 4)))) hC dX8_undo_23 rfl fl_X8_60 g1 rfl ?_
    obtain ⟨g4, h⟩ := gd_s h
    refine aw_getfield (pc' := 29) (v := (.inr (.inr (M (M v0 4) 0)))) hC dX8_undo_26 rfl fl_X8_110 g4 rfl ?_
    obtain ⟨M6, q5, h⟩ := pb_s h
    replace h := u1_s h
    refine aw_cV (pc' := 32) (k2 := 0) (n2 := 0) (st := []) (stN := []) hC [.inr (.inr (M (M v0 4) 0))] (mX2_giveBack q5) lk_X8_252 g2 dX8_undo_29 rfl rfl (Nat.le_of_ble_eq_true rfl) (Nat.le_of_ble_eq_true rfl) (Nat.le_of_ble_eq_true rfl) rfl (Nat.le_of_ble_eq_true rfl) rfl rfl rfl ?_
    refine aw_iconst (pc' := 33) hC dX8_undo_32 rfl (by decide) ?_
    cases h
    exact aw_zret hC (Or.inr rfl) dX8_undo_33 (Nat.le_of_ble_eq_true rfl) (Nat.le_of_ble_eq_true rfl)
  · replace h := it_p c3 h
    refine aw_aload_n (pc' := 11) (i := 0) hC dX8_undo_10 rfl rfl rfl ?_
    refine aw_iconst (pc' := 12) hC dX8_undo_11 rfl (by decide) ?_
    obtain ⟨⟨x8, M9⟩, q7, h⟩ := pb_s h
    replace h := u2_s h
    refine aw_cV (pc' := 15) (k2 := 0) (n2 := 0) (st := []) (stN := [.inl x8]) hC [.inl 4] (mX8_refuse q7) lk_X8_70 g1 dX8_undo_12 rfl rfl (Nat.le_of_ble_eq_true rfl) (Nat.le_of_ble_eq_true rfl) (Nat.le_of_ble_eq_true rfl) rfl (Nat.le_of_ble_eq_true rfl) rfl rfl rfl ?_
    refine aw_pop (pc' := 16) hC dX8_undo_15 rfl rfl ?_
    refine aw_iconst (pc' := 17) hC dX8_undo_16 rfl (by decide) ?_
    cases h
    exact aw_zret hC (Or.inl rfl) dX8_undo_17 (Nat.le_of_ble_eq_true rfl) (Nat.le_of_ble_eq_true rfl)
-- CoinCircle.seed(I)Z
def fX8_seed (sh : AwS) (M : AwM) (v0 : Int) (v1 : Int) : Option (Int × AwM) :=
  (if v1 < 0 then gd_ (kd_ sh v0 = (0, 8)) (pb (fX8_refuse sh M v0 5) <| u2 fun (x7 : Int) (M8 : AwM) => (some (0, M8))) else gd_ (kd_ sh v0 = (0, 8)) (bd_ (up_ M v0 13 v1) fun (M3 : AwM) => (some (1, M3))))
set_option maxRecDepth 100000 in
set_option maxHeartbeats 4000000 in
theorem mX8_seed {sh : AwS} {M : AwM} {v0 : Int} {v1 : Int} {r : Int} {M' : AwM} (h : fX8_seed sh M v0 v1 = some (r, M')) : AMet yX8_seed cX8_seed 2 (some .boolean) 2 0 0 [.inr (.inr v0), .inl v1] sh M (some (.inl r)) sh M' := by
  refine amet_of (by decide +kernel) (Nat.le_of_ble_eq_true rfl) (fun Γ hC => ?_)
  replace hC : AOK Γ RX8 cX8_seed 2 2 0 0 "seed" (some .boolean) := hC
  unfold fX8_seed at h
  refine aw_sub hC [some (.inr (.inr v0)), some (.inl v1)] ⟨rfl, ⟨rfl, trivial⟩⟩ (Nat.le_of_ble_eq_true rfl) ?_
  refine aw_iload_n (pc' := 1) (i := 1) hC dX8_seed_0 rfl rfl rfl ?_
  refine aw_if_ge (tgt := 12) (pc' := 4) hC dX8_seed_1 (by decide) rfl (fun c1 => ?_) (fun c1 => ?_)
  · replace h := it_n c1 h
    refine aw_aload_n (pc' := 13) (i := 0) hC dX8_seed_12 rfl rfl rfl ?_
    refine aw_iload_n (pc' := 14) (i := 1) hC dX8_seed_13 rfl rfl rfl ?_
    obtain ⟨g2, h⟩ := gd_s h
    obtain ⟨M3, e4, h⟩ := bd_s h
    refine aw_pf (pc' := 17) hC dX8_seed_14 rfl fp_X8_44 g2 rfl trivial e4 ?_
    refine aw_iconst (pc' := 18) hC dX8_seed_17 rfl (by decide) ?_
    cases h
    exact aw_zret hC (Or.inr rfl) dX8_seed_18 (Nat.le_of_ble_eq_true rfl) (Nat.le_of_ble_eq_true rfl)
  · replace h := it_p c1 h
    refine aw_aload_n (pc' := 5) (i := 0) hC dX8_seed_4 rfl rfl rfl ?_
    refine aw_iconst (pc' := 6) hC dX8_seed_5 rfl (by decide) ?_
    obtain ⟨g6, h⟩ := gd_s h
    obtain ⟨⟨x7, M8⟩, q5, h⟩ := pb_s h
    replace h := u2_s h
    refine aw_cV (pc' := 9) (k2 := 0) (n2 := 0) (st := []) (stN := [.inl x7]) hC [.inl 5] (mX8_refuse q5) lk_X8_70 g6 dX8_seed_6 rfl rfl (Nat.le_of_ble_eq_true rfl) (Nat.le_of_ble_eq_true rfl) (Nat.le_of_ble_eq_true rfl) rfl (Nat.le_of_ble_eq_true rfl) rfl rfl rfl ?_
    refine aw_pop (pc' := 10) hC dX8_seed_9 rfl rfl ?_
    refine aw_iconst (pc' := 11) hC dX8_seed_10 rfl (by decide) ?_
    cases h
    exact aw_zret hC (Or.inl rfl) dX8_seed_11 (Nat.le_of_ble_eq_true rfl) (Nat.le_of_ble_eq_true rfl)
-- CoinCircle$Circle.worthiest(II)I
def fX0_worthiest_J76_8 (sh : AwS) (M : AwM) (v0 : Int) (v1 : Int) (v2 : Int) (v3 : Int) (v4 : Int) (v5 : Int) : Option ((Int × Int × Int × AwM) ⊕ (Int × AwM)) :=
  some (.inl (v3, v4, (w32 (v5 + 1)), M))
def fX0_worthiest_L8 (sh : AwS) (v0 : Int) (v1 : Int) (v2 : Int) (v3 : Int) (v4 : Int) (v5 : Int) (M : AwM) : Option ((Int × Int × Int × AwM) ⊕ (Int × AwM)) :=
  gd_ (kd_ sh v0 = (0, 0)) (pb (fX0_coins sh M v0) <| u1 fun (x3 : Int) => ((if v5 < x3 then pb (fX8_isIn sh M v1 v5) <| u1 fun (x6 : Int) => ((if x6 = 0 then fX0_worthiest_J76_8 sh M v0 v1 v2 v3 v4 v5 else gd_ (kd_ sh (M v0 1) = (0, 5)) (gd_ ((kd_ sh (M (M v0 1) 3)).1 = 1 ∧ (0 : Int) ≤ v5 ∧ v5 < ((kd_ sh (M (M v0 1) 3)).2 : Int)) ((if v4 < (M (M (M v0 1) 3) v5) then pb (fX0_canBePresented sh M v0 v5 v2) <| u1 fun (x12 : Int) => ((if x12 = 0 then fX0_worthiest_J76_8 sh M v0 v1 v2 v3 v4 v5 else pb (fX0_testHolds sh M v0 v5 v2) <| u2 fun (x15 : Int) (M16 : AwM) => ((if x15 = 0 then fX0_worthiest_J76_8 sh M16 v0 v1 v2 v3 v4 v5 else gd_ (kd_ sh (M16 v0 1) = (0, 5)) (gd_ ((kd_ sh (M16 (M16 v0 1) 3)).1 = 1 ∧ (0 : Int) ≤ v5 ∧ v5 < ((kd_ sh (M16 (M16 v0 1) 3)).2 : Int)) (fX0_worthiest_J76_8 sh M16 v0 v1 v2 v5 (M16 (M16 (M16 v0 1) 3) v5) v5)))))) else fX0_worthiest_J76_8 sh M v0 v1 v2 v3 v4 v5))))) else some (.inr (v3, M)))))
def p_X0_worthiest_L8 (Γ : AwC) (sh : AwS) (v0 : Int) (v1 : Int) (v2 : Int) (Q : State → Prop) (s : Int × Int × Int × AwM) : Prop := AW Γ sh (s.2.2.2) 0 0 8 [some (.inr (.inr v0)), some (.inl v1), some (.inl v2), some (.inl (s.1)), some (.inl (s.2.1)), some (.inl (s.2.2.1))] [] Q
def x_X0_worthiest_L8 (Γ : AwC) (sh : AwS) (v0 : Int) (v1 : Int) (v2 : Int) (Q : State → Prop) : (Int × AwM) → Prop := (fun (t : Int × AwM) => AW Γ sh (t.2) 0 0 82 [none, none, none, some (.inl (t.1)), none, none] [] Q)
def fX0_worthiest (sh : AwS) (M : AwM) (v0 : Int) (v1 : Int) (v2 : Int) : Option (Int × AwM) :=
  pb (lp (u4 (fX0_worthiest_L8 sh v0 v1 v2)) FU ((-1), 0, 0, M)) (u2 (fun (x21 : Int) (M22 : AwM) => some (x21, M22)))
set_option maxRecDepth 100000 in
set_option maxHeartbeats 4000000 in
theorem w_X0_worthiest_J76_8 {Γ : AwC} (hC : AOK Γ RX0 cX0_worthiest 6 6 0 0 "worthiest" (some .int)) {sh : AwS} {M : AwM} {v0 : Int} {v1 : Int} {v2 : Int} {v3 : Int} {v4 : Int} {v5 : Int} {Q : State → Prop} {r : (Int × Int × Int × AwM) ⊕ (Int × AwM)} (h : fX0_worthiest_J76_8 sh M v0 v1 v2 v3 v4 v5 = some r) (hL : ∀ s', r = .inl s' → p_X0_worthiest_L8 Γ sh v0 v1 v2 Q s') (hX : ∀ t, r = .inr t → x_X0_worthiest_L8 Γ sh v0 v1 v2 Q t) : AW Γ sh M 0 0 76 [some (.inr (.inr v0)), some (.inl v1), some (.inl v2), some (.inl v3), some (.inl v4), some (.inl v5)] [] Q := by
  unfold fX0_worthiest_J76_8 at h
  refine aw_iinc (pc' := 79) (ls' := [some (.inr (.inr v0)), some (.inl v1), some (.inl v2), some (.inl v3), some (.inl v4), some (.inl (w32 (v5 + 1)))]) hC dX0_worthiest_76 rfl rfl rfl rfl ?_
  refine aw_goto (tgt := 8) hC dX0_worthiest_79 (by decide) ?_
  refine aw_sub hC [some (.inr (.inr v0)), some (.inl v1), some (.inl v2), some (.inl v3), some (.inl v4), some (.inl (w32 (v5 + 1)))] ⟨rfl, ⟨rfl, ⟨rfl, ⟨rfl, ⟨rfl, ⟨rfl, trivial⟩⟩⟩⟩⟩⟩ (Nat.le_of_ble_eq_true rfl) ?_
  cases h
  exact hL _ rfl
set_option maxRecDepth 100000 in
set_option maxHeartbeats 4000000 in
theorem w_X0_worthiest_L8 {Γ : AwC} (hC : AOK Γ RX0 cX0_worthiest 6 6 0 0 "worthiest" (some .int)) {sh : AwS} {v0 : Int} {v1 : Int} {v2 : Int} {Q : State → Prop} : ∀ s r, u4 (fX0_worthiest_L8 sh v0 v1 v2) s = some r → (∀ s', r = .inl s' → p_X0_worthiest_L8 Γ sh v0 v1 v2 Q s') → (∀ t, r = .inr t → x_X0_worthiest_L8 Γ sh v0 v1 v2 Q t) → p_X0_worthiest_L8 Γ sh v0 v1 v2 Q s := by
  intro s r h hL hX
  obtain ⟨v3, v4, v5, M⟩ := s
  replace h := u4_s h
  unfold fX0_worthiest_L8 at h
  show AW Γ sh M 0 0 8 [some (.inr (.inr v0)), some (.inl v1), some (.inl v2), some (.inl v3), some (.inl v4), some (.inl v5)] [] Q
  refine aw_iload (pc' := 10) hC dX0_worthiest_8 rfl rfl ?_
  refine aw_aload_n (pc' := 11) (i := 0) hC dX0_worthiest_10 rfl rfl rfl ?_
  obtain ⟨g2, h⟩ := gd_s h
  obtain ⟨x3, q1, h⟩ := pb_s h
  replace h := u1_s h
  refine aw_cV (pc' := 14) (k2 := 0) (n2 := 0) (st := [.inl v5]) (stN := [.inl x3, .inl v5]) hC [] (mX0_coins q1) lk_X0_55 g2 dX0_worthiest_11 rfl rfl (Nat.le_of_ble_eq_true rfl) (Nat.le_of_ble_eq_true rfl) (Nat.le_of_ble_eq_true rfl) rfl (Nat.le_of_ble_eq_true rfl) rfl rfl rfl ?_
  refine aw_icmp_ge (tgt := 82) (pc' := 17) hC dX0_worthiest_14 (by decide) rfl (fun c4 => ?_) (fun c4 => ?_)
  · replace h := it_n c4 h
    refine aw_sub hC [none, none, none, some (.inl v3), none, none] ⟨rfl, trivial⟩ (Nat.le_of_ble_eq_true rfl) ?_
    cases h
    exact hX _ rfl
  · replace h := it_p c4 h
    refine aw_iload_n (pc' := 18) (i := 1) hC dX0_worthiest_17 rfl rfl rfl ?_
    refine aw_iload (pc' := 20) hC dX0_worthiest_18 rfl rfl ?_
    obtain ⟨x6, q5, h⟩ := pb_s h
    replace h := u1_s h
    refine aw_cSN (pc' := 23) (k2 := 0) (n2 := 0) (st := []) (stN := [.inl x6]) hC [.inl v1, .inl v5] (mX8_isIn q5) lk_X0_51 dX0_worthiest_20 rfl rfl (Nat.le_of_ble_eq_true rfl) (Nat.le_of_ble_eq_true rfl) (Nat.le_of_ble_eq_true rfl) rfl (Nat.le_of_ble_eq_true rfl) rfl rfl rfl ?_
    refine aw_if_eq (tgt := 76) (pc' := 26) hC dX0_worthiest_23 (by decide) rfl (fun c7 => ?_) (fun c7 => ?_)
    · replace h := it_p c7 h
      refine aw_sub hC [some (.inr (.inr v0)), some (.inl v1), some (.inl v2), some (.inl v3), some (.inl v4), some (.inl v5)] ⟨rfl, ⟨rfl, ⟨rfl, ⟨rfl, ⟨rfl, ⟨rfl, trivial⟩⟩⟩⟩⟩⟩ (Nat.le_of_ble_eq_true rfl) ?_
      exact w_X0_worthiest_J76_8 hC h hL hX
    · replace h := it_n c7 h
      refine aw_aload_n (pc' := 27) (i := 0) hC dX0_worthiest_26 rfl rfl rfl ?_
      refine aw_getfield (pc' := 30) (v := (.inr (.inr (M v0 1)))) hC dX0_worthiest_27 rfl fl_X0_22 g2 rfl ?_
      obtain ⟨g8, h⟩ := gd_s h
      refine aw_getfield (pc' := 33) (v := (.inr (.inr (M (M v0 1) 3)))) hC dX0_worthiest_30 rfl fl_X0_62 g8 rfl ?_
      refine aw_iload (pc' := 35) hC dX0_worthiest_33 rfl rfl ?_
      obtain ⟨g9, h⟩ := gd_s h
      refine aw_iaload (pc' := 36) hC dX0_worthiest_35 rfl g9 ?_
      refine aw_iload (pc' := 38) hC dX0_worthiest_36 rfl rfl ?_
      refine aw_icmp_le (tgt := 76) (pc' := 41) hC dX0_worthiest_38 (by decide) rfl (fun c10 => ?_) (fun c10 => ?_)
      · replace h := it_n c10 h
        refine aw_sub hC [some (.inr (.inr v0)), some (.inl v1), some (.inl v2), some (.inl v3), some (.inl v4), some (.inl v5)] ⟨rfl, ⟨rfl, ⟨rfl, ⟨rfl, ⟨rfl, ⟨rfl, trivial⟩⟩⟩⟩⟩⟩ (Nat.le_of_ble_eq_true rfl) ?_
        exact w_X0_worthiest_J76_8 hC h hL hX
      · replace h := it_p c10 h
        refine aw_aload_n (pc' := 42) (i := 0) hC dX0_worthiest_41 rfl rfl rfl ?_
        refine aw_iload (pc' := 44) hC dX0_worthiest_42 rfl rfl ?_
        refine aw_iload_n (pc' := 45) (i := 2) hC dX0_worthiest_44 rfl rfl rfl ?_
        obtain ⟨x12, q11, h⟩ := pb_s h
        replace h := u1_s h
        refine aw_cV (pc' := 48) (k2 := 0) (n2 := 0) (st := []) (stN := [.inl x12]) hC [.inl v5, .inl v2] (mX0_canBePresented q11) lk_X0_146 g2 dX0_worthiest_45 rfl rfl (Nat.le_of_ble_eq_true rfl) (Nat.le_of_ble_eq_true rfl) (Nat.le_of_ble_eq_true rfl) rfl (Nat.le_of_ble_eq_true rfl) rfl rfl rfl ?_
        refine aw_if_eq (tgt := 76) (pc' := 51) hC dX0_worthiest_48 (by decide) rfl (fun c13 => ?_) (fun c13 => ?_)
        · replace h := it_p c13 h
          refine aw_sub hC [some (.inr (.inr v0)), some (.inl v1), some (.inl v2), some (.inl v3), some (.inl v4), some (.inl v5)] ⟨rfl, ⟨rfl, ⟨rfl, ⟨rfl, ⟨rfl, ⟨rfl, trivial⟩⟩⟩⟩⟩⟩ (Nat.le_of_ble_eq_true rfl) ?_
          exact w_X0_worthiest_J76_8 hC h hL hX
        · replace h := it_n c13 h
          refine aw_aload_n (pc' := 52) (i := 0) hC dX0_worthiest_51 rfl rfl rfl ?_
          refine aw_iload (pc' := 54) hC dX0_worthiest_52 rfl rfl ?_
          refine aw_iload_n (pc' := 55) (i := 2) hC dX0_worthiest_54 rfl rfl rfl ?_
          obtain ⟨⟨x15, M16⟩, q14, h⟩ := pb_s h
          replace h := u2_s h
          refine aw_cV (pc' := 58) (k2 := 0) (n2 := 0) (st := []) (stN := [.inl x15]) hC [.inl v5, .inl v2] (mX0_testHolds q14) lk_X0_130 g2 dX0_worthiest_55 rfl rfl (Nat.le_of_ble_eq_true rfl) (Nat.le_of_ble_eq_true rfl) (Nat.le_of_ble_eq_true rfl) rfl (Nat.le_of_ble_eq_true rfl) rfl rfl rfl ?_
          refine aw_if_eq (tgt := 76) (pc' := 61) hC dX0_worthiest_58 (by decide) rfl (fun c17 => ?_) (fun c17 => ?_)
          · replace h := it_p c17 h
            refine aw_sub hC [some (.inr (.inr v0)), some (.inl v1), some (.inl v2), some (.inl v3), some (.inl v4), some (.inl v5)] ⟨rfl, ⟨rfl, ⟨rfl, ⟨rfl, ⟨rfl, ⟨rfl, trivial⟩⟩⟩⟩⟩⟩ (Nat.le_of_ble_eq_true rfl) ?_
            exact w_X0_worthiest_J76_8 hC h hL hX
          · replace h := it_n c17 h
            refine aw_aload_n (pc' := 62) (i := 0) hC dX0_worthiest_61 rfl rfl rfl ?_
            refine aw_getfield (pc' := 65) (v := (.inr (.inr (M16 v0 1)))) hC dX0_worthiest_62 rfl fl_X0_22 g2 rfl ?_
            obtain ⟨g18, h⟩ := gd_s h
            refine aw_getfield (pc' := 68) (v := (.inr (.inr (M16 (M16 v0 1) 3)))) hC dX0_worthiest_65 rfl fl_X0_62 g18 rfl ?_
            refine aw_iload (pc' := 70) hC dX0_worthiest_68 rfl rfl ?_
            obtain ⟨g19, h⟩ := gd_s h
            refine aw_iaload (pc' := 71) hC dX0_worthiest_70 rfl g19 ?_
            refine aw_istore (pc' := 73) (ls' := [some (.inr (.inr v0)), some (.inl v1), some (.inl v2), some (.inl v3), some (.inl (M16 (M16 (M16 v0 1) 3) v5)), some (.inl v5)]) hC dX0_worthiest_71 rfl (Nat.le_of_ble_eq_true rfl) rfl rfl ?_
            refine aw_iload (pc' := 75) hC dX0_worthiest_73 rfl rfl ?_
            refine aw_istore_n (pc' := 76) (i := 3) (ls' := [some (.inr (.inr v0)), some (.inl v1), some (.inl v2), some (.inl v5), some (.inl (M16 (M16 (M16 v0 1) 3) v5)), some (.inl v5)]) hC dX0_worthiest_75 rfl rfl (Nat.le_of_ble_eq_true rfl) rfl rfl ?_
            refine aw_sub hC [some (.inr (.inr v0)), some (.inl v1), some (.inl v2), some (.inl v5), some (.inl (M16 (M16 (M16 v0 1) 3) v5)), some (.inl v5)] ⟨rfl, ⟨rfl, ⟨rfl, ⟨rfl, ⟨rfl, ⟨rfl, trivial⟩⟩⟩⟩⟩⟩ (Nat.le_of_ble_eq_true rfl) ?_
            exact w_X0_worthiest_J76_8 hC h hL hX
set_option maxRecDepth 100000 in
set_option maxHeartbeats 4000000 in
theorem mX0_worthiest {sh : AwS} {M : AwM} {v0 : Int} {v1 : Int} {v2 : Int} {r : Int} {M' : AwM} (h : fX0_worthiest sh M v0 v1 v2 = some (r, M')) : AMet yX0_worthiest cX0_worthiest 6 (some .int) 6 0 0 [.inr (.inr v0), .inl v1, .inl v2] sh M (some (.inl r)) sh M' := by
  refine amet_of (by decide +kernel) (Nat.le_of_ble_eq_true rfl) (fun Γ hC => ?_)
  replace hC : AOK Γ RX0 cX0_worthiest 6 6 0 0 "worthiest" (some .int) := hC
  unfold fX0_worthiest at h
  refine aw_sub hC [some (.inr (.inr v0)), some (.inl v1), some (.inl v2), none, none, none] ⟨rfl, ⟨rfl, ⟨rfl, trivial⟩⟩⟩ (Nat.le_of_ble_eq_true rfl) ?_
  refine aw_iconst (pc' := 1) hC dX0_worthiest_0 rfl (by decide) ?_
  refine aw_istore_n (pc' := 2) (i := 3) (ls' := [some (.inr (.inr v0)), some (.inl v1), some (.inl v2), some (.inl (-1)), none, none]) hC dX0_worthiest_1 rfl rfl (Nat.le_of_ble_eq_true rfl) rfl rfl ?_
  refine aw_iconst (pc' := 3) hC dX0_worthiest_2 rfl (by decide) ?_
  refine aw_istore (pc' := 5) (ls' := [some (.inr (.inr v0)), some (.inl v1), some (.inl v2), some (.inl (-1)), some (.inl 0), none]) hC dX0_worthiest_3 rfl (Nat.le_of_ble_eq_true rfl) rfl rfl ?_
  refine aw_iconst (pc' := 6) hC dX0_worthiest_5 rfl (by decide) ?_
  refine aw_istore (pc' := 8) (ls' := [some (.inr (.inr v0)), some (.inl v1), some (.inl v2), some (.inl (-1)), some (.inl 0), some (.inl 0)]) hC dX0_worthiest_6 rfl (Nat.le_of_ble_eq_true rfl) rfl rfl ?_
  obtain ⟨tq20, q20, h⟩ := pb_s h
  refine aw_sub hC [some (.inr (.inr v0)), some (.inl v1), some (.inl v2), some (.inl (-1)), some (.inl 0), some (.inl 0)] ⟨rfl, ⟨rfl, ⟨rfl, ⟨rfl, ⟨rfl, ⟨rfl, trivial⟩⟩⟩⟩⟩⟩ (Nat.le_of_ble_eq_true rfl) ?_
  refine (lp_aw (p_X0_worthiest_L8 Γ sh v0 v1 v2 (fin_ Γ 0 0 (some (.inl r)) sh M')) (x_X0_worthiest_L8 Γ sh v0 v1 v2 (fin_ Γ 0 0 (some (.inl r)) sh M')) (w_X0_worthiest_L8 hC ) FU _ _ q20 ?_ : p_X0_worthiest_L8 Γ sh v0 v1 v2 (fin_ Γ 0 0 (some (.inl r)) sh M') ((-1), 0, 0, M))
  obtain ⟨x21, M22⟩ := tq20
  replace h := u2_s h
  show AW Γ sh M22 0 0 82 [none, none, none, some (.inl x21), none, none] [] _
  refine aw_iload_n (pc' := 83) (i := 3) hC dX0_worthiest_82 rfl rfl rfl ?_
  cases h
  exact aw_iret hC dX0_worthiest_83 (Nat.le_of_ble_eq_true rfl) (Nat.le_of_ble_eq_true rfl)
-- CoinCircle$Circle.introductions(III)I
def fX0_introductions_L21 (sh : AwS) (v0 : Int) (v2 : Int) (v3 : Int) (v4 : Int) (v5 : Int) (v6 : Int) (v7 : Int) (M : AwM) : Option ((Int × Int × Int × AwM) ⊕ ((AwM) ⊕ ((Int × AwM) ⊕ (AwM)))) :=
  (if 12 < v7 then some (.inr (.inl M)) else (if v5 < v3 then gd_ (kd_ sh v0 = (0, 0)) (pb (fX0_worthiest sh M v0 (an_ v4 (xo_ v6 (-1))) v2) <| u2 fun (x10 : Int) (M11 : AwM) => ((if x10 = (-1) then some (.inr (.inr (.inr M11))) else gd_ (kd_ sh (M11 v0 1) = (0, 5)) (gd_ ((kd_ sh (M11 (M11 v0 1) 3)).1 = 1 ∧ (0 : Int) ≤ x10 ∧ x10 < ((kd_ sh (M11 (M11 v0 1) 3)).2 : Int)) (some (.inl ((w32 (v5 + (M11 (M11 (M11 v0 1) 3) x10))), (or_ v6 (sl_ 1 x10)), (w32 (v7 + 1)), M11))))))) else some (.inr (.inr (.inl (v6, M))))))
def p_X0_introductions_L21 (Γ : AwC) (sh : AwS) (v0 : Int) (v2 : Int) (v3 : Int) (v4 : Int) (Q : State → Prop) (s : Int × Int × Int × AwM) : Prop := AW Γ sh (s.2.2.2) 0 0 21 [some (.inr (.inr v0)), none, some (.inl v2), some (.inl v3), some (.inl v4), some (.inl (s.1)), some (.inl (s.2.1)), some (.inl (s.2.2.1)), none] [] Q
def x_X0_introductions_L21 (Γ : AwC) (sh : AwS) (v0 : Int) (v2 : Int) (v3 : Int) (v4 : Int) (Q : State → Prop) : ((AwM) ⊕ ((Int × AwM) ⊕ (AwM))) → Prop := (Sum.elim (fun (t : AwM) => AW Γ sh (t) 0 0 89 [none, none, none, none, none, none, none, none, none] [] Q) (Sum.elim (fun (t : Int × AwM) => AW Γ sh (t.2) 0 0 34 [none, none, none, none, none, none, some (.inl (t.1)), none, none] [] Q) (fun (t : AwM) => AW Γ sh (t) 0 0 57 [none, none, none, none, none, none, none, none, none] [] Q)))
def fX0_introductions (sh : AwS) (M : AwM) (v0 : Int) (v1 : Int) (v2 : Int) (v3 : Int) : Option (Int × AwM) :=
  gd_ (kd_ sh v0 = (0, 0)) (pb (fX0_heldBy sh M v0 v1) <| u1 fun (x3 : Int) => (pb (fX0_canSpend sh M v0 v1 v2) <| u1 fun (x5 : Int) => (pb (lp (u4 (fX0_introductions_L21 sh v0 v2 v3 x3)) FU (x5, 0, 0, M)) (Sum.elim (u1 (fun (tq15 : AwM) => some ((-1), tq15))) (Sum.elim (u2 (fun (x16 : Int) (M17 : AwM) => some (x16, M17))) (u1 (fun (tq15 : AwM) => some ((-1), tq15))))))))
set_option maxRecDepth 100000 in
set_option maxHeartbeats 4000000 in
theorem w_X0_introductions_L21 {Γ : AwC} (hC : AOK Γ RX0 cX0_introductions 9 7 0 0 "introductions" (some .int)) {sh : AwS} {v0 : Int} {v2 : Int} {v3 : Int} {v4 : Int} {Q : State → Prop} : ∀ s r, u4 (fX0_introductions_L21 sh v0 v2 v3 v4) s = some r → (∀ s', r = .inl s' → p_X0_introductions_L21 Γ sh v0 v2 v3 v4 Q s') → (∀ t, r = .inr t → x_X0_introductions_L21 Γ sh v0 v2 v3 v4 Q t) → p_X0_introductions_L21 Γ sh v0 v2 v3 v4 Q s := by
  intro s r h hL hX
  obtain ⟨v5, v6, v7, M⟩ := s
  replace h := u4_s h
  unfold fX0_introductions_L21 at h
  show AW Γ sh M 0 0 21 [some (.inr (.inr v0)), none, some (.inl v2), some (.inl v3), some (.inl v4), some (.inl v5), some (.inl v6), some (.inl v7), none] [] Q
  refine aw_iload (pc' := 23) hC dX0_introductions_21 rfl rfl ?_
  refine aw_bipush (pc' := 25) hC dX0_introductions_23 rfl (by decide) ?_
  refine aw_icmp_gt (tgt := 89) (pc' := 28) hC dX0_introductions_25 (by decide) rfl (fun c6 => ?_) (fun c6 => ?_)
  · replace h := it_p c6 h
    refine aw_sub hC [none, none, none, none, none, none, none, none, none] trivial (Nat.le_of_ble_eq_true rfl) ?_
    cases h
    exact hX _ rfl
  · replace h := it_n c6 h
    refine aw_iload (pc' := 30) hC dX0_introductions_28 rfl rfl ?_
    refine aw_iload_n (pc' := 31) (i := 3) hC dX0_introductions_30 rfl rfl rfl ?_
    refine aw_icmp_lt (tgt := 37) (pc' := 34) hC dX0_introductions_31 (by decide) rfl (fun c7 => ?_) (fun c7 => ?_)
    · replace h := it_p c7 h
      refine aw_aload_n (pc' := 38) (i := 0) hC dX0_introductions_37 rfl rfl rfl ?_
      refine aw_iload (pc' := 40) hC dX0_introductions_38 rfl rfl ?_
      refine aw_iload (pc' := 42) hC dX0_introductions_40 rfl rfl ?_
      refine aw_iconst (pc' := 43) hC dX0_introductions_42 rfl (by decide) ?_
      refine aw_ixor (pc' := 44) hC dX0_introductions_43 rfl  ?_
      refine aw_iand (pc' := 45) hC dX0_introductions_44 rfl  ?_
      refine aw_iload_n (pc' := 46) (i := 2) hC dX0_introductions_45 rfl rfl rfl ?_
      obtain ⟨g9, h⟩ := gd_s h
      obtain ⟨⟨x10, M11⟩, q8, h⟩ := pb_s h
      replace h := u2_s h
      refine aw_cV (pc' := 49) (k2 := 0) (n2 := 0) (st := []) (stN := [.inl x10]) hC [.inl (an_ v4 (xo_ v6 (-1))), .inl v2] (mX0_worthiest q8) lk_X0_161 g9 dX0_introductions_46 rfl rfl (Nat.le_of_ble_eq_true rfl) (Nat.le_of_ble_eq_true rfl) (Nat.le_of_ble_eq_true rfl) rfl (Nat.le_of_ble_eq_true rfl) rfl rfl rfl ?_
      refine aw_istore (pc' := 51) (ls' := [some (.inr (.inr v0)), none, some (.inl v2), some (.inl v3), some (.inl v4), some (.inl v5), some (.inl v6), some (.inl v7), some (.inl x10)]) hC dX0_introductions_49 rfl (Nat.le_of_ble_eq_true rfl) rfl rfl ?_
      refine aw_iload (pc' := 53) hC dX0_introductions_51 rfl rfl ?_
      refine aw_iconst (pc' := 54) hC dX0_introductions_53 rfl (by decide) ?_
      refine aw_icmp_ne (tgt := 59) (pc' := 57) hC dX0_introductions_54 (by decide) rfl (fun c12 => ?_) (fun c12 => ?_)
      · replace h := it_n c12 h
        refine aw_iload (pc' := 61) hC dX0_introductions_59 rfl rfl ?_
        refine aw_iconst (pc' := 62) hC dX0_introductions_61 rfl (by decide) ?_
        refine aw_iload (pc' := 64) hC dX0_introductions_62 rfl rfl ?_
        refine aw_ishl (pc' := 65) hC dX0_introductions_64 rfl  ?_
        refine aw_ior (pc' := 66) hC dX0_introductions_65 rfl  ?_
        refine aw_istore (pc' := 68) (ls' := [some (.inr (.inr v0)), none, some (.inl v2), some (.inl v3), some (.inl v4), some (.inl v5), some (.inl (or_ v6 (sl_ 1 x10))), some (.inl v7), some (.inl x10)]) hC dX0_introductions_66 rfl (Nat.le_of_ble_eq_true rfl) rfl rfl ?_
        refine aw_iload (pc' := 70) hC dX0_introductions_68 rfl rfl ?_
        refine aw_aload_n (pc' := 71) (i := 0) hC dX0_introductions_70 rfl rfl rfl ?_
        refine aw_getfield (pc' := 74) (v := (.inr (.inr (M11 v0 1)))) hC dX0_introductions_71 rfl fl_X0_22 g9 rfl ?_
        obtain ⟨g13, h⟩ := gd_s h
        refine aw_getfield (pc' := 77) (v := (.inr (.inr (M11 (M11 v0 1) 3)))) hC dX0_introductions_74 rfl fl_X0_62 g13 rfl ?_
        refine aw_iload (pc' := 79) hC dX0_introductions_77 rfl rfl ?_
        obtain ⟨g14, h⟩ := gd_s h
        refine aw_iaload (pc' := 80) hC dX0_introductions_79 rfl g14 ?_
        refine aw_iadd (pc' := 81) hC dX0_introductions_80 rfl  ?_
        refine aw_istore (pc' := 83) (ls' := [some (.inr (.inr v0)), none, some (.inl v2), some (.inl v3), some (.inl v4), some (.inl (w32 (v5 + (M11 (M11 (M11 v0 1) 3) x10)))), some (.inl (or_ v6 (sl_ 1 x10))), some (.inl v7), some (.inl x10)]) hC dX0_introductions_81 rfl (Nat.le_of_ble_eq_true rfl) rfl rfl ?_
        refine aw_iinc (pc' := 86) (ls' := [some (.inr (.inr v0)), none, some (.inl v2), some (.inl v3), some (.inl v4), some (.inl (w32 (v5 + (M11 (M11 (M11 v0 1) 3) x10)))), some (.inl (or_ v6 (sl_ 1 x10))), some (.inl (w32 (v7 + 1))), some (.inl x10)]) hC dX0_introductions_83 rfl rfl rfl rfl ?_
        refine aw_goto (tgt := 21) hC dX0_introductions_86 (by decide) ?_
        refine aw_sub hC [some (.inr (.inr v0)), none, some (.inl v2), some (.inl v3), some (.inl v4), some (.inl (w32 (v5 + (M11 (M11 (M11 v0 1) 3) x10)))), some (.inl (or_ v6 (sl_ 1 x10))), some (.inl (w32 (v7 + 1))), none] ⟨rfl, ⟨rfl, ⟨rfl, ⟨rfl, ⟨rfl, ⟨rfl, ⟨rfl, trivial⟩⟩⟩⟩⟩⟩⟩ (Nat.le_of_ble_eq_true rfl) ?_
        cases h
        exact hL _ rfl
      · replace h := it_p c12 h
        refine aw_sub hC [none, none, none, none, none, none, none, none, none] trivial (Nat.le_of_ble_eq_true rfl) ?_
        cases h
        exact hX _ rfl
    · replace h := it_n c7 h
      refine aw_sub hC [none, none, none, none, none, none, some (.inl v6), none, none] ⟨rfl, trivial⟩ (Nat.le_of_ble_eq_true rfl) ?_
      cases h
      exact hX _ rfl
set_option maxRecDepth 100000 in
set_option maxHeartbeats 4000000 in
theorem mX0_introductions {sh : AwS} {M : AwM} {v0 : Int} {v1 : Int} {v2 : Int} {v3 : Int} {r : Int} {M' : AwM} (h : fX0_introductions sh M v0 v1 v2 v3 = some (r, M')) : AMet yX0_introductions cX0_introductions 9 (some .int) 7 0 0 [.inr (.inr v0), .inl v1, .inl v2, .inl v3] sh M (some (.inl r)) sh M' := by
  refine amet_of (by decide +kernel) (Nat.le_of_ble_eq_true rfl) (fun Γ hC => ?_)
  replace hC : AOK Γ RX0 cX0_introductions 9 7 0 0 "introductions" (some .int) := hC
  unfold fX0_introductions at h
  refine aw_sub hC [some (.inr (.inr v0)), some (.inl v1), some (.inl v2), some (.inl v3), none, none, none, none, none] ⟨rfl, ⟨rfl, ⟨rfl, ⟨rfl, trivial⟩⟩⟩⟩ (Nat.le_of_ble_eq_true rfl) ?_
  refine aw_aload_n (pc' := 1) (i := 0) hC dX0_introductions_0 rfl rfl rfl ?_
  refine aw_iload_n (pc' := 2) (i := 1) hC dX0_introductions_1 rfl rfl rfl ?_
  obtain ⟨g2, h⟩ := gd_s h
  obtain ⟨x3, q1, h⟩ := pb_s h
  replace h := u1_s h
  refine aw_cV (pc' := 5) (k2 := 0) (n2 := 0) (st := []) (stN := [.inl x3]) hC [.inl v1] (mX0_heldBy q1) lk_X0_74 g2 dX0_introductions_2 rfl rfl (Nat.le_of_ble_eq_true rfl) (Nat.le_of_ble_eq_true rfl) (Nat.le_of_ble_eq_true rfl) rfl (Nat.le_of_ble_eq_true rfl) rfl rfl rfl ?_
  refine aw_istore (pc' := 7) (ls' := [some (.inr (.inr v0)), some (.inl v1), some (.inl v2), some (.inl v3), some (.inl x3), none, none, none, none]) hC dX0_introductions_5 rfl (Nat.le_of_ble_eq_true rfl) rfl rfl ?_
  refine aw_aload_n (pc' := 8) (i := 0) hC dX0_introductions_7 rfl rfl rfl ?_
  refine aw_iload_n (pc' := 9) (i := 1) hC dX0_introductions_8 rfl rfl rfl ?_
  refine aw_iload_n (pc' := 10) (i := 2) hC dX0_introductions_9 rfl rfl rfl ?_
  obtain ⟨x5, q4, h⟩ := pb_s h
  replace h := u1_s h
  refine aw_cV (pc' := 13) (k2 := 0) (n2 := 0) (st := []) (stN := [.inl x5]) hC [.inl v1, .inl v2] (mX0_canSpend q4) lk_X0_158 g2 dX0_introductions_10 rfl rfl (Nat.le_of_ble_eq_true rfl) (Nat.le_of_ble_eq_true rfl) (Nat.le_of_ble_eq_true rfl) rfl (Nat.le_of_ble_eq_true rfl) rfl rfl rfl ?_
  refine aw_istore (pc' := 15) (ls' := [some (.inr (.inr v0)), some (.inl v1), some (.inl v2), some (.inl v3), some (.inl x3), some (.inl x5), none, none, none]) hC dX0_introductions_13 rfl (Nat.le_of_ble_eq_true rfl) rfl rfl ?_
  refine aw_iconst (pc' := 16) hC dX0_introductions_15 rfl (by decide) ?_
  refine aw_istore (pc' := 18) (ls' := [some (.inr (.inr v0)), some (.inl v1), some (.inl v2), some (.inl v3), some (.inl x3), some (.inl x5), some (.inl 0), none, none]) hC dX0_introductions_16 rfl (Nat.le_of_ble_eq_true rfl) rfl rfl ?_
  refine aw_iconst (pc' := 19) hC dX0_introductions_18 rfl (by decide) ?_
  refine aw_istore (pc' := 21) (ls' := [some (.inr (.inr v0)), some (.inl v1), some (.inl v2), some (.inl v3), some (.inl x3), some (.inl x5), some (.inl 0), some (.inl 0), none]) hC dX0_introductions_19 rfl (Nat.le_of_ble_eq_true rfl) rfl rfl ?_
  obtain ⟨tq15, q15, h⟩ := pb_s h
  refine aw_sub hC [some (.inr (.inr v0)), none, some (.inl v2), some (.inl v3), some (.inl x3), some (.inl x5), some (.inl 0), some (.inl 0), none] ⟨rfl, ⟨rfl, ⟨rfl, ⟨rfl, ⟨rfl, ⟨rfl, ⟨rfl, trivial⟩⟩⟩⟩⟩⟩⟩ (Nat.le_of_ble_eq_true rfl) ?_
  refine (lp_aw (p_X0_introductions_L21 Γ sh v0 v2 v3 x3 (fin_ Γ 0 0 (some (.inl r)) sh M')) (x_X0_introductions_L21 Γ sh v0 v2 v3 x3 (fin_ Γ 0 0 (some (.inl r)) sh M')) (w_X0_introductions_L21 hC ) FU _ _ q15 ?_ : p_X0_introductions_L21 Γ sh v0 v2 v3 x3 (fin_ Γ 0 0 (some (.inl r)) sh M') (x5, 0, 0, M))
  rcases tq15 with tq15 | tq15
  · replace h := se_l h
    replace h := u1_s h
    show AW Γ sh tq15 0 0 89 [none, none, none, none, none, none, none, none, none] [] _
    refine aw_iconst (pc' := 90) hC dX0_introductions_89 rfl (by decide) ?_
    cases h
    exact aw_iret hC dX0_introductions_90 (Nat.le_of_ble_eq_true rfl) (Nat.le_of_ble_eq_true rfl)
  · replace h := se_r h
    rcases tq15 with tq15 | tq15
    · replace h := se_l h
      obtain ⟨x16, M17⟩ := tq15
      replace h := u2_s h
      show AW Γ sh M17 0 0 34 [none, none, none, none, none, none, some (.inl x16), none, none] [] _
      refine aw_iload (pc' := 36) hC dX0_introductions_34 rfl rfl ?_
      cases h
      exact aw_iret hC dX0_introductions_36 (Nat.le_of_ble_eq_true rfl) (Nat.le_of_ble_eq_true rfl)
    · replace h := se_r h
      replace h := u1_s h
      show AW Γ sh tq15 0 0 57 [none, none, none, none, none, none, none, none, none] [] _
      refine aw_iconst (pc' := 58) hC dX0_introductions_57 rfl (by decide) ?_
      cases h
      exact aw_iret hC dX0_introductions_58 (Nat.le_of_ble_eq_true rfl) (Nat.le_of_ble_eq_true rfl)
-- CoinCircle.introduce(IIII)I
def fX8_introduce (sh : AwS) (M : AwM) (v0 : Int) (v1 : Int) (v2 : Int) (v3 : Int) (v4 : Int) : Option (Int × AwM) :=
  gd_ (kd_ sh v0 = (0, 8)) (pb (fX8_areTwo sh M v0 v1 v2) <| u1 fun (x3 : Int) => ((if x3 = 0 then some ((-1), M) else (if v3 < 0 then some ((-1), M) else gd_ (kd_ sh (M v0 4) = (0, 0)) (pb (fX0_introductions sh M (M v0 4) v1 v2 v3) <| u2 fun (x8 : Int) (M9 : AwM) => ((if x8 = (-1) then some ((-1), M9) else (if v4 = 0 then pb (fJ6_bitCount_0f7a4 sh M9 x8) <| u1 fun (x15 : Int) => (some (x15, M9)) else (if v4 = 1 then some (x8, M9) else (if v4 = 2 then gd_ (kd_ sh (M9 v0 4) = (0, 0)) (pb (fX0_canSpend sh M9 (M9 v0 4) v1 v2) <| u1 fun (x18 : Int) => (gd_ (kd_ sh (M9 v0 3) = (0, 5)) (pb (fX5_worthOf sh M9 (M9 v0 3) x8) <| u1 fun (x21 : Int) => (some ((w32 (x18 + x21)), M9))))) else some ((-1), M9)))))))))))
set_option maxRecDepth 100000 in
set_option maxHeartbeats 4000000 in
theorem mX8_introduce {sh : AwS} {M : AwM} {v0 : Int} {v1 : Int} {v2 : Int} {v3 : Int} {v4 : Int} {r : Int} {M' : AwM} (h : fX8_introduce sh M v0 v1 v2 v3 v4 = some (r, M')) : AMet yX8_introduce cX8_introduce 6 (some .int) 8 0 0 [.inr (.inr v0), .inl v1, .inl v2, .inl v3, .inl v4] sh M (some (.inl r)) sh M' := by
  refine amet_of (by decide +kernel) (Nat.le_of_ble_eq_true rfl) (fun Γ hC => ?_)
  replace hC : AOK Γ RX8 cX8_introduce 6 8 0 0 "introduce" (some .int) := hC
  unfold fX8_introduce at h
  refine aw_sub hC [some (.inr (.inr v0)), some (.inl v1), some (.inl v2), some (.inl v3), some (.inl v4), none] ⟨rfl, ⟨rfl, ⟨rfl, ⟨rfl, ⟨rfl, trivial⟩⟩⟩⟩⟩ (Nat.le_of_ble_eq_true rfl) ?_
  refine aw_aload_n (pc' := 1) (i := 0) hC dX8_introduce_0 rfl rfl rfl ?_
  refine aw_iload_n (pc' := 2) (i := 1) hC dX8_introduce_1 rfl rfl rfl ?_
  refine aw_iload_n (pc' := 3) (i := 2) hC dX8_introduce_2 rfl rfl rfl ?_
  obtain ⟨g2, h⟩ := gd_s h
  obtain ⟨x3, q1, h⟩ := pb_s h
  replace h := u1_s h
  refine aw_cV (pc' := 6) (k2 := 0) (n2 := 0) (st := []) (stN := [.inl x3]) hC [.inl v1, .inl v2] (mX8_areTwo q1) lk_X8_207 g2 dX8_introduce_3 rfl rfl (Nat.le_of_ble_eq_true rfl) (Nat.le_of_ble_eq_true rfl) (Nat.le_of_ble_eq_true rfl) rfl (Nat.le_of_ble_eq_true rfl) rfl rfl rfl ?_
  refine aw_if_eq (tgt := 13) (pc' := 9) hC dX8_introduce_6 (by decide) rfl (fun c4 => ?_) (fun c4 => ?_)
  · replace h := it_p c4 h
    refine aw_iconst (pc' := 14) hC dX8_introduce_13 rfl (by decide) ?_
    cases h
    exact aw_iret hC dX8_introduce_14 (Nat.le_of_ble_eq_true rfl) (Nat.le_of_ble_eq_true rfl)
  · replace h := it_n c4 h
    refine aw_iload_n (pc' := 10) (i := 3) hC dX8_introduce_9 rfl rfl rfl ?_
    refine aw_if_ge (tgt := 15) (pc' := 13) hC dX8_introduce_10 (by decide) rfl (fun c5 => ?_) (fun c5 => ?_)
    · replace h := it_n c5 h
      refine aw_aload_n (pc' := 16) (i := 0) hC dX8_introduce_15 rfl rfl rfl ?_
      refine aw_getfield (pc' := 19) (v := (.inr (.inr (M v0 4)))) hC dX8_introduce_16 rfl fl_X8_60 g2 rfl ?_
      refine aw_iload_n (pc' := 20) (i := 1) hC dX8_introduce_19 rfl rfl rfl ?_
      refine aw_iload_n (pc' := 21) (i := 2) hC dX8_introduce_20 rfl rfl rfl ?_
      refine aw_iload_n (pc' := 22) (i := 3) hC dX8_introduce_21 rfl rfl rfl ?_
      obtain ⟨g7, h⟩ := gd_s h
      obtain ⟨⟨x8, M9⟩, q6, h⟩ := pb_s h
      replace h := u2_s h
      refine aw_cV (pc' := 25) (k2 := 0) (n2 := 0) (st := []) (stN := [.inl x8]) hC [.inl v1, .inl v2, .inl v3] (mX0_introductions q6) lk_X8_255 g7 dX8_introduce_22 rfl rfl (Nat.le_of_ble_eq_true rfl) (Nat.le_of_ble_eq_true rfl) (Nat.le_of_ble_eq_true rfl) rfl (Nat.le_of_ble_eq_true rfl) rfl rfl rfl ?_
      refine aw_istore (pc' := 27) (ls' := [some (.inr (.inr v0)), some (.inl v1), some (.inl v2), some (.inl v3), some (.inl v4), some (.inl x8)]) hC dX8_introduce_25 rfl (Nat.le_of_ble_eq_true rfl) rfl rfl ?_
      refine aw_iload (pc' := 29) hC dX8_introduce_27 rfl rfl ?_
      refine aw_iconst (pc' := 30) hC dX8_introduce_29 rfl (by decide) ?_
      refine aw_icmp_ne (tgt := 35) (pc' := 33) hC dX8_introduce_30 (by decide) rfl (fun c10 => ?_) (fun c10 => ?_)
      · replace h := it_n c10 h
        refine aw_iload (pc' := 37) hC dX8_introduce_35 rfl rfl ?_
        by_cases c11 : v4 = 0
        · replace h := it_p c11 h
          refine aw_tsIn (tgt := 64) (off := 27) hC dX8_introduce_37 ⟨by omega, by omega, by rw [c11]; rfl⟩ (by decide) ?_
          refine aw_iload (pc' := 66) hC dX8_introduce_64 rfl rfl ?_
          obtain ⟨x15, q14, h⟩ := pb_s h
          replace h := u1_s h
          refine aw_cS (pc' := 69) (k2 := 0) (n2 := 0) (st := []) (stN := [.inl x15]) hC [.inl x8] (mJ6_bitCount_0f7a4 q14) lk_X8_178 dX8_introduce_66 rfl rfl (Nat.le_of_ble_eq_true rfl) (Nat.le_of_ble_eq_true rfl) (Nat.le_of_ble_eq_true rfl) rfl (Nat.le_of_ble_eq_true rfl) rfl rfl rfl ?_
          cases h
          exact aw_iret hC dX8_introduce_69 (Nat.le_of_ble_eq_true rfl) (Nat.le_of_ble_eq_true rfl)
        · replace h := it_n c11 h
          by_cases c12 : v4 = 1
          · replace h := it_p c12 h
            refine aw_tsIn (tgt := 70) (off := 33) hC dX8_introduce_37 ⟨by omega, by omega, by rw [c12]; rfl⟩ (by decide) ?_
            refine aw_iload (pc' := 72) hC dX8_introduce_70 rfl rfl ?_
            cases h
            exact aw_iret hC dX8_introduce_72 (Nat.le_of_ble_eq_true rfl) (Nat.le_of_ble_eq_true rfl)
          · replace h := it_n c12 h
            by_cases c13 : v4 = 2
            · replace h := it_p c13 h
              refine aw_tsIn (tgt := 73) (off := 36) hC dX8_introduce_37 ⟨by omega, by omega, by rw [c13]; rfl⟩ (by decide) ?_
              refine aw_aload_n (pc' := 74) (i := 0) hC dX8_introduce_73 rfl rfl rfl ?_
              refine aw_getfield (pc' := 77) (v := (.inr (.inr (M9 v0 4)))) hC dX8_introduce_74 rfl fl_X8_60 g2 rfl ?_
              refine aw_iload_n (pc' := 78) (i := 1) hC dX8_introduce_77 rfl rfl rfl ?_
              refine aw_iload_n (pc' := 79) (i := 2) hC dX8_introduce_78 rfl rfl rfl ?_
              obtain ⟨g17, h⟩ := gd_s h
              obtain ⟨x18, q16, h⟩ := pb_s h
              replace h := u1_s h
              refine aw_cV (pc' := 82) (k2 := 0) (n2 := 0) (st := []) (stN := [.inl x18]) hC [.inl v1, .inl v2] (mX0_canSpend q16) lk_X8_210 g17 dX8_introduce_79 rfl rfl (Nat.le_of_ble_eq_true rfl) (Nat.le_of_ble_eq_true rfl) (Nat.le_of_ble_eq_true rfl) rfl (Nat.le_of_ble_eq_true rfl) rfl rfl rfl ?_
              refine aw_aload_n (pc' := 83) (i := 0) hC dX8_introduce_82 rfl rfl rfl ?_
              refine aw_getfield (pc' := 86) (v := (.inr (.inr (M9 v0 3)))) hC dX8_introduce_83 rfl fl_X8_51 g2 rfl ?_
              refine aw_iload (pc' := 88) hC dX8_introduce_86 rfl rfl ?_
              obtain ⟨g20, h⟩ := gd_s h
              obtain ⟨x21, q19, h⟩ := pb_s h
              replace h := u1_s h
              refine aw_cV (pc' := 91) (k2 := 0) (n2 := 0) (st := [.inl x18]) (stN := [.inl x21, .inl x18]) hC [.inl x8] (mX5_worthOf q19) lk_X8_153 g20 dX8_introduce_88 rfl rfl (Nat.le_of_ble_eq_true rfl) (Nat.le_of_ble_eq_true rfl) (Nat.le_of_ble_eq_true rfl) rfl (Nat.le_of_ble_eq_true rfl) rfl rfl rfl ?_
              refine aw_iadd (pc' := 92) hC dX8_introduce_91 rfl  ?_
              cases h
              exact aw_iret hC dX8_introduce_92 (Nat.le_of_ble_eq_true rfl) (Nat.le_of_ble_eq_true rfl)
            · replace h := it_n c13 h
              refine aw_tsOut (tgt := 93) hC dX8_introduce_37 (by omega) (by decide) ?_
              refine aw_iconst (pc' := 94) hC dX8_introduce_93 rfl (by decide) ?_
              cases h
              exact aw_iret hC dX8_introduce_94 (Nat.le_of_ble_eq_true rfl) (Nat.le_of_ble_eq_true rfl)
      · replace h := it_p c10 h
        refine aw_iconst (pc' := 34) hC dX8_introduce_33 rfl (by decide) ?_
        cases h
        exact aw_iret hC dX8_introduce_34 (Nat.le_of_ble_eq_true rfl) (Nat.le_of_ble_eq_true rfl)
    · replace h := it_p c5 h
      refine aw_iconst (pc' := 14) hC dX8_introduce_13 rfl (by decide) ?_
      cases h
      exact aw_iret hC dX8_introduce_14 (Nat.le_of_ble_eq_true rfl) (Nat.le_of_ble_eq_true rfl)
-- java/util/Arrays.fill([II)V
def fJ7_fill_53178_L5 (sh : AwS) (v0 : Int) (v1 : Int) (v3 : Int) (v2 : Int) (M : AwM) : Option ((Int × AwM) ⊕ (AwM)) :=
  (if v2 < v3 then gd_ ((kd_ sh v0).1 = 1 ∧ (0 : Int) ≤ v2 ∧ v2 < ((kd_ sh v0).2 : Int)) (bd_ (up_ M v0 v2 v1) fun (M4 : AwM) => (some (.inl ((w32 (v2 + 1)), M4)))) else some (.inr M))
def p_J7_fill_53178_L5 (Γ : AwC) (sh : AwS) (v0 : Int) (v1 : Int) (v3 : Int) (Q : State → Prop) (s : Int × AwM) : Prop := AW Γ sh (s.2) 0 0 5 [some (.inr (.inr v0)), some (.inl v1), some (.inl (s.1)), some (.inl v3)] [] Q
def x_J7_fill_53178_L5 (Γ : AwC) (sh : AwS) (v0 : Int) (v1 : Int) (v3 : Int) (Q : State → Prop) : (AwM) → Prop := (fun (t : AwM) => AW Γ sh (t) 0 0 20 [none, none, none, none] [] Q)
def fJ7_fill_53178 (sh : AwS) (M : AwM) (v0 : Int) (v1 : Int) : Option (AwM) :=
  gd_ (1 ≤ (kd_ sh v0).1 ∧ (kd_ sh v0).1 ≤ 5 ∧ (kd_ sh v0).2 ≤ 2147483647) (pb (lp (u2 (fJ7_fill_53178_L5 sh v0 v1 ((kd_ sh v0).2 : Int))) FU (0, M)) (u1 (fun (tq6 : AwM) => some tq6)))
set_option maxRecDepth 100000 in
set_option maxHeartbeats 4000000 in
theorem w_J7_fill_53178_L5 {Γ : AwC} (hC : AOK Γ RJ7 cJ7_fill_53178 4 1 0 0 "fill" none) {sh : AwS} {v0 : Int} {v1 : Int} {v3 : Int} {Q : State → Prop} : ∀ s r, u2 (fJ7_fill_53178_L5 sh v0 v1 v3) s = some r → (∀ s', r = .inl s' → p_J7_fill_53178_L5 Γ sh v0 v1 v3 Q s') → (∀ t, r = .inr t → x_J7_fill_53178_L5 Γ sh v0 v1 v3 Q t) → p_J7_fill_53178_L5 Γ sh v0 v1 v3 Q s := by
  intro s r h hL hX
  obtain ⟨v2, M⟩ := s
  replace h := u2_s h
  unfold fJ7_fill_53178_L5 at h
  show AW Γ sh M 0 0 5 [some (.inr (.inr v0)), some (.inl v1), some (.inl v2), some (.inl v3)] [] Q
  refine aw_iload_n (pc' := 6) (i := 2) hC dJ7_fill_53178_5 rfl rfl rfl ?_
  refine aw_iload_n (pc' := 7) (i := 3) hC dJ7_fill_53178_6 rfl rfl rfl ?_
  refine aw_icmp_ge (tgt := 20) (pc' := 10) hC dJ7_fill_53178_7 (by decide) rfl (fun c2 => ?_) (fun c2 => ?_)
  · replace h := it_n c2 h
    refine aw_sub hC [none, none, none, none] trivial (Nat.le_of_ble_eq_true rfl) ?_
    cases h
    exact hX _ rfl
  · replace h := it_p c2 h
    refine aw_aload_n (pc' := 11) (i := 0) hC dJ7_fill_53178_10 rfl rfl rfl ?_
    refine aw_iload_n (pc' := 12) (i := 2) hC dJ7_fill_53178_11 rfl rfl rfl ?_
    refine aw_iload_n (pc' := 13) (i := 1) hC dJ7_fill_53178_12 rfl rfl rfl ?_
    obtain ⟨g3, h⟩ := gd_s h
    obtain ⟨M4, e5, h⟩ := bd_s h
    refine aw_ias (pc' := 14) hC dJ7_fill_53178_13 rfl g3 e5 ?_
    refine aw_iinc (pc' := 17) (ls' := [some (.inr (.inr v0)), some (.inl v1), some (.inl (w32 (v2 + 1))), some (.inl v3)]) hC dJ7_fill_53178_14 rfl rfl rfl rfl ?_
    refine aw_goto (tgt := 5) hC dJ7_fill_53178_17 (by decide) ?_
    refine aw_sub hC [some (.inr (.inr v0)), some (.inl v1), some (.inl (w32 (v2 + 1))), some (.inl v3)] ⟨rfl, ⟨rfl, ⟨rfl, ⟨rfl, trivial⟩⟩⟩⟩ (Nat.le_of_ble_eq_true rfl) ?_
    cases h
    exact hL _ rfl
set_option maxRecDepth 100000 in
set_option maxHeartbeats 4000000 in
theorem mJ7_fill_53178 {sh : AwS} {M : AwM} {v0 : Int} {v1 : Int} {M' : AwM} (h : fJ7_fill_53178 sh M v0 v1 = some M') : AMet yJ7_fill_53178 cJ7_fill_53178 4 none 1 0 0 [.inr (.inr v0), .inl v1] sh M none sh M' := by
  refine amet_of (by decide +kernel) (Nat.le_of_ble_eq_true rfl) (fun Γ hC => ?_)
  replace hC : AOK Γ RJ7 cJ7_fill_53178 4 1 0 0 "fill" none := hC
  unfold fJ7_fill_53178 at h
  refine aw_sub hC [some (.inr (.inr v0)), some (.inl v1), none, none] ⟨rfl, ⟨rfl, trivial⟩⟩ (Nat.le_of_ble_eq_true rfl) ?_
  refine aw_iconst (pc' := 1) hC dJ7_fill_53178_0 rfl (by decide) ?_
  refine aw_istore_n (pc' := 2) (i := 2) (ls' := [some (.inr (.inr v0)), some (.inl v1), some (.inl 0), none]) hC dJ7_fill_53178_1 rfl rfl (Nat.le_of_ble_eq_true rfl) rfl rfl ?_
  refine aw_aload_n (pc' := 3) (i := 0) hC dJ7_fill_53178_2 rfl rfl rfl ?_
  obtain ⟨g1, h⟩ := gd_s h
  refine aw_alen (pc' := 4) (v := ((kd_ sh v0).2 : Int)) hC dJ7_fill_53178_3 rfl g1 rfl ?_
  refine aw_istore_n (pc' := 5) (i := 3) (ls' := [some (.inr (.inr v0)), some (.inl v1), some (.inl 0), some (.inl ((kd_ sh v0).2 : Int))]) hC dJ7_fill_53178_4 rfl rfl (Nat.le_of_ble_eq_true rfl) rfl rfl ?_
  obtain ⟨tq6, q6, h⟩ := pb_s h
  refine aw_sub hC [some (.inr (.inr v0)), some (.inl v1), some (.inl 0), some (.inl ((kd_ sh v0).2 : Int))] ⟨rfl, ⟨rfl, ⟨rfl, ⟨rfl, trivial⟩⟩⟩⟩ (Nat.le_of_ble_eq_true rfl) ?_
  refine (lp_aw (p_J7_fill_53178_L5 Γ sh v0 v1 ((kd_ sh v0).2 : Int) (fin_ Γ 0 0 none sh M')) (x_J7_fill_53178_L5 Γ sh v0 v1 ((kd_ sh v0).2 : Int) (fin_ Γ 0 0 none sh M')) (w_J7_fill_53178_L5 hC ) FU _ _ q6 ?_ : p_J7_fill_53178_L5 Γ sh v0 v1 ((kd_ sh v0).2 : Int) (fin_ Γ 0 0 none sh M') (0, M))
  replace h := u1_s h
  show AW Γ sh tq6 0 0 20 [none, none, none, none] [] _
  cases h
  exact aw_vret hC dJ7_fill_53178_20 (Nat.le_of_ble_eq_true rfl) (Nat.le_of_ble_eq_true rfl)
-- CoinCircle$Ways.begin(LCoinCircle$Circle;I)V
def fX7_begin_L15 (sh : AwS) (v0 : Int) (v1 : Int) (v2 : Int) (v3 : Int) (M : AwM) : Option ((Int × AwM) ⊕ (AwM)) :=
  gd_ (kd_ sh v0 = (0, 7)) ((if v3 < (sl_ (M v0 5) (M v0 5)) then (if v3 < 10240 then gd_ ((kd_ sh (M v0 0)).1 = 1 ∧ (0 : Int) ≤ v3 ∧ v3 < ((kd_ sh (M v0 0)).2 : Int)) (bd_ (up_ M (M v0 0) v3 0) fun (M11 : AwM) => (some (.inl ((w32 (v3 + 1)), M11)))) else some (.inr M)) else some (.inr M)))
def p_X7_begin_L15 (Γ : AwC) (sh : AwS) (v0 : Int) (v1 : Int) (v2 : Int) (Q : State → Prop) (s : Int × AwM) : Prop := AW Γ sh (s.2) 0 0 15 [some (.inr (.inr v0)), some (.inr (.inr v1)), some (.inl v2), some (.inl (s.1)), none] [] Q
def x_X7_begin_L15 (Γ : AwC) (sh : AwS) (v0 : Int) (v1 : Int) (v2 : Int) (Q : State → Prop) : (AwM) → Prop := (fun (t : AwM) => AW Γ sh (t) 0 0 48 [some (.inr (.inr v0)), some (.inr (.inr v1)), some (.inl v2), none, none] [] Q)
def fX7_begin_L74 (sh : AwS) (v0 : Int) (v1 : Int) (v3 : Int) (v4 : Int) (M : AwM) : Option ((Int × AwM) ⊕ (AwM)) :=
  (if v4 < 10 then gd_ (kd_ sh v0 = (0, 7)) (gd_ (kd_ sh v1 = (0, 0)) (pb (fX0_heldBy sh M v1 v4) <| u1 fun (x26 : Int) => (pb (fJ6_bitCount_0f7a4 sh M x26) <| u1 fun (x28 : Int) => ((if v4 = v3 then gd_ ((kd_ sh (M v0 4)).1 = 1 ∧ (0 : Int) ≤ v4 ∧ v4 < ((kd_ sh (M v0 4)).2 : Int)) (bd_ (up_ M (M v0 4) v4 (w32 (x28 + 0))) fun (M34 : AwM) => (some (.inl ((w32 (v4 + 1)), M34)))) else gd_ ((kd_ sh (M v0 4)).1 = 1 ∧ (0 : Int) ≤ v4 ∧ v4 < ((kd_ sh (M v0 4)).2 : Int)) (bd_ (up_ M (M v0 4) v4 (w32 (x28 + 1))) fun (M31 : AwM) => (some (.inl ((w32 (v4 + 1)), M31))))))))) else some (.inr M))
def p_X7_begin_L74 (Γ : AwC) (sh : AwS) (v0 : Int) (v1 : Int) (v3 : Int) (Q : State → Prop) (s : Int × AwM) : Prop := AW Γ sh (s.2) 0 0 74 [some (.inr (.inr v0)), some (.inr (.inr v1)), none, some (.inl v3), some (.inl (s.1))] [] Q
def x_X7_begin_L74 (Γ : AwC) (sh : AwS) (v0 : Int) (v1 : Int) (v3 : Int) (Q : State → Prop) : (AwM) → Prop := (fun (t : AwM) => AW Γ sh (t) 0 0 115 [none, none, none, none, none] [] Q)
def fX7_begin_J48 (sh : AwS) (M : AwM) (v0 : Int) (v1 : Int) (v2 : Int) : Option (AwM) :=
  gd_ (kd_ sh v0 = (0, 7)) (pb (fJ7_fill_53178 sh M (M v0 3) 0) <| u1 fun (M16 : AwM) => (bd_ (up_ M16 v0 2 0) fun (M17 : AwM) => (gd_ (kd_ sh v1 = (0, 0)) (gd_ (kd_ sh (M17 v1 0) = (0, 3)) (gd_ ((kd_ sh (M17 (M17 v1 0) 1)).1 = 1 ∧ (0 : Int) ≤ v2 ∧ v2 < ((kd_ sh (M17 (M17 v1 0) 1)).2 : Int)) (pb (lp (u2 (fX7_begin_L74 sh v0 v1 (M17 (M17 (M17 v1 0) 1) v2))) FU (0, M17)) (u1 (fun (tq36 : AwM) => some tq36))))))))
def fX7_begin (sh : AwS) (M : AwM) (v0 : Int) (v1 : Int) (v2 : Int) : Option (AwM) :=
  gd_ (kd_ sh v1 = (0, 0)) (gd_ (kd_ sh (M v1 1) = (0, 5)) (gd_ ((kd_ sh (M (M v1 1) 0)).1 = 1 ∧ (0 : Int) ≤ 0 ∧ 0 < ((kd_ sh (M (M v1 1) 0)).2 : Int)) (gd_ (kd_ sh v0 = (0, 7)) (bd_ (up_ M v0 5 (M (M (M v1 1) 0) 0)) fun (M5 : AwM) => (pb (lp (u2 (fX7_begin_L15 sh v0 v1 v2)) FU (0, M5)) (u1 (fun (tq13 : AwM) => fX7_begin_J48 sh tq13 v0 v1 v2)))))))
set_option maxRecDepth 100000 in
set_option maxHeartbeats 4000000 in
theorem w_X7_begin_L15 {Γ : AwC} (hC : AOK Γ RX7 cX7_begin 5 3 0 0 "begin" none) {sh : AwS} {v0 : Int} {v1 : Int} {v2 : Int} {Q : State → Prop} : ∀ s r, u2 (fX7_begin_L15 sh v0 v1 v2) s = some r → (∀ s', r = .inl s' → p_X7_begin_L15 Γ sh v0 v1 v2 Q s') → (∀ t, r = .inr t → x_X7_begin_L15 Γ sh v0 v1 v2 Q t) → p_X7_begin_L15 Γ sh v0 v1 v2 Q s := by
  intro s r h hL hX
  obtain ⟨v3, M⟩ := s
  replace h := u2_s h
  unfold fX7_begin_L15 at h
  show AW Γ sh M 0 0 15 [some (.inr (.inr v0)), some (.inr (.inr v1)), some (.inl v2), some (.inl v3), none] [] Q
  refine aw_iload_n (pc' := 16) (i := 3) hC dX7_begin_15 rfl rfl rfl ?_
  refine aw_aload_n (pc' := 17) (i := 0) hC dX7_begin_16 rfl rfl rfl ?_
  obtain ⟨g7, h⟩ := gd_s h
  refine aw_getfield (pc' := 20) (v := (.inl (M v0 5))) hC dX7_begin_17 rfl fl_X7_60 g7 rfl ?_
  refine aw_aload_n (pc' := 21) (i := 0) hC dX7_begin_20 rfl rfl rfl ?_
  refine aw_getfield (pc' := 24) (v := (.inl (M v0 5))) hC dX7_begin_21 rfl fl_X7_60 g7 rfl ?_
  refine aw_ishl (pc' := 25) hC dX7_begin_24 rfl  ?_
  refine aw_icmp_ge (tgt := 48) (pc' := 28) hC dX7_begin_25 (by decide) rfl (fun c8 => ?_) (fun c8 => ?_)
  · replace h := it_n c8 h
    refine aw_sub hC [some (.inr (.inr v0)), some (.inr (.inr v1)), some (.inl v2), none, none] ⟨rfl, ⟨rfl, ⟨rfl, trivial⟩⟩⟩ (Nat.le_of_ble_eq_true rfl) ?_
    cases h
    exact hX _ rfl
  · replace h := it_p c8 h
    refine aw_iload_n (pc' := 29) (i := 3) hC dX7_begin_28 rfl rfl rfl ?_
    refine aw_sipush (pc' := 32) hC dX7_begin_29 rfl (by decide) ?_
    refine aw_icmp_ge (tgt := 48) (pc' := 35) hC dX7_begin_32 (by decide) rfl (fun c9 => ?_) (fun c9 => ?_)
    · replace h := it_n c9 h
      refine aw_sub hC [some (.inr (.inr v0)), some (.inr (.inr v1)), some (.inl v2), none, none] ⟨rfl, ⟨rfl, ⟨rfl, trivial⟩⟩⟩ (Nat.le_of_ble_eq_true rfl) ?_
      cases h
      exact hX _ rfl
    · replace h := it_p c9 h
      refine aw_aload_n (pc' := 36) (i := 0) hC dX7_begin_35 rfl rfl rfl ?_
      refine aw_getfield (pc' := 39) (v := (.inr (.inr (M v0 0)))) hC dX7_begin_36 rfl fl_X7_11 g7 rfl ?_
      refine aw_iload_n (pc' := 40) (i := 3) hC dX7_begin_39 rfl rfl rfl ?_
      refine aw_iconst (pc' := 41) hC dX7_begin_40 rfl (by decide) ?_
      obtain ⟨g10, h⟩ := gd_s h
      obtain ⟨M11, e12, h⟩ := bd_s h
      refine aw_ias (pc' := 42) hC dX7_begin_41 rfl g10 e12 ?_
      refine aw_iinc (pc' := 45) (ls' := [some (.inr (.inr v0)), some (.inr (.inr v1)), some (.inl v2), some (.inl (w32 (v3 + 1))), none]) hC dX7_begin_42 rfl rfl rfl rfl ?_
      refine aw_goto (tgt := 15) hC dX7_begin_45 (by decide) ?_
      refine aw_sub hC [some (.inr (.inr v0)), some (.inr (.inr v1)), some (.inl v2), some (.inl (w32 (v3 + 1))), none] ⟨rfl, ⟨rfl, ⟨rfl, ⟨rfl, trivial⟩⟩⟩⟩ (Nat.le_of_ble_eq_true rfl) ?_
      cases h
      exact hL _ rfl
set_option maxRecDepth 100000 in
set_option maxHeartbeats 4000000 in
theorem w_X7_begin_L74 {Γ : AwC} (hC : AOK Γ RX7 cX7_begin 5 3 0 0 "begin" none) {sh : AwS} {v0 : Int} {v1 : Int} {v3 : Int} {Q : State → Prop} : ∀ s r, u2 (fX7_begin_L74 sh v0 v1 v3) s = some r → (∀ s', r = .inl s' → p_X7_begin_L74 Γ sh v0 v1 v3 Q s') → (∀ t, r = .inr t → x_X7_begin_L74 Γ sh v0 v1 v3 Q t) → p_X7_begin_L74 Γ sh v0 v1 v3 Q s := by
  intro s r h hL hX
  obtain ⟨v4, M⟩ := s
  replace h := u2_s h
  unfold fX7_begin_L74 at h
  show AW Γ sh M 0 0 74 [some (.inr (.inr v0)), some (.inr (.inr v1)), none, some (.inl v3), some (.inl v4)] [] Q
  refine aw_iload (pc' := 76) hC dX7_begin_74 rfl rfl ?_
  refine aw_bipush (pc' := 78) hC dX7_begin_76 rfl (by decide) ?_
  refine aw_icmp_ge (tgt := 115) (pc' := 81) hC dX7_begin_78 (by decide) rfl (fun c22 => ?_) (fun c22 => ?_)
  · replace h := it_n c22 h
    refine aw_sub hC [none, none, none, none, none] trivial (Nat.le_of_ble_eq_true rfl) ?_
    cases h
    exact hX _ rfl
  · replace h := it_p c22 h
    refine aw_aload_n (pc' := 82) (i := 0) hC dX7_begin_81 rfl rfl rfl ?_
    obtain ⟨g23, h⟩ := gd_s h
    refine aw_getfield (pc' := 85) (v := (.inr (.inr (M v0 4)))) hC dX7_begin_82 rfl fl_X7_21 g23 rfl ?_
    refine aw_iload (pc' := 87) hC dX7_begin_85 rfl rfl ?_
    refine aw_aload_n (pc' := 88) (i := 1) hC dX7_begin_87 rfl rfl rfl ?_
    refine aw_iload (pc' := 90) hC dX7_begin_88 rfl rfl ?_
    obtain ⟨g25, h⟩ := gd_s h
    obtain ⟨x26, q24, h⟩ := pb_s h
    replace h := u1_s h
    refine aw_cV (pc' := 93) (k2 := 0) (n2 := 0) (st := [.inl v4, .inr (.inr (M v0 4))]) (stN := [.inl x26, .inl v4, .inr (.inr (M v0 4))]) hC [.inl v4] (mX0_heldBy q24) lk_X7_90 g25 dX7_begin_90 rfl rfl (Nat.le_of_ble_eq_true rfl) (Nat.le_of_ble_eq_true rfl) (Nat.le_of_ble_eq_true rfl) rfl (Nat.le_of_ble_eq_true rfl) rfl rfl rfl ?_
    obtain ⟨x28, q27, h⟩ := pb_s h
    replace h := u1_s h
    refine aw_cS (pc' := 96) (k2 := 0) (n2 := 0) (st := [.inl v4, .inr (.inr (M v0 4))]) (stN := [.inl x28, .inl v4, .inr (.inr (M v0 4))]) hC [.inl x26] (mJ6_bitCount_0f7a4 q27) lk_X7_94 dX7_begin_93 rfl rfl (Nat.le_of_ble_eq_true rfl) (Nat.le_of_ble_eq_true rfl) (Nat.le_of_ble_eq_true rfl) rfl (Nat.le_of_ble_eq_true rfl) rfl rfl rfl ?_
    refine aw_iload (pc' := 98) hC dX7_begin_96 rfl rfl ?_
    refine aw_iload_n (pc' := 99) (i := 3) hC dX7_begin_98 rfl rfl rfl ?_
    refine aw_icmp_ne (tgt := 106) (pc' := 102) hC dX7_begin_99 (by decide) rfl (fun c29 => ?_) (fun c29 => ?_)
    · replace h := it_n c29 h
      refine aw_iconst (pc' := 107) hC dX7_begin_106 rfl (by decide) ?_
      refine aw_iadd (pc' := 108) hC dX7_begin_107 rfl  ?_
      obtain ⟨g30, h⟩ := gd_s h
      obtain ⟨M31, e32, h⟩ := bd_s h
      refine aw_ias (pc' := 109) hC dX7_begin_108 rfl g30 e32 ?_
      refine aw_iinc (pc' := 112) (ls' := [some (.inr (.inr v0)), some (.inr (.inr v1)), none, some (.inl v3), some (.inl (w32 (v4 + 1)))]) hC dX7_begin_109 rfl rfl rfl rfl ?_
      refine aw_goto (tgt := 74) hC dX7_begin_112 (by decide) ?_
      refine aw_sub hC [some (.inr (.inr v0)), some (.inr (.inr v1)), none, some (.inl v3), some (.inl (w32 (v4 + 1)))] ⟨rfl, ⟨rfl, ⟨rfl, ⟨rfl, trivial⟩⟩⟩⟩ (Nat.le_of_ble_eq_true rfl) ?_
      cases h
      exact hL _ rfl
    · replace h := it_p c29 h
      refine aw_iconst (pc' := 103) hC dX7_begin_102 rfl (by decide) ?_
      refine aw_goto (tgt := 107) hC dX7_begin_103 (by decide) ?_
      refine aw_iadd (pc' := 108) hC dX7_begin_107 rfl  ?_
      obtain ⟨g33, h⟩ := gd_s h
      obtain ⟨M34, e35, h⟩ := bd_s h
      refine aw_ias (pc' := 109) hC dX7_begin_108 rfl g33 e35 ?_
      refine aw_iinc (pc' := 112) (ls' := [some (.inr (.inr v0)), some (.inr (.inr v1)), none, some (.inl v3), some (.inl (w32 (v4 + 1)))]) hC dX7_begin_109 rfl rfl rfl rfl ?_
      refine aw_goto (tgt := 74) hC dX7_begin_112 (by decide) ?_
      refine aw_sub hC [some (.inr (.inr v0)), some (.inr (.inr v1)), none, some (.inl v3), some (.inl (w32 (v4 + 1)))] ⟨rfl, ⟨rfl, ⟨rfl, ⟨rfl, trivial⟩⟩⟩⟩ (Nat.le_of_ble_eq_true rfl) ?_
      cases h
      exact hL _ rfl
set_option maxRecDepth 100000 in
set_option maxHeartbeats 4000000 in
theorem w_X7_begin_J48 {Γ : AwC} (hC : AOK Γ RX7 cX7_begin 5 3 0 0 "begin" none) {sh : AwS} {M : AwM} {v0 : Int} {v1 : Int} {v2 : Int} {M' : AwM} (h : fX7_begin_J48 sh M v0 v1 v2 = some M') {Q : State → Prop} (hQ : Q = (fin_ Γ 0 0 none sh M')) : AW Γ sh M 0 0 48 [some (.inr (.inr v0)), some (.inr (.inr v1)), some (.inl v2), none, none] [] Q := by
  unfold fX7_begin_J48 at h
  refine aw_aload_n (pc' := 49) (i := 0) hC dX7_begin_48 rfl rfl rfl ?_
  obtain ⟨g14, h⟩ := gd_s h
  refine aw_getfield (pc' := 52) (v := (.inr (.inr (M v0 3)))) hC dX7_begin_49 rfl fl_X7_18 g14 rfl ?_
  refine aw_iconst (pc' := 53) hC dX7_begin_52 rfl (by decide) ?_
  obtain ⟨M16, q15, h⟩ := pb_s h
  replace h := u1_s h
  refine aw_cS (pc' := 56) (k2 := 0) (n2 := 0) (st := []) (stN := []) hC [.inr (.inr (M v0 3)), .inl 0] (mJ7_fill_53178 q15) lk_X7_84 dX7_begin_53 rfl rfl (Nat.le_of_ble_eq_true rfl) (Nat.le_of_ble_eq_true rfl) (Nat.le_of_ble_eq_true rfl) rfl (Nat.le_of_ble_eq_true rfl) rfl rfl rfl ?_
  refine aw_aload_n (pc' := 57) (i := 0) hC dX7_begin_56 rfl rfl rfl ?_
  refine aw_iconst (pc' := 58) hC dX7_begin_57 rfl (by decide) ?_
  obtain ⟨M17, e18, h⟩ := bd_s h
  refine aw_pf (pc' := 61) hC dX7_begin_58 rfl fp_X7_57 g14 rfl trivial e18 ?_
  refine aw_aload_n (pc' := 62) (i := 1) hC dX7_begin_61 rfl rfl rfl ?_
  obtain ⟨g19, h⟩ := gd_s h
  refine aw_getfield (pc' := 65) (v := (.inr (.inr (M17 v1 0)))) hC dX7_begin_62 rfl fl_X7_35 g19 rfl ?_
  obtain ⟨g20, h⟩ := gd_s h
  refine aw_getfield (pc' := 68) (v := (.inr (.inr (M17 (M17 v1 0) 1)))) hC dX7_begin_65 rfl fl_X7_41 g20 rfl ?_
  refine aw_iload_n (pc' := 69) (i := 2) hC dX7_begin_68 rfl rfl rfl ?_
  obtain ⟨g21, h⟩ := gd_s h
  refine aw_iaload (pc' := 70) hC dX7_begin_69 rfl g21 ?_
  refine aw_istore_n (pc' := 71) (i := 3) (ls' := [some (.inr (.inr v0)), some (.inr (.inr v1)), some (.inl v2), some (.inl (M17 (M17 (M17 v1 0) 1) v2)), none]) hC dX7_begin_70 rfl rfl (Nat.le_of_ble_eq_true rfl) rfl rfl ?_
  refine aw_iconst (pc' := 72) hC dX7_begin_71 rfl (by decide) ?_
  refine aw_istore (pc' := 74) (ls' := [some (.inr (.inr v0)), some (.inr (.inr v1)), some (.inl v2), some (.inl (M17 (M17 (M17 v1 0) 1) v2)), some (.inl 0)]) hC dX7_begin_72 rfl (Nat.le_of_ble_eq_true rfl) rfl rfl ?_
  obtain ⟨tq36, q36, h⟩ := pb_s h
  refine aw_sub hC [some (.inr (.inr v0)), some (.inr (.inr v1)), none, some (.inl (M17 (M17 (M17 v1 0) 1) v2)), some (.inl 0)] ⟨rfl, ⟨rfl, ⟨rfl, ⟨rfl, trivial⟩⟩⟩⟩ (Nat.le_of_ble_eq_true rfl) ?_
  refine (lp_aw (p_X7_begin_L74 Γ sh v0 v1 (M17 (M17 (M17 v1 0) 1) v2) Q) (x_X7_begin_L74 Γ sh v0 v1 (M17 (M17 (M17 v1 0) 1) v2) Q) (w_X7_begin_L74 hC ) FU _ _ q36 ?_ : p_X7_begin_L74 Γ sh v0 v1 (M17 (M17 (M17 v1 0) 1) v2) Q (0, M17))
  replace h := u1_s h
  show AW Γ sh tq36 0 0 115 [none, none, none, none, none] [] _
  cases h
  subst hQ
  exact aw_vret hC dX7_begin_115 (Nat.le_of_ble_eq_true rfl) (Nat.le_of_ble_eq_true rfl)
set_option maxRecDepth 100000 in
set_option maxHeartbeats 4000000 in
theorem mX7_begin {sh : AwS} {M : AwM} {v0 : Int} {v1 : Int} {v2 : Int} {M' : AwM} (h : fX7_begin sh M v0 v1 v2 = some M') : AMet yX7_begin cX7_begin 5 none 3 0 0 [.inr (.inr v0), .inr (.inr v1), .inl v2] sh M none sh M' := by
  refine amet_of (by decide +kernel) (Nat.le_of_ble_eq_true rfl) (fun Γ hC => ?_)
  replace hC : AOK Γ RX7 cX7_begin 5 3 0 0 "begin" none := hC
  unfold fX7_begin at h
  refine aw_sub hC [some (.inr (.inr v0)), some (.inr (.inr v1)), some (.inl v2), none, none] ⟨rfl, ⟨rfl, ⟨rfl, trivial⟩⟩⟩ (Nat.le_of_ble_eq_true rfl) ?_
  refine aw_aload_n (pc' := 1) (i := 0) hC dX7_begin_0 rfl rfl rfl ?_
  refine aw_aload_n (pc' := 2) (i := 1) hC dX7_begin_1 rfl rfl rfl ?_
  obtain ⟨g1, h⟩ := gd_s h
  refine aw_getfield (pc' := 5) (v := (.inr (.inr (M v1 1)))) hC dX7_begin_2 rfl fl_X7_75 g1 rfl ?_
  obtain ⟨g2, h⟩ := gd_s h
  refine aw_getfield (pc' := 8) (v := (.inr (.inr (M (M v1 1) 0)))) hC dX7_begin_5 rfl fl_X7_79 g2 rfl ?_
  refine aw_iconst (pc' := 9) hC dX7_begin_8 rfl (by decide) ?_
  obtain ⟨g3, h⟩ := gd_s h
  refine aw_iaload (pc' := 10) hC dX7_begin_9 rfl g3 ?_
  obtain ⟨g4, h⟩ := gd_s h
  obtain ⟨M5, e6, h⟩ := bd_s h
  refine aw_pf (pc' := 13) hC dX7_begin_10 rfl fp_X7_60 g4 rfl trivial e6 ?_
  refine aw_iconst (pc' := 14) hC dX7_begin_13 rfl (by decide) ?_
  refine aw_istore_n (pc' := 15) (i := 3) (ls' := [some (.inr (.inr v0)), some (.inr (.inr v1)), some (.inl v2), some (.inl 0), none]) hC dX7_begin_14 rfl rfl (Nat.le_of_ble_eq_true rfl) rfl rfl ?_
  obtain ⟨tq13, q13, h⟩ := pb_s h
  refine aw_sub hC [some (.inr (.inr v0)), some (.inr (.inr v1)), some (.inl v2), some (.inl 0), none] ⟨rfl, ⟨rfl, ⟨rfl, ⟨rfl, trivial⟩⟩⟩⟩ (Nat.le_of_ble_eq_true rfl) ?_
  refine (lp_aw (p_X7_begin_L15 Γ sh v0 v1 v2 (fin_ Γ 0 0 none sh M')) (x_X7_begin_L15 Γ sh v0 v1 v2 (fin_ Γ 0 0 none sh M')) (w_X7_begin_L15 hC ) FU _ _ q13 ?_ : p_X7_begin_L15 Γ sh v0 v1 v2 (fin_ Γ 0 0 none sh M') (0, M5))
  replace h := u1_s h
  show AW Γ sh tq13 0 0 48 [some (.inr (.inr v0)), some (.inr (.inr v1)), some (.inl v2), none, none] [] _
  refine aw_sub hC [some (.inr (.inr v0)), some (.inr (.inr v1)), some (.inl v2), none, none] ⟨rfl, ⟨rfl, ⟨rfl, trivial⟩⟩⟩ (Nat.le_of_ble_eq_true rfl) ?_
  exact w_X7_begin_J48 hC h rfl
-- CoinCircle$Ways.stateOf(II)I
def fX7_stateOf (sh : AwS) (M : AwM) (v0 : Int) (v1 : Int) (v2 : Int) : Option Int :=
  gd_ (kd_ sh v0 = (0, 7)) (some (or_ (sl_ v1 (M v0 5)) v2))
set_option maxRecDepth 100000 in
set_option maxHeartbeats 4000000 in
theorem mX7_stateOf {sh : AwS} {M : AwM} {v0 : Int} {v1 : Int} {v2 : Int} {r : Int} (h : fX7_stateOf sh M v0 v1 v2 = some r) : AMet yX7_stateOf cX7_stateOf 3 (some .int) 1 0 0 [.inr (.inr v0), .inl v1, .inl v2] sh M (some (.inl r)) sh M := by
  refine amet_of (by decide +kernel) (Nat.le_of_ble_eq_true rfl) (fun Γ hC => ?_)
  replace hC : AOK Γ RX7 cX7_stateOf 3 1 0 0 "stateOf" (some .int) := hC
  unfold fX7_stateOf at h
  refine aw_sub hC [some (.inr (.inr v0)), some (.inl v1), some (.inl v2)] ⟨rfl, ⟨rfl, ⟨rfl, trivial⟩⟩⟩ (Nat.le_of_ble_eq_true rfl) ?_
  refine aw_iload_n (pc' := 1) (i := 1) hC dX7_stateOf_0 rfl rfl rfl ?_
  refine aw_aload_n (pc' := 2) (i := 0) hC dX7_stateOf_1 rfl rfl rfl ?_
  obtain ⟨g1, h⟩ := gd_s h
  refine aw_getfield (pc' := 5) (v := (.inl (M v0 5))) hC dX7_stateOf_2 rfl fl_X7_60 g1 rfl ?_
  refine aw_ishl (pc' := 6) hC dX7_stateOf_5 rfl  ?_
  refine aw_iload_n (pc' := 7) (i := 2) hC dX7_stateOf_6 rfl rfl rfl ?_
  refine aw_ior (pc' := 8) hC dX7_stateOf_7 rfl  ?_
  cases h
  exact aw_iret hC dX7_stateOf_8 (Nat.le_of_ble_eq_true rfl) (Nat.le_of_ble_eq_true rfl)
-- CoinCircle$Ways.reach(III)V
def fX7_reach (sh : AwS) (M : AwM) (v0 : Int) (v1 : Int) (v2 : Int) (v3 : Int) : Option (AwM) :=
  gd_ (kd_ sh v0 = (0, 7)) (pb (fX7_stateOf sh M v0 v1 v2) <| u1 fun (x3 : Int) => ((if x3 < 0 then some M else (if x3 < 10240 then gd_ ((kd_ sh (M v0 0)).1 = 1 ∧ (0 : Int) ≤ x3 ∧ x3 < ((kd_ sh (M v0 0)).2 : Int)) ((if (M (M v0 0) x3) = 0 then (if (M v0 2) < 10240 then bd_ (up_ M (M v0 0) x3 v3) fun (M9 : AwM) => (gd_ ((kd_ sh (M9 v0 1)).1 = 1 ∧ (0 : Int) ≤ (M9 v0 2) ∧ (M9 v0 2) < ((kd_ sh (M9 v0 1)).2 : Int)) (bd_ (up_ M9 (M9 v0 1) (M9 v0 2) x3) fun (M12 : AwM) => (bd_ (up_ M12 v0 2 (w32 ((M12 v0 2) + 1))) fun (M14 : AwM) => (some M14)))) else some M) else some M)) else some M))))
set_option maxRecDepth 100000 in
set_option maxHeartbeats 4000000 in
theorem mX7_reach {sh : AwS} {M : AwM} {v0 : Int} {v1 : Int} {v2 : Int} {v3 : Int} {M' : AwM} (h : fX7_reach sh M v0 v1 v2 v3 = some M') : AMet yX7_reach cX7_reach 5 none 2 0 0 [.inr (.inr v0), .inl v1, .inl v2, .inl v3] sh M none sh M' := by
  refine amet_of (by decide +kernel) (Nat.le_of_ble_eq_true rfl) (fun Γ hC => ?_)
  replace hC : AOK Γ RX7 cX7_reach 5 2 0 0 "reach" none := hC
  unfold fX7_reach at h
  refine aw_sub hC [some (.inr (.inr v0)), some (.inl v1), some (.inl v2), some (.inl v3), none] ⟨rfl, ⟨rfl, ⟨rfl, ⟨rfl, trivial⟩⟩⟩⟩ (Nat.le_of_ble_eq_true rfl) ?_
  refine aw_aload_n (pc' := 1) (i := 0) hC dX7_reach_0 rfl rfl rfl ?_
  refine aw_iload_n (pc' := 2) (i := 1) hC dX7_reach_1 rfl rfl rfl ?_
  refine aw_iload_n (pc' := 3) (i := 2) hC dX7_reach_2 rfl rfl rfl ?_
  obtain ⟨g2, h⟩ := gd_s h
  obtain ⟨x3, q1, h⟩ := pb_s h
  replace h := u1_s h
  refine aw_cV (pc' := 6) (k2 := 0) (n2 := 0) (st := []) (stN := [.inl x3]) hC [.inl v1, .inl v2] (mX7_stateOf q1) lk_X7_53 g2 dX7_reach_3 rfl rfl (Nat.le_of_ble_eq_true rfl) (Nat.le_of_ble_eq_true rfl) (Nat.le_of_ble_eq_true rfl) rfl (Nat.le_of_ble_eq_true rfl) rfl rfl rfl ?_
  refine aw_istore (pc' := 8) (ls' := [some (.inr (.inr v0)), some (.inl v1), some (.inl v2), some (.inl v3), some (.inl x3)]) hC dX7_reach_6 rfl (Nat.le_of_ble_eq_true rfl) rfl rfl ?_
  refine aw_iload (pc' := 10) hC dX7_reach_8 rfl rfl ?_
  refine aw_if_lt (tgt := 70) (pc' := 13) hC dX7_reach_10 (by decide) rfl (fun c4 => ?_) (fun c4 => ?_)
  · replace h := it_p c4 h
    cases h
    exact aw_vret hC dX7_reach_70 (Nat.le_of_ble_eq_true rfl) (Nat.le_of_ble_eq_true rfl)
  · replace h := it_n c4 h
    refine aw_iload (pc' := 15) hC dX7_reach_13 rfl rfl ?_
    refine aw_sipush (pc' := 18) hC dX7_reach_15 rfl (by decide) ?_
    refine aw_icmp_ge (tgt := 70) (pc' := 21) hC dX7_reach_18 (by decide) rfl (fun c5 => ?_) (fun c5 => ?_)
    · replace h := it_n c5 h
      cases h
      exact aw_vret hC dX7_reach_70 (Nat.le_of_ble_eq_true rfl) (Nat.le_of_ble_eq_true rfl)
    · replace h := it_p c5 h
      refine aw_aload_n (pc' := 22) (i := 0) hC dX7_reach_21 rfl rfl rfl ?_
      refine aw_getfield (pc' := 25) (v := (.inr (.inr (M v0 0)))) hC dX7_reach_22 rfl fl_X7_11 g2 rfl ?_
      refine aw_iload (pc' := 27) hC dX7_reach_25 rfl rfl ?_
      obtain ⟨g6, h⟩ := gd_s h
      refine aw_iaload (pc' := 28) hC dX7_reach_27 rfl g6 ?_
      refine aw_if_ne (tgt := 70) (pc' := 31) hC dX7_reach_28 (by decide) rfl (fun c7 => ?_) (fun c7 => ?_)
      · replace h := it_n c7 h
        cases h
        exact aw_vret hC dX7_reach_70 (Nat.le_of_ble_eq_true rfl) (Nat.le_of_ble_eq_true rfl)
      · replace h := it_p c7 h
        refine aw_aload_n (pc' := 32) (i := 0) hC dX7_reach_31 rfl rfl rfl ?_
        refine aw_getfield (pc' := 35) (v := (.inl (M v0 2))) hC dX7_reach_32 rfl fl_X7_57 g2 rfl ?_
        refine aw_sipush (pc' := 38) hC dX7_reach_35 rfl (by decide) ?_
        refine aw_icmp_ge (tgt := 70) (pc' := 41) hC dX7_reach_38 (by decide) rfl (fun c8 => ?_) (fun c8 => ?_)
        · replace h := it_n c8 h
          cases h
          exact aw_vret hC dX7_reach_70 (Nat.le_of_ble_eq_true rfl) (Nat.le_of_ble_eq_true rfl)
        · replace h := it_p c8 h
          refine aw_aload_n (pc' := 42) (i := 0) hC dX7_reach_41 rfl rfl rfl ?_
          refine aw_getfield (pc' := 45) (v := (.inr (.inr (M v0 0)))) hC dX7_reach_42 rfl fl_X7_11 g2 rfl ?_
          refine aw_iload (pc' := 47) hC dX7_reach_45 rfl rfl ?_
          refine aw_iload_n (pc' := 48) (i := 3) hC dX7_reach_47 rfl rfl rfl ?_
          obtain ⟨M9, e10, h⟩ := bd_s h
          refine aw_ias (pc' := 49) hC dX7_reach_48 rfl g6 e10 ?_
          refine aw_aload_n (pc' := 50) (i := 0) hC dX7_reach_49 rfl rfl rfl ?_
          refine aw_getfield (pc' := 53) (v := (.inr (.inr (M9 v0 1)))) hC dX7_reach_50 rfl fl_X7_15 g2 rfl ?_
          refine aw_aload_n (pc' := 54) (i := 0) hC dX7_reach_53 rfl rfl rfl ?_
          refine aw_getfield (pc' := 57) (v := (.inl (M9 v0 2))) hC dX7_reach_54 rfl fl_X7_57 g2 rfl ?_
          refine aw_iload (pc' := 59) hC dX7_reach_57 rfl rfl ?_
          obtain ⟨g11, h⟩ := gd_s h
          obtain ⟨M12, e13, h⟩ := bd_s h
          refine aw_ias (pc' := 60) hC dX7_reach_59 rfl g11 e13 ?_
          refine aw_aload_n (pc' := 61) (i := 0) hC dX7_reach_60 rfl rfl rfl ?_
          refine aw_dup (pc' := 62) hC dX7_reach_61 rfl rfl ?_
          refine aw_getfield (pc' := 65) (v := (.inl (M12 v0 2))) hC dX7_reach_62 rfl fl_X7_57 g2 rfl ?_
          refine aw_iconst (pc' := 66) hC dX7_reach_65 rfl (by decide) ?_
          refine aw_iadd (pc' := 67) hC dX7_reach_66 rfl  ?_
          obtain ⟨M14, e15, h⟩ := bd_s h
          refine aw_pf (pc' := 70) hC dX7_reach_67 rfl fp_X7_57 g2 rfl trivial e15 ?_
          cases h
          exact aw_vret hC dX7_reach_70 (Nat.le_of_ble_eq_true rfl) (Nat.le_of_ble_eq_true rfl)
-- CoinCircle$Ways.payFrom(III)I
def fX7_payFrom_L32 (sh : AwS) (v0 : Int) (v1 : Int) (v2 : Int) (v4 : Int) (M : AwM) : Option ((Int × AwM) ⊕ (AwM)) :=
  gd_ (kd_ sh v0 = (0, 7)) ((if v4 < (M v0 5) then (if v4 = v1 then some (.inl ((w32 (v4 + 1)), M)) else pb (fX8_isIn sh M v2 v4) <| u1 fun (x8 : Int) => ((if x8 = 0 then some (.inl ((w32 (v4 + 1)), M)) else pb (fX7_reach sh M v0 v4 v2 (w32 ((w32 (1 + v4)) + (w32 (20 * v1))))) <| u1 fun (M11 : AwM) => (some (.inl ((w32 (v4 + 1)), M11)))))) else some (.inr M)))
def p_X7_payFrom_L32 (Γ : AwC) (sh : AwS) (v0 : Int) (v1 : Int) (v2 : Int) (Q : State → Prop) (s : Int × AwM) : Prop := AW Γ sh (s.2) 0 0 32 [some (.inr (.inr v0)), some (.inl v1), some (.inl v2), none, some (.inl (s.1))] [] Q
def x_X7_payFrom_L32 (Γ : AwC) (sh : AwS) (v0 : Int) (v1 : Int) (v2 : Int) (Q : State → Prop) : (AwM) → Prop := (fun (t : AwM) => AW Γ sh (t) 0 0 78 [none, none, none, none, none] [] Q)
def fX7_payFrom (sh : AwS) (M : AwM) (v0 : Int) (v1 : Int) (v2 : Int) (v3 : Int) : Option (Int × AwM) :=
  pb (fX8_isIn sh M v2 v3) <| u1 fun (x2 : Int) => ((if x2 = 0 then pb (lp (u2 (fX7_payFrom_L32 sh v0 v1 v2)) FU (0, M)) (u1 (fun (tq12 : AwM) => some ((-1), tq12))) else gd_ (kd_ sh v0 = (0, 7)) (pb (fX7_reach sh M v0 v3 v2 (w32 ((w32 (1 + v3)) + (w32 (20 * v1))))) <| u1 fun (M15 : AwM) => (pb (fX7_stateOf sh M15 v0 v3 v2) <| u1 fun (x17 : Int) => (some (x17, M15))))))
set_option maxRecDepth 100000 in
set_option maxHeartbeats 4000000 in
theorem w_X7_payFrom_L32 {Γ : AwC} (hC : AOK Γ RX7 cX7_payFrom 5 3 0 0 "payFrom" (some .int)) {sh : AwS} {v0 : Int} {v1 : Int} {v2 : Int} {Q : State → Prop} : ∀ s r, u2 (fX7_payFrom_L32 sh v0 v1 v2) s = some r → (∀ s', r = .inl s' → p_X7_payFrom_L32 Γ sh v0 v1 v2 Q s') → (∀ t, r = .inr t → x_X7_payFrom_L32 Γ sh v0 v1 v2 Q t) → p_X7_payFrom_L32 Γ sh v0 v1 v2 Q s := by
  intro s r h hL hX
  obtain ⟨v4, M⟩ := s
  replace h := u2_s h
  unfold fX7_payFrom_L32 at h
  show AW Γ sh M 0 0 32 [some (.inr (.inr v0)), some (.inl v1), some (.inl v2), none, some (.inl v4)] [] Q
  refine aw_iload (pc' := 34) hC dX7_payFrom_32 rfl rfl ?_
  refine aw_aload_n (pc' := 35) (i := 0) hC dX7_payFrom_34 rfl rfl rfl ?_
  obtain ⟨g4, h⟩ := gd_s h
  refine aw_getfield (pc' := 38) (v := (.inl (M v0 5))) hC dX7_payFrom_35 rfl fl_X7_60 g4 rfl ?_
  refine aw_icmp_ge (tgt := 78) (pc' := 41) hC dX7_payFrom_38 (by decide) rfl (fun c5 => ?_) (fun c5 => ?_)
  · replace h := it_n c5 h
    refine aw_sub hC [none, none, none, none, none] trivial (Nat.le_of_ble_eq_true rfl) ?_
    cases h
    exact hX _ rfl
  · replace h := it_p c5 h
    refine aw_iload (pc' := 43) hC dX7_payFrom_41 rfl rfl ?_
    refine aw_iload_n (pc' := 44) (i := 1) hC dX7_payFrom_43 rfl rfl rfl ?_
    refine aw_icmp_eq (tgt := 72) (pc' := 47) hC dX7_payFrom_44 (by decide) rfl (fun c6 => ?_) (fun c6 => ?_)
    · replace h := it_p c6 h
      refine aw_iinc (pc' := 75) (ls' := [some (.inr (.inr v0)), some (.inl v1), some (.inl v2), none, some (.inl (w32 (v4 + 1)))]) hC dX7_payFrom_72 rfl rfl rfl rfl ?_
      refine aw_goto (tgt := 32) hC dX7_payFrom_75 (by decide) ?_
      refine aw_sub hC [some (.inr (.inr v0)), some (.inl v1), some (.inl v2), none, some (.inl (w32 (v4 + 1)))] ⟨rfl, ⟨rfl, ⟨rfl, ⟨rfl, trivial⟩⟩⟩⟩ (Nat.le_of_ble_eq_true rfl) ?_
      cases h
      exact hL _ rfl
    · replace h := it_n c6 h
      refine aw_iload_n (pc' := 48) (i := 2) hC dX7_payFrom_47 rfl rfl rfl ?_
      refine aw_iload (pc' := 50) hC dX7_payFrom_48 rfl rfl ?_
      obtain ⟨x8, q7, h⟩ := pb_s h
      replace h := u1_s h
      refine aw_cSN (pc' := 53) (k2 := 0) (n2 := 0) (st := []) (stN := [.inl x8]) hC [.inl v2, .inl v4] (mX8_isIn q7) lk_X7_99 dX7_payFrom_50 rfl rfl (Nat.le_of_ble_eq_true rfl) (Nat.le_of_ble_eq_true rfl) (Nat.le_of_ble_eq_true rfl) rfl (Nat.le_of_ble_eq_true rfl) rfl rfl rfl ?_
      refine aw_if_eq (tgt := 72) (pc' := 56) hC dX7_payFrom_53 (by decide) rfl (fun c9 => ?_) (fun c9 => ?_)
      · replace h := it_p c9 h
        refine aw_iinc (pc' := 75) (ls' := [some (.inr (.inr v0)), some (.inl v1), some (.inl v2), none, some (.inl (w32 (v4 + 1)))]) hC dX7_payFrom_72 rfl rfl rfl rfl ?_
        refine aw_goto (tgt := 32) hC dX7_payFrom_75 (by decide) ?_
        refine aw_sub hC [some (.inr (.inr v0)), some (.inl v1), some (.inl v2), none, some (.inl (w32 (v4 + 1)))] ⟨rfl, ⟨rfl, ⟨rfl, ⟨rfl, trivial⟩⟩⟩⟩ (Nat.le_of_ble_eq_true rfl) ?_
        cases h
        exact hL _ rfl
      · replace h := it_n c9 h
        refine aw_aload_n (pc' := 57) (i := 0) hC dX7_payFrom_56 rfl rfl rfl ?_
        refine aw_iload (pc' := 59) hC dX7_payFrom_57 rfl rfl ?_
        refine aw_iload_n (pc' := 60) (i := 2) hC dX7_payFrom_59 rfl rfl rfl ?_
        refine aw_iconst (pc' := 61) hC dX7_payFrom_60 rfl (by decide) ?_
        refine aw_iload (pc' := 63) hC dX7_payFrom_61 rfl rfl ?_
        refine aw_iadd (pc' := 64) hC dX7_payFrom_63 rfl  ?_
        refine aw_bipush (pc' := 66) hC dX7_payFrom_64 rfl (by decide) ?_
        refine aw_iload_n (pc' := 67) (i := 1) hC dX7_payFrom_66 rfl rfl rfl ?_
        refine aw_imul (pc' := 68) hC dX7_payFrom_67 rfl  ?_
        refine aw_iadd (pc' := 69) hC dX7_payFrom_68 rfl  ?_
        obtain ⟨M11, q10, h⟩ := pb_s h
        replace h := u1_s h
        refine aw_cV (pc' := 72) (k2 := 0) (n2 := 0) (st := []) (stN := []) hC [.inl v4, .inl v2, .inl (w32 ((w32 (1 + v4)) + (w32 (20 * v1))))] (mX7_reach q10) lk_X7_49 g4 dX7_payFrom_69 rfl rfl (Nat.le_of_ble_eq_true rfl) (Nat.le_of_ble_eq_true rfl) (Nat.le_of_ble_eq_true rfl) rfl (Nat.le_of_ble_eq_true rfl) rfl rfl rfl ?_
        refine aw_iinc (pc' := 75) (ls' := [some (.inr (.inr v0)), some (.inl v1), some (.inl v2), none, some (.inl (w32 (v4 + 1)))]) hC dX7_payFrom_72 rfl rfl rfl rfl ?_
        refine aw_goto (tgt := 32) hC dX7_payFrom_75 (by decide) ?_
        refine aw_sub hC [some (.inr (.inr v0)), some (.inl v1), some (.inl v2), none, some (.inl (w32 (v4 + 1)))] ⟨rfl, ⟨rfl, ⟨rfl, ⟨rfl, trivial⟩⟩⟩⟩ (Nat.le_of_ble_eq_true rfl) ?_
        cases h
        exact hL _ rfl
set_option maxRecDepth 100000 in
set_option maxHeartbeats 4000000 in
theorem mX7_payFrom {sh : AwS} {M : AwM} {v0 : Int} {v1 : Int} {v2 : Int} {v3 : Int} {r : Int} {M' : AwM} (h : fX7_payFrom sh M v0 v1 v2 v3 = some (r, M')) : AMet yX7_payFrom cX7_payFrom 5 (some .int) 3 0 0 [.inr (.inr v0), .inl v1, .inl v2, .inl v3] sh M (some (.inl r)) sh M' := by
  refine amet_of (by decide +kernel) (Nat.le_of_ble_eq_true rfl) (fun Γ hC => ?_)
  replace hC : AOK Γ RX7 cX7_payFrom 5 3 0 0 "payFrom" (some .int) := hC
  unfold fX7_payFrom at h
  refine aw_sub hC [some (.inr (.inr v0)), some (.inl v1), some (.inl v2), some (.inl v3), none] ⟨rfl, ⟨rfl, ⟨rfl, ⟨rfl, trivial⟩⟩⟩⟩ (Nat.le_of_ble_eq_true rfl) ?_
  refine aw_iload_n (pc' := 1) (i := 2) hC dX7_payFrom_0 rfl rfl rfl ?_
  refine aw_iload_n (pc' := 2) (i := 3) hC dX7_payFrom_1 rfl rfl rfl ?_
  obtain ⟨x2, q1, h⟩ := pb_s h
  replace h := u1_s h
  refine aw_cSN (pc' := 5) (k2 := 0) (n2 := 0) (st := []) (stN := [.inl x2]) hC [.inl v2, .inl v3] (mX8_isIn q1) lk_X7_99 dX7_payFrom_2 rfl rfl (Nat.le_of_ble_eq_true rfl) (Nat.le_of_ble_eq_true rfl) (Nat.le_of_ble_eq_true rfl) rfl (Nat.le_of_ble_eq_true rfl) rfl rfl rfl ?_
  refine aw_if_eq (tgt := 29) (pc' := 8) hC dX7_payFrom_5 (by decide) rfl (fun c3 => ?_) (fun c3 => ?_)
  · replace h := it_p c3 h
    refine aw_iconst (pc' := 30) hC dX7_payFrom_29 rfl (by decide) ?_
    refine aw_istore (pc' := 32) (ls' := [some (.inr (.inr v0)), some (.inl v1), some (.inl v2), some (.inl v3), some (.inl 0)]) hC dX7_payFrom_30 rfl (Nat.le_of_ble_eq_true rfl) rfl rfl ?_
    obtain ⟨tq12, q12, h⟩ := pb_s h
    refine aw_sub hC [some (.inr (.inr v0)), some (.inl v1), some (.inl v2), none, some (.inl 0)] ⟨rfl, ⟨rfl, ⟨rfl, ⟨rfl, trivial⟩⟩⟩⟩ (Nat.le_of_ble_eq_true rfl) ?_
    refine (lp_aw (p_X7_payFrom_L32 Γ sh v0 v1 v2 (fin_ Γ 0 0 (some (.inl r)) sh M')) (x_X7_payFrom_L32 Γ sh v0 v1 v2 (fin_ Γ 0 0 (some (.inl r)) sh M')) (w_X7_payFrom_L32 hC ) FU _ _ q12 ?_ : p_X7_payFrom_L32 Γ sh v0 v1 v2 (fin_ Γ 0 0 (some (.inl r)) sh M') (0, M))
    replace h := u1_s h
    show AW Γ sh tq12 0 0 78 [none, none, none, none, none] [] _
    refine aw_iconst (pc' := 79) hC dX7_payFrom_78 rfl (by decide) ?_
    cases h
    exact aw_iret hC dX7_payFrom_79 (Nat.le_of_ble_eq_true rfl) (Nat.le_of_ble_eq_true rfl)
  · replace h := it_n c3 h
    refine aw_aload_n (pc' := 9) (i := 0) hC dX7_payFrom_8 rfl rfl rfl ?_
    refine aw_iload_n (pc' := 10) (i := 3) hC dX7_payFrom_9 rfl rfl rfl ?_
    refine aw_iload_n (pc' := 11) (i := 2) hC dX7_payFrom_10 rfl rfl rfl ?_
    refine aw_iconst (pc' := 12) hC dX7_payFrom_11 rfl (by decide) ?_
    refine aw_iload_n (pc' := 13) (i := 3) hC dX7_payFrom_12 rfl rfl rfl ?_
    refine aw_iadd (pc' := 14) hC dX7_payFrom_13 rfl  ?_
    refine aw_bipush (pc' := 16) hC dX7_payFrom_14 rfl (by decide) ?_
    refine aw_iload_n (pc' := 17) (i := 1) hC dX7_payFrom_16 rfl rfl rfl ?_
    refine aw_imul (pc' := 18) hC dX7_payFrom_17 rfl  ?_
    refine aw_iadd (pc' := 19) hC dX7_payFrom_18 rfl  ?_
    obtain ⟨g14, h⟩ := gd_s h
    obtain ⟨M15, q13, h⟩ := pb_s h
    replace h := u1_s h
    refine aw_cV (pc' := 22) (k2 := 0) (n2 := 0) (st := []) (stN := []) hC [.inl v3, .inl v2, .inl (w32 ((w32 (1 + v3)) + (w32 (20 * v1))))] (mX7_reach q13) lk_X7_49 g14 dX7_payFrom_19 rfl rfl (Nat.le_of_ble_eq_true rfl) (Nat.le_of_ble_eq_true rfl) (Nat.le_of_ble_eq_true rfl) rfl (Nat.le_of_ble_eq_true rfl) rfl rfl rfl ?_
    refine aw_aload_n (pc' := 23) (i := 0) hC dX7_payFrom_22 rfl rfl rfl ?_
    refine aw_iload_n (pc' := 24) (i := 3) hC dX7_payFrom_23 rfl rfl rfl ?_
    refine aw_iload_n (pc' := 25) (i := 2) hC dX7_payFrom_24 rfl rfl rfl ?_
    obtain ⟨x17, q16, h⟩ := pb_s h
    replace h := u1_s h
    refine aw_cV (pc' := 28) (k2 := 0) (n2 := 0) (st := []) (stN := [.inl x17]) hC [.inl v3, .inl v2] (mX7_stateOf q16) lk_X7_53 g14 dX7_payFrom_25 rfl rfl (Nat.le_of_ble_eq_true rfl) (Nat.le_of_ble_eq_true rfl) (Nat.le_of_ble_eq_true rfl) rfl (Nat.le_of_ble_eq_true rfl) rfl rfl rfl ?_
    cases h
    exact aw_iret hC dX7_payFrom_28 (Nat.le_of_ble_eq_true rfl) (Nat.le_of_ble_eq_true rfl)
-- CoinCircle$Ways.testHolds(LCoinCircle$Circle;IIII)Z
def fX7_testHolds (sh : AwS) (M : AwM) (v0 : Int) (v1 : Int) (v2 : Int) (v3 : Int) (v4 : Int) (v5 : Int) : Option (Int × AwM) :=
  bd_ ((w32 ((w32 ((w32 ((w32 ((w32 (v3 * 10)) + v4)) * 10)) + v5)) - 1))) fun (x1 : Int) => ((if x1 < 0 then some (0, M) else gd_ (kd_ sh v0 = (0, 7)) (gd_ (1 ≤ (kd_ sh (M v0 3)).1 ∧ (kd_ sh (M v0 3)).1 ≤ 5 ∧ (kd_ sh (M v0 3)).2 ≤ 2147483647) ((if x1 < ((kd_ sh (M v0 3)).2 : Int) then gd_ ((kd_ sh (M v0 3)).1 = 1 ∧ (0 : Int) ≤ x1 ∧ x1 < ((kd_ sh (M v0 3)).2 : Int)) ((if (M (M v0 3) x1) = 0 then gd_ ((kd_ sh (M v0 4)).1 = 1 ∧ (0 : Int) ≤ v3 ∧ v3 < ((kd_ sh (M v0 4)).2 : Int)) (gd_ (kd_ sh v1 = (0, 0)) (pb (fX0_testWouldHold sh M v1 v2 v3 v4 v5 (M (M v0 4) v3)) <| u2 fun (x13 : Int) (M14 : AwM) => ((if x13 = 0 then bd_ (up_ M14 (M v0 3) x1 2) fun (M16 : AwM) => (gd_ ((kd_ sh (M16 v0 3)).1 = 1 ∧ (0 : Int) ≤ x1 ∧ x1 < ((kd_ sh (M16 v0 3)).2 : Int)) ((if (M16 (M16 v0 3) x1) = 1 then some (1, M16) else some (0, M16)))) else bd_ (up_ M14 (M v0 3) x1 1) fun (M20 : AwM) => (gd_ ((kd_ sh (M20 v0 3)).1 = 1 ∧ (0 : Int) ≤ x1 ∧ x1 < ((kd_ sh (M20 v0 3)).2 : Int)) ((if (M20 (M20 v0 3) x1) = 1 then some (1, M20) else some (0, M20)))))))) else (if (M (M v0 3) x1) = 1 then some (1, M) else some (0, M)))) else some (0, M))))))
set_option maxRecDepth 100000 in
set_option maxHeartbeats 4000000 in
theorem mX7_testHolds {sh : AwS} {M : AwM} {v0 : Int} {v1 : Int} {v2 : Int} {v3 : Int} {v4 : Int} {v5 : Int} {r : Int} {M' : AwM} (h : fX7_testHolds sh M v0 v1 v2 v3 v4 v5 = some (r, M')) : AMet yX7_testHolds cX7_testHolds 7 (some .boolean) 5 0 0 [.inr (.inr v0), .inr (.inr v1), .inl v2, .inl v3, .inl v4, .inl v5] sh M (some (.inl r)) sh M' := by
  refine amet_of (by decide +kernel) (Nat.le_of_ble_eq_true rfl) (fun Γ hC => ?_)
  replace hC : AOK Γ RX7 cX7_testHolds 7 5 0 0 "testHolds" (some .boolean) := hC
  unfold fX7_testHolds at h
  refine aw_sub hC [some (.inr (.inr v0)), some (.inr (.inr v1)), some (.inl v2), some (.inl v3), some (.inl v4), some (.inl v5), none] ⟨rfl, ⟨rfl, ⟨rfl, ⟨rfl, ⟨rfl, ⟨rfl, trivial⟩⟩⟩⟩⟩⟩ (Nat.le_of_ble_eq_true rfl) ?_
  refine aw_iload_n (pc' := 1) (i := 3) hC dX7_testHolds_0 rfl rfl rfl ?_
  refine aw_bipush (pc' := 3) hC dX7_testHolds_1 rfl (by decide) ?_
  refine aw_imul (pc' := 4) hC dX7_testHolds_3 rfl  ?_
  refine aw_iload (pc' := 6) hC dX7_testHolds_4 rfl rfl ?_
  refine aw_iadd (pc' := 7) hC dX7_testHolds_6 rfl  ?_
  refine aw_bipush (pc' := 9) hC dX7_testHolds_7 rfl (by decide) ?_
  refine aw_imul (pc' := 10) hC dX7_testHolds_9 rfl  ?_
  refine aw_iload (pc' := 12) hC dX7_testHolds_10 rfl rfl ?_
  refine aw_iadd (pc' := 13) hC dX7_testHolds_12 rfl  ?_
  refine aw_iconst (pc' := 14) hC dX7_testHolds_13 rfl (by decide) ?_
  refine aw_isub (pc' := 15) hC dX7_testHolds_14 rfl  ?_
  obtain ⟨x1, e2, h⟩ := bd_s h
  refine aw_reni e2 ?_
  refine aw_istore (pc' := 17) (ls' := [some (.inr (.inr v0)), some (.inr (.inr v1)), some (.inl v2), some (.inl v3), some (.inl v4), some (.inl v5), some (.inl x1)]) hC dX7_testHolds_15 rfl (Nat.le_of_ble_eq_true rfl) rfl rfl ?_
  refine aw_iload (pc' := 19) hC dX7_testHolds_17 rfl rfl ?_
  refine aw_if_lt (tgt := 32) (pc' := 22) hC dX7_testHolds_19 (by decide) rfl (fun c3 => ?_) (fun c3 => ?_)
  · replace h := it_p c3 h
    refine aw_iconst (pc' := 33) hC dX7_testHolds_32 rfl (by decide) ?_
    cases h
    exact aw_zret hC (Or.inl rfl) dX7_testHolds_33 (Nat.le_of_ble_eq_true rfl) (Nat.le_of_ble_eq_true rfl)
  · replace h := it_n c3 h
    refine aw_iload (pc' := 24) hC dX7_testHolds_22 rfl rfl ?_
    refine aw_aload_n (pc' := 25) (i := 0) hC dX7_testHolds_24 rfl rfl rfl ?_
    obtain ⟨g4, h⟩ := gd_s h
    refine aw_getfield (pc' := 28) (v := (.inr (.inr (M v0 3)))) hC dX7_testHolds_25 rfl fl_X7_18 g4 rfl ?_
    obtain ⟨g5, h⟩ := gd_s h
    refine aw_alen (pc' := 29) (v := ((kd_ sh (M v0 3)).2 : Int)) hC dX7_testHolds_28 rfl g5 rfl ?_
    refine aw_icmp_lt (tgt := 34) (pc' := 32) hC dX7_testHolds_29 (by decide) rfl (fun c6 => ?_) (fun c6 => ?_)
    · replace h := it_p c6 h
      refine aw_aload_n (pc' := 35) (i := 0) hC dX7_testHolds_34 rfl rfl rfl ?_
      refine aw_getfield (pc' := 38) (v := (.inr (.inr (M v0 3)))) hC dX7_testHolds_35 rfl fl_X7_18 g4 rfl ?_
      refine aw_iload (pc' := 40) hC dX7_testHolds_38 rfl rfl ?_
      obtain ⟨g7, h⟩ := gd_s h
      refine aw_iaload (pc' := 41) hC dX7_testHolds_40 rfl g7 ?_
      refine aw_if_ne (tgt := 75) (pc' := 44) hC dX7_testHolds_41 (by decide) rfl (fun c8 => ?_) (fun c8 => ?_)
      · replace h := it_n c8 h
        refine aw_aload_n (pc' := 76) (i := 0) hC dX7_testHolds_75 rfl rfl rfl ?_
        refine aw_getfield (pc' := 79) (v := (.inr (.inr (M v0 3)))) hC dX7_testHolds_76 rfl fl_X7_18 g4 rfl ?_
        refine aw_iload (pc' := 81) hC dX7_testHolds_79 rfl rfl ?_
        refine aw_iaload (pc' := 82) hC dX7_testHolds_81 rfl g7 ?_
        refine aw_iconst (pc' := 83) hC dX7_testHolds_82 rfl (by decide) ?_
        refine aw_icmp_ne (tgt := 90) (pc' := 86) hC dX7_testHolds_83 (by decide) rfl (fun c9 => ?_) (fun c9 => ?_)
        · replace h := it_n c9 h
          refine aw_iconst (pc' := 91) hC dX7_testHolds_90 rfl (by decide) ?_
          cases h
          exact aw_zret hC (Or.inl rfl) dX7_testHolds_91 (Nat.le_of_ble_eq_true rfl) (Nat.le_of_ble_eq_true rfl)
        · replace h := it_p c9 h
          refine aw_iconst (pc' := 87) hC dX7_testHolds_86 rfl (by decide) ?_
          refine aw_goto (tgt := 91) hC dX7_testHolds_87 (by decide) ?_
          cases h
          exact aw_zret hC (Or.inr rfl) dX7_testHolds_91 (Nat.le_of_ble_eq_true rfl) (Nat.le_of_ble_eq_true rfl)
      · replace h := it_p c8 h
        refine aw_aload_n (pc' := 45) (i := 0) hC dX7_testHolds_44 rfl rfl rfl ?_
        refine aw_getfield (pc' := 48) (v := (.inr (.inr (M v0 3)))) hC dX7_testHolds_45 rfl fl_X7_18 g4 rfl ?_
        refine aw_iload (pc' := 50) hC dX7_testHolds_48 rfl rfl ?_
        refine aw_aload_n (pc' := 51) (i := 1) hC dX7_testHolds_50 rfl rfl rfl ?_
        refine aw_iload_n (pc' := 52) (i := 2) hC dX7_testHolds_51 rfl rfl rfl ?_
        refine aw_iload_n (pc' := 53) (i := 3) hC dX7_testHolds_52 rfl rfl rfl ?_
        refine aw_iload (pc' := 55) hC dX7_testHolds_53 rfl rfl ?_
        refine aw_iload (pc' := 57) hC dX7_testHolds_55 rfl rfl ?_
        refine aw_aload_n (pc' := 58) (i := 0) hC dX7_testHolds_57 rfl rfl rfl ?_
        refine aw_getfield (pc' := 61) (v := (.inr (.inr (M v0 4)))) hC dX7_testHolds_58 rfl fl_X7_21 g4 rfl ?_
        refine aw_iload_n (pc' := 62) (i := 3) hC dX7_testHolds_61 rfl rfl rfl ?_
        obtain ⟨g10, h⟩ := gd_s h
        refine aw_iaload (pc' := 63) hC dX7_testHolds_62 rfl g10 ?_
        obtain ⟨g12, h⟩ := gd_s h
        obtain ⟨⟨x13, M14⟩, q11, h⟩ := pb_s h
        replace h := u2_s h
        refine aw_cV (pc' := 66) (k2 := 0) (n2 := 0) (st := [.inl x1, .inr (.inr (M v0 3))]) (stN := [.inl x13, .inl x1, .inr (.inr (M v0 3))]) hC [.inl v2, .inl v3, .inl v4, .inl v5, .inl (M (M v0 4) v3)] (mX0_testWouldHold q11) lk_X7_110 g12 dX7_testHolds_63 rfl rfl (Nat.le_of_ble_eq_true rfl) (Nat.le_of_ble_eq_true rfl) (Nat.le_of_ble_eq_true rfl) rfl (Nat.le_of_ble_eq_true rfl) rfl rfl rfl ?_
        refine aw_if_eq (tgt := 73) (pc' := 69) hC dX7_testHolds_66 (by decide) rfl (fun c15 => ?_) (fun c15 => ?_)
        · replace h := it_p c15 h
          refine aw_iconst (pc' := 74) hC dX7_testHolds_73 rfl (by decide) ?_
          obtain ⟨M16, e17, h⟩ := bd_s h
          refine aw_ias (pc' := 75) hC dX7_testHolds_74 rfl g7 e17 ?_
          refine aw_aload_n (pc' := 76) (i := 0) hC dX7_testHolds_75 rfl rfl rfl ?_
          refine aw_getfield (pc' := 79) (v := (.inr (.inr (M16 v0 3)))) hC dX7_testHolds_76 rfl fl_X7_18 g4 rfl ?_
          refine aw_iload (pc' := 81) hC dX7_testHolds_79 rfl rfl ?_
          obtain ⟨g18, h⟩ := gd_s h
          refine aw_iaload (pc' := 82) hC dX7_testHolds_81 rfl g18 ?_
          refine aw_iconst (pc' := 83) hC dX7_testHolds_82 rfl (by decide) ?_
          refine aw_icmp_ne (tgt := 90) (pc' := 86) hC dX7_testHolds_83 (by decide) rfl (fun c19 => ?_) (fun c19 => ?_)
          · replace h := it_n c19 h
            refine aw_iconst (pc' := 91) hC dX7_testHolds_90 rfl (by decide) ?_
            cases h
            exact aw_zret hC (Or.inl rfl) dX7_testHolds_91 (Nat.le_of_ble_eq_true rfl) (Nat.le_of_ble_eq_true rfl)
          · replace h := it_p c19 h
            refine aw_iconst (pc' := 87) hC dX7_testHolds_86 rfl (by decide) ?_
            refine aw_goto (tgt := 91) hC dX7_testHolds_87 (by decide) ?_
            cases h
            exact aw_zret hC (Or.inr rfl) dX7_testHolds_91 (Nat.le_of_ble_eq_true rfl) (Nat.le_of_ble_eq_true rfl)
        · replace h := it_n c15 h
          refine aw_iconst (pc' := 70) hC dX7_testHolds_69 rfl (by decide) ?_
          refine aw_goto (tgt := 74) hC dX7_testHolds_70 (by decide) ?_
          obtain ⟨M20, e21, h⟩ := bd_s h
          refine aw_ias (pc' := 75) hC dX7_testHolds_74 rfl g7 e21 ?_
          refine aw_aload_n (pc' := 76) (i := 0) hC dX7_testHolds_75 rfl rfl rfl ?_
          refine aw_getfield (pc' := 79) (v := (.inr (.inr (M20 v0 3)))) hC dX7_testHolds_76 rfl fl_X7_18 g4 rfl ?_
          refine aw_iload (pc' := 81) hC dX7_testHolds_79 rfl rfl ?_
          obtain ⟨g22, h⟩ := gd_s h
          refine aw_iaload (pc' := 82) hC dX7_testHolds_81 rfl g22 ?_
          refine aw_iconst (pc' := 83) hC dX7_testHolds_82 rfl (by decide) ?_
          refine aw_icmp_ne (tgt := 90) (pc' := 86) hC dX7_testHolds_83 (by decide) rfl (fun c23 => ?_) (fun c23 => ?_)
          · replace h := it_n c23 h
            refine aw_iconst (pc' := 91) hC dX7_testHolds_90 rfl (by decide) ?_
            cases h
            exact aw_zret hC (Or.inl rfl) dX7_testHolds_91 (Nat.le_of_ble_eq_true rfl) (Nat.le_of_ble_eq_true rfl)
          · replace h := it_p c23 h
            refine aw_iconst (pc' := 87) hC dX7_testHolds_86 rfl (by decide) ?_
            refine aw_goto (tgt := 91) hC dX7_testHolds_87 (by decide) ?_
            cases h
            exact aw_zret hC (Or.inr rfl) dX7_testHolds_91 (Nat.le_of_ble_eq_true rfl) (Nat.le_of_ble_eq_true rfl)
    · replace h := it_n c6 h
      refine aw_iconst (pc' := 33) hC dX7_testHolds_32 rfl (by decide) ?_
      cases h
      exact aw_zret hC (Or.inl rfl) dX7_testHolds_33 (Nat.le_of_ble_eq_true rfl) (Nat.le_of_ble_eq_true rfl)
-- CoinCircle$Ways.presentFrom(LCoinCircle$Circle;II)V
def fX7_presentFrom_L37 (sh : AwS) (v0 : Int) (v1 : Int) (v2 : Int) (v4 : Int) (v5 : Int) (v6 : Int) (v7 : Int) (M : AwM) : Option ((Int × AwM) ⊕ (AwM)) :=
  gd_ (kd_ sh v0 = (0, 7)) ((if v7 < (M v0 5) then pb (fX8_isIn sh M v6 v7) <| u1 fun (x10 : Int) => ((if x10 = 0 then pb (fJ6_bitCount_0f7a4 sh M v5) <| u1 fun (x13 : Int) => (pb (fX7_testHolds sh M v0 v1 v2 v4 v7 x13) <| u2 fun (x15 : Int) (M16 : AwM) => ((if x15 = 0 then some (.inl ((w32 (v7 + 1)), M16)) else pb (fX7_reach sh M16 v0 v4 (or_ v5 (sl_ 1 v7)) (w32 ((w32 (11 + v7)) + (w32 (20 * v4))))) <| u1 fun (M19 : AwM) => (some (.inl ((w32 (v7 + 1)), M19)))))) else some (.inl ((w32 (v7 + 1)), M)))) else some (.inr M)))
def p_X7_presentFrom_L37 (Γ : AwC) (sh : AwS) (v0 : Int) (v1 : Int) (v2 : Int) (v4 : Int) (v5 : Int) (v6 : Int) (Q : State → Prop) (s : Int × AwM) : Prop := AW Γ sh (s.2) 0 0 37 [some (.inr (.inr v0)), some (.inr (.inr v1)), some (.inl v2), none, some (.inl v4), some (.inl v5), some (.inl v6), some (.inl (s.1))] [] Q
def x_X7_presentFrom_L37 (Γ : AwC) (sh : AwS) (v0 : Int) (v1 : Int) (v2 : Int) (v4 : Int) (v5 : Int) (v6 : Int) (Q : State → Prop) : (AwM) → Prop := (fun (t : AwM) => AW Γ sh (t) 0 0 104 [none, none, none, none, none, none, none, none] [] Q)
def fX7_presentFrom (sh : AwS) (M : AwM) (v0 : Int) (v1 : Int) (v2 : Int) (v3 : Int) : Option (AwM) :=
  gd_ (kd_ sh v0 = (0, 7)) (gd_ (kd_ sh v1 = (0, 0)) (gd_ (kd_ sh (M v1 0) = (0, 3)) (gd_ ((kd_ sh (M (M v1 0) 3)).1 = 1 ∧ (0 : Int) ≤ v2 ∧ v2 < ((kd_ sh (M (M v1 0) 3)).2 : Int)) (bd_ ((or_ (an_ v3 (w32 ((sl_ 1 (M v0 5)) - 1))) (M (M (M v1 0) 3) v2))) fun (x5 : Int) => (pb (lp (u2 (fX7_presentFrom_L37 sh v0 v1 v2 (sr_ v3 (M v0 5)) (an_ v3 (w32 ((sl_ 1 (M v0 5)) - 1))) x5)) FU (0, M)) (u1 (fun (tq20 : AwM) => some tq20)))))))
set_option maxRecDepth 100000 in
set_option maxHeartbeats 4000000 in
theorem w_X7_presentFrom_L37 {Γ : AwC} (hC : AOK Γ RX7 cX7_presentFrom 8 6 0 0 "presentFrom" none) {sh : AwS} {v0 : Int} {v1 : Int} {v2 : Int} {v4 : Int} {v5 : Int} {v6 : Int} {Q : State → Prop} : ∀ s r, u2 (fX7_presentFrom_L37 sh v0 v1 v2 v4 v5 v6) s = some r → (∀ s', r = .inl s' → p_X7_presentFrom_L37 Γ sh v0 v1 v2 v4 v5 v6 Q s') → (∀ t, r = .inr t → x_X7_presentFrom_L37 Γ sh v0 v1 v2 v4 v5 v6 Q t) → p_X7_presentFrom_L37 Γ sh v0 v1 v2 v4 v5 v6 Q s := by
  intro s r h hL hX
  obtain ⟨v7, M⟩ := s
  replace h := u2_s h
  unfold fX7_presentFrom_L37 at h
  show AW Γ sh M 0 0 37 [some (.inr (.inr v0)), some (.inr (.inr v1)), some (.inl v2), none, some (.inl v4), some (.inl v5), some (.inl v6), some (.inl v7)] [] Q
  refine aw_iload (pc' := 39) hC dX7_presentFrom_37 rfl rfl ?_
  refine aw_aload_n (pc' := 40) (i := 0) hC dX7_presentFrom_39 rfl rfl rfl ?_
  obtain ⟨g7, h⟩ := gd_s h
  refine aw_getfield (pc' := 43) (v := (.inl (M v0 5))) hC dX7_presentFrom_40 rfl fl_X7_60 g7 rfl ?_
  refine aw_icmp_ge (tgt := 104) (pc' := 46) hC dX7_presentFrom_43 (by decide) rfl (fun c8 => ?_) (fun c8 => ?_)
  · replace h := it_n c8 h
    refine aw_sub hC [none, none, none, none, none, none, none, none] trivial (Nat.le_of_ble_eq_true rfl) ?_
    cases h
    exact hX _ rfl
  · replace h := it_p c8 h
    refine aw_iload (pc' := 48) hC dX7_presentFrom_46 rfl rfl ?_
    refine aw_iload (pc' := 50) hC dX7_presentFrom_48 rfl rfl ?_
    obtain ⟨x10, q9, h⟩ := pb_s h
    replace h := u1_s h
    refine aw_cSN (pc' := 53) (k2 := 0) (n2 := 0) (st := []) (stN := [.inl x10]) hC [.inl v6, .inl v7] (mX8_isIn q9) lk_X7_99 dX7_presentFrom_50 rfl rfl (Nat.le_of_ble_eq_true rfl) (Nat.le_of_ble_eq_true rfl) (Nat.le_of_ble_eq_true rfl) rfl (Nat.le_of_ble_eq_true rfl) rfl rfl rfl ?_
    refine aw_if_ne (tgt := 98) (pc' := 56) hC dX7_presentFrom_53 (by decide) rfl (fun c11 => ?_) (fun c11 => ?_)
    · replace h := it_n c11 h
      refine aw_iinc (pc' := 101) (ls' := [some (.inr (.inr v0)), some (.inr (.inr v1)), some (.inl v2), none, some (.inl v4), some (.inl v5), some (.inl v6), some (.inl (w32 (v7 + 1)))]) hC dX7_presentFrom_98 rfl rfl rfl rfl ?_
      refine aw_goto (tgt := 37) hC dX7_presentFrom_101 (by decide) ?_
      refine aw_sub hC [some (.inr (.inr v0)), some (.inr (.inr v1)), some (.inl v2), none, some (.inl v4), some (.inl v5), some (.inl v6), some (.inl (w32 (v7 + 1)))] ⟨rfl, ⟨rfl, ⟨rfl, ⟨rfl, ⟨rfl, ⟨rfl, ⟨rfl, trivial⟩⟩⟩⟩⟩⟩⟩ (Nat.le_of_ble_eq_true rfl) ?_
      cases h
      exact hL _ rfl
    · replace h := it_p c11 h
      refine aw_aload_n (pc' := 57) (i := 0) hC dX7_presentFrom_56 rfl rfl rfl ?_
      refine aw_aload_n (pc' := 58) (i := 1) hC dX7_presentFrom_57 rfl rfl rfl ?_
      refine aw_iload_n (pc' := 59) (i := 2) hC dX7_presentFrom_58 rfl rfl rfl ?_
      refine aw_iload (pc' := 61) hC dX7_presentFrom_59 rfl rfl ?_
      refine aw_iload (pc' := 63) hC dX7_presentFrom_61 rfl rfl ?_
      refine aw_iload (pc' := 65) hC dX7_presentFrom_63 rfl rfl ?_
      obtain ⟨x13, q12, h⟩ := pb_s h
      replace h := u1_s h
      refine aw_cS (pc' := 68) (k2 := 0) (n2 := 0) (st := [.inl v7, .inl v4, .inl v2, .inr (.inr v1), .inr (.inr v0)]) (stN := [.inl x13, .inl v7, .inl v4, .inl v2, .inr (.inr v1), .inr (.inr v0)]) hC [.inl v5] (mJ6_bitCount_0f7a4 q12) lk_X7_94 dX7_presentFrom_65 rfl rfl (Nat.le_of_ble_eq_true rfl) (Nat.le_of_ble_eq_true rfl) (Nat.le_of_ble_eq_true rfl) rfl (Nat.le_of_ble_eq_true rfl) rfl rfl rfl ?_
      obtain ⟨⟨x15, M16⟩, q14, h⟩ := pb_s h
      replace h := u2_s h
      refine aw_cV (pc' := 71) (k2 := 0) (n2 := 0) (st := []) (stN := [.inl x15]) hC [.inr (.inr v1), .inl v2, .inl v4, .inl v7, .inl x13] (mX7_testHolds q14) lk_X7_106 g7 dX7_presentFrom_68 rfl rfl (Nat.le_of_ble_eq_true rfl) (Nat.le_of_ble_eq_true rfl) (Nat.le_of_ble_eq_true rfl) rfl (Nat.le_of_ble_eq_true rfl) rfl rfl rfl ?_
      refine aw_if_eq (tgt := 98) (pc' := 74) hC dX7_presentFrom_71 (by decide) rfl (fun c17 => ?_) (fun c17 => ?_)
      · replace h := it_p c17 h
        refine aw_iinc (pc' := 101) (ls' := [some (.inr (.inr v0)), some (.inr (.inr v1)), some (.inl v2), none, some (.inl v4), some (.inl v5), some (.inl v6), some (.inl (w32 (v7 + 1)))]) hC dX7_presentFrom_98 rfl rfl rfl rfl ?_
        refine aw_goto (tgt := 37) hC dX7_presentFrom_101 (by decide) ?_
        refine aw_sub hC [some (.inr (.inr v0)), some (.inr (.inr v1)), some (.inl v2), none, some (.inl v4), some (.inl v5), some (.inl v6), some (.inl (w32 (v7 + 1)))] ⟨rfl, ⟨rfl, ⟨rfl, ⟨rfl, ⟨rfl, ⟨rfl, ⟨rfl, trivial⟩⟩⟩⟩⟩⟩⟩ (Nat.le_of_ble_eq_true rfl) ?_
        cases h
        exact hL _ rfl
      · replace h := it_n c17 h
        refine aw_aload_n (pc' := 75) (i := 0) hC dX7_presentFrom_74 rfl rfl rfl ?_
        refine aw_iload (pc' := 77) hC dX7_presentFrom_75 rfl rfl ?_
        refine aw_iload (pc' := 79) hC dX7_presentFrom_77 rfl rfl ?_
        refine aw_iconst (pc' := 80) hC dX7_presentFrom_79 rfl (by decide) ?_
        refine aw_iload (pc' := 82) hC dX7_presentFrom_80 rfl rfl ?_
        refine aw_ishl (pc' := 83) hC dX7_presentFrom_82 rfl  ?_
        refine aw_ior (pc' := 84) hC dX7_presentFrom_83 rfl  ?_
        refine aw_bipush (pc' := 86) hC dX7_presentFrom_84 rfl (by decide) ?_
        refine aw_iload (pc' := 88) hC dX7_presentFrom_86 rfl rfl ?_
        refine aw_iadd (pc' := 89) hC dX7_presentFrom_88 rfl  ?_
        refine aw_bipush (pc' := 91) hC dX7_presentFrom_89 rfl (by decide) ?_
        refine aw_iload (pc' := 93) hC dX7_presentFrom_91 rfl rfl ?_
        refine aw_imul (pc' := 94) hC dX7_presentFrom_93 rfl  ?_
        refine aw_iadd (pc' := 95) hC dX7_presentFrom_94 rfl  ?_
        obtain ⟨M19, q18, h⟩ := pb_s h
        replace h := u1_s h
        refine aw_cV (pc' := 98) (k2 := 0) (n2 := 0) (st := []) (stN := []) hC [.inl v4, .inl (or_ v5 (sl_ 1 v7)), .inl (w32 ((w32 (11 + v7)) + (w32 (20 * v4))))] (mX7_reach q18) lk_X7_49 g7 dX7_presentFrom_95 rfl rfl (Nat.le_of_ble_eq_true rfl) (Nat.le_of_ble_eq_true rfl) (Nat.le_of_ble_eq_true rfl) rfl (Nat.le_of_ble_eq_true rfl) rfl rfl rfl ?_
        refine aw_iinc (pc' := 101) (ls' := [some (.inr (.inr v0)), some (.inr (.inr v1)), some (.inl v2), none, some (.inl v4), some (.inl v5), some (.inl v6), some (.inl (w32 (v7 + 1)))]) hC dX7_presentFrom_98 rfl rfl rfl rfl ?_
        refine aw_goto (tgt := 37) hC dX7_presentFrom_101 (by decide) ?_
        refine aw_sub hC [some (.inr (.inr v0)), some (.inr (.inr v1)), some (.inl v2), none, some (.inl v4), some (.inl v5), some (.inl v6), some (.inl (w32 (v7 + 1)))] ⟨rfl, ⟨rfl, ⟨rfl, ⟨rfl, ⟨rfl, ⟨rfl, ⟨rfl, trivial⟩⟩⟩⟩⟩⟩⟩ (Nat.le_of_ble_eq_true rfl) ?_
        cases h
        exact hL _ rfl
set_option maxRecDepth 100000 in
set_option maxHeartbeats 4000000 in
theorem mX7_presentFrom {sh : AwS} {M : AwM} {v0 : Int} {v1 : Int} {v2 : Int} {v3 : Int} {M' : AwM} (h : fX7_presentFrom sh M v0 v1 v2 v3 = some M') : AMet yX7_presentFrom cX7_presentFrom 8 none 6 0 0 [.inr (.inr v0), .inr (.inr v1), .inl v2, .inl v3] sh M none sh M' := by
  refine amet_of (by decide +kernel) (Nat.le_of_ble_eq_true rfl) (fun Γ hC => ?_)
  replace hC : AOK Γ RX7 cX7_presentFrom 8 6 0 0 "presentFrom" none := hC
  unfold fX7_presentFrom at h
  refine aw_sub hC [some (.inr (.inr v0)), some (.inr (.inr v1)), some (.inl v2), some (.inl v3), none, none, none, none] ⟨rfl, ⟨rfl, ⟨rfl, ⟨rfl, trivial⟩⟩⟩⟩ (Nat.le_of_ble_eq_true rfl) ?_
  refine aw_iload_n (pc' := 1) (i := 3) hC dX7_presentFrom_0 rfl rfl rfl ?_
  refine aw_aload_n (pc' := 2) (i := 0) hC dX7_presentFrom_1 rfl rfl rfl ?_
  obtain ⟨g1, h⟩ := gd_s h
  refine aw_getfield (pc' := 5) (v := (.inl (M v0 5))) hC dX7_presentFrom_2 rfl fl_X7_60 g1 rfl ?_
  refine aw_ishr (pc' := 6) hC dX7_presentFrom_5 rfl  ?_
  refine aw_istore (pc' := 8) (ls' := [some (.inr (.inr v0)), some (.inr (.inr v1)), some (.inl v2), some (.inl v3), some (.inl (sr_ v3 (M v0 5))), none, none, none]) hC dX7_presentFrom_6 rfl (Nat.le_of_ble_eq_true rfl) rfl rfl ?_
  refine aw_iload_n (pc' := 9) (i := 3) hC dX7_presentFrom_8 rfl rfl rfl ?_
  refine aw_iconst (pc' := 10) hC dX7_presentFrom_9 rfl (by decide) ?_
  refine aw_aload_n (pc' := 11) (i := 0) hC dX7_presentFrom_10 rfl rfl rfl ?_
  refine aw_getfield (pc' := 14) (v := (.inl (M v0 5))) hC dX7_presentFrom_11 rfl fl_X7_60 g1 rfl ?_
  refine aw_ishl (pc' := 15) hC dX7_presentFrom_14 rfl  ?_
  refine aw_iconst (pc' := 16) hC dX7_presentFrom_15 rfl (by decide) ?_
  refine aw_isub (pc' := 17) hC dX7_presentFrom_16 rfl  ?_
  refine aw_iand (pc' := 18) hC dX7_presentFrom_17 rfl  ?_
  refine aw_istore (pc' := 20) (ls' := [some (.inr (.inr v0)), some (.inr (.inr v1)), some (.inl v2), some (.inl v3), some (.inl (sr_ v3 (M v0 5))), some (.inl (an_ v3 (w32 ((sl_ 1 (M v0 5)) - 1)))), none, none]) hC dX7_presentFrom_18 rfl (Nat.le_of_ble_eq_true rfl) rfl rfl ?_
  refine aw_iload (pc' := 22) hC dX7_presentFrom_20 rfl rfl ?_
  refine aw_aload_n (pc' := 23) (i := 1) hC dX7_presentFrom_22 rfl rfl rfl ?_
  obtain ⟨g2, h⟩ := gd_s h
  refine aw_getfield (pc' := 26) (v := (.inr (.inr (M v1 0)))) hC dX7_presentFrom_23 rfl fl_X7_35 g2 rfl ?_
  obtain ⟨g3, h⟩ := gd_s h
  refine aw_getfield (pc' := 29) (v := (.inr (.inr (M (M v1 0) 3)))) hC dX7_presentFrom_26 rfl fl_X7_103 g3 rfl ?_
  refine aw_iload_n (pc' := 30) (i := 2) hC dX7_presentFrom_29 rfl rfl rfl ?_
  obtain ⟨g4, h⟩ := gd_s h
  refine aw_iaload (pc' := 31) hC dX7_presentFrom_30 rfl g4 ?_
  refine aw_ior (pc' := 32) hC dX7_presentFrom_31 rfl  ?_
  obtain ⟨x5, e6, h⟩ := bd_s h
  refine aw_reni e6 ?_
  refine aw_istore (pc' := 34) (ls' := [some (.inr (.inr v0)), some (.inr (.inr v1)), some (.inl v2), some (.inl v3), some (.inl (sr_ v3 (M v0 5))), some (.inl (an_ v3 (w32 ((sl_ 1 (M v0 5)) - 1)))), some (.inl x5), none]) hC dX7_presentFrom_32 rfl (Nat.le_of_ble_eq_true rfl) rfl rfl ?_
  refine aw_iconst (pc' := 35) hC dX7_presentFrom_34 rfl (by decide) ?_
  refine aw_istore (pc' := 37) (ls' := [some (.inr (.inr v0)), some (.inr (.inr v1)), some (.inl v2), some (.inl v3), some (.inl (sr_ v3 (M v0 5))), some (.inl (an_ v3 (w32 ((sl_ 1 (M v0 5)) - 1)))), some (.inl x5), some (.inl 0)]) hC dX7_presentFrom_35 rfl (Nat.le_of_ble_eq_true rfl) rfl rfl ?_
  obtain ⟨tq20, q20, h⟩ := pb_s h
  refine aw_sub hC [some (.inr (.inr v0)), some (.inr (.inr v1)), some (.inl v2), none, some (.inl (sr_ v3 (M v0 5))), some (.inl (an_ v3 (w32 ((sl_ 1 (M v0 5)) - 1)))), some (.inl x5), some (.inl 0)] ⟨rfl, ⟨rfl, ⟨rfl, ⟨rfl, ⟨rfl, ⟨rfl, ⟨rfl, trivial⟩⟩⟩⟩⟩⟩⟩ (Nat.le_of_ble_eq_true rfl) ?_
  refine (lp_aw (p_X7_presentFrom_L37 Γ sh v0 v1 v2 (sr_ v3 (M v0 5)) (an_ v3 (w32 ((sl_ 1 (M v0 5)) - 1))) x5 (fin_ Γ 0 0 none sh M')) (x_X7_presentFrom_L37 Γ sh v0 v1 v2 (sr_ v3 (M v0 5)) (an_ v3 (w32 ((sl_ 1 (M v0 5)) - 1))) x5 (fin_ Γ 0 0 none sh M')) (w_X7_presentFrom_L37 hC ) FU _ _ q20 ?_ : p_X7_presentFrom_L37 Γ sh v0 v1 v2 (sr_ v3 (M v0 5)) (an_ v3 (w32 ((sl_ 1 (M v0 5)) - 1))) x5 (fin_ Γ 0 0 none sh M') (0, M))
  replace h := u1_s h
  show AW Γ sh tq20 0 0 104 [none, none, none, none, none, none, none, none] [] _
  cases h
  exact aw_vret hC dX7_presentFrom_104 (Nat.le_of_ble_eq_true rfl) (Nat.le_of_ble_eq_true rfl)
