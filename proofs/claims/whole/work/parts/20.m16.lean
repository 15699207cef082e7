-- CoinCircleModel.image()I
def fX9_image_L55 (sh : AwS) (v0 : Int) (v1 : Int) (v2 : Int) (M : AwM) : Option ((Int × AwM) ⊕ (AwM)) :=
  gd_ (kd_ sh v0 = (0, 9)) (gd_ ((kd_ sh (M v0 14)).1 = 1 ∧ (0 : Int) ≤ (M v0 13) ∧ (M v0 13) < ((kd_ sh (M v0 14)).2 : Int)) ((if v2 < (M (M v0 14) (M v0 13)) then pb (fX9_toldOf sh M v0 v1 v2) <| u1 fun (x20 : Int) => (pb (fX9_writes sh M v0 x20) <| u1 fun (M22 : AwM) => (some (.inl ((w32 (v2 + 1)), M22)))) else some (.inr M))))
def p_X9_image_L55 (Γ : AwC) (sh : AwS) (v0 : Int) (v1 : Int) (Q : State → Prop) (s : Int × AwM) : Prop := AW Γ sh (s.2) 0 0 55 [some (.inr (.inr v0)), some (.inl v1), some (.inl (s.1))] [] Q
def x_X9_image_L55 (Γ : AwC) (sh : AwS) (v0 : Int) (v1 : Int) (Q : State → Prop) : (AwM) → Prop := (fun (t : AwM) => AW Γ sh (t) 0 0 84 [some (.inr (.inr v0)), some (.inl v1), none] [] Q)
def fX9_image_L30 (sh : AwS) (v0 : Int) (v1 : Int) (M : AwM) : Option ((Int × AwM) ⊕ (AwM)) :=
  gd_ (kd_ sh v0 = (0, 9)) (gd_ ((kd_ sh (M v0 16)).1 = 1 ∧ (0 : Int) ≤ (M v0 13) ∧ (M v0 13) < ((kd_ sh (M v0 16)).2 : Int)) ((if v1 < (M (M v0 16) (M v0 13)) then gd_ ((kd_ sh (M v0 49)).1 = 1 ∧ (0 : Int) ≤ v1 ∧ v1 < ((kd_ sh (M v0 49)).2 : Int)) (pb (fX9_writes sh M v0 (M (M v0 49) v1)) <| u1 fun (M15 : AwM) => (pb (lp (u2 (fX9_image_L55 sh v0 v1)) FU (0, M15)) (u1 (fun (tq23 : AwM) => some (.inl ((w32 (v1 + 1)), tq23)))))) else some (.inr M))))
def p_X9_image_L30 (Γ : AwC) (sh : AwS) (v0 : Int) (Q : State → Prop) (s : Int × AwM) : Prop := AW Γ sh (s.2) 0 0 30 [some (.inr (.inr v0)), some (.inl (s.1)), none] [] Q
def x_X9_image_L30 (Γ : AwC) (sh : AwS) (v0 : Int) (Q : State → Prop) : (AwM) → Prop := (fun (t : AwM) => AW Γ sh (t) 0 0 90 [some (.inr (.inr v0)), none, none] [] Q)
def fX9_image_L95 (sh : AwS) (M : AwM) (v0 : Int) (v1 : Int) (v2 : Int) : Option ((Int × Int) ⊕ (Int)) :=
  gd_ (kd_ sh v0 = (0, 9)) ((if v2 < (M v0 70) then gd_ ((kd_ sh (M v0 69)).1 = 1 ∧ (0 : Int) ≤ v2 ∧ v2 < ((kd_ sh (M v0 69)).2 : Int)) (bd_ ((((w32 ((w32 (5 * v1)) + (M (M v0 69) v2))) : Int).tmod 251)) fun (x28 : Int) => (some (.inl (x28, (w32 (v2 + 1)))))) else some (.inr v1)))
def p_X9_image_L95 (Γ : AwC) (sh : AwS) (M : AwM) (v0 : Int) (Q : State → Prop) (s : Int × Int) : Prop := AW Γ sh M 0 0 95 [some (.inr (.inr v0)), some (.inl (s.1)), some (.inl (s.2))] [] Q
def x_X9_image_L95 (Γ : AwC) (sh : AwS) (M : AwM) (v0 : Int) (Q : State → Prop) : (Int) → Prop := (fun (t : Int) => AW Γ sh M 0 0 124 [some (.inr (.inr v0)), some (.inl (t)), none] [] Q)
def fX9_image (sh : AwS) (M : AwM) (v0 : Int) : Option (Int × AwM) :=
  gd_ (kd_ sh v0 = (0, 9)) (bd_ (up_ M v0 70 0) fun (M2 : AwM) => (gd_ ((kd_ sh (M2 v0 48)).1 = 1 ∧ (0 : Int) ≤ 0 ∧ 0 < ((kd_ sh (M2 v0 48)).2 : Int)) (pb (fX9_writes sh M2 v0 (sr_ (M2 (M2 v0 48) 0) 8)) <| u1 fun (M6 : AwM) => (gd_ ((kd_ sh (M6 v0 48)).1 = 1 ∧ (0 : Int) ≤ 0 ∧ 0 < ((kd_ sh (M6 v0 48)).2 : Int)) (pb (fX9_writes sh M6 v0 (M6 (M6 v0 48) 0)) <| u1 fun (M9 : AwM) => (pb (lp (u2 (fX9_image_L30 sh v0)) FU (0, M9)) (u1 (fun (tq24 : AwM) => pb (lp (u2 (fX9_image_L95 sh tq24 v0)) FU (103, 0)) (u1 (fun (tq30 : Int) => pb (fX9_writes sh tq24 v0 tq30) <| u1 fun (M32 : AwM) => (some ((M32 v0 70), M32))))))))))))
set_option maxRecDepth 100000 in
set_option maxHeartbeats 4000000 in
theorem w_X9_image_L55 {Γ : AwC} (hC : AOK Γ RX9 cX9_image 3 3 0 0 "image" (some .int)) {sh : AwS} {v0 : Int} {v1 : Int} {Q : State → Prop} : ∀ s r, u2 (fX9_image_L55 sh v0 v1) s = some r → (∀ s', r = .inl s' → p_X9_image_L55 Γ sh v0 v1 Q s') → (∀ t, r = .inr t → x_X9_image_L55 Γ sh v0 v1 Q t) → p_X9_image_L55 Γ sh v0 v1 Q s := by
  intro s r h hL hX
  obtain ⟨v2, M⟩ := s
  replace h := u2_s h
  unfold fX9_image_L55 at h
  show AW Γ sh M 0 0 55 [some (.inr (.inr v0)), some (.inl v1), some (.inl v2)] [] Q
  refine aw_iload_n (pc' := 56) (i := 2) hC dX9_image_55 rfl rfl rfl ?_
  refine aw_aload_n (pc' := 57) (i := 0) hC dX9_image_56 rfl rfl rfl ?_
  obtain ⟨g16, h⟩ := gd_s h
  refine aw_getfield (pc' := 60) (v := (.inr (.inr (M v0 14)))) hC dX9_image_57 rfl fl_X9_54 g16 rfl ?_
  refine aw_aload_n (pc' := 61) (i := 0) hC dX9_image_60 rfl rfl rfl ?_
  refine aw_getfield (pc' := 64) (v := (.inl (M v0 13))) hC dX9_image_61 rfl fl_X9_51 g16 rfl ?_
  obtain ⟨g17, h⟩ := gd_s h
  refine aw_iaload (pc' := 65) hC dX9_image_64 rfl g17 ?_
  refine aw_icmp_ge (tgt := 84) (pc' := 68) hC dX9_image_65 (by decide) rfl (fun c18 => ?_) (fun c18 => ?_)
  · replace h := it_n c18 h
    refine aw_sub hC [some (.inr (.inr v0)), some (.inl v1), none] ⟨rfl, ⟨rfl, trivial⟩⟩ (Nat.le_of_ble_eq_true rfl) ?_
    cases h
    exact hX _ rfl
  · replace h := it_p c18 h
    refine aw_aload_n (pc' := 69) (i := 0) hC dX9_image_68 rfl rfl rfl ?_
    refine aw_aload_n (pc' := 70) (i := 0) hC dX9_image_69 rfl rfl rfl ?_
    refine aw_iload_n (pc' := 71) (i := 1) hC dX9_image_70 rfl rfl rfl ?_
    refine aw_iload_n (pc' := 72) (i := 2) hC dX9_image_71 rfl rfl rfl ?_
    obtain ⟨x20, q19, h⟩ := pb_s h
    replace h := u1_s h
    refine aw_cV (pc' := 75) (k2 := 0) (n2 := 0) (st := [.inr (.inr v0)]) (stN := [.inl x20, .inr (.inr v0)]) hC [.inl v1, .inl v2] (mX9_toldOf q19) lk_X9_547 g16 dX9_image_72 rfl rfl (Nat.le_of_ble_eq_true rfl) (Nat.le_of_ble_eq_true rfl) (Nat.le_of_ble_eq_true rfl) rfl (Nat.le_of_ble_eq_true rfl) rfl rfl rfl ?_
    obtain ⟨M22, q21, h⟩ := pb_s h
    replace h := u1_s h
    refine aw_cV (pc' := 78) (k2 := 0) (n2 := 0) (st := []) (stN := []) hC [.inl x20] (mX9_writes q21) lk_X9_544 g16 dX9_image_75 rfl rfl (Nat.le_of_ble_eq_true rfl) (Nat.le_of_ble_eq_true rfl) (Nat.le_of_ble_eq_true rfl) rfl (Nat.le_of_ble_eq_true rfl) rfl rfl rfl ?_
    refine aw_iinc (pc' := 81) (ls' := [some (.inr (.inr v0)), some (.inl v1), some (.inl (w32 (v2 + 1)))]) hC dX9_image_78 rfl rfl rfl rfl ?_
    refine aw_goto (tgt := 55) hC dX9_image_81 (by decide) ?_
    refine aw_sub hC [some (.inr (.inr v0)), some (.inl v1), some (.inl (w32 (v2 + 1)))] ⟨rfl, ⟨rfl, ⟨rfl, trivial⟩⟩⟩ (Nat.le_of_ble_eq_true rfl) ?_
    cases h
    exact hL _ rfl
set_option maxRecDepth 100000 in
set_option maxHeartbeats 4000000 in
theorem w_X9_image_L30 {Γ : AwC} (hC : AOK Γ RX9 cX9_image 3 3 0 0 "image" (some .int)) {sh : AwS} {v0 : Int} {Q : State → Prop} : ∀ s r, u2 (fX9_image_L30 sh v0) s = some r → (∀ s', r = .inl s' → p_X9_image_L30 Γ sh v0 Q s') → (∀ t, r = .inr t → x_X9_image_L30 Γ sh v0 Q t) → p_X9_image_L30 Γ sh v0 Q s := by
  intro s r h hL hX
  obtain ⟨v1, M⟩ := s
  replace h := u2_s h
  unfold fX9_image_L30 at h
  show AW Γ sh M 0 0 30 [some (.inr (.inr v0)), some (.inl v1), none] [] Q
  refine aw_iload_n (pc' := 31) (i := 1) hC dX9_image_30 rfl rfl rfl ?_
  refine aw_aload_n (pc' := 32) (i := 0) hC dX9_image_31 rfl rfl rfl ?_
  obtain ⟨g10, h⟩ := gd_s h
  refine aw_getfield (pc' := 35) (v := (.inr (.inr (M v0 16)))) hC dX9_image_32 rfl fl_X9_60 g10 rfl ?_
  refine aw_aload_n (pc' := 36) (i := 0) hC dX9_image_35 rfl rfl rfl ?_
  refine aw_getfield (pc' := 39) (v := (.inl (M v0 13))) hC dX9_image_36 rfl fl_X9_51 g10 rfl ?_
  obtain ⟨g11, h⟩ := gd_s h
  refine aw_iaload (pc' := 40) hC dX9_image_39 rfl g11 ?_
  refine aw_icmp_ge (tgt := 90) (pc' := 43) hC dX9_image_40 (by decide) rfl (fun c12 => ?_) (fun c12 => ?_)
  · replace h := it_n c12 h
    refine aw_sub hC [some (.inr (.inr v0)), none, none] ⟨rfl, trivial⟩ (Nat.le_of_ble_eq_true rfl) ?_
    cases h
    exact hX _ rfl
  · replace h := it_p c12 h
    refine aw_aload_n (pc' := 44) (i := 0) hC dX9_image_43 rfl rfl rfl ?_
    refine aw_aload_n (pc' := 45) (i := 0) hC dX9_image_44 rfl rfl rfl ?_
    refine aw_getfield (pc' := 48) (v := (.inr (.inr (M v0 49)))) hC dX9_image_45 rfl fl_X9_162 g10 rfl ?_
    refine aw_iload_n (pc' := 49) (i := 1) hC dX9_image_48 rfl rfl rfl ?_
    obtain ⟨g13, h⟩ := gd_s h
    refine aw_iaload (pc' := 50) hC dX9_image_49 rfl g13 ?_
    obtain ⟨M15, q14, h⟩ := pb_s h
    replace h := u1_s h
    refine aw_cV (pc' := 53) (k2 := 0) (n2 := 0) (st := []) (stN := []) hC [.inl (M (M v0 49) v1)] (mX9_writes q14) lk_X9_544 g10 dX9_image_50 rfl rfl (Nat.le_of_ble_eq_true rfl) (Nat.le_of_ble_eq_true rfl) (Nat.le_of_ble_eq_true rfl) rfl (Nat.le_of_ble_eq_true rfl) rfl rfl rfl ?_
    refine aw_iconst (pc' := 54) hC dX9_image_53 rfl (by decide) ?_
    refine aw_istore_n (pc' := 55) (i := 2) (ls' := [some (.inr (.inr v0)), some (.inl v1), some (.inl 0)]) hC dX9_image_54 rfl rfl (Nat.le_of_ble_eq_true rfl) rfl rfl ?_
    obtain ⟨tq23, q23, h⟩ := pb_s h
    refine aw_sub hC [some (.inr (.inr v0)), some (.inl v1), some (.inl 0)] ⟨rfl, ⟨rfl, ⟨rfl, trivial⟩⟩⟩ (Nat.le_of_ble_eq_true rfl) ?_
    refine (lp_aw (p_X9_image_L55 Γ sh v0 v1 Q) (x_X9_image_L55 Γ sh v0 v1 Q) (w_X9_image_L55 hC ) FU _ _ q23 ?_ : p_X9_image_L55 Γ sh v0 v1 Q (0, M15))
    replace h := u1_s h
    show AW Γ sh tq23 0 0 84 [some (.inr (.inr v0)), some (.inl v1), none] [] _
    refine aw_iinc (pc' := 87) (ls' := [some (.inr (.inr v0)), some (.inl (w32 (v1 + 1))), none]) hC dX9_image_84 rfl rfl rfl rfl ?_
    refine aw_goto (tgt := 30) hC dX9_image_87 (by decide) ?_
    refine aw_sub hC [some (.inr (.inr v0)), some (.inl (w32 (v1 + 1))), none] ⟨rfl, ⟨rfl, trivial⟩⟩ (Nat.le_of_ble_eq_true rfl) ?_
    cases h
    exact hL _ rfl
set_option maxRecDepth 100000 in
set_option maxHeartbeats 4000000 in
theorem w_X9_image_L95 {Γ : AwC} (hC : AOK Γ RX9 cX9_image 3 3 0 0 "image" (some .int)) {sh : AwS} {M : AwM} {v0 : Int} {Q : State → Prop} : ∀ s r, u2 (fX9_image_L95 sh M v0) s = some r → (∀ s', r = .inl s' → p_X9_image_L95 Γ sh M v0 Q s') → (∀ t, r = .inr t → x_X9_image_L95 Γ sh M v0 Q t) → p_X9_image_L95 Γ sh M v0 Q s := by
  intro s r h hL hX
  obtain ⟨v1, v2⟩ := s
  replace h := u2_s h
  unfold fX9_image_L95 at h
  show AW Γ sh M 0 0 95 [some (.inr (.inr v0)), some (.inl v1), some (.inl v2)] [] Q
  refine aw_iload_n (pc' := 96) (i := 2) hC dX9_image_95 rfl rfl rfl ?_
  refine aw_aload_n (pc' := 97) (i := 0) hC dX9_image_96 rfl rfl rfl ?_
  obtain ⟨g25, h⟩ := gd_s h
  refine aw_getfield (pc' := 100) (v := (.inl (M v0 70))) hC dX9_image_97 rfl fl_X9_225 g25 rfl ?_
  refine aw_icmp_ge (tgt := 124) (pc' := 103) hC dX9_image_100 (by decide) rfl (fun c26 => ?_) (fun c26 => ?_)
  · replace h := it_n c26 h
    refine aw_sub hC [some (.inr (.inr v0)), some (.inl v1), none] ⟨rfl, ⟨rfl, trivial⟩⟩ (Nat.le_of_ble_eq_true rfl) ?_
    cases h
    exact hX _ rfl
  · replace h := it_p c26 h
    refine aw_iconst (pc' := 104) hC dX9_image_103 rfl (by decide) ?_
    refine aw_iload_n (pc' := 105) (i := 1) hC dX9_image_104 rfl rfl rfl ?_
    refine aw_imul (pc' := 106) hC dX9_image_105 rfl  ?_
    refine aw_aload_n (pc' := 107) (i := 0) hC dX9_image_106 rfl rfl rfl ?_
    refine aw_getfield (pc' := 110) (v := (.inr (.inr (M v0 69)))) hC dX9_image_107 rfl fl_X9_222 g25 rfl ?_
    refine aw_iload_n (pc' := 111) (i := 2) hC dX9_image_110 rfl rfl rfl ?_
    obtain ⟨g27, h⟩ := gd_s h
    refine aw_iaload (pc' := 112) hC dX9_image_111 rfl g27 ?_
    refine aw_iadd (pc' := 113) hC dX9_image_112 rfl  ?_
    refine aw_sipush (pc' := 116) hC dX9_image_113 rfl (by decide) ?_
    refine aw_irem (pc' := 117) hC dX9_image_116 rfl (by decide) ?_
    obtain ⟨x28, e29, h⟩ := bd_s h
    refine aw_reni e29 ?_
    refine aw_istore_n (pc' := 118) (i := 1) (ls' := [some (.inr (.inr v0)), some (.inl x28), some (.inl v2)]) hC dX9_image_117 rfl rfl (Nat.le_of_ble_eq_true rfl) rfl rfl ?_
    refine aw_iinc (pc' := 121) (ls' := [some (.inr (.inr v0)), some (.inl x28), some (.inl (w32 (v2 + 1)))]) hC dX9_image_118 rfl rfl rfl rfl ?_
    refine aw_goto (tgt := 95) hC dX9_image_121 (by decide) ?_
    refine aw_sub hC [some (.inr (.inr v0)), some (.inl x28), some (.inl (w32 (v2 + 1)))] ⟨rfl, ⟨rfl, ⟨rfl, trivial⟩⟩⟩ (Nat.le_of_ble_eq_true rfl) ?_
    cases h
    exact hL _ rfl
set_option maxRecDepth 100000 in
set_option maxHeartbeats 4000000 in
theorem mX9_image {sh : AwS} {M : AwM} {v0 : Int} {r : Int} {M' : AwM} (h : fX9_image sh M v0 = some (r, M')) : AMet yX9_image cX9_image 3 (some .int) 3 0 0 [.inr (.inr v0)] sh M (some (.inl r)) sh M' := by
  refine amet_of (by decide +kernel) (Nat.le_of_ble_eq_true rfl) (fun Γ hC => ?_)
  replace hC : AOK Γ RX9 cX9_image 3 3 0 0 "image" (some .int) := hC
  unfold fX9_image at h
  refine aw_sub hC [some (.inr (.inr v0)), none, none] ⟨rfl, trivial⟩ (Nat.le_of_ble_eq_true rfl) ?_
  refine aw_aload_n (pc' := 1) (i := 0) hC dX9_image_0 rfl rfl rfl ?_
  refine aw_iconst (pc' := 2) hC dX9_image_1 rfl (by decide) ?_
  obtain ⟨g1, h⟩ := gd_s h
  obtain ⟨M2, e3, h⟩ := bd_s h
  refine aw_pf (pc' := 5) hC dX9_image_2 rfl fp_X9_225 g1 rfl trivial e3 ?_
  refine aw_aload_n (pc' := 6) (i := 0) hC dX9_image_5 rfl rfl rfl ?_
  refine aw_aload_n (pc' := 7) (i := 0) hC dX9_image_6 rfl rfl rfl ?_
  refine aw_getfield (pc' := 10) (v := (.inr (.inr (M2 v0 48)))) hC dX9_image_7 rfl fl_X9_159 g1 rfl ?_
  refine aw_iconst (pc' := 11) hC dX9_image_10 rfl (by decide) ?_
  obtain ⟨g4, h⟩ := gd_s h
  refine aw_iaload (pc' := 12) hC dX9_image_11 rfl g4 ?_
  refine aw_bipush (pc' := 14) hC dX9_image_12 rfl (by decide) ?_
  refine aw_ishr (pc' := 15) hC dX9_image_14 rfl  ?_
  obtain ⟨M6, q5, h⟩ := pb_s h
  replace h := u1_s h
  refine aw_cV (pc' := 18) (k2 := 0) (n2 := 0) (st := []) (stN := []) hC [.inl (sr_ (M2 (M2 v0 48) 0) 8)] (mX9_writes q5) lk_X9_544 g1 dX9_image_15 rfl rfl (Nat.le_of_ble_eq_true rfl) (Nat.le_of_ble_eq_true rfl) (Nat.le_of_ble_eq_true rfl) rfl (Nat.le_of_ble_eq_true rfl) rfl rfl rfl ?_
  refine aw_aload_n (pc' := 19) (i := 0) hC dX9_image_18 rfl rfl rfl ?_
  refine aw_aload_n (pc' := 20) (i := 0) hC dX9_image_19 rfl rfl rfl ?_
  refine aw_getfield (pc' := 23) (v := (.inr (.inr (M6 v0 48)))) hC dX9_image_20 rfl fl_X9_159 g1 rfl ?_
  refine aw_iconst (pc' := 24) hC dX9_image_23 rfl (by decide) ?_
  obtain ⟨g7, h⟩ := gd_s h
  refine aw_iaload (pc' := 25) hC dX9_image_24 rfl g7 ?_
  obtain ⟨M9, q8, h⟩ := pb_s h
  replace h := u1_s h
  refine aw_cV (pc' := 28) (k2 := 0) (n2 := 0) (st := []) (stN := []) hC [.inl (M6 (M6 v0 48) 0)] (mX9_writes q8) lk_X9_544 g1 dX9_image_25 rfl rfl (Nat.le_of_ble_eq_true rfl) (Nat.le_of_ble_eq_true rfl) (Nat.le_of_ble_eq_true rfl) rfl (Nat.le_of_ble_eq_true rfl) rfl rfl rfl ?_
  refine aw_iconst (pc' := 29) hC dX9_image_28 rfl (by decide) ?_
  refine aw_istore_n (pc' := 30) (i := 1) (ls' := [some (.inr (.inr v0)), some (.inl 0), none]) hC dX9_image_29 rfl rfl (Nat.le_of_ble_eq_true rfl) rfl rfl ?_
  obtain ⟨tq24, q24, h⟩ := pb_s h
  refine aw_sub hC [some (.inr (.inr v0)), some (.inl 0), none] ⟨rfl, ⟨rfl, trivial⟩⟩ (Nat.le_of_ble_eq_true rfl) ?_
  refine (lp_aw (p_X9_image_L30 Γ sh v0 (fin_ Γ 0 0 (some (.inl r)) sh M')) (x_X9_image_L30 Γ sh v0 (fin_ Γ 0 0 (some (.inl r)) sh M')) (w_X9_image_L30 hC ) FU _ _ q24 ?_ : p_X9_image_L30 Γ sh v0 (fin_ Γ 0 0 (some (.inl r)) sh M') (0, M9))
  replace h := u1_s h
  show AW Γ sh tq24 0 0 90 [some (.inr (.inr v0)), none, none] [] _
  refine aw_bipush (pc' := 92) hC dX9_image_90 rfl (by decide) ?_
  refine aw_istore_n (pc' := 93) (i := 1) (ls' := [some (.inr (.inr v0)), some (.inl 103), none]) hC dX9_image_92 rfl rfl (Nat.le_of_ble_eq_true rfl) rfl rfl ?_
  refine aw_iconst (pc' := 94) hC dX9_image_93 rfl (by decide) ?_
  refine aw_istore_n (pc' := 95) (i := 2) (ls' := [some (.inr (.inr v0)), some (.inl 103), some (.inl 0)]) hC dX9_image_94 rfl rfl (Nat.le_of_ble_eq_true rfl) rfl rfl ?_
  obtain ⟨tq30, q30, h⟩ := pb_s h
  refine aw_sub hC [some (.inr (.inr v0)), some (.inl 103), some (.inl 0)] ⟨rfl, ⟨rfl, ⟨rfl, trivial⟩⟩⟩ (Nat.le_of_ble_eq_true rfl) ?_
  refine (lp_aw (p_X9_image_L95 Γ sh tq24 v0 (fin_ Γ 0 0 (some (.inl r)) sh M')) (x_X9_image_L95 Γ sh tq24 v0 (fin_ Γ 0 0 (some (.inl r)) sh M')) (w_X9_image_L95 hC ) FU _ _ q30 ?_ : p_X9_image_L95 Γ sh tq24 v0 (fin_ Γ 0 0 (some (.inl r)) sh M') (103, 0))
  replace h := u1_s h
  show AW Γ sh tq24 0 0 124 [some (.inr (.inr v0)), some (.inl tq30), none] [] _
  refine aw_aload_n (pc' := 125) (i := 0) hC dX9_image_124 rfl rfl rfl ?_
  refine aw_iload_n (pc' := 126) (i := 1) hC dX9_image_125 rfl rfl rfl ?_
  obtain ⟨M32, q31, h⟩ := pb_s h
  replace h := u1_s h
  refine aw_cV (pc' := 129) (k2 := 0) (n2 := 0) (st := []) (stN := []) hC [.inl tq30] (mX9_writes q31) lk_X9_544 g1 dX9_image_126 rfl rfl (Nat.le_of_ble_eq_true rfl) (Nat.le_of_ble_eq_true rfl) (Nat.le_of_ble_eq_true rfl) rfl (Nat.le_of_ble_eq_true rfl) rfl rfl rfl ?_
  refine aw_aload_n (pc' := 130) (i := 0) hC dX9_image_129 rfl rfl rfl ?_
  refine aw_getfield (pc' := 133) (v := (.inl (M32 v0 70))) hC dX9_image_130 rfl fl_X9_225 g1 rfl ?_
  cases h
  exact aw_iret hC dX9_image_133 (Nat.le_of_ble_eq_true rfl) (Nat.le_of_ble_eq_true rfl)
-- CoinCircleModel.octet(I)I
def fX9_octet (sh : AwS) (M : AwM) (v0 : Int) (v1 : Int) : Option Int :=
  gd_ (kd_ sh v0 = (0, 9)) (pb (fX9_is sh M v1 0 (w32 ((M v0 70) - 1))) <| u1 fun (x3 : Int) => ((if x3 = 0 then some (-1) else gd_ ((kd_ sh (M v0 69)).1 = 1 ∧ (0 : Int) ≤ v1 ∧ v1 < ((kd_ sh (M v0 69)).2 : Int)) (some (M (M v0 69) v1)))))
set_option maxRecDepth 100000 in
set_option maxHeartbeats 4000000 in
theorem mX9_octet {sh : AwS} {M : AwM} {v0 : Int} {v1 : Int} {r : Int} (h : fX9_octet sh M v0 v1 = some r) : AMet yX9_octet cX9_octet 2 (some .int) 2 0 0 [.inr (.inr v0), .inl v1] sh M (some (.inl r)) sh M := by
  refine amet_of (by decide +kernel) (Nat.le_of_ble_eq_true rfl) (fun Γ hC => ?_)
  replace hC : AOK Γ RX9 cX9_octet 2 2 0 0 "octet" (some .int) := hC
  unfold fX9_octet at h
  refine aw_sub hC [some (.inr (.inr v0)), some (.inl v1)] ⟨rfl, ⟨rfl, trivial⟩⟩ (Nat.le_of_ble_eq_true rfl) ?_
  refine aw_iload_n (pc' := 1) (i := 1) hC dX9_octet_0 rfl rfl rfl ?_
  refine aw_iconst (pc' := 2) hC dX9_octet_1 rfl (by decide) ?_
  refine aw_aload_n (pc' := 3) (i := 0) hC dX9_octet_2 rfl rfl rfl ?_
  obtain ⟨g1, h⟩ := gd_s h
  refine aw_getfield (pc' := 6) (v := (.inl (M v0 70))) hC dX9_octet_3 rfl fl_X9_225 g1 rfl ?_
  refine aw_iconst (pc' := 7) hC dX9_octet_6 rfl (by decide) ?_
  refine aw_isub (pc' := 8) hC dX9_octet_7 rfl  ?_
  obtain ⟨x3, q2, h⟩ := pb_s h
  replace h := u1_s h
  refine aw_cS (pc' := 11) (k2 := 0) (n2 := 0) (st := []) (stN := [.inl x3]) hC [.inl v1, .inl 0, .inl (w32 ((M v0 70) - 1))] (mX9_is q2) lk_X9_314 dX9_octet_8 rfl rfl (Nat.le_of_ble_eq_true rfl) (Nat.le_of_ble_eq_true rfl) (Nat.le_of_ble_eq_true rfl) rfl (Nat.le_of_ble_eq_true rfl) rfl rfl rfl ?_
  refine aw_if_eq (tgt := 23) (pc' := 14) hC dX9_octet_11 (by decide) rfl (fun c4 => ?_) (fun c4 => ?_)
  · replace h := it_p c4 h
    refine aw_iconst (pc' := 24) hC dX9_octet_23 rfl (by decide) ?_
    cases h
    exact aw_iret hC dX9_octet_24 (Nat.le_of_ble_eq_true rfl) (Nat.le_of_ble_eq_true rfl)
  · replace h := it_n c4 h
    refine aw_aload_n (pc' := 15) (i := 0) hC dX9_octet_14 rfl rfl rfl ?_
    refine aw_getfield (pc' := 18) (v := (.inr (.inr (M v0 69)))) hC dX9_octet_15 rfl fl_X9_222 g1 rfl ?_
    refine aw_iload_n (pc' := 19) (i := 1) hC dX9_octet_18 rfl rfl rfl ?_
    obtain ⟨g5, h⟩ := gd_s h
    refine aw_iaload (pc' := 20) hC dX9_octet_19 rfl g5 ?_
    refine aw_goto (tgt := 24) hC dX9_octet_20 (by decide) ?_
    cases h
    exact aw_iret hC dX9_octet_24 (Nat.le_of_ble_eq_true rfl) (Nat.le_of_ble_eq_true rfl)
-- CoinCircleModel.coinOn(II)Z
def fX9_coinOn_J143_49 (sh : AwS) (M : AwM) (v0 : Int) (v1 : Int) (v2 : Int) (v3 : Int) (v4 : Int) (v5 : Int) (s0 : Int) (s1 : Int) (s2 : Int) (s3 : Int) : Option ((Int × AwM) ⊕ ((AwM) ⊕ (AwM))) :=
  gd_ ((kd_ sh s0).1 = 1 ∧ (0 : Int) ≤ s1 ∧ s1 < ((kd_ sh s0).2 : Int)) (bd_ (up_ M s0 s1 (or_ s2 s3)) fun (M32 : AwM) => (gd_ (kd_ sh v0 = (0, 9)) ((if 1 < v5 then gd_ ((kd_ sh (M32 v0 48)).1 = 1 ∧ (0 : Int) ≤ 1 ∧ 1 < ((kd_ sh (M32 v0 48)).2 : Int)) (gd_ ((kd_ sh (M32 v0 52)).1 = 1 ∧ (0 : Int) ≤ (w32 ((w32 (120 + (w32 (10 * v1)))) + v4)) ∧ (w32 ((w32 (120 + (w32 (10 * v1)))) + v4)) < ((kd_ sh (M32 v0 52)).2 : Int)) (bd_ (up_ M32 (M32 v0 52) (w32 ((w32 (120 + (w32 (10 * v1)))) + v4)) (w32 ((w32 ((M32 (M32 v0 48) 1) - v5)) + 2))) fun (M41 : AwM) => (some (.inl ((w32 (v4 + 1)), M41))))) else gd_ ((kd_ sh (M32 v0 52)).1 = 1 ∧ (0 : Int) ≤ (w32 ((w32 (120 + (w32 (10 * v1)))) + v4)) ∧ (w32 ((w32 (120 + (w32 (10 * v1)))) + v4)) < ((kd_ sh (M32 v0 52)).2 : Int)) (bd_ (up_ M32 (M32 v0 52) (w32 ((w32 (120 + (w32 (10 * v1)))) + v4)) 0) fun (M37 : AwM) => (some (.inl ((w32 (v4 + 1)), M37))))))))
def fX9_coinOn_J120_49 (sh : AwS) (M : AwM) (v0 : Int) (v1 : Int) (v2 : Int) (v3 : Int) (v4 : Int) (v5 : Int) (s0 : Int) (s1 : Int) (s2 : Int) (s3 : Int) : Option ((Int × AwM) ⊕ ((AwM) ⊕ (AwM))) :=
  gd_ ((kd_ sh s0).1 = 1 ∧ (0 : Int) ≤ s1 ∧ s1 < ((kd_ sh s0).2 : Int)) (bd_ (up_ M s0 s1 (or_ s2 s3)) fun (M26 : AwM) => (gd_ (kd_ sh v0 = (0, 9)) (gd_ ((kd_ sh (M26 v0 51)).1 = 1 ∧ (0 : Int) ≤ v3 ∧ v3 < ((kd_ sh (M26 v0 51)).2 : Int)) ((if v5 = 1 then fX9_coinOn_J143_49 sh M26 v0 v1 v2 v3 v4 v5 (M26 v0 51) v3 (M26 (M26 v0 51) v3) (sl_ 1 v4) else fX9_coinOn_J143_49 sh M26 v0 v1 v2 v3 v4 v5 (M26 v0 51) v3 (M26 (M26 v0 51) v3) 0)))))
def fX9_coinOn_L49 (sh : AwS) (v0 : Int) (v1 : Int) (v2 : Int) (v3 : Int) (v4 : Int) (M : AwM) : Option ((Int × AwM) ⊕ ((AwM) ⊕ (AwM))) :=
  gd_ (kd_ sh v0 = (0, 9)) (gd_ ((kd_ sh (M v0 14)).1 = 1 ∧ (0 : Int) ≤ (M v0 13) ∧ (M v0 13) < ((kd_ sh (M v0 14)).2 : Int)) ((if v4 < (M (M v0 14) (M v0 13)) then gd_ ((kd_ sh (M v0 0)).1 = 1 ∧ (0 : Int) ≤ (w32 ((w32 (v2 + 1)) + v4)) ∧ (w32 ((w32 (v2 + 1)) + v4)) < ((kd_ sh (M v0 0)).2 : Int)) ((if 202 < (M (M v0 0) (w32 ((w32 (v2 + 1)) + v4))) then some (.inr (.inr M)) else gd_ ((kd_ sh (M v0 48)).1 = 1 ∧ (0 : Int) ≤ 1 ∧ 1 < ((kd_ sh (M v0 48)).2 : Int)) ((if (M (M v0 48) 1) < (w32 ((M (M v0 0) (w32 ((w32 (v2 + 1)) + v4))) - 2)) then some (.inr (.inr M)) else gd_ ((kd_ sh (M v0 50)).1 = 1 ∧ (0 : Int) ≤ v3 ∧ v3 < ((kd_ sh (M v0 50)).2 : Int)) ((if 1 < (M (M v0 0) (w32 ((w32 (v2 + 1)) + v4))) then fX9_coinOn_J120_49 sh M v0 v1 v2 v3 v4 (M (M v0 0) (w32 ((w32 (v2 + 1)) + v4))) (M v0 50) v3 (M (M v0 50) v3) (sl_ 1 v4) else fX9_coinOn_J120_49 sh M v0 v1 v2 v3 v4 (M (M v0 0) (w32 ((w32 (v2 + 1)) + v4))) (M v0 50) v3 (M (M v0 50) v3) 0)))))) else some (.inr (.inl M)))))
def p_X9_coinOn_L49 (Γ : AwC) (sh : AwS) (v0 : Int) (v1 : Int) (v2 : Int) (v3 : Int) (Q : State → Prop) (s : Int × AwM) : Prop := AW Γ sh (s.2) 0 0 49 [some (.inr (.inr v0)), some (.inl v1), some (.inl v2), some (.inl v3), some (.inl (s.1)), none] [] Q
def x_X9_coinOn_L49 (Γ : AwC) (sh : AwS) (v0 : Int) (v1 : Int) (v2 : Int) (v3 : Int) (Q : State → Prop) : ((AwM) ⊕ (AwM)) → Prop := (Sum.elim (fun (t : AwM) => AW Γ sh (t) 0 0 187 [some (.inr (.inr v0)), none, some (.inl v2), some (.inl v3), none, none] [] Q) (fun (t : AwM) => AW Γ sh (t) 0 0 97 [none, none, none, none, none, none] [] Q))
def fX9_coinOn (sh : AwS) (M : AwM) (v0 : Int) (v1 : Int) (v2 : Int) : Option (Int × AwM) :=
  gd_ (kd_ sh v0 = (0, 9)) (gd_ ((kd_ sh (M v0 0)).1 = 1 ∧ (0 : Int) ≤ v2 ∧ v2 < ((kd_ sh (M v0 0)).2 : Int)) (gd_ ((kd_ sh (M v0 49)).1 = 1 ∧ (0 : Int) ≤ (w32 (12 + v1)) ∧ (w32 (12 + v1)) < ((kd_ sh (M v0 49)).2 : Int)) (bd_ (up_ M (M v0 49) (w32 (12 + v1)) (M (M v0 0) v2)) fun (M4 : AwM) => (gd_ ((kd_ sh (M4 v0 50)).1 = 1 ∧ (0 : Int) ≤ (w32 (12 + v1)) ∧ (w32 (12 + v1)) < ((kd_ sh (M4 v0 50)).2 : Int)) (bd_ (up_ M4 (M4 v0 50) (w32 (12 + v1)) 0) fun (M7 : AwM) => (gd_ ((kd_ sh (M7 v0 51)).1 = 1 ∧ (0 : Int) ≤ (w32 (12 + v1)) ∧ (w32 (12 + v1)) < ((kd_ sh (M7 v0 51)).2 : Int)) (bd_ (up_ M7 (M7 v0 51) (w32 (12 + v1)) 0) fun (M10 : AwM) => (gd_ ((kd_ sh (M10 v0 0)).1 = 1 ∧ (0 : Int) ≤ v2 ∧ v2 < ((kd_ sh (M10 v0 0)).2 : Int)) (pb (fX9_isPerson sh M10 v0 (M10 (M10 v0 0) v2)) <| u1 fun (x14 : Int) => ((if x14 = 0 then some (0, M10) else pb (lp (u2 (fX9_coinOn_L49 sh v0 v1 v2 (w32 (12 + v1)))) FU (0, M10)) (Sum.elim (u1 (fun (tq43 : AwM) => gd_ ((kd_ sh (tq43 v0 50)).1 = 1 ∧ (0 : Int) ≤ (w32 (12 + v1)) ∧ (w32 (12 + v1)) < ((kd_ sh (tq43 v0 50)).2 : Int)) (gd_ ((kd_ sh (tq43 v0 0)).1 = 1 ∧ (0 : Int) ≤ v2 ∧ v2 < ((kd_ sh (tq43 v0 0)).2 : Int)) (pb (fX9_has2 sh tq43 (tq43 (tq43 v0 50) (w32 (12 + v1))) (tq43 (tq43 v0 0) v2)) <| u1 fun (x47 : Int) => (gd_ (x47 = 0 ∨ x47 = 1) (some (x47, tq43))))))) (u1 (fun (tq43 : AwM) => some (0, tq43)))))))))))))))
set_option maxRecDepth 100000 in
set_option maxHeartbeats 4000000 in
theorem w_X9_coinOn_J143_49 {Γ : AwC} (hC : AOK Γ RX9 cX9_coinOn 6 2 0 0 "coinOn" (some .boolean)) {sh : AwS} {M : AwM} {v0 : Int} {v1 : Int} {v2 : Int} {v3 : Int} {v4 : Int} {v5 : Int} {s0 : Int} {s1 : Int} {s2 : Int} {s3 : Int} {Q : State → Prop} {r : (Int × AwM) ⊕ ((AwM) ⊕ (AwM))} (h : fX9_coinOn_J143_49 sh M v0 v1 v2 v3 v4 v5 s0 s1 s2 s3 = some r) (hL : ∀ s', r = .inl s' → p_X9_coinOn_L49 Γ sh v0 v1 v2 v3 Q s') (hX : ∀ t, r = .inr t → x_X9_coinOn_L49 Γ sh v0 v1 v2 v3 Q t) : AW Γ sh M 0 0 143 [some (.inr (.inr v0)), some (.inl v1), some (.inl v2), some (.inl v3), some (.inl v4), some (.inl v5)] [.inl s3, .inl s2, .inl s1, .inr (.inr s0)] Q := by
  unfold fX9_coinOn_J143_49 at h
  refine aw_ior (pc' := 144) hC dX9_coinOn_143 rfl  ?_
  obtain ⟨g31, h⟩ := gd_s h
  obtain ⟨M32, e33, h⟩ := bd_s h
  refine aw_ias (pc' := 145) hC dX9_coinOn_144 rfl g31 e33 ?_
  refine aw_aload_n (pc' := 146) (i := 0) hC dX9_coinOn_145 rfl rfl rfl ?_
  obtain ⟨g34, h⟩ := gd_s h
  refine aw_getfield (pc' := 149) (v := (.inr (.inr (M32 v0 52)))) hC dX9_coinOn_146 rfl fl_X9_171 g34 rfl ?_
  refine aw_bipush (pc' := 151) hC dX9_coinOn_149 rfl (by decide) ?_
  refine aw_bipush (pc' := 153) hC dX9_coinOn_151 rfl (by decide) ?_
  refine aw_iload_n (pc' := 154) (i := 1) hC dX9_coinOn_153 rfl rfl rfl ?_
  refine aw_imul (pc' := 155) hC dX9_coinOn_154 rfl  ?_
  refine aw_iadd (pc' := 156) hC dX9_coinOn_155 rfl  ?_
  refine aw_iload (pc' := 158) hC dX9_coinOn_156 rfl rfl ?_
  refine aw_iadd (pc' := 159) hC dX9_coinOn_158 rfl  ?_
  refine aw_iload (pc' := 161) hC dX9_coinOn_159 rfl rfl ?_
  refine aw_iconst (pc' := 162) hC dX9_coinOn_161 rfl (by decide) ?_
  refine aw_icmp_le (tgt := 179) (pc' := 165) hC dX9_coinOn_162 (by decide) rfl (fun c35 => ?_) (fun c35 => ?_)
  · replace h := it_n c35 h
    refine aw_iconst (pc' := 180) hC dX9_coinOn_179 rfl (by decide) ?_
    obtain ⟨g36, h⟩ := gd_s h
    obtain ⟨M37, e38, h⟩ := bd_s h
    refine aw_ias (pc' := 181) hC dX9_coinOn_180 rfl g36 e38 ?_
    refine aw_iinc (pc' := 184) (ls' := [some (.inr (.inr v0)), some (.inl v1), some (.inl v2), some (.inl v3), some (.inl (w32 (v4 + 1))), some (.inl v5)]) hC dX9_coinOn_181 rfl rfl rfl rfl ?_
    refine aw_goto (tgt := 49) hC dX9_coinOn_184 (by decide) ?_
    refine aw_sub hC [some (.inr (.inr v0)), some (.inl v1), some (.inl v2), some (.inl v3), some (.inl (w32 (v4 + 1))), none] ⟨rfl, ⟨rfl, ⟨rfl, ⟨rfl, ⟨rfl, trivial⟩⟩⟩⟩⟩ (Nat.le_of_ble_eq_true rfl) ?_
    cases h
    exact hL _ rfl
  · replace h := it_p c35 h
    refine aw_aload_n (pc' := 166) (i := 0) hC dX9_coinOn_165 rfl rfl rfl ?_
    refine aw_getfield (pc' := 169) (v := (.inr (.inr (M32 v0 48)))) hC dX9_coinOn_166 rfl fl_X9_159 g34 rfl ?_
    refine aw_iconst (pc' := 170) hC dX9_coinOn_169 rfl (by decide) ?_
    obtain ⟨g39, h⟩ := gd_s h
    refine aw_iaload (pc' := 171) hC dX9_coinOn_170 rfl g39 ?_
    refine aw_iload (pc' := 173) hC dX9_coinOn_171 rfl rfl ?_
    refine aw_isub (pc' := 174) hC dX9_coinOn_173 rfl  ?_
    refine aw_iconst (pc' := 175) hC dX9_coinOn_174 rfl (by decide) ?_
    refine aw_iadd (pc' := 176) hC dX9_coinOn_175 rfl  ?_
    refine aw_goto (tgt := 180) hC dX9_coinOn_176 (by decide) ?_
    obtain ⟨g40, h⟩ := gd_s h
    obtain ⟨M41, e42, h⟩ := bd_s h
    refine aw_ias (pc' := 181) hC dX9_coinOn_180 rfl g40 e42 ?_
    refine aw_iinc (pc' := 184) (ls' := [some (.inr (.inr v0)), some (.inl v1), some (.inl v2), some (.inl v3), some (.inl (w32 (v4 + 1))), some (.inl v5)]) hC dX9_coinOn_181 rfl rfl rfl rfl ?_
    refine aw_goto (tgt := 49) hC dX9_coinOn_184 (by decide) ?_
    refine aw_sub hC [some (.inr (.inr v0)), some (.inl v1), some (.inl v2), some (.inl v3), some (.inl (w32 (v4 + 1))), none] ⟨rfl, ⟨rfl, ⟨rfl, ⟨rfl, ⟨rfl, trivial⟩⟩⟩⟩⟩ (Nat.le_of_ble_eq_true rfl) ?_
    cases h
    exact hL _ rfl
set_option maxRecDepth 100000 in
set_option maxHeartbeats 4000000 in
theorem w_X9_coinOn_J120_49 {Γ : AwC} (hC : AOK Γ RX9 cX9_coinOn 6 2 0 0 "coinOn" (some .boolean)) {sh : AwS} {M : AwM} {v0 : Int} {v1 : Int} {v2 : Int} {v3 : Int} {v4 : Int} {v5 : Int} {s0 : Int} {s1 : Int} {s2 : Int} {s3 : Int} {Q : State → Prop} {r : (Int × AwM) ⊕ ((AwM) ⊕ (AwM))} (h : fX9_coinOn_J120_49 sh M v0 v1 v2 v3 v4 v5 s0 s1 s2 s3 = some r) (hL : ∀ s', r = .inl s' → p_X9_coinOn_L49 Γ sh v0 v1 v2 v3 Q s') (hX : ∀ t, r = .inr t → x_X9_coinOn_L49 Γ sh v0 v1 v2 v3 Q t) : AW Γ sh M 0 0 120 [some (.inr (.inr v0)), some (.inl v1), some (.inl v2), some (.inl v3), some (.inl v4), some (.inl v5)] [.inl s3, .inl s2, .inl s1, .inr (.inr s0)] Q := by
  unfold fX9_coinOn_J120_49 at h
  refine aw_ior (pc' := 121) hC dX9_coinOn_120 rfl  ?_
  obtain ⟨g25, h⟩ := gd_s h
  obtain ⟨M26, e27, h⟩ := bd_s h
  refine aw_ias (pc' := 122) hC dX9_coinOn_121 rfl g25 e27 ?_
  refine aw_aload_n (pc' := 123) (i := 0) hC dX9_coinOn_122 rfl rfl rfl ?_
  obtain ⟨g28, h⟩ := gd_s h
  refine aw_getfield (pc' := 126) (v := (.inr (.inr (M26 v0 51)))) hC dX9_coinOn_123 rfl fl_X9_168 g28 rfl ?_
  refine aw_iload_n (pc' := 127) (i := 3) hC dX9_coinOn_126 rfl rfl rfl ?_
  refine aw_dup2 (pc' := 128) hC dX9_coinOn_127 rfl rfl rfl ?_
  obtain ⟨g29, h⟩ := gd_s h
  refine aw_iaload (pc' := 129) hC dX9_coinOn_128 rfl g29 ?_
  refine aw_iload (pc' := 131) hC dX9_coinOn_129 rfl rfl ?_
  refine aw_iconst (pc' := 132) hC dX9_coinOn_131 rfl (by decide) ?_
  refine aw_icmp_ne (tgt := 142) (pc' := 135) hC dX9_coinOn_132 (by decide) rfl (fun c30 => ?_) (fun c30 => ?_)
  · replace h := it_n c30 h
    refine aw_iconst (pc' := 143) hC dX9_coinOn_142 rfl (by decide) ?_
    refine aw_sub hC [some (.inr (.inr v0)), some (.inl v1), some (.inl v2), some (.inl v3), some (.inl v4), some (.inl v5)] ⟨rfl, ⟨rfl, ⟨rfl, ⟨rfl, ⟨rfl, ⟨rfl, trivial⟩⟩⟩⟩⟩⟩ (Nat.le_of_ble_eq_true rfl) ?_
    exact w_X9_coinOn_J143_49 hC h hL hX
  · replace h := it_p c30 h
    refine aw_iconst (pc' := 136) hC dX9_coinOn_135 rfl (by decide) ?_
    refine aw_iload (pc' := 138) hC dX9_coinOn_136 rfl rfl ?_
    refine aw_ishl (pc' := 139) hC dX9_coinOn_138 rfl  ?_
    refine aw_goto (tgt := 143) hC dX9_coinOn_139 (by decide) ?_
    refine aw_sub hC [some (.inr (.inr v0)), some (.inl v1), some (.inl v2), some (.inl v3), some (.inl v4), some (.inl v5)] ⟨rfl, ⟨rfl, ⟨rfl, ⟨rfl, ⟨rfl, ⟨rfl, trivial⟩⟩⟩⟩⟩⟩ (Nat.le_of_ble_eq_true rfl) ?_
    exact w_X9_coinOn_J143_49 hC h hL hX
set_option maxRecDepth 100000 in
set_option maxHeartbeats 4000000 in
theorem w_X9_coinOn_L49 {Γ : AwC} (hC : AOK Γ RX9 cX9_coinOn 6 2 0 0 "coinOn" (some .boolean)) {sh : AwS} {v0 : Int} {v1 : Int} {v2 : Int} {v3 : Int} {Q : State → Prop} : ∀ s r, u2 (fX9_coinOn_L49 sh v0 v1 v2 v3) s = some r → (∀ s', r = .inl s' → p_X9_coinOn_L49 Γ sh v0 v1 v2 v3 Q s') → (∀ t, r = .inr t → x_X9_coinOn_L49 Γ sh v0 v1 v2 v3 Q t) → p_X9_coinOn_L49 Γ sh v0 v1 v2 v3 Q s := by
  intro s r h hL hX
  obtain ⟨v4, M⟩ := s
  replace h := u2_s h
  unfold fX9_coinOn_L49 at h
  show AW Γ sh M 0 0 49 [some (.inr (.inr v0)), some (.inl v1), some (.inl v2), some (.inl v3), some (.inl v4), none] [] Q
  refine aw_iload (pc' := 51) hC dX9_coinOn_49 rfl rfl ?_
  refine aw_aload_n (pc' := 52) (i := 0) hC dX9_coinOn_51 rfl rfl rfl ?_
  obtain ⟨g16, h⟩ := gd_s h
  refine aw_getfield (pc' := 55) (v := (.inr (.inr (M v0 14)))) hC dX9_coinOn_52 rfl fl_X9_54 g16 rfl ?_
  refine aw_aload_n (pc' := 56) (i := 0) hC dX9_coinOn_55 rfl rfl rfl ?_
  refine aw_getfield (pc' := 59) (v := (.inl (M v0 13))) hC dX9_coinOn_56 rfl fl_X9_51 g16 rfl ?_
  obtain ⟨g17, h⟩ := gd_s h
  refine aw_iaload (pc' := 60) hC dX9_coinOn_59 rfl g17 ?_
  refine aw_icmp_ge (tgt := 187) (pc' := 63) hC dX9_coinOn_60 (by decide) rfl (fun c18 => ?_) (fun c18 => ?_)
  · replace h := it_n c18 h
    refine aw_sub hC [some (.inr (.inr v0)), none, some (.inl v2), some (.inl v3), none, none] ⟨rfl, ⟨rfl, ⟨rfl, trivial⟩⟩⟩ (Nat.le_of_ble_eq_true rfl) ?_
    cases h
    exact hX _ rfl
  · replace h := it_p c18 h
    refine aw_aload_n (pc' := 64) (i := 0) hC dX9_coinOn_63 rfl rfl rfl ?_
    refine aw_getfield (pc' := 67) (v := (.inr (.inr (M v0 0)))) hC dX9_coinOn_64 rfl fl_X9_7 g16 rfl ?_
    refine aw_iload_n (pc' := 68) (i := 2) hC dX9_coinOn_67 rfl rfl rfl ?_
    refine aw_iconst (pc' := 69) hC dX9_coinOn_68 rfl (by decide) ?_
    refine aw_iadd (pc' := 70) hC dX9_coinOn_69 rfl  ?_
    refine aw_iload (pc' := 72) hC dX9_coinOn_70 rfl rfl ?_
    refine aw_iadd (pc' := 73) hC dX9_coinOn_72 rfl  ?_
    obtain ⟨g19, h⟩ := gd_s h
    refine aw_iaload (pc' := 74) hC dX9_coinOn_73 rfl g19 ?_
    refine aw_istore (pc' := 76) (ls' := [some (.inr (.inr v0)), some (.inl v1), some (.inl v2), some (.inl v3), some (.inl v4), some (.inl (M (M v0 0) (w32 ((w32 (v2 + 1)) + v4))))]) hC dX9_coinOn_74 rfl (Nat.le_of_ble_eq_true rfl) rfl rfl ?_
    refine aw_iload (pc' := 78) hC dX9_coinOn_76 rfl rfl ?_
    refine aw_sipush (pc' := 81) hC dX9_coinOn_78 rfl (by decide) ?_
    refine aw_icmp_gt (tgt := 97) (pc' := 84) hC dX9_coinOn_81 (by decide) rfl (fun c20 => ?_) (fun c20 => ?_)
    · replace h := it_p c20 h
      refine aw_sub hC [none, none, none, none, none, none] trivial (Nat.le_of_ble_eq_true rfl) ?_
      cases h
      exact hX _ rfl
    · replace h := it_n c20 h
      refine aw_iload (pc' := 86) hC dX9_coinOn_84 rfl rfl ?_
      refine aw_iconst (pc' := 87) hC dX9_coinOn_86 rfl (by decide) ?_
      refine aw_isub (pc' := 88) hC dX9_coinOn_87 rfl  ?_
      refine aw_aload_n (pc' := 89) (i := 0) hC dX9_coinOn_88 rfl rfl rfl ?_
      refine aw_getfield (pc' := 92) (v := (.inr (.inr (M v0 48)))) hC dX9_coinOn_89 rfl fl_X9_159 g16 rfl ?_
      refine aw_iconst (pc' := 93) hC dX9_coinOn_92 rfl (by decide) ?_
      obtain ⟨g21, h⟩ := gd_s h
      refine aw_iaload (pc' := 94) hC dX9_coinOn_93 rfl g21 ?_
      refine aw_icmp_le (tgt := 99) (pc' := 97) hC dX9_coinOn_94 (by decide) rfl (fun c22 => ?_) (fun c22 => ?_)
      · replace h := it_n c22 h
        refine aw_aload_n (pc' := 100) (i := 0) hC dX9_coinOn_99 rfl rfl rfl ?_
        refine aw_getfield (pc' := 103) (v := (.inr (.inr (M v0 50)))) hC dX9_coinOn_100 rfl fl_X9_165 g16 rfl ?_
        refine aw_iload_n (pc' := 104) (i := 3) hC dX9_coinOn_103 rfl rfl rfl ?_
        refine aw_dup2 (pc' := 105) hC dX9_coinOn_104 rfl rfl rfl ?_
        obtain ⟨g23, h⟩ := gd_s h
        refine aw_iaload (pc' := 106) hC dX9_coinOn_105 rfl g23 ?_
        refine aw_iload (pc' := 108) hC dX9_coinOn_106 rfl rfl ?_
        refine aw_iconst (pc' := 109) hC dX9_coinOn_108 rfl (by decide) ?_
        refine aw_icmp_le (tgt := 119) (pc' := 112) hC dX9_coinOn_109 (by decide) rfl (fun c24 => ?_) (fun c24 => ?_)
        · replace h := it_n c24 h
          refine aw_iconst (pc' := 120) hC dX9_coinOn_119 rfl (by decide) ?_
          refine aw_sub hC [some (.inr (.inr v0)), some (.inl v1), some (.inl v2), some (.inl v3), some (.inl v4), some (.inl (M (M v0 0) (w32 ((w32 (v2 + 1)) + v4))))] ⟨rfl, ⟨rfl, ⟨rfl, ⟨rfl, ⟨rfl, ⟨rfl, trivial⟩⟩⟩⟩⟩⟩ (Nat.le_of_ble_eq_true rfl) ?_
          exact w_X9_coinOn_J120_49 hC h hL hX
        · replace h := it_p c24 h
          refine aw_iconst (pc' := 113) hC dX9_coinOn_112 rfl (by decide) ?_
          refine aw_iload (pc' := 115) hC dX9_coinOn_113 rfl rfl ?_
          refine aw_ishl (pc' := 116) hC dX9_coinOn_115 rfl  ?_
          refine aw_goto (tgt := 120) hC dX9_coinOn_116 (by decide) ?_
          refine aw_sub hC [some (.inr (.inr v0)), some (.inl v1), some (.inl v2), some (.inl v3), some (.inl v4), some (.inl (M (M v0 0) (w32 ((w32 (v2 + 1)) + v4))))] ⟨rfl, ⟨rfl, ⟨rfl, ⟨rfl, ⟨rfl, ⟨rfl, trivial⟩⟩⟩⟩⟩⟩ (Nat.le_of_ble_eq_true rfl) ?_
          exact w_X9_coinOn_J120_49 hC h hL hX
      · replace h := it_p c22 h
        refine aw_sub hC [none, none, none, none, none, none] trivial (Nat.le_of_ble_eq_true rfl) ?_
        cases h
        exact hX _ rfl
set_option maxRecDepth 100000 in
set_option maxHeartbeats 4000000 in
theorem mX9_coinOn {sh : AwS} {M : AwM} {v0 : Int} {v1 : Int} {v2 : Int} {r : Int} {M' : AwM} (h : fX9_coinOn sh M v0 v1 v2 = some (r, M')) : AMet yX9_coinOn cX9_coinOn 6 (some .boolean) 2 0 0 [.inr (.inr v0), .inl v1, .inl v2] sh M (some (.inl r)) sh M' := by
  refine amet_of (by decide +kernel) (Nat.le_of_ble_eq_true rfl) (fun Γ hC => ?_)
  replace hC : AOK Γ RX9 cX9_coinOn 6 2 0 0 "coinOn" (some .boolean) := hC
  unfold fX9_coinOn at h
  refine aw_sub hC [some (.inr (.inr v0)), some (.inl v1), some (.inl v2), none, none, none] ⟨rfl, ⟨rfl, ⟨rfl, trivial⟩⟩⟩ (Nat.le_of_ble_eq_true rfl) ?_
  refine aw_bipush (pc' := 2) hC dX9_coinOn_0 rfl (by decide) ?_
  refine aw_iload_n (pc' := 3) (i := 1) hC dX9_coinOn_2 rfl rfl rfl ?_
  refine aw_iadd (pc' := 4) hC dX9_coinOn_3 rfl  ?_
  refine aw_istore_n (pc' := 5) (i := 3) (ls' := [some (.inr (.inr v0)), some (.inl v1), some (.inl v2), some (.inl (w32 (12 + v1))), none, none]) hC dX9_coinOn_4 rfl rfl (Nat.le_of_ble_eq_true rfl) rfl rfl ?_
  refine aw_aload_n (pc' := 6) (i := 0) hC dX9_coinOn_5 rfl rfl rfl ?_
  obtain ⟨g1, h⟩ := gd_s h
  refine aw_getfield (pc' := 9) (v := (.inr (.inr (M v0 49)))) hC dX9_coinOn_6 rfl fl_X9_162 g1 rfl ?_
  refine aw_iload_n (pc' := 10) (i := 3) hC dX9_coinOn_9 rfl rfl rfl ?_
  refine aw_aload_n (pc' := 11) (i := 0) hC dX9_coinOn_10 rfl rfl rfl ?_
  refine aw_getfield (pc' := 14) (v := (.inr (.inr (M v0 0)))) hC dX9_coinOn_11 rfl fl_X9_7 g1 rfl ?_
  refine aw_iload_n (pc' := 15) (i := 2) hC dX9_coinOn_14 rfl rfl rfl ?_
  obtain ⟨g2, h⟩ := gd_s h
  refine aw_iaload (pc' := 16) hC dX9_coinOn_15 rfl g2 ?_
  obtain ⟨g3, h⟩ := gd_s h
  obtain ⟨M4, e5, h⟩ := bd_s h
  refine aw_ias (pc' := 17) hC dX9_coinOn_16 rfl g3 e5 ?_
  refine aw_aload_n (pc' := 18) (i := 0) hC dX9_coinOn_17 rfl rfl rfl ?_
  refine aw_getfield (pc' := 21) (v := (.inr (.inr (M4 v0 50)))) hC dX9_coinOn_18 rfl fl_X9_165 g1 rfl ?_
  refine aw_iload_n (pc' := 22) (i := 3) hC dX9_coinOn_21 rfl rfl rfl ?_
  refine aw_iconst (pc' := 23) hC dX9_coinOn_22 rfl (by decide) ?_
  obtain ⟨g6, h⟩ := gd_s h
  obtain ⟨M7, e8, h⟩ := bd_s h
  refine aw_ias (pc' := 24) hC dX9_coinOn_23 rfl g6 e8 ?_
  refine aw_aload_n (pc' := 25) (i := 0) hC dX9_coinOn_24 rfl rfl rfl ?_
  refine aw_getfield (pc' := 28) (v := (.inr (.inr (M7 v0 51)))) hC dX9_coinOn_25 rfl fl_X9_168 g1 rfl ?_
  refine aw_iload_n (pc' := 29) (i := 3) hC dX9_coinOn_28 rfl rfl rfl ?_
  refine aw_iconst (pc' := 30) hC dX9_coinOn_29 rfl (by decide) ?_
  obtain ⟨g9, h⟩ := gd_s h
  obtain ⟨M10, e11, h⟩ := bd_s h
  refine aw_ias (pc' := 31) hC dX9_coinOn_30 rfl g9 e11 ?_
  refine aw_aload_n (pc' := 32) (i := 0) hC dX9_coinOn_31 rfl rfl rfl ?_
  refine aw_aload_n (pc' := 33) (i := 0) hC dX9_coinOn_32 rfl rfl rfl ?_
  refine aw_getfield (pc' := 36) (v := (.inr (.inr (M10 v0 0)))) hC dX9_coinOn_33 rfl fl_X9_7 g1 rfl ?_
  refine aw_iload_n (pc' := 37) (i := 2) hC dX9_coinOn_36 rfl rfl rfl ?_
  obtain ⟨g12, h⟩ := gd_s h
  refine aw_iaload (pc' := 38) hC dX9_coinOn_37 rfl g12 ?_
  obtain ⟨x14, q13, h⟩ := pb_s h
  replace h := u1_s h
  refine aw_cV (pc' := 41) (k2 := 0) (n2 := 0) (st := []) (stN := [.inl x14]) hC [.inl (M10 (M10 v0 0) v2)] (mX9_isPerson q13) lk_X9_471 g1 dX9_coinOn_38 rfl rfl (Nat.le_of_ble_eq_true rfl) (Nat.le_of_ble_eq_true rfl) (Nat.le_of_ble_eq_true rfl) rfl (Nat.le_of_ble_eq_true rfl) rfl rfl rfl ?_
  refine aw_if_ne (tgt := 46) (pc' := 44) hC dX9_coinOn_41 (by decide) rfl (fun c15 => ?_) (fun c15 => ?_)
  · replace h := it_n c15 h
    refine aw_iconst (pc' := 47) hC dX9_coinOn_46 rfl (by decide) ?_
    refine aw_istore (pc' := 49) (ls' := [some (.inr (.inr v0)), some (.inl v1), some (.inl v2), some (.inl (w32 (12 + v1))), some (.inl 0), none]) hC dX9_coinOn_47 rfl (Nat.le_of_ble_eq_true rfl) rfl rfl ?_
    obtain ⟨tq43, q43, h⟩ := pb_s h
    refine aw_sub hC [some (.inr (.inr v0)), some (.inl v1), some (.inl v2), some (.inl (w32 (12 + v1))), some (.inl 0), none] ⟨rfl, ⟨rfl, ⟨rfl, ⟨rfl, ⟨rfl, trivial⟩⟩⟩⟩⟩ (Nat.le_of_ble_eq_true rfl) ?_
    refine (lp_aw (p_X9_coinOn_L49 Γ sh v0 v1 v2 (w32 (12 + v1)) (fin_ Γ 0 0 (some (.inl r)) sh M')) (x_X9_coinOn_L49 Γ sh v0 v1 v2 (w32 (12 + v1)) (fin_ Γ 0 0 (some (.inl r)) sh M')) (w_X9_coinOn_L49 hC ) FU _ _ q43 ?_ : p_X9_coinOn_L49 Γ sh v0 v1 v2 (w32 (12 + v1)) (fin_ Γ 0 0 (some (.inl r)) sh M') (0, M10))
    rcases tq43 with tq43 | tq43
    · replace h := se_l h
      replace h := u1_s h
      show AW Γ sh tq43 0 0 187 [some (.inr (.inr v0)), none, some (.inl v2), some (.inl (w32 (12 + v1))), none, none] [] _
      refine aw_aload_n (pc' := 188) (i := 0) hC dX9_coinOn_187 rfl rfl rfl ?_
      refine aw_getfield (pc' := 191) (v := (.inr (.inr (tq43 v0 50)))) hC dX9_coinOn_188 rfl fl_X9_165 g1 rfl ?_
      refine aw_iload_n (pc' := 192) (i := 3) hC dX9_coinOn_191 rfl rfl rfl ?_
      obtain ⟨g44, h⟩ := gd_s h
      refine aw_iaload (pc' := 193) hC dX9_coinOn_192 rfl g44 ?_
      refine aw_aload_n (pc' := 194) (i := 0) hC dX9_coinOn_193 rfl rfl rfl ?_
      refine aw_getfield (pc' := 197) (v := (.inr (.inr (tq43 v0 0)))) hC dX9_coinOn_194 rfl fl_X9_7 g1 rfl ?_
      refine aw_iload_n (pc' := 198) (i := 2) hC dX9_coinOn_197 rfl rfl rfl ?_
      obtain ⟨g45, h⟩ := gd_s h
      refine aw_iaload (pc' := 199) hC dX9_coinOn_198 rfl g45 ?_
      obtain ⟨x47, q46, h⟩ := pb_s h
      replace h := u1_s h
      refine aw_cS (pc' := 202) (k2 := 0) (n2 := 0) (st := []) (stN := [.inl x47]) hC [.inl (tq43 (tq43 v0 50) (w32 (12 + v1))), .inl (tq43 (tq43 v0 0) v2)] (mX9_has2 q46) lk_X9_373 dX9_coinOn_199 rfl rfl (Nat.le_of_ble_eq_true rfl) (Nat.le_of_ble_eq_true rfl) (Nat.le_of_ble_eq_true rfl) rfl (Nat.le_of_ble_eq_true rfl) rfl rfl rfl ?_
      obtain ⟨g48, h⟩ := gd_s h
      cases h
      exact aw_zret hC g48 dX9_coinOn_202 (Nat.le_of_ble_eq_true rfl) (Nat.le_of_ble_eq_true rfl)
    · replace h := se_r h
      replace h := u1_s h
      show AW Γ sh tq43 0 0 97 [none, none, none, none, none, none] [] _
      refine aw_iconst (pc' := 98) hC dX9_coinOn_97 rfl (by decide) ?_
      cases h
      exact aw_zret hC (Or.inl rfl) dX9_coinOn_98 (Nat.le_of_ble_eq_true rfl) (Nat.le_of_ble_eq_true rfl)
  · replace h := it_p c15 h
    refine aw_iconst (pc' := 45) hC dX9_coinOn_44 rfl (by decide) ?_
    cases h
    exact aw_zret hC (Or.inl rfl) dX9_coinOn_45 (Nat.le_of_ble_eq_true rfl) (Nat.le_of_ble_eq_true rfl)
-- CoinCircleModel.comesOn(I)Z
def fX9_comesOn_L59 (sh : AwS) (M : AwM) (v0 : Int) (v1 : Int) (v2 : Int) (v3 : Int) (v4 : Int) : Option ((Int × Int) ⊕ (Int)) :=
  (if v4 < (w32 (v1 - 1)) then gd_ (kd_ sh v0 = (0, 9)) (gd_ ((kd_ sh (M v0 0)).1 = 1 ∧ (0 : Int) ≤ v4 ∧ v4 < ((kd_ sh (M v0 0)).2 : Int)) (bd_ ((((w32 ((w32 (5 * v3)) + (M (M v0 0) v4))) : Int).tmod 251)) fun (x11 : Int) => (some (.inl (x11, (w32 (v4 + 1))))))) else some (.inr v3))
def p_X9_comesOn_L59 (Γ : AwC) (sh : AwS) (M : AwM) (v0 : Int) (v1 : Int) (v2 : Int) (Q : State → Prop) (s : Int × Int) : Prop := AW Γ sh M 0 0 59 [some (.inr (.inr v0)), some (.inl v1), some (.inl v2), some (.inl (s.1)), some (.inl (s.2))] [] Q
def x_X9_comesOn_L59 (Γ : AwC) (sh : AwS) (M : AwM) (v0 : Int) (v1 : Int) (v2 : Int) (Q : State → Prop) : (Int) → Prop := (fun (t : Int) => AW Γ sh M 0 0 89 [some (.inr (.inr v0)), some (.inl v1), some (.inl v2), some (.inl (t)), none] [] Q)
def fX9_comesOn_L134 (sh : AwS) (v0 : Int) (v2 : Int) (v4 : Int) (M : AwM) : Option ((Int × AwM) ⊕ ((AwM) ⊕ (AwM))) :=
  gd_ (kd_ sh v0 = (0, 9)) (gd_ ((kd_ sh (M v0 16)).1 = 1 ∧ (0 : Int) ≤ (M v0 13) ∧ (M v0 13) < ((kd_ sh (M v0 16)).2 : Int)) ((if v4 < (M (M v0 16) (M v0 13)) then pb (fX9_coinOn sh M v0 v4 (w32 (2 + (w32 (v2 * v4))))) <| u2 fun (x27 : Int) (M28 : AwM) => ((if x27 = 0 then some (.inr (.inr M28)) else some (.inl ((w32 (v4 + 1)), M28)))) else some (.inr (.inl M)))))
def p_X9_comesOn_L134 (Γ : AwC) (sh : AwS) (v0 : Int) (v2 : Int) (Q : State → Prop) (s : Int × AwM) : Prop := AW Γ sh (s.2) 0 0 134 [some (.inr (.inr v0)), none, some (.inl v2), none, some (.inl (s.1))] [] Q
def x_X9_comesOn_L134 (Γ : AwC) (sh : AwS) (v0 : Int) (v2 : Int) (Q : State → Prop) : ((AwM) ⊕ (AwM)) → Prop := (Sum.elim (fun (t : AwM) => AW Γ sh (t) 0 0 171 [none, none, none, none, none] [] Q) (fun (t : AwM) => AW Γ sh (t) 0 0 163 [none, none, none, none, none] [] Q))
def fX9_comesOn (sh : AwS) (M : AwM) (v0 : Int) (v1 : Int) : Option (Int × AwM) :=
  gd_ (kd_ sh v0 = (0, 9)) (gd_ ((kd_ sh (M v0 14)).1 = 1 ∧ (0 : Int) ≤ (M v0 13) ∧ (M v0 13) < ((kd_ sh (M v0 14)).2 : Int)) (gd_ ((kd_ sh (M v0 16)).1 = 1 ∧ (0 : Int) ≤ (M v0 13) ∧ (M v0 13) < ((kd_ sh (M v0 16)).2 : Int)) ((if v1 = (w32 (3 + (w32 ((w32 (1 + (M (M v0 14) (M v0 13)))) * (M (M v0 16) (M v0 13)))))) then gd_ ((kd_ sh (M v0 0)).1 = 1 ∧ (0 : Int) ≤ 0 ∧ 0 < ((kd_ sh (M v0 0)).2 : Int)) (gd_ ((kd_ sh (M v0 0)).1 = 1 ∧ (0 : Int) ≤ 1 ∧ 1 < ((kd_ sh (M v0 0)).2 : Int)) ((if 999 < (or_ (sl_ (M (M v0 0) 0) 8) (M (M v0 0) 1)) then some (0, M) else pb (lp (u2 (fX9_comesOn_L59 sh M v0 v1 (w32 (1 + (M (M v0 14) (M v0 13)))))) FU (103, 0)) (u1 (fun (tq13 : Int) => gd_ ((kd_ sh (M v0 0)).1 = 1 ∧ (0 : Int) ≤ (w32 (v1 - 1)) ∧ (w32 (v1 - 1)) < ((kd_ sh (M v0 0)).2 : Int)) ((if (M (M v0 0) (w32 (v1 - 1))) = tq13 then pb (fX9_copies sh M v0 1 0) <| u1 fun (M17 : AwM) => (gd_ ((kd_ sh (M17 v0 0)).1 = 1 ∧ (0 : Int) ≤ 0 ∧ 0 < ((kd_ sh (M17 v0 0)).2 : Int)) (gd_ ((kd_ sh (M17 v0 0)).1 = 1 ∧ (0 : Int) ≤ 1 ∧ 1 < ((kd_ sh (M17 v0 0)).2 : Int)) (gd_ ((kd_ sh (M17 v0 48)).1 = 1 ∧ (0 : Int) ≤ 1 ∧ 1 < ((kd_ sh (M17 v0 48)).2 : Int)) (bd_ (up_ M17 (M17 v0 48) 1 (or_ (sl_ (M17 (M17 v0 0) 0) 8) (M17 (M17 v0 0) 1))) fun (M21 : AwM) => (pb (lp (u2 (fX9_comesOn_L134 sh v0 (w32 (1 + (M (M v0 14) (M v0 13)))))) FU (0, M21)) (Sum.elim (u1 (fun (tq30 : AwM) => some (1, tq30))) (u1 (fun (tq30 : AwM) => some (0, tq30))))))))) else some (0, M)))))))) else some (0, M)))))
set_option maxRecDepth 100000 in
set_option maxHeartbeats 4000000 in
theorem w_X9_comesOn_L59 {Γ : AwC} (hC : AOK Γ RX9 cX9_comesOn 5 3 0 0 "comesOn" (some .boolean)) {sh : AwS} {M : AwM} {v0 : Int} {v1 : Int} {v2 : Int} {Q : State → Prop} : ∀ s r, u2 (fX9_comesOn_L59 sh M v0 v1 v2) s = some r → (∀ s', r = .inl s' → p_X9_comesOn_L59 Γ sh M v0 v1 v2 Q s') → (∀ t, r = .inr t → x_X9_comesOn_L59 Γ sh M v0 v1 v2 Q t) → p_X9_comesOn_L59 Γ sh M v0 v1 v2 Q s := by
  intro s r h hL hX
  obtain ⟨v3, v4⟩ := s
  replace h := u2_s h
  unfold fX9_comesOn_L59 at h
  show AW Γ sh M 0 0 59 [some (.inr (.inr v0)), some (.inl v1), some (.inl v2), some (.inl v3), some (.inl v4)] [] Q
  refine aw_iload (pc' := 61) hC dX9_comesOn_59 rfl rfl ?_
  refine aw_iload_n (pc' := 62) (i := 1) hC dX9_comesOn_61 rfl rfl rfl ?_
  refine aw_iconst (pc' := 63) hC dX9_comesOn_62 rfl (by decide) ?_
  refine aw_isub (pc' := 64) hC dX9_comesOn_63 rfl  ?_
  refine aw_icmp_ge (tgt := 89) (pc' := 67) hC dX9_comesOn_64 (by decide) rfl (fun c8 => ?_) (fun c8 => ?_)
  · replace h := it_n c8 h
    refine aw_sub hC [some (.inr (.inr v0)), some (.inl v1), some (.inl v2), some (.inl v3), none] ⟨rfl, ⟨rfl, ⟨rfl, ⟨rfl, trivial⟩⟩⟩⟩ (Nat.le_of_ble_eq_true rfl) ?_
    cases h
    exact hX _ rfl
  · replace h := it_p c8 h
    refine aw_iconst (pc' := 68) hC dX9_comesOn_67 rfl (by decide) ?_
    refine aw_iload_n (pc' := 69) (i := 3) hC dX9_comesOn_68 rfl rfl rfl ?_
    refine aw_imul (pc' := 70) hC dX9_comesOn_69 rfl  ?_
    refine aw_aload_n (pc' := 71) (i := 0) hC dX9_comesOn_70 rfl rfl rfl ?_
    obtain ⟨g9, h⟩ := gd_s h
    refine aw_getfield (pc' := 74) (v := (.inr (.inr (M v0 0)))) hC dX9_comesOn_71 rfl fl_X9_7 g9 rfl ?_
    refine aw_iload (pc' := 76) hC dX9_comesOn_74 rfl rfl ?_
    obtain ⟨g10, h⟩ := gd_s h
    refine aw_iaload (pc' := 77) hC dX9_comesOn_76 rfl g10 ?_
    refine aw_iadd (pc' := 78) hC dX9_comesOn_77 rfl  ?_
    refine aw_sipush (pc' := 81) hC dX9_comesOn_78 rfl (by decide) ?_
    refine aw_irem (pc' := 82) hC dX9_comesOn_81 rfl (by decide) ?_
    obtain ⟨x11, e12, h⟩ := bd_s h
    refine aw_reni e12 ?_
    refine aw_istore_n (pc' := 83) (i := 3) (ls' := [some (.inr (.inr v0)), some (.inl v1), some (.inl v2), some (.inl x11), some (.inl v4)]) hC dX9_comesOn_82 rfl rfl (Nat.le_of_ble_eq_true rfl) rfl rfl ?_
    refine aw_iinc (pc' := 86) (ls' := [some (.inr (.inr v0)), some (.inl v1), some (.inl v2), some (.inl x11), some (.inl (w32 (v4 + 1)))]) hC dX9_comesOn_83 rfl rfl rfl rfl ?_
    refine aw_goto (tgt := 59) hC dX9_comesOn_86 (by decide) ?_
    refine aw_sub hC [some (.inr (.inr v0)), some (.inl v1), some (.inl v2), some (.inl x11), some (.inl (w32 (v4 + 1)))] ⟨rfl, ⟨rfl, ⟨rfl, ⟨rfl, ⟨rfl, trivial⟩⟩⟩⟩⟩ (Nat.le_of_ble_eq_true rfl) ?_
    cases h
    exact hL _ rfl
set_option maxRecDepth 100000 in
set_option maxHeartbeats 4000000 in
theorem w_X9_comesOn_L134 {Γ : AwC} (hC : AOK Γ RX9 cX9_comesOn 5 3 0 0 "comesOn" (some .boolean)) {sh : AwS} {v0 : Int} {v2 : Int} {Q : State → Prop} : ∀ s r, u2 (fX9_comesOn_L134 sh v0 v2) s = some r → (∀ s', r = .inl s' → p_X9_comesOn_L134 Γ sh v0 v2 Q s') → (∀ t, r = .inr t → x_X9_comesOn_L134 Γ sh v0 v2 Q t) → p_X9_comesOn_L134 Γ sh v0 v2 Q s := by
  intro s r h hL hX
  obtain ⟨v4, M⟩ := s
  replace h := u2_s h
  unfold fX9_comesOn_L134 at h
  show AW Γ sh M 0 0 134 [some (.inr (.inr v0)), none, some (.inl v2), none, some (.inl v4)] [] Q
  refine aw_iload (pc' := 136) hC dX9_comesOn_134 rfl rfl ?_
  refine aw_aload_n (pc' := 137) (i := 0) hC dX9_comesOn_136 rfl rfl rfl ?_
  obtain ⟨g23, h⟩ := gd_s h
  refine aw_getfield (pc' := 140) (v := (.inr (.inr (M v0 16)))) hC dX9_comesOn_137 rfl fl_X9_60 g23 rfl ?_
  refine aw_aload_n (pc' := 141) (i := 0) hC dX9_comesOn_140 rfl rfl rfl ?_
  refine aw_getfield (pc' := 144) (v := (.inl (M v0 13))) hC dX9_comesOn_141 rfl fl_X9_51 g23 rfl ?_
  obtain ⟨g24, h⟩ := gd_s h
  refine aw_iaload (pc' := 145) hC dX9_comesOn_144 rfl g24 ?_
  refine aw_icmp_ge (tgt := 171) (pc' := 148) hC dX9_comesOn_145 (by decide) rfl (fun c25 => ?_) (fun c25 => ?_)
  · replace h := it_n c25 h
    refine aw_sub hC [none, none, none, none, none] trivial (Nat.le_of_ble_eq_true rfl) ?_
    cases h
    exact hX _ rfl
  · replace h := it_p c25 h
    refine aw_aload_n (pc' := 149) (i := 0) hC dX9_comesOn_148 rfl rfl rfl ?_
    refine aw_iload (pc' := 151) hC dX9_comesOn_149 rfl rfl ?_
    refine aw_iconst (pc' := 152) hC dX9_comesOn_151 rfl (by decide) ?_
    refine aw_iload_n (pc' := 153) (i := 2) hC dX9_comesOn_152 rfl rfl rfl ?_
    refine aw_iload (pc' := 155) hC dX9_comesOn_153 rfl rfl ?_
    refine aw_imul (pc' := 156) hC dX9_comesOn_155 rfl  ?_
    refine aw_iadd (pc' := 157) hC dX9_comesOn_156 rfl  ?_
    obtain ⟨⟨x27, M28⟩, q26, h⟩ := pb_s h
    replace h := u2_s h
    refine aw_cV (pc' := 160) (k2 := 0) (n2 := 0) (st := []) (stN := [.inl x27]) hC [.inl v4, .inl (w32 (2 + (w32 (v2 * v4))))] (mX9_coinOn q26) lk_X9_550 g23 dX9_comesOn_157 rfl rfl (Nat.le_of_ble_eq_true rfl) (Nat.le_of_ble_eq_true rfl) (Nat.le_of_ble_eq_true rfl) rfl (Nat.le_of_ble_eq_true rfl) rfl rfl rfl ?_
    refine aw_if_ne (tgt := 165) (pc' := 163) hC dX9_comesOn_160 (by decide) rfl (fun c29 => ?_) (fun c29 => ?_)
    · replace h := it_n c29 h
      refine aw_iinc (pc' := 168) (ls' := [some (.inr (.inr v0)), none, some (.inl v2), none, some (.inl (w32 (v4 + 1)))]) hC dX9_comesOn_165 rfl rfl rfl rfl ?_
      refine aw_goto (tgt := 134) hC dX9_comesOn_168 (by decide) ?_
      refine aw_sub hC [some (.inr (.inr v0)), none, some (.inl v2), none, some (.inl (w32 (v4 + 1)))] ⟨rfl, ⟨rfl, ⟨rfl, trivial⟩⟩⟩ (Nat.le_of_ble_eq_true rfl) ?_
      cases h
      exact hL _ rfl
    · replace h := it_p c29 h
      refine aw_sub hC [none, none, none, none, none] trivial (Nat.le_of_ble_eq_true rfl) ?_
      cases h
      exact hX _ rfl
set_option maxRecDepth 100000 in
set_option maxHeartbeats 4000000 in
theorem mX9_comesOn {sh : AwS} {M : AwM} {v0 : Int} {v1 : Int} {r : Int} {M' : AwM} (h : fX9_comesOn sh M v0 v1 = some (r, M')) : AMet yX9_comesOn cX9_comesOn 5 (some .boolean) 3 0 0 [.inr (.inr v0), .inl v1] sh M (some (.inl r)) sh M' := by
  refine amet_of (by decide +kernel) (Nat.le_of_ble_eq_true rfl) (fun Γ hC => ?_)
  replace hC : AOK Γ RX9 cX9_comesOn 5 3 0 0 "comesOn" (some .boolean) := hC
  unfold fX9_comesOn at h
  refine aw_sub hC [some (.inr (.inr v0)), some (.inl v1), none, none, none] ⟨rfl, ⟨rfl, trivial⟩⟩ (Nat.le_of_ble_eq_true rfl) ?_
  refine aw_iconst (pc' := 1) hC dX9_comesOn_0 rfl (by decide) ?_
  refine aw_aload_n (pc' := 2) (i := 0) hC dX9_comesOn_1 rfl rfl rfl ?_
  obtain ⟨g1, h⟩ := gd_s h
  refine aw_getfield (pc' := 5) (v := (.inr (.inr (M v0 14)))) hC dX9_comesOn_2 rfl fl_X9_54 g1 rfl ?_
  refine aw_aload_n (pc' := 6) (i := 0) hC dX9_comesOn_5 rfl rfl rfl ?_
  refine aw_getfield (pc' := 9) (v := (.inl (M v0 13))) hC dX9_comesOn_6 rfl fl_X9_51 g1 rfl ?_
  obtain ⟨g2, h⟩ := gd_s h
  refine aw_iaload (pc' := 10) hC dX9_comesOn_9 rfl g2 ?_
  refine aw_iadd (pc' := 11) hC dX9_comesOn_10 rfl  ?_
  refine aw_istore_n (pc' := 12) (i := 2) (ls' := [some (.inr (.inr v0)), some (.inl v1), some (.inl (w32 (1 + (M (M v0 14) (M v0 13))))), none, none]) hC dX9_comesOn_11 rfl rfl (Nat.le_of_ble_eq_true rfl) rfl rfl ?_
  refine aw_iload_n (pc' := 13) (i := 1) hC dX9_comesOn_12 rfl rfl rfl ?_
  refine aw_iconst (pc' := 14) hC dX9_comesOn_13 rfl (by decide) ?_
  refine aw_iload_n (pc' := 15) (i := 2) hC dX9_comesOn_14 rfl rfl rfl ?_
  refine aw_aload_n (pc' := 16) (i := 0) hC dX9_comesOn_15 rfl rfl rfl ?_
  refine aw_getfield (pc' := 19) (v := (.inr (.inr (M v0 16)))) hC dX9_comesOn_16 rfl fl_X9_60 g1 rfl ?_
  refine aw_aload_n (pc' := 20) (i := 0) hC dX9_comesOn_19 rfl rfl rfl ?_
  refine aw_getfield (pc' := 23) (v := (.inl (M v0 13))) hC dX9_comesOn_20 rfl fl_X9_51 g1 rfl ?_
  obtain ⟨g3, h⟩ := gd_s h
  refine aw_iaload (pc' := 24) hC dX9_comesOn_23 rfl g3 ?_
  refine aw_imul (pc' := 25) hC dX9_comesOn_24 rfl  ?_
  refine aw_iadd (pc' := 26) hC dX9_comesOn_25 rfl  ?_
  refine aw_icmp_ne (tgt := 51) (pc' := 29) hC dX9_comesOn_26 (by decide) rfl (fun c4 => ?_) (fun c4 => ?_)
  · replace h := it_n c4 h
    refine aw_iconst (pc' := 52) hC dX9_comesOn_51 rfl (by decide) ?_
    cases h
    exact aw_zret hC (Or.inl rfl) dX9_comesOn_52 (Nat.le_of_ble_eq_true rfl) (Nat.le_of_ble_eq_true rfl)
  · replace h := it_p c4 h
    refine aw_aload_n (pc' := 30) (i := 0) hC dX9_comesOn_29 rfl rfl rfl ?_
    refine aw_getfield (pc' := 33) (v := (.inr (.inr (M v0 0)))) hC dX9_comesOn_30 rfl fl_X9_7 g1 rfl ?_
    refine aw_iconst (pc' := 34) hC dX9_comesOn_33 rfl (by decide) ?_
    obtain ⟨g5, h⟩ := gd_s h
    refine aw_iaload (pc' := 35) hC dX9_comesOn_34 rfl g5 ?_
    refine aw_bipush (pc' := 37) hC dX9_comesOn_35 rfl (by decide) ?_
    refine aw_ishl (pc' := 38) hC dX9_comesOn_37 rfl  ?_
    refine aw_aload_n (pc' := 39) (i := 0) hC dX9_comesOn_38 rfl rfl rfl ?_
    refine aw_getfield (pc' := 42) (v := (.inr (.inr (M v0 0)))) hC dX9_comesOn_39 rfl fl_X9_7 g1 rfl ?_
    refine aw_iconst (pc' := 43) hC dX9_comesOn_42 rfl (by decide) ?_
    obtain ⟨g6, h⟩ := gd_s h
    refine aw_iaload (pc' := 44) hC dX9_comesOn_43 rfl g6 ?_
    refine aw_ior (pc' := 45) hC dX9_comesOn_44 rfl  ?_
    refine aw_sipush (pc' := 48) hC dX9_comesOn_45 rfl (by decide) ?_
    refine aw_icmp_le (tgt := 53) (pc' := 51) hC dX9_comesOn_48 (by decide) rfl (fun c7 => ?_) (fun c7 => ?_)
    · replace h := it_n c7 h
      refine aw_bipush (pc' := 55) hC dX9_comesOn_53 rfl (by decide) ?_
      refine aw_istore_n (pc' := 56) (i := 3) (ls' := [some (.inr (.inr v0)), some (.inl v1), some (.inl (w32 (1 + (M (M v0 14) (M v0 13))))), some (.inl 103), none]) hC dX9_comesOn_55 rfl rfl (Nat.le_of_ble_eq_true rfl) rfl rfl ?_
      refine aw_iconst (pc' := 57) hC dX9_comesOn_56 rfl (by decide) ?_
      refine aw_istore (pc' := 59) (ls' := [some (.inr (.inr v0)), some (.inl v1), some (.inl (w32 (1 + (M (M v0 14) (M v0 13))))), some (.inl 103), some (.inl 0)]) hC dX9_comesOn_57 rfl (Nat.le_of_ble_eq_true rfl) rfl rfl ?_
      obtain ⟨tq13, q13, h⟩ := pb_s h
      refine aw_sub hC [some (.inr (.inr v0)), some (.inl v1), some (.inl (w32 (1 + (M (M v0 14) (M v0 13))))), some (.inl 103), some (.inl 0)] ⟨rfl, ⟨rfl, ⟨rfl, ⟨rfl, ⟨rfl, trivial⟩⟩⟩⟩⟩ (Nat.le_of_ble_eq_true rfl) ?_
      refine (lp_aw (p_X9_comesOn_L59 Γ sh M v0 v1 (w32 (1 + (M (M v0 14) (M v0 13)))) (fin_ Γ 0 0 (some (.inl r)) sh M')) (x_X9_comesOn_L59 Γ sh M v0 v1 (w32 (1 + (M (M v0 14) (M v0 13)))) (fin_ Γ 0 0 (some (.inl r)) sh M')) (w_X9_comesOn_L59 hC ) FU _ _ q13 ?_ : p_X9_comesOn_L59 Γ sh M v0 v1 (w32 (1 + (M (M v0 14) (M v0 13)))) (fin_ Γ 0 0 (some (.inl r)) sh M') (103, 0))
      replace h := u1_s h
      show AW Γ sh M 0 0 89 [some (.inr (.inr v0)), some (.inl v1), some (.inl (w32 (1 + (M (M v0 14) (M v0 13))))), some (.inl tq13), none] [] _
      refine aw_aload_n (pc' := 90) (i := 0) hC dX9_comesOn_89 rfl rfl rfl ?_
      refine aw_getfield (pc' := 93) (v := (.inr (.inr (M v0 0)))) hC dX9_comesOn_90 rfl fl_X9_7 g1 rfl ?_
      refine aw_iload_n (pc' := 94) (i := 1) hC dX9_comesOn_93 rfl rfl rfl ?_
      refine aw_iconst (pc' := 95) hC dX9_comesOn_94 rfl (by decide) ?_
      refine aw_isub (pc' := 96) hC dX9_comesOn_95 rfl  ?_
      obtain ⟨g14, h⟩ := gd_s h
      refine aw_iaload (pc' := 97) hC dX9_comesOn_96 rfl g14 ?_
      refine aw_iload_n (pc' := 98) (i := 3) hC dX9_comesOn_97 rfl rfl rfl ?_
      refine aw_icmp_eq (tgt := 103) (pc' := 101) hC dX9_comesOn_98 (by decide) rfl (fun c15 => ?_) (fun c15 => ?_)
      · replace h := it_p c15 h
        refine aw_aload_n (pc' := 104) (i := 0) hC dX9_comesOn_103 rfl rfl rfl ?_
        refine aw_iconst (pc' := 105) hC dX9_comesOn_104 rfl (by decide) ?_
        refine aw_iconst (pc' := 106) hC dX9_comesOn_105 rfl (by decide) ?_
        obtain ⟨M17, q16, h⟩ := pb_s h
        replace h := u1_s h
        refine aw_cV (pc' := 109) (k2 := 0) (n2 := 0) (st := []) (stN := []) hC [.inl 1, .inl 0] (mX9_copies q16) lk_X9_416 g1 dX9_comesOn_106 rfl rfl (Nat.le_of_ble_eq_true rfl) (Nat.le_of_ble_eq_true rfl) (Nat.le_of_ble_eq_true rfl) rfl (Nat.le_of_ble_eq_true rfl) rfl rfl rfl ?_
        refine aw_aload_n (pc' := 110) (i := 0) hC dX9_comesOn_109 rfl rfl rfl ?_
        refine aw_getfield (pc' := 113) (v := (.inr (.inr (M17 v0 48)))) hC dX9_comesOn_110 rfl fl_X9_159 g1 rfl ?_
        refine aw_iconst (pc' := 114) hC dX9_comesOn_113 rfl (by decide) ?_
        refine aw_aload_n (pc' := 115) (i := 0) hC dX9_comesOn_114 rfl rfl rfl ?_
        refine aw_getfield (pc' := 118) (v := (.inr (.inr (M17 v0 0)))) hC dX9_comesOn_115 rfl fl_X9_7 g1 rfl ?_
        refine aw_iconst (pc' := 119) hC dX9_comesOn_118 rfl (by decide) ?_
        obtain ⟨g18, h⟩ := gd_s h
        refine aw_iaload (pc' := 120) hC dX9_comesOn_119 rfl g18 ?_
        refine aw_bipush (pc' := 122) hC dX9_comesOn_120 rfl (by decide) ?_
        refine aw_ishl (pc' := 123) hC dX9_comesOn_122 rfl  ?_
        refine aw_aload_n (pc' := 124) (i := 0) hC dX9_comesOn_123 rfl rfl rfl ?_
        refine aw_getfield (pc' := 127) (v := (.inr (.inr (M17 v0 0)))) hC dX9_comesOn_124 rfl fl_X9_7 g1 rfl ?_
        refine aw_iconst (pc' := 128) hC dX9_comesOn_127 rfl (by decide) ?_
        obtain ⟨g19, h⟩ := gd_s h
        refine aw_iaload (pc' := 129) hC dX9_comesOn_128 rfl g19 ?_
        refine aw_ior (pc' := 130) hC dX9_comesOn_129 rfl  ?_
        obtain ⟨g20, h⟩ := gd_s h
        obtain ⟨M21, e22, h⟩ := bd_s h
        refine aw_ias (pc' := 131) hC dX9_comesOn_130 rfl g20 e22 ?_
        refine aw_iconst (pc' := 132) hC dX9_comesOn_131 rfl (by decide) ?_
        refine aw_istore (pc' := 134) (ls' := [some (.inr (.inr v0)), some (.inl v1), some (.inl (w32 (1 + (M (M v0 14) (M v0 13))))), some (.inl tq13), some (.inl 0)]) hC dX9_comesOn_132 rfl (Nat.le_of_ble_eq_true rfl) rfl rfl ?_
        obtain ⟨tq30, q30, h⟩ := pb_s h
        refine aw_sub hC [some (.inr (.inr v0)), none, some (.inl (w32 (1 + (M (M v0 14) (M v0 13))))), none, some (.inl 0)] ⟨rfl, ⟨rfl, ⟨rfl, trivial⟩⟩⟩ (Nat.le_of_ble_eq_true rfl) ?_
        refine (lp_aw (p_X9_comesOn_L134 Γ sh v0 (w32 (1 + (M (M v0 14) (M v0 13)))) (fin_ Γ 0 0 (some (.inl r)) sh M')) (x_X9_comesOn_L134 Γ sh v0 (w32 (1 + (M (M v0 14) (M v0 13)))) (fin_ Γ 0 0 (some (.inl r)) sh M')) (w_X9_comesOn_L134 hC ) FU _ _ q30 ?_ : p_X9_comesOn_L134 Γ sh v0 (w32 (1 + (M (M v0 14) (M v0 13)))) (fin_ Γ 0 0 (some (.inl r)) sh M') (0, M21))
        rcases tq30 with tq30 | tq30
        · replace h := se_l h
          replace h := u1_s h
          show AW Γ sh tq30 0 0 171 [none, none, none, none, none] [] _
          refine aw_iconst (pc' := 172) hC dX9_comesOn_171 rfl (by decide) ?_
          cases h
          exact aw_zret hC (Or.inr rfl) dX9_comesOn_172 (Nat.le_of_ble_eq_true rfl) (Nat.le_of_ble_eq_true rfl)
        · replace h := se_r h
          replace h := u1_s h
          show AW Γ sh tq30 0 0 163 [none, none, none, none, none] [] _
          refine aw_iconst (pc' := 164) hC dX9_comesOn_163 rfl (by decide) ?_
          cases h
          exact aw_zret hC (Or.inl rfl) dX9_comesOn_164 (Nat.le_of_ble_eq_true rfl) (Nat.le_of_ble_eq_true rfl)
      · replace h := it_n c15 h
        refine aw_iconst (pc' := 102) hC dX9_comesOn_101 rfl (by decide) ?_
        cases h
        exact aw_zret hC (Or.inl rfl) dX9_comesOn_102 (Nat.le_of_ble_eq_true rfl) (Nat.le_of_ble_eq_true rfl)
    · replace h := it_p c7 h
      refine aw_iconst (pc' := 52) hC dX9_comesOn_51 rfl (by decide) ?_
      cases h
      exact aw_zret hC (Or.inl rfl) dX9_comesOn_52 (Nat.le_of_ble_eq_true rfl) (Nat.le_of_ble_eq_true rfl)
-- CoinCircleModel.on()Z
def fX9_on (sh : AwS) (M : AwM) (v0 : Int) : Option (Int × AwM) :=
  gd_ (kd_ sh v0 = (0, 9)) (bd_ (up_ M v0 1 0) fun (M2 : AwM) => (pb (fX9_comesOn sh M2 v0 (M v0 1)) <| u2 fun (x5 : Int) (M6 : AwM) => ((if x5 = 0 then pb (fX9_refuses sh M6 v0 5) <| u2 fun (x13 : Int) (M14 : AwM) => ((if x13 < 0 then some (0, M14) else some (1, M14))) else pb (fX9_copies sh M6 v0 0 1) <| u1 fun (M9 : AwM) => (bd_ (up_ M9 v0 54 0) fun (M10 : AwM) => (some (1, M10)))))))
set_option maxRecDepth 100000 in
set_option maxHeartbeats 4000000 in
theorem mX9_on {sh : AwS} {M : AwM} {v0 : Int} {r : Int} {M' : AwM} (h : fX9_on sh M v0 = some (r, M')) : AMet yX9_on cX9_on 2 (some .boolean) 4 0 0 [.inr (.inr v0)] sh M (some (.inl r)) sh M' := by
  refine amet_of (by decide +kernel) (Nat.le_of_ble_eq_true rfl) (fun Γ hC => ?_)
  replace hC : AOK Γ RX9 cX9_on 2 4 0 0 "on" (some .boolean) := hC
  unfold fX9_on at h
  refine aw_sub hC [some (.inr (.inr v0)), none] ⟨rfl, trivial⟩ (Nat.le_of_ble_eq_true rfl) ?_
  refine aw_aload_n (pc' := 1) (i := 0) hC dX9_on_0 rfl rfl rfl ?_
  obtain ⟨g1, h⟩ := gd_s h
  refine aw_getfield (pc' := 4) (v := (.inl (M v0 1))) hC dX9_on_1 rfl fl_X9_13 g1 rfl ?_
  refine aw_istore_n (pc' := 5) (i := 1) (ls' := [some (.inr (.inr v0)), some (.inl (M v0 1))]) hC dX9_on_4 rfl rfl (Nat.le_of_ble_eq_true rfl) rfl rfl ?_
  refine aw_aload_n (pc' := 6) (i := 0) hC dX9_on_5 rfl rfl rfl ?_
  refine aw_iconst (pc' := 7) hC dX9_on_6 rfl (by decide) ?_
  obtain ⟨M2, e3, h⟩ := bd_s h
  refine aw_pf (pc' := 10) hC dX9_on_7 rfl fp_X9_13 g1 rfl trivial e3 ?_
  refine aw_aload_n (pc' := 11) (i := 0) hC dX9_on_10 rfl rfl rfl ?_
  refine aw_iload_n (pc' := 12) (i := 1) hC dX9_on_11 rfl rfl rfl ?_
  obtain ⟨⟨x5, M6⟩, q4, h⟩ := pb_s h
  replace h := u2_s h
  refine aw_cV (pc' := 15) (k2 := 0) (n2 := 0) (st := []) (stN := [.inl x5]) hC [.inl (M v0 1)] (mX9_comesOn q4) lk_X9_553 g1 dX9_on_12 rfl rfl (Nat.le_of_ble_eq_true rfl) (Nat.le_of_ble_eq_true rfl) (Nat.le_of_ble_eq_true rfl) rfl (Nat.le_of_ble_eq_true rfl) rfl rfl rfl ?_
  refine aw_if_ne (tgt := 32) (pc' := 18) hC dX9_on_15 (by decide) rfl (fun c7 => ?_) (fun c7 => ?_)
  · replace h := it_n c7 h
    refine aw_aload_n (pc' := 33) (i := 0) hC dX9_on_32 rfl rfl rfl ?_
    refine aw_iconst (pc' := 34) hC dX9_on_33 rfl (by decide) ?_
    refine aw_iconst (pc' := 35) hC dX9_on_34 rfl (by decide) ?_
    obtain ⟨M9, q8, h⟩ := pb_s h
    replace h := u1_s h
    refine aw_cV (pc' := 38) (k2 := 0) (n2 := 0) (st := []) (stN := []) hC [.inl 0, .inl 1] (mX9_copies q8) lk_X9_416 g1 dX9_on_35 rfl rfl (Nat.le_of_ble_eq_true rfl) (Nat.le_of_ble_eq_true rfl) (Nat.le_of_ble_eq_true rfl) rfl (Nat.le_of_ble_eq_true rfl) rfl rfl rfl ?_
    refine aw_aload_n (pc' := 39) (i := 0) hC dX9_on_38 rfl rfl rfl ?_
    refine aw_iconst (pc' := 40) hC dX9_on_39 rfl (by decide) ?_
    obtain ⟨M10, e11, h⟩ := bd_s h
    refine aw_pf (pc' := 43) hC dX9_on_40 rfl fp_X9_177 g1 rfl trivial e11 ?_
    refine aw_iconst (pc' := 44) hC dX9_on_43 rfl (by decide) ?_
    cases h
    exact aw_zret hC (Or.inr rfl) dX9_on_44 (Nat.le_of_ble_eq_true rfl) (Nat.le_of_ble_eq_true rfl)
  · replace h := it_p c7 h
    refine aw_aload_n (pc' := 19) (i := 0) hC dX9_on_18 rfl rfl rfl ?_
    refine aw_iconst (pc' := 20) hC dX9_on_19 rfl (by decide) ?_
    obtain ⟨⟨x13, M14⟩, q12, h⟩ := pb_s h
    replace h := u2_s h
    refine aw_cV (pc' := 23) (k2 := 0) (n2 := 0) (st := []) (stN := [.inl x13]) hC [.inl 5] (mX9_refuses q12) lk_X9_228 g1 dX9_on_20 rfl rfl (Nat.le_of_ble_eq_true rfl) (Nat.le_of_ble_eq_true rfl) (Nat.le_of_ble_eq_true rfl) rfl (Nat.le_of_ble_eq_true rfl) rfl rfl rfl ?_
    refine aw_if_lt (tgt := 30) (pc' := 26) hC dX9_on_23 (by decide) rfl (fun c15 => ?_) (fun c15 => ?_)
    · replace h := it_p c15 h
      refine aw_iconst (pc' := 31) hC dX9_on_30 rfl (by decide) ?_
      cases h
      exact aw_zret hC (Or.inl rfl) dX9_on_31 (Nat.le_of_ble_eq_true rfl) (Nat.le_of_ble_eq_true rfl)
    · replace h := it_n c15 h
      refine aw_iconst (pc' := 27) hC dX9_on_26 rfl (by decide) ?_
      refine aw_goto (tgt := 31) hC dX9_on_27 (by decide) ?_
      cases h
      exact aw_zret hC (Or.inr rfl) dX9_on_31 (Nat.le_of_ble_eq_true rfl) (Nat.le_of_ble_eq_true rfl)
