-- CoinCircle.image()I
def fX8_image_L63 (sh : AwS) (v0 : Int) (v1 : Int) (v2 : Int) (v3 : Int) (M : AwM) : Option ((Int × AwM) ⊕ (AwM)) :=
  gd_ (kd_ sh v0 = (0, 8)) (gd_ (kd_ sh (M v0 3) = (0, 5)) (gd_ ((kd_ sh (M (M v0 3) 0)).1 = 1 ∧ (0 : Int) ≤ 0 ∧ 0 < ((kd_ sh (M (M v0 3) 0)).2 : Int)) ((if v3 < (M (M (M v0 3) 0) 0) then gd_ (kd_ sh (M v0 4) = (0, 0)) (pb (fX0_standing sh M (M v0 4) v2 v3) <| u1 fun (x24 : Int) => (pb (fX8_putImageByte sh M v0 x24) <| u1 fun (M26 : AwM) => (some (.inl ((w32 (v3 + 1)), M26))))) else some (.inr M)))))
def p_X8_image_L63 (Γ : AwC) (sh : AwS) (v0 : Int) (v1 : Int) (v2 : Int) (Q : State → Prop) (s : Int × AwM) : Prop := AW Γ sh (s.2) 0 0 63 [some (.inr (.inr v0)), some (.inr (.inr v1)), some (.inl v2), some (.inl (s.1))] [] Q
def x_X8_image_L63 (Γ : AwC) (sh : AwS) (v0 : Int) (v1 : Int) (v2 : Int) (Q : State → Prop) : (AwM) → Prop := (fun (t : AwM) => AW Γ sh (t) 0 0 95 [some (.inr (.inr v0)), some (.inr (.inr v1)), some (.inl v2), none] [] Q)
def fX8_image_L38 (sh : AwS) (v0 : Int) (v1 : Int) (v2 : Int) (M : AwM) : Option ((Int × AwM) ⊕ (AwM)) :=
  gd_ (kd_ sh v0 = (0, 8)) (gd_ (kd_ sh (M v0 3) = (0, 5)) (gd_ ((kd_ sh (M (M v0 3) 0)).1 = 1 ∧ (0 : Int) ≤ 1 ∧ 1 < ((kd_ sh (M (M v0 3) 0)).2 : Int)) ((if v2 < (M (M (M v0 3) 0) 1) then gd_ (kd_ sh v1 = (0, 3)) (gd_ ((kd_ sh (M v1 1)).1 = 1 ∧ (0 : Int) ≤ v2 ∧ v2 < ((kd_ sh (M v1 1)).2 : Int)) (pb (fX8_putImageByte sh M v0 (M (M v1 1) v2)) <| u1 fun (M17 : AwM) => (pb (lp (u2 (fX8_image_L63 sh v0 v1 v2)) FU (0, M17)) (u1 (fun (tq27 : AwM) => some (.inl ((w32 (v2 + 1)), tq27))))))) else some (.inr M)))))
def p_X8_image_L38 (Γ : AwC) (sh : AwS) (v0 : Int) (v1 : Int) (Q : State → Prop) (s : Int × AwM) : Prop := AW Γ sh (s.2) 0 0 38 [some (.inr (.inr v0)), some (.inr (.inr v1)), some (.inl (s.1)), none] [] Q
def x_X8_image_L38 (Γ : AwC) (sh : AwS) (v0 : Int) (v1 : Int) (Q : State → Prop) : (AwM) → Prop := (fun (t : AwM) => AW Γ sh (t) 0 0 101 [some (.inr (.inr v0)), none, none, none] [] Q)
def fX8_image_L106 (sh : AwS) (M : AwM) (v0 : Int) (v2 : Int) (v3 : Int) : Option ((Int × Int) ⊕ (Int)) :=
  gd_ (kd_ sh v0 = (0, 8)) ((if v3 < (M v0 12) then gd_ ((kd_ sh (M v0 11)).1 = 3 ∧ (0 : Int) ≤ v3 ∧ v3 < ((kd_ sh (M v0 11)).2 : Int)) (bd_ ((((w32 ((w32 (5 * v2)) + (an_ (M (M v0 11) v3) 255))) : Int).tmod 251)) fun (x32 : Int) => (some (.inl (x32, (w32 (v3 + 1)))))) else some (.inr v2)))
def p_X8_image_L106 (Γ : AwC) (sh : AwS) (M : AwM) (v0 : Int) (Q : State → Prop) (s : Int × Int) : Prop := AW Γ sh M 0 0 106 [some (.inr (.inr v0)), none, some (.inl (s.1)), some (.inl (s.2))] [] Q
def x_X8_image_L106 (Γ : AwC) (sh : AwS) (M : AwM) (v0 : Int) (Q : State → Prop) : (Int) → Prop := (fun (t : Int) => AW Γ sh M 0 0 139 [some (.inr (.inr v0)), none, some (.inl (t)), none] [] Q)
def fX8_image (sh : AwS) (M : AwM) (v0 : Int) : Option (Int × AwM) :=
  gd_ (kd_ sh v0 = (0, 8)) (gd_ (kd_ sh (M v0 4) = (0, 0)) (bd_ (up_ M v0 12 0) fun (M3 : AwM) => (gd_ (kd_ sh (M (M v0 4) 0) = (0, 3)) (pb (fX8_putImageByte sh M3 v0 (sr_ (M3 (M (M v0 4) 0) 0) 8)) <| u1 fun (M7 : AwM) => (pb (fX8_putImageByte sh M7 v0 (an_ (M7 (M (M v0 4) 0) 0) 255)) <| u1 fun (M9 : AwM) => (pb (lp (u2 (fX8_image_L38 sh v0 (M (M v0 4) 0))) FU (0, M9)) (u1 (fun (tq28 : AwM) => pb (lp (u2 (fX8_image_L106 sh tq28 v0)) FU (103, 0)) (u1 (fun (tq34 : Int) => pb (fX8_putImageByte sh tq28 v0 tq34) <| u1 fun (M36 : AwM) => (some ((M36 v0 12), M36))))))))))))
set_option maxRecDepth 100000 in
set_option maxHeartbeats 4000000 in
theorem w_X8_image_L63 {Γ : AwC} (hC : AOK Γ RX8 cX8_image 4 4 0 0 "image" (some .int)) {sh : AwS} {v0 : Int} {v1 : Int} {v2 : Int} {Q : State → Prop} : ∀ s r, u2 (fX8_image_L63 sh v0 v1 v2) s = some r → (∀ s', r = .inl s' → p_X8_image_L63 Γ sh v0 v1 v2 Q s') → (∀ t, r = .inr t → x_X8_image_L63 Γ sh v0 v1 v2 Q t) → p_X8_image_L63 Γ sh v0 v1 v2 Q s := by
  intro s r h hL hX
  obtain ⟨v3, M⟩ := s
  replace h := u2_s h
  unfold fX8_image_L63 at h
  show AW Γ sh M 0 0 63 [some (.inr (.inr v0)), some (.inr (.inr v1)), some (.inl v2), some (.inl v3)] [] Q
  refine aw_iload_n (pc' := 64) (i := 3) hC dX8_image_63 rfl rfl rfl ?_
  refine aw_aload_n (pc' := 65) (i := 0) hC dX8_image_64 rfl rfl rfl ?_
  obtain ⟨g18, h⟩ := gd_s h
  refine aw_getfield (pc' := 68) (v := (.inr (.inr (M v0 3)))) hC dX8_image_65 rfl fl_X8_51 g18 rfl ?_
  obtain ⟨g19, h⟩ := gd_s h
  refine aw_getfield (pc' := 71) (v := (.inr (.inr (M (M v0 3) 0)))) hC dX8_image_68 rfl fl_X8_101 g19 rfl ?_
  refine aw_iconst (pc' := 72) hC dX8_image_71 rfl (by decide) ?_
  obtain ⟨g20, h⟩ := gd_s h
  refine aw_iaload (pc' := 73) hC dX8_image_72 rfl g20 ?_
  refine aw_icmp_ge (tgt := 95) (pc' := 76) hC dX8_image_73 (by decide) rfl (fun c21 => ?_) (fun c21 => ?_)
  · replace h := it_n c21 h
    refine aw_sub hC [some (.inr (.inr v0)), some (.inr (.inr v1)), some (.inl v2), none] ⟨rfl, ⟨rfl, ⟨rfl, trivial⟩⟩⟩ (Nat.le_of_ble_eq_true rfl) ?_
    cases h
    exact hX _ rfl
  · replace h := it_p c21 h
    refine aw_aload_n (pc' := 77) (i := 0) hC dX8_image_76 rfl rfl rfl ?_
    refine aw_aload_n (pc' := 78) (i := 0) hC dX8_image_77 rfl rfl rfl ?_
    refine aw_getfield (pc' := 81) (v := (.inr (.inr (M v0 4)))) hC dX8_image_78 rfl fl_X8_60 g18 rfl ?_
    refine aw_iload_n (pc' := 82) (i := 2) hC dX8_image_81 rfl rfl rfl ?_
    refine aw_iload_n (pc' := 83) (i := 3) hC dX8_image_82 rfl rfl rfl ?_
    obtain ⟨g23, h⟩ := gd_s h
    obtain ⟨x24, q22, h⟩ := pb_s h
    replace h := u1_s h
    refine aw_cV (pc' := 86) (k2 := 0) (n2 := 0) (st := [.inr (.inr v0)]) (stN := [.inl x24, .inr (.inr v0)]) hC [.inl v2, .inl v3] (mX0_standing q22) lk_X8_293 g23 dX8_image_83 rfl rfl (Nat.le_of_ble_eq_true rfl) (Nat.le_of_ble_eq_true rfl) (Nat.le_of_ble_eq_true rfl) rfl (Nat.le_of_ble_eq_true rfl) rfl rfl rfl ?_
    obtain ⟨M26, q25, h⟩ := pb_s h
    replace h := u1_s h
    refine aw_cV (pc' := 89) (k2 := 0) (n2 := 0) (st := []) (stN := []) hC [.inl x24] (mX8_putImageByte q25) lk_X8_289 g18 dX8_image_86 rfl rfl (Nat.le_of_ble_eq_true rfl) (Nat.le_of_ble_eq_true rfl) (Nat.le_of_ble_eq_true rfl) rfl (Nat.le_of_ble_eq_true rfl) rfl rfl rfl ?_
    refine aw_iinc (pc' := 92) (ls' := [some (.inr (.inr v0)), some (.inr (.inr v1)), some (.inl v2), some (.inl (w32 (v3 + 1)))]) hC dX8_image_89 rfl rfl rfl rfl ?_
    refine aw_goto (tgt := 63) hC dX8_image_92 (by decide) ?_
    refine aw_sub hC [some (.inr (.inr v0)), some (.inr (.inr v1)), some (.inl v2), some (.inl (w32 (v3 + 1)))] ⟨rfl, ⟨rfl, ⟨rfl, ⟨rfl, trivial⟩⟩⟩⟩ (Nat.le_of_ble_eq_true rfl) ?_
    cases h
    exact hL _ rfl
set_option maxRecDepth 100000 in
set_option maxHeartbeats 4000000 in
theorem w_X8_image_L38 {Γ : AwC} (hC : AOK Γ RX8 cX8_image 4 4 0 0 "image" (some .int)) {sh : AwS} {v0 : Int} {v1 : Int} {Q : State → Prop} : ∀ s r, u2 (fX8_image_L38 sh v0 v1) s = some r → (∀ s', r = .inl s' → p_X8_image_L38 Γ sh v0 v1 Q s') → (∀ t, r = .inr t → x_X8_image_L38 Γ sh v0 v1 Q t) → p_X8_image_L38 Γ sh v0 v1 Q s := by
  intro s r h hL hX
  obtain ⟨v2, M⟩ := s
  replace h := u2_s h
  unfold fX8_image_L38 at h
  show AW Γ sh M 0 0 38 [some (.inr (.inr v0)), some (.inr (.inr v1)), some (.inl v2), none] [] Q
  refine aw_iload_n (pc' := 39) (i := 2) hC dX8_image_38 rfl rfl rfl ?_
  refine aw_aload_n (pc' := 40) (i := 0) hC dX8_image_39 rfl rfl rfl ?_
  obtain ⟨g10, h⟩ := gd_s h
  refine aw_getfield (pc' := 43) (v := (.inr (.inr (M v0 3)))) hC dX8_image_40 rfl fl_X8_51 g10 rfl ?_
  obtain ⟨g11, h⟩ := gd_s h
  refine aw_getfield (pc' := 46) (v := (.inr (.inr (M (M v0 3) 0)))) hC dX8_image_43 rfl fl_X8_101 g11 rfl ?_
  refine aw_iconst (pc' := 47) hC dX8_image_46 rfl (by decide) ?_
  obtain ⟨g12, h⟩ := gd_s h
  refine aw_iaload (pc' := 48) hC dX8_image_47 rfl g12 ?_
  refine aw_icmp_ge (tgt := 101) (pc' := 51) hC dX8_image_48 (by decide) rfl (fun c13 => ?_) (fun c13 => ?_)
  · replace h := it_n c13 h
    refine aw_sub hC [some (.inr (.inr v0)), none, none, none] ⟨rfl, trivial⟩ (Nat.le_of_ble_eq_true rfl) ?_
    cases h
    exact hX _ rfl
  · replace h := it_p c13 h
    refine aw_aload_n (pc' := 52) (i := 0) hC dX8_image_51 rfl rfl rfl ?_
    refine aw_aload_n (pc' := 53) (i := 1) hC dX8_image_52 rfl rfl rfl ?_
    obtain ⟨g14, h⟩ := gd_s h
    refine aw_getfield (pc' := 56) (v := (.inr (.inr (M v1 1)))) hC dX8_image_53 rfl fl_X8_169 g14 rfl ?_
    refine aw_iload_n (pc' := 57) (i := 2) hC dX8_image_56 rfl rfl rfl ?_
    obtain ⟨g15, h⟩ := gd_s h
    refine aw_iaload (pc' := 58) hC dX8_image_57 rfl g15 ?_
    obtain ⟨M17, q16, h⟩ := pb_s h
    replace h := u1_s h
    refine aw_cV (pc' := 61) (k2 := 0) (n2 := 0) (st := []) (stN := []) hC [.inl (M (M v1 1) v2)] (mX8_putImageByte q16) lk_X8_289 g10 dX8_image_58 rfl rfl (Nat.le_of_ble_eq_true rfl) (Nat.le_of_ble_eq_true rfl) (Nat.le_of_ble_eq_true rfl) rfl (Nat.le_of_ble_eq_true rfl) rfl rfl rfl ?_
    refine aw_iconst (pc' := 62) hC dX8_image_61 rfl (by decide) ?_
    refine aw_istore_n (pc' := 63) (i := 3) (ls' := [some (.inr (.inr v0)), some (.inr (.inr v1)), some (.inl v2), some (.inl 0)]) hC dX8_image_62 rfl rfl (Nat.le_of_ble_eq_true rfl) rfl rfl ?_
    obtain ⟨tq27, q27, h⟩ := pb_s h
    refine aw_sub hC [some (.inr (.inr v0)), some (.inr (.inr v1)), some (.inl v2), some (.inl 0)] ⟨rfl, ⟨rfl, ⟨rfl, ⟨rfl, trivial⟩⟩⟩⟩ (Nat.le_of_ble_eq_true rfl) ?_
    refine (lp_aw (p_X8_image_L63 Γ sh v0 v1 v2 Q) (x_X8_image_L63 Γ sh v0 v1 v2 Q) (w_X8_image_L63 hC ) FU _ _ q27 ?_ : p_X8_image_L63 Γ sh v0 v1 v2 Q (0, M17))
    replace h := u1_s h
    show AW Γ sh tq27 0 0 95 [some (.inr (.inr v0)), some (.inr (.inr v1)), some (.inl v2), none] [] _
    refine aw_iinc (pc' := 98) (ls' := [some (.inr (.inr v0)), some (.inr (.inr v1)), some (.inl (w32 (v2 + 1))), none]) hC dX8_image_95 rfl rfl rfl rfl ?_
    refine aw_goto (tgt := 38) hC dX8_image_98 (by decide) ?_
    refine aw_sub hC [some (.inr (.inr v0)), some (.inr (.inr v1)), some (.inl (w32 (v2 + 1))), none] ⟨rfl, ⟨rfl, ⟨rfl, trivial⟩⟩⟩ (Nat.le_of_ble_eq_true rfl) ?_
    cases h
    exact hL _ rfl
set_option maxRecDepth 100000 in
set_option maxHeartbeats 4000000 in
theorem w_X8_image_L106 {Γ : AwC} (hC : AOK Γ RX8 cX8_image 4 4 0 0 "image" (some .int)) {sh : AwS} {M : AwM} {v0 : Int} {Q : State → Prop} : ∀ s r, u2 (fX8_image_L106 sh M v0) s = some r → (∀ s', r = .inl s' → p_X8_image_L106 Γ sh M v0 Q s') → (∀ t, r = .inr t → x_X8_image_L106 Γ sh M v0 Q t) → p_X8_image_L106 Γ sh M v0 Q s := by
  intro s r h hL hX
  obtain ⟨v2, v3⟩ := s
  replace h := u2_s h
  unfold fX8_image_L106 at h
  show AW Γ sh M 0 0 106 [some (.inr (.inr v0)), none, some (.inl v2), some (.inl v3)] [] Q
  refine aw_iload_n (pc' := 107) (i := 3) hC dX8_image_106 rfl rfl rfl ?_
  refine aw_aload_n (pc' := 108) (i := 0) hC dX8_image_107 rfl rfl rfl ?_
  obtain ⟨g29, h⟩ := gd_s h
  refine aw_getfield (pc' := 111) (v := (.inl (M v0 12))) hC dX8_image_108 rfl fl_X8_286 g29 rfl ?_
  refine aw_icmp_ge (tgt := 139) (pc' := 114) hC dX8_image_111 (by decide) rfl (fun c30 => ?_) (fun c30 => ?_)
  · replace h := it_n c30 h
    refine aw_sub hC [some (.inr (.inr v0)), none, some (.inl v2), none] ⟨rfl, ⟨rfl, trivial⟩⟩ (Nat.le_of_ble_eq_true rfl) ?_
    cases h
    exact hX _ rfl
  · replace h := it_p c30 h
    refine aw_iconst (pc' := 115) hC dX8_image_114 rfl (by decide) ?_
    refine aw_iload_n (pc' := 116) (i := 2) hC dX8_image_115 rfl rfl rfl ?_
    refine aw_imul (pc' := 117) hC dX8_image_116 rfl  ?_
    refine aw_aload_n (pc' := 118) (i := 0) hC dX8_image_117 rfl rfl rfl ?_
    refine aw_getfield (pc' := 121) (v := (.inr (.inr (M v0 11)))) hC dX8_image_118 rfl fl_X8_41 g29 rfl ?_
    refine aw_iload_n (pc' := 122) (i := 3) hC dX8_image_121 rfl rfl rfl ?_
    obtain ⟨g31, h⟩ := gd_s h
    refine aw_baload (pc' := 123) hC dX8_image_122 rfl g31 ?_
    refine aw_sipush (pc' := 126) hC dX8_image_123 rfl (by decide) ?_
    refine aw_iand (pc' := 127) hC dX8_image_126 rfl  ?_
    refine aw_iadd (pc' := 128) hC dX8_image_127 rfl  ?_
    refine aw_sipush (pc' := 131) hC dX8_image_128 rfl (by decide) ?_
    refine aw_irem (pc' := 132) hC dX8_image_131 rfl (by decide) ?_
    obtain ⟨x32, e33, h⟩ := bd_s h
    refine aw_reni e33 ?_
    refine aw_istore_n (pc' := 133) (i := 2) (ls' := [some (.inr (.inr v0)), none, some (.inl x32), some (.inl v3)]) hC dX8_image_132 rfl rfl (Nat.le_of_ble_eq_true rfl) rfl rfl ?_
    refine aw_iinc (pc' := 136) (ls' := [some (.inr (.inr v0)), none, some (.inl x32), some (.inl (w32 (v3 + 1)))]) hC dX8_image_133 rfl rfl rfl rfl ?_
    refine aw_goto (tgt := 106) hC dX8_image_136 (by decide) ?_
    refine aw_sub hC [some (.inr (.inr v0)), none, some (.inl x32), some (.inl (w32 (v3 + 1)))] ⟨rfl, ⟨rfl, ⟨rfl, trivial⟩⟩⟩ (Nat.le_of_ble_eq_true rfl) ?_
    cases h
    exact hL _ rfl
set_option maxRecDepth 100000 in
set_option maxHeartbeats 4000000 in
theorem mX8_image {sh : AwS} {M : AwM} {v0 : Int} {r : Int} {M' : AwM} (h : fX8_image sh M v0 = some (r, M')) : AMet yX8_image cX8_image 4 (some .int) 4 0 0 [.inr (.inr v0)] sh M (some (.inl r)) sh M' := by
  refine amet_of (by decide +kernel) (Nat.le_of_ble_eq_true rfl) (fun Γ hC => ?_)
  replace hC : AOK Γ RX8 cX8_image 4 4 0 0 "image" (some .int) := hC
  unfold fX8_image at h
  refine aw_sub hC [some (.inr (.inr v0)), none, none, none] ⟨rfl, trivial⟩ (Nat.le_of_ble_eq_true rfl) ?_
  refine aw_aload_n (pc' := 1) (i := 0) hC dX8_image_0 rfl rfl rfl ?_
  obtain ⟨g1, h⟩ := gd_s h
  refine aw_getfield (pc' := 4) (v := (.inr (.inr (M v0 4)))) hC dX8_image_1 rfl fl_X8_60 g1 rfl ?_
  obtain ⟨g2, h⟩ := gd_s h
  refine aw_getfield (pc' := 7) (v := (.inr (.inr (M (M v0 4) 0)))) hC dX8_image_4 rfl fl_X8_110 g2 rfl ?_
  refine aw_astore_n (pc' := 8) (i := 1) (ls' := [some (.inr (.inr v0)), some (.inr (.inr (M (M v0 4) 0))), none, none]) hC dX8_image_7 rfl rfl (Nat.le_of_ble_eq_true rfl) rfl rfl ?_
  refine aw_aload_n (pc' := 9) (i := 0) hC dX8_image_8 rfl rfl rfl ?_
  refine aw_iconst (pc' := 10) hC dX8_image_9 rfl (by decide) ?_
  obtain ⟨M3, e4, h⟩ := bd_s h
  refine aw_pf (pc' := 13) hC dX8_image_10 rfl fp_X8_286 g1 rfl trivial e4 ?_
  refine aw_aload_n (pc' := 14) (i := 0) hC dX8_image_13 rfl rfl rfl ?_
  refine aw_aload_n (pc' := 15) (i := 1) hC dX8_image_14 rfl rfl rfl ?_
  obtain ⟨g5, h⟩ := gd_s h
  refine aw_getfield (pc' := 18) (v := (.inl (M3 (M (M v0 4) 0) 0))) hC dX8_image_15 rfl fl_X8_114 g5 rfl ?_
  refine aw_bipush (pc' := 20) hC dX8_image_18 rfl (by decide) ?_
  refine aw_ishr (pc' := 21) hC dX8_image_20 rfl  ?_
  obtain ⟨M7, q6, h⟩ := pb_s h
  replace h := u1_s h
  refine aw_cV (pc' := 24) (k2 := 0) (n2 := 0) (st := []) (stN := []) hC [.inl (sr_ (M3 (M (M v0 4) 0) 0) 8)] (mX8_putImageByte q6) lk_X8_289 g1 dX8_image_21 rfl rfl (Nat.le_of_ble_eq_true rfl) (Nat.le_of_ble_eq_true rfl) (Nat.le_of_ble_eq_true rfl) rfl (Nat.le_of_ble_eq_true rfl) rfl rfl rfl ?_
  refine aw_aload_n (pc' := 25) (i := 0) hC dX8_image_24 rfl rfl rfl ?_
  refine aw_aload_n (pc' := 26) (i := 1) hC dX8_image_25 rfl rfl rfl ?_
  refine aw_getfield (pc' := 29) (v := (.inl (M7 (M (M v0 4) 0) 0))) hC dX8_image_26 rfl fl_X8_114 g5 rfl ?_
  refine aw_sipush (pc' := 32) hC dX8_image_29 rfl (by decide) ?_
  refine aw_iand (pc' := 33) hC dX8_image_32 rfl  ?_
  obtain ⟨M9, q8, h⟩ := pb_s h
  replace h := u1_s h
  refine aw_cV (pc' := 36) (k2 := 0) (n2 := 0) (st := []) (stN := []) hC [.inl (an_ (M7 (M (M v0 4) 0) 0) 255)] (mX8_putImageByte q8) lk_X8_289 g1 dX8_image_33 rfl rfl (Nat.le_of_ble_eq_true rfl) (Nat.le_of_ble_eq_true rfl) (Nat.le_of_ble_eq_true rfl) rfl (Nat.le_of_ble_eq_true rfl) rfl rfl rfl ?_
  refine aw_iconst (pc' := 37) hC dX8_image_36 rfl (by decide) ?_
  refine aw_istore_n (pc' := 38) (i := 2) (ls' := [some (.inr (.inr v0)), some (.inr (.inr (M (M v0 4) 0))), some (.inl 0), none]) hC dX8_image_37 rfl rfl (Nat.le_of_ble_eq_true rfl) rfl rfl ?_
  obtain ⟨tq28, q28, h⟩ := pb_s h
  refine aw_sub hC [some (.inr (.inr v0)), some (.inr (.inr (M (M v0 4) 0))), some (.inl 0), none] ⟨rfl, ⟨rfl, ⟨rfl, trivial⟩⟩⟩ (Nat.le_of_ble_eq_true rfl) ?_
  refine (lp_aw (p_X8_image_L38 Γ sh v0 (M (M v0 4) 0) (fin_ Γ 0 0 (some (.inl r)) sh M')) (x_X8_image_L38 Γ sh v0 (M (M v0 4) 0) (fin_ Γ 0 0 (some (.inl r)) sh M')) (w_X8_image_L38 hC ) FU _ _ q28 ?_ : p_X8_image_L38 Γ sh v0 (M (M v0 4) 0) (fin_ Γ 0 0 (some (.inl r)) sh M') (0, M9))
  replace h := u1_s h
  show AW Γ sh tq28 0 0 101 [some (.inr (.inr v0)), none, none, none] [] _
  refine aw_bipush (pc' := 103) hC dX8_image_101 rfl (by decide) ?_
  refine aw_istore_n (pc' := 104) (i := 2) (ls' := [some (.inr (.inr v0)), none, some (.inl 103), none]) hC dX8_image_103 rfl rfl (Nat.le_of_ble_eq_true rfl) rfl rfl ?_
  refine aw_iconst (pc' := 105) hC dX8_image_104 rfl (by decide) ?_
  refine aw_istore_n (pc' := 106) (i := 3) (ls' := [some (.inr (.inr v0)), none, some (.inl 103), some (.inl 0)]) hC dX8_image_105 rfl rfl (Nat.le_of_ble_eq_true rfl) rfl rfl ?_
  obtain ⟨tq34, q34, h⟩ := pb_s h
  refine aw_sub hC [some (.inr (.inr v0)), none, some (.inl 103), some (.inl 0)] ⟨rfl, ⟨rfl, ⟨rfl, trivial⟩⟩⟩ (Nat.le_of_ble_eq_true rfl) ?_
  refine (lp_aw (p_X8_image_L106 Γ sh tq28 v0 (fin_ Γ 0 0 (some (.inl r)) sh M')) (x_X8_image_L106 Γ sh tq28 v0 (fin_ Γ 0 0 (some (.inl r)) sh M')) (w_X8_image_L106 hC ) FU _ _ q34 ?_ : p_X8_image_L106 Γ sh tq28 v0 (fin_ Γ 0 0 (some (.inl r)) sh M') (103, 0))
  replace h := u1_s h
  show AW Γ sh tq28 0 0 139 [some (.inr (.inr v0)), none, some (.inl tq34), none] [] _
  refine aw_aload_n (pc' := 140) (i := 0) hC dX8_image_139 rfl rfl rfl ?_
  refine aw_iload_n (pc' := 141) (i := 2) hC dX8_image_140 rfl rfl rfl ?_
  obtain ⟨M36, q35, h⟩ := pb_s h
  replace h := u1_s h
  refine aw_cV (pc' := 144) (k2 := 0) (n2 := 0) (st := []) (stN := []) hC [.inl tq34] (mX8_putImageByte q35) lk_X8_289 g1 dX8_image_141 rfl rfl (Nat.le_of_ble_eq_true rfl) (Nat.le_of_ble_eq_true rfl) (Nat.le_of_ble_eq_true rfl) rfl (Nat.le_of_ble_eq_true rfl) rfl rfl rfl ?_
  refine aw_aload_n (pc' := 145) (i := 0) hC dX8_image_144 rfl rfl rfl ?_
  refine aw_getfield (pc' := 148) (v := (.inl (M36 v0 12))) hC dX8_image_145 rfl fl_X8_286 g1 rfl ?_
  cases h
  exact aw_iret hC dX8_image_148 (Nat.le_of_ble_eq_true rfl) (Nat.le_of_ble_eq_true rfl)
-- CoinCircle.octet(I)I
def fX8_octet (sh : AwS) (M : AwM) (v0 : Int) (v1 : Int) : Option Int :=
  (if v1 < 0 then some (-1) else gd_ (kd_ sh v0 = (0, 8)) ((if v1 < (M v0 12) then (if v1 < 135 then gd_ ((kd_ sh (M v0 11)).1 = 3 ∧ (0 : Int) ≤ v1 ∧ v1 < ((kd_ sh (M v0 11)).2 : Int)) (some (an_ (M (M v0 11) v1) 255)) else some (-1)) else some (-1))))
set_option maxRecDepth 100000 in
set_option maxHeartbeats 4000000 in
theorem mX8_octet {sh : AwS} {M : AwM} {v0 : Int} {v1 : Int} {r : Int} (h : fX8_octet sh M v0 v1 = some r) : AMet yX8_octet cX8_octet 2 (some .int) 1 0 0 [.inr (.inr v0), .inl v1] sh M (some (.inl r)) sh M := by
  refine amet_of (by decide +kernel) (Nat.le_of_ble_eq_true rfl) (fun Γ hC => ?_)
  replace hC : AOK Γ RX8 cX8_octet 2 1 0 0 "octet" (some .int) := hC
  unfold fX8_octet at h
  refine aw_sub hC [some (.inr (.inr v0)), some (.inl v1)] ⟨rfl, ⟨rfl, trivial⟩⟩ (Nat.le_of_ble_eq_true rfl) ?_
  refine aw_iload_n (pc' := 1) (i := 1) hC dX8_octet_0 rfl rfl rfl ?_
  refine aw_if_lt (tgt := 32) (pc' := 4) hC dX8_octet_1 (by decide) rfl (fun c1 => ?_) (fun c1 => ?_)
  · replace h := it_p c1 h
    refine aw_iconst (pc' := 33) hC dX8_octet_32 rfl (by decide) ?_
    cases h
    exact aw_iret hC dX8_octet_33 (Nat.le_of_ble_eq_true rfl) (Nat.le_of_ble_eq_true rfl)
  · replace h := it_n c1 h
    refine aw_iload_n (pc' := 5) (i := 1) hC dX8_octet_4 rfl rfl rfl ?_
    refine aw_aload_n (pc' := 6) (i := 0) hC dX8_octet_5 rfl rfl rfl ?_
    obtain ⟨g2, h⟩ := gd_s h
    refine aw_getfield (pc' := 9) (v := (.inl (M v0 12))) hC dX8_octet_6 rfl fl_X8_286 g2 rfl ?_
    refine aw_icmp_ge (tgt := 32) (pc' := 12) hC dX8_octet_9 (by decide) rfl (fun c3 => ?_) (fun c3 => ?_)
    · replace h := it_n c3 h
      refine aw_iconst (pc' := 33) hC dX8_octet_32 rfl (by decide) ?_
      cases h
      exact aw_iret hC dX8_octet_33 (Nat.le_of_ble_eq_true rfl) (Nat.le_of_ble_eq_true rfl)
    · replace h := it_p c3 h
      refine aw_iload_n (pc' := 13) (i := 1) hC dX8_octet_12 rfl rfl rfl ?_
      refine aw_sipush (pc' := 16) hC dX8_octet_13 rfl (by decide) ?_
      refine aw_icmp_ge (tgt := 32) (pc' := 19) hC dX8_octet_16 (by decide) rfl (fun c4 => ?_) (fun c4 => ?_)
      · replace h := it_n c4 h
        refine aw_iconst (pc' := 33) hC dX8_octet_32 rfl (by decide) ?_
        cases h
        exact aw_iret hC dX8_octet_33 (Nat.le_of_ble_eq_true rfl) (Nat.le_of_ble_eq_true rfl)
      · replace h := it_p c4 h
        refine aw_aload_n (pc' := 20) (i := 0) hC dX8_octet_19 rfl rfl rfl ?_
        refine aw_getfield (pc' := 23) (v := (.inr (.inr (M v0 11)))) hC dX8_octet_20 rfl fl_X8_41 g2 rfl ?_
        refine aw_iload_n (pc' := 24) (i := 1) hC dX8_octet_23 rfl rfl rfl ?_
        obtain ⟨g5, h⟩ := gd_s h
        refine aw_baload (pc' := 25) hC dX8_octet_24 rfl g5 ?_
        refine aw_sipush (pc' := 28) hC dX8_octet_25 rfl (by decide) ?_
        refine aw_iand (pc' := 29) hC dX8_octet_28 rfl  ?_
        refine aw_goto (tgt := 33) hC dX8_octet_29 (by decide) ?_
        cases h
        exact aw_iret hC dX8_octet_33 (Nat.le_of_ble_eq_true rfl) (Nat.le_of_ble_eq_true rfl)
-- CoinCircle.imageRow(I)I
def fX8_imageRow (sh : AwS) (M : AwM) (v0 : Int) (v1 : Int) : Option Int :=
  gd_ (kd_ sh v0 = (0, 8)) (gd_ (kd_ sh (M v0 3) = (0, 5)) (gd_ ((kd_ sh (M (M v0 3) 0)).1 = 1 ∧ (0 : Int) ≤ 0 ∧ 0 < ((kd_ sh (M (M v0 3) 0)).2 : Int)) (some (w32 (2 + (w32 (v1 * (w32 (1 + (M (M (M v0 3) 0) 0))))))))))
set_option maxRecDepth 100000 in
set_option maxHeartbeats 4000000 in
theorem mX8_imageRow {sh : AwS} {M : AwM} {v0 : Int} {v1 : Int} {r : Int} (h : fX8_imageRow sh M v0 v1 = some r) : AMet yX8_imageRow cX8_imageRow 2 (some .int) 1 0 0 [.inr (.inr v0), .inl v1] sh M (some (.inl r)) sh M := by
  refine amet_of (by decide +kernel) (Nat.le_of_ble_eq_true rfl) (fun Γ hC => ?_)
  replace hC : AOK Γ RX8 cX8_imageRow 2 1 0 0 "imageRow" (some .int) := hC
  unfold fX8_imageRow at h
  refine aw_sub hC [some (.inr (.inr v0)), some (.inl v1)] ⟨rfl, ⟨rfl, trivial⟩⟩ (Nat.le_of_ble_eq_true rfl) ?_
  refine aw_iconst (pc' := 1) hC dX8_imageRow_0 rfl (by decide) ?_
  refine aw_iload_n (pc' := 2) (i := 1) hC dX8_imageRow_1 rfl rfl rfl ?_
  refine aw_iconst (pc' := 3) hC dX8_imageRow_2 rfl (by decide) ?_
  refine aw_aload_n (pc' := 4) (i := 0) hC dX8_imageRow_3 rfl rfl rfl ?_
  obtain ⟨g1, h⟩ := gd_s h
  refine aw_getfield (pc' := 7) (v := (.inr (.inr (M v0 3)))) hC dX8_imageRow_4 rfl fl_X8_51 g1 rfl ?_
  obtain ⟨g2, h⟩ := gd_s h
  refine aw_getfield (pc' := 10) (v := (.inr (.inr (M (M v0 3) 0)))) hC dX8_imageRow_7 rfl fl_X8_101 g2 rfl ?_
  refine aw_iconst (pc' := 11) hC dX8_imageRow_10 rfl (by decide) ?_
  obtain ⟨g3, h⟩ := gd_s h
  refine aw_iaload (pc' := 12) hC dX8_imageRow_11 rfl g3 ?_
  refine aw_iadd (pc' := 13) hC dX8_imageRow_12 rfl  ?_
  refine aw_imul (pc' := 14) hC dX8_imageRow_13 rfl  ?_
  refine aw_iadd (pc' := 15) hC dX8_imageRow_14 rfl  ?_
  cases h
  exact aw_iret hC dX8_imageRow_15 (Nat.le_of_ble_eq_true rfl) (Nat.le_of_ble_eq_true rfl)
-- CoinCircle.tapeDay()I
def fX8_tapeDay (sh : AwS) (M : AwM) (v0 : Int) : Option Int :=
  gd_ (kd_ sh v0 = (0, 8)) (pb (fX8_tapeByte sh M v0 0) <| u1 fun (x3 : Int) => (pb (fX8_tapeByte sh M v0 1) <| u1 fun (x5 : Int) => (some (or_ (sl_ x3 8) x5))))
set_option maxRecDepth 100000 in
set_option maxHeartbeats 4000000 in
theorem mX8_tapeDay {sh : AwS} {M : AwM} {v0 : Int} {r : Int} (h : fX8_tapeDay sh M v0 = some r) : AMet yX8_tapeDay cX8_tapeDay 1 (some .int) 2 0 0 [.inr (.inr v0)] sh M (some (.inl r)) sh M := by
  refine amet_of (by decide +kernel) (Nat.le_of_ble_eq_true rfl) (fun Γ hC => ?_)
  replace hC : AOK Γ RX8 cX8_tapeDay 1 2 0 0 "tapeDay" (some .int) := hC
  unfold fX8_tapeDay at h
  refine aw_sub hC [some (.inr (.inr v0))] ⟨rfl, trivial⟩ (Nat.le_of_ble_eq_true rfl) ?_
  refine aw_aload_n (pc' := 1) (i := 0) hC dX8_tapeDay_0 rfl rfl rfl ?_
  refine aw_iconst (pc' := 2) hC dX8_tapeDay_1 rfl (by decide) ?_
  obtain ⟨g2, h⟩ := gd_s h
  obtain ⟨x3, q1, h⟩ := pb_s h
  replace h := u1_s h
  refine aw_cV (pc' := 5) (k2 := 0) (n2 := 0) (st := []) (stN := [.inl x3]) hC [.inl 0] (mX8_tapeByte q1) lk_X8_271 g2 dX8_tapeDay_2 rfl rfl (Nat.le_of_ble_eq_true rfl) (Nat.le_of_ble_eq_true rfl) (Nat.le_of_ble_eq_true rfl) rfl (Nat.le_of_ble_eq_true rfl) rfl rfl rfl ?_
  refine aw_bipush (pc' := 7) hC dX8_tapeDay_5 rfl (by decide) ?_
  refine aw_ishl (pc' := 8) hC dX8_tapeDay_7 rfl  ?_
  refine aw_aload_n (pc' := 9) (i := 0) hC dX8_tapeDay_8 rfl rfl rfl ?_
  refine aw_iconst (pc' := 10) hC dX8_tapeDay_9 rfl (by decide) ?_
  obtain ⟨x5, q4, h⟩ := pb_s h
  replace h := u1_s h
  refine aw_cV (pc' := 13) (k2 := 0) (n2 := 0) (st := [.inl (sl_ x3 8)]) (stN := [.inl x5, .inl (sl_ x3 8)]) hC [.inl 1] (mX8_tapeByte q4) lk_X8_271 g2 dX8_tapeDay_10 rfl rfl (Nat.le_of_ble_eq_true rfl) (Nat.le_of_ble_eq_true rfl) (Nat.le_of_ble_eq_true rfl) rfl (Nat.le_of_ble_eq_true rfl) rfl rfl rfl ?_
  refine aw_ior (pc' := 14) hC dX8_tapeDay_13 rfl  ?_
  cases h
  exact aw_iret hC dX8_tapeDay_14 (Nat.le_of_ble_eq_true rfl) (Nat.le_of_ble_eq_true rfl)
-- CoinCircle.tellsCoin(I)Z
def fX8_tellsCoin_L49 (sh : AwS) (M : AwM) (v0 : Int) (v1 : Int) (v3 : Int) (v4 : Int) : Option ((Int) ⊕ ((Unit) ⊕ (Unit))) :=
  gd_ (kd_ sh v0 = (0, 8)) (gd_ (kd_ sh (M v0 3) = (0, 5)) (gd_ ((kd_ sh (M (M v0 3) 0)).1 = 1 ∧ (0 : Int) ≤ 0 ∧ 0 < ((kd_ sh (M (M v0 3) 0)).2 : Int)) ((if v4 < (M (M (M v0 3) 0) 0) then pb (fX8_tapeByte sh M v0 (w32 ((w32 (v1 + 1)) + v4))) <| u1 fun (x20 : Int) => ((if v3 < x20 then some (.inr (.inr ())) else some (.inl (w32 (v4 + 1))))) else some (.inr (.inl ()))))))
def p_X8_tellsCoin_L49 (Γ : AwC) (sh : AwS) (M : AwM) (v0 : Int) (v1 : Int) (v3 : Int) (Q : State → Prop) (s : Int) : Prop := AW Γ sh M 0 0 49 [some (.inr (.inr v0)), some (.inl v1), none, some (.inl v3), some (.inl (s)), none] [] Q
def x_X8_tellsCoin_L49 (Γ : AwC) (sh : AwS) (M : AwM) (v0 : Int) (v1 : Int) (v3 : Int) (Q : State → Prop) : ((Unit) ⊕ (Unit)) → Prop := (Sum.elim (fun (t : Unit) => AW Γ sh M 0 0 89 [none, none, none, none, none, none] [] Q) (fun (t : Unit) => AW Γ sh M 0 0 81 [none, none, none, none, none, none] [] Q))
def fX8_tellsCoin (sh : AwS) (M : AwM) (v0 : Int) (v1 : Int) : Option Int :=
  gd_ (kd_ sh v0 = (0, 8)) (pb (fX8_tapeByte sh M v0 v1) <| u1 fun (x3 : Int) => (gd_ (kd_ sh (M v0 3) = (0, 5)) (pb (fX5_isThere sh M (M v0 3) 0 x3) <| u1 fun (x6 : Int) => ((if x6 = 0 then some 0 else pb (fX8_tapeByte sh M v0 (w32 ((w32 (v1 + 1)) + x3))) <| u1 fun (x9 : Int) => ((if x9 < 2 then some 0 else pb (fX8_tapeDay sh M v0) <| u1 fun (x12 : Int) => (pb (fJ9_min_7cf53 sh M 200 x12) <| u1 fun (x14 : Int) => (pb (lp (u1 (fX8_tellsCoin_L49 sh M v0 v1 (w32 (2 + x14)))) FU 0) (Sum.elim (u0 (some 1)) (u0 (some 0))))))))))))
set_option maxRecDepth 100000 in
set_option maxHeartbeats 4000000 in
theorem w_X8_tellsCoin_L49 {Γ : AwC} (hC : AOK Γ RX8 cX8_tellsCoin 6 3 0 0 "tellsCoin" (some .boolean)) {sh : AwS} {M : AwM} {v0 : Int} {v1 : Int} {v3 : Int} {Q : State → Prop} : ∀ s r, u1 (fX8_tellsCoin_L49 sh M v0 v1 v3) s = some r → (∀ s', r = .inl s' → p_X8_tellsCoin_L49 Γ sh M v0 v1 v3 Q s') → (∀ t, r = .inr t → x_X8_tellsCoin_L49 Γ sh M v0 v1 v3 Q t) → p_X8_tellsCoin_L49 Γ sh M v0 v1 v3 Q s := by
  intro v4 r h hL hX
  replace h := u1_s h
  unfold fX8_tellsCoin_L49 at h
  show AW Γ sh M 0 0 49 [some (.inr (.inr v0)), some (.inl v1), none, some (.inl v3), some (.inl v4), none] [] Q
  refine aw_iload (pc' := 51) hC dX8_tellsCoin_49 rfl rfl ?_
  refine aw_aload_n (pc' := 52) (i := 0) hC dX8_tellsCoin_51 rfl rfl rfl ?_
  obtain ⟨g15, h⟩ := gd_s h
  refine aw_getfield (pc' := 55) (v := (.inr (.inr (M v0 3)))) hC dX8_tellsCoin_52 rfl fl_X8_51 g15 rfl ?_
  obtain ⟨g16, h⟩ := gd_s h
  refine aw_getfield (pc' := 58) (v := (.inr (.inr (M (M v0 3) 0)))) hC dX8_tellsCoin_55 rfl fl_X8_101 g16 rfl ?_
  refine aw_iconst (pc' := 59) hC dX8_tellsCoin_58 rfl (by decide) ?_
  obtain ⟨g17, h⟩ := gd_s h
  refine aw_iaload (pc' := 60) hC dX8_tellsCoin_59 rfl g17 ?_
  refine aw_icmp_ge (tgt := 89) (pc' := 63) hC dX8_tellsCoin_60 (by decide) rfl (fun c18 => ?_) (fun c18 => ?_)
  · replace h := it_n c18 h
    refine aw_sub hC [none, none, none, none, none, none] trivial (Nat.le_of_ble_eq_true rfl) ?_
    cases h
    exact hX _ rfl
  · replace h := it_p c18 h
    refine aw_aload_n (pc' := 64) (i := 0) hC dX8_tellsCoin_63 rfl rfl rfl ?_
    refine aw_iload_n (pc' := 65) (i := 1) hC dX8_tellsCoin_64 rfl rfl rfl ?_
    refine aw_iconst (pc' := 66) hC dX8_tellsCoin_65 rfl (by decide) ?_
    refine aw_iadd (pc' := 67) hC dX8_tellsCoin_66 rfl  ?_
    refine aw_iload (pc' := 69) hC dX8_tellsCoin_67 rfl rfl ?_
    refine aw_iadd (pc' := 70) hC dX8_tellsCoin_69 rfl  ?_
    obtain ⟨x20, q19, h⟩ := pb_s h
    replace h := u1_s h
    refine aw_cV (pc' := 73) (k2 := 0) (n2 := 0) (st := []) (stN := [.inl x20]) hC [.inl (w32 ((w32 (v1 + 1)) + v4))] (mX8_tapeByte q19) lk_X8_271 g15 dX8_tellsCoin_70 rfl rfl (Nat.le_of_ble_eq_true rfl) (Nat.le_of_ble_eq_true rfl) (Nat.le_of_ble_eq_true rfl) rfl (Nat.le_of_ble_eq_true rfl) rfl rfl rfl ?_
    refine aw_istore (pc' := 75) (ls' := [some (.inr (.inr v0)), some (.inl v1), none, some (.inl v3), some (.inl v4), some (.inl x20)]) hC dX8_tellsCoin_73 rfl (Nat.le_of_ble_eq_true rfl) rfl rfl ?_
    refine aw_iload (pc' := 77) hC dX8_tellsCoin_75 rfl rfl ?_
    refine aw_iload_n (pc' := 78) (i := 3) hC dX8_tellsCoin_77 rfl rfl rfl ?_
    refine aw_icmp_le (tgt := 83) (pc' := 81) hC dX8_tellsCoin_78 (by decide) rfl (fun c21 => ?_) (fun c21 => ?_)
    · replace h := it_n c21 h
      refine aw_iinc (pc' := 86) (ls' := [some (.inr (.inr v0)), some (.inl v1), none, some (.inl v3), some (.inl (w32 (v4 + 1))), some (.inl x20)]) hC dX8_tellsCoin_83 rfl rfl rfl rfl ?_
      refine aw_goto (tgt := 49) hC dX8_tellsCoin_86 (by decide) ?_
      refine aw_sub hC [some (.inr (.inr v0)), some (.inl v1), none, some (.inl v3), some (.inl (w32 (v4 + 1))), none] ⟨rfl, ⟨rfl, ⟨rfl, ⟨rfl, trivial⟩⟩⟩⟩ (Nat.le_of_ble_eq_true rfl) ?_
      cases h
      exact hL _ rfl
    · replace h := it_p c21 h
      refine aw_sub hC [none, none, none, none, none, none] trivial (Nat.le_of_ble_eq_true rfl) ?_
      cases h
      exact hX _ rfl
set_option maxRecDepth 100000 in
set_option maxHeartbeats 4000000 in
theorem mX8_tellsCoin {sh : AwS} {M : AwM} {v0 : Int} {v1 : Int} {r : Int} (h : fX8_tellsCoin sh M v0 v1 = some r) : AMet yX8_tellsCoin cX8_tellsCoin 6 (some .boolean) 3 0 0 [.inr (.inr v0), .inl v1] sh M (some (.inl r)) sh M := by
  refine amet_of (by decide +kernel) (Nat.le_of_ble_eq_true rfl) (fun Γ hC => ?_)
  replace hC : AOK Γ RX8 cX8_tellsCoin 6 3 0 0 "tellsCoin" (some .boolean) := hC
  unfold fX8_tellsCoin at h
  refine aw_sub hC [some (.inr (.inr v0)), some (.inl v1), none, none, none, none] ⟨rfl, ⟨rfl, trivial⟩⟩ (Nat.le_of_ble_eq_true rfl) ?_
  refine aw_aload_n (pc' := 1) (i := 0) hC dX8_tellsCoin_0 rfl rfl rfl ?_
  refine aw_iload_n (pc' := 2) (i := 1) hC dX8_tellsCoin_1 rfl rfl rfl ?_
  obtain ⟨g2, h⟩ := gd_s h
  obtain ⟨x3, q1, h⟩ := pb_s h
  replace h := u1_s h
  refine aw_cV (pc' := 5) (k2 := 0) (n2 := 0) (st := []) (stN := [.inl x3]) hC [.inl v1] (mX8_tapeByte q1) lk_X8_271 g2 dX8_tellsCoin_2 rfl rfl (Nat.le_of_ble_eq_true rfl) (Nat.le_of_ble_eq_true rfl) (Nat.le_of_ble_eq_true rfl) rfl (Nat.le_of_ble_eq_true rfl) rfl rfl rfl ?_
  refine aw_istore_n (pc' := 6) (i := 2) (ls' := [some (.inr (.inr v0)), some (.inl v1), some (.inl x3), none, none, none]) hC dX8_tellsCoin_5 rfl rfl (Nat.le_of_ble_eq_true rfl) rfl rfl ?_
  refine aw_aload_n (pc' := 7) (i := 0) hC dX8_tellsCoin_6 rfl rfl rfl ?_
  refine aw_getfield (pc' := 10) (v := (.inr (.inr (M v0 3)))) hC dX8_tellsCoin_7 rfl fl_X8_51 g2 rfl ?_
  refine aw_iconst (pc' := 11) hC dX8_tellsCoin_10 rfl (by decide) ?_
  refine aw_iload_n (pc' := 12) (i := 2) hC dX8_tellsCoin_11 rfl rfl rfl ?_
  obtain ⟨g5, h⟩ := gd_s h
  obtain ⟨x6, q4, h⟩ := pb_s h
  replace h := u1_s h
  refine aw_cV (pc' := 15) (k2 := 0) (n2 := 0) (st := []) (stN := [.inl x6]) hC [.inl 0, .inl x3] (mX5_isThere q4) lk_X8_135 g5 dX8_tellsCoin_12 rfl rfl (Nat.le_of_ble_eq_true rfl) (Nat.le_of_ble_eq_true rfl) (Nat.le_of_ble_eq_true rfl) rfl (Nat.le_of_ble_eq_true rfl) rfl rfl rfl ?_
  refine aw_if_eq (tgt := 31) (pc' := 18) hC dX8_tellsCoin_15 (by decide) rfl (fun c7 => ?_) (fun c7 => ?_)
  · replace h := it_p c7 h
    refine aw_iconst (pc' := 32) hC dX8_tellsCoin_31 rfl (by decide) ?_
    cases h
    exact aw_zret hC (Or.inl rfl) dX8_tellsCoin_32 (Nat.le_of_ble_eq_true rfl) (Nat.le_of_ble_eq_true rfl)
  · replace h := it_n c7 h
    refine aw_aload_n (pc' := 19) (i := 0) hC dX8_tellsCoin_18 rfl rfl rfl ?_
    refine aw_iload_n (pc' := 20) (i := 1) hC dX8_tellsCoin_19 rfl rfl rfl ?_
    refine aw_iconst (pc' := 21) hC dX8_tellsCoin_20 rfl (by decide) ?_
    refine aw_iadd (pc' := 22) hC dX8_tellsCoin_21 rfl  ?_
    refine aw_iload_n (pc' := 23) (i := 2) hC dX8_tellsCoin_22 rfl rfl rfl ?_
    refine aw_iadd (pc' := 24) hC dX8_tellsCoin_23 rfl  ?_
    obtain ⟨x9, q8, h⟩ := pb_s h
    replace h := u1_s h
    refine aw_cV (pc' := 27) (k2 := 0) (n2 := 0) (st := []) (stN := [.inl x9]) hC [.inl (w32 ((w32 (v1 + 1)) + x3))] (mX8_tapeByte q8) lk_X8_271 g2 dX8_tellsCoin_24 rfl rfl (Nat.le_of_ble_eq_true rfl) (Nat.le_of_ble_eq_true rfl) (Nat.le_of_ble_eq_true rfl) rfl (Nat.le_of_ble_eq_true rfl) rfl rfl rfl ?_
    refine aw_iconst (pc' := 28) hC dX8_tellsCoin_27 rfl (by decide) ?_
    refine aw_icmp_ge (tgt := 33) (pc' := 31) hC dX8_tellsCoin_28 (by decide) rfl (fun c10 => ?_) (fun c10 => ?_)
    · replace h := it_n c10 h
      refine aw_iconst (pc' := 34) hC dX8_tellsCoin_33 rfl (by decide) ?_
      refine aw_sipush (pc' := 37) hC dX8_tellsCoin_34 rfl (by decide) ?_
      refine aw_aload_n (pc' := 38) (i := 0) hC dX8_tellsCoin_37 rfl rfl rfl ?_
      obtain ⟨x12, q11, h⟩ := pb_s h
      replace h := u1_s h
      refine aw_cV (pc' := 41) (k2 := 0) (n2 := 0) (st := [.inl 200, .inl 2]) (stN := [.inl x12, .inl 200, .inl 2]) hC [] (mX8_tapeDay q11) lk_X8_299 g2 dX8_tellsCoin_38 rfl rfl (Nat.le_of_ble_eq_true rfl) (Nat.le_of_ble_eq_true rfl) (Nat.le_of_ble_eq_true rfl) rfl (Nat.le_of_ble_eq_true rfl) rfl rfl rfl ?_
      obtain ⟨x14, q13, h⟩ := pb_s h
      replace h := u1_s h
      refine aw_cS (pc' := 44) (k2 := 0) (n2 := 0) (st := [.inl 2]) (stN := [.inl x14, .inl 2]) hC [.inl 200, .inl x12] (mJ9_min_7cf53 q13) lk_X8_312 dX8_tellsCoin_41 rfl rfl (Nat.le_of_ble_eq_true rfl) (Nat.le_of_ble_eq_true rfl) (Nat.le_of_ble_eq_true rfl) rfl (Nat.le_of_ble_eq_true rfl) rfl rfl rfl ?_
      refine aw_iadd (pc' := 45) hC dX8_tellsCoin_44 rfl  ?_
      refine aw_istore_n (pc' := 46) (i := 3) (ls' := [some (.inr (.inr v0)), some (.inl v1), some (.inl x3), some (.inl (w32 (2 + x14))), none, none]) hC dX8_tellsCoin_45 rfl rfl (Nat.le_of_ble_eq_true rfl) rfl rfl ?_
      refine aw_iconst (pc' := 47) hC dX8_tellsCoin_46 rfl (by decide) ?_
      refine aw_istore (pc' := 49) (ls' := [some (.inr (.inr v0)), some (.inl v1), some (.inl x3), some (.inl (w32 (2 + x14))), some (.inl 0), none]) hC dX8_tellsCoin_47 rfl (Nat.le_of_ble_eq_true rfl) rfl rfl ?_
      obtain ⟨tq22, q22, h⟩ := pb_s h
      refine aw_sub hC [some (.inr (.inr v0)), some (.inl v1), none, some (.inl (w32 (2 + x14))), some (.inl 0), none] ⟨rfl, ⟨rfl, ⟨rfl, ⟨rfl, trivial⟩⟩⟩⟩ (Nat.le_of_ble_eq_true rfl) ?_
      refine (lp_aw (p_X8_tellsCoin_L49 Γ sh M v0 v1 (w32 (2 + x14)) (fin_ Γ 0 0 (some (.inl r)) sh M)) (x_X8_tellsCoin_L49 Γ sh M v0 v1 (w32 (2 + x14)) (fin_ Γ 0 0 (some (.inl r)) sh M)) (w_X8_tellsCoin_L49 hC ) FU _ _ q22 ?_ : p_X8_tellsCoin_L49 Γ sh M v0 v1 (w32 (2 + x14)) (fin_ Γ 0 0 (some (.inl r)) sh M) 0)
      rcases tq22 with tq22 | tq22
      · replace h := se_l h
        cases tq22
        replace h := u0_s h
        show AW Γ sh M 0 0 89 [none, none, none, none, none, none] [] _
        refine aw_iconst (pc' := 90) hC dX8_tellsCoin_89 rfl (by decide) ?_
        cases h
        exact aw_zret hC (Or.inr rfl) dX8_tellsCoin_90 (Nat.le_of_ble_eq_true rfl) (Nat.le_of_ble_eq_true rfl)
      · replace h := se_r h
        cases tq22
        replace h := u0_s h
        show AW Γ sh M 0 0 81 [none, none, none, none, none, none] [] _
        refine aw_iconst (pc' := 82) hC dX8_tellsCoin_81 rfl (by decide) ?_
        cases h
        exact aw_zret hC (Or.inl rfl) dX8_tellsCoin_82 (Nat.le_of_ble_eq_true rfl) (Nat.le_of_ble_eq_true rfl)
    · replace h := it_p c10 h
      refine aw_iconst (pc' := 32) hC dX8_tellsCoin_31 rfl (by decide) ?_
      cases h
      exact aw_zret hC (Or.inl rfl) dX8_tellsCoin_32 (Nat.le_of_ble_eq_true rfl) (Nat.le_of_ble_eq_true rfl)
-- CoinCircle.tellsImage(I)Z
def fX8_tellsImage_L33 (sh : AwS) (M : AwM) (v0 : Int) (v1 : Int) (v2 : Int) : Option ((Int) ⊕ ((Unit) ⊕ (Unit))) :=
  gd_ (kd_ sh v0 = (0, 8)) (gd_ (kd_ sh (M v0 3) = (0, 5)) (gd_ ((kd_ sh (M (M v0 3) 0)).1 = 1 ∧ (0 : Int) ≤ 1 ∧ 1 < ((kd_ sh (M (M v0 3) 0)).2 : Int)) ((if v2 < (M (M (M v0 3) 0) 1) then pb (fX8_imageRow sh M v0 v2) <| u1 fun (x15 : Int) => (pb (fX8_tellsCoin sh M v0 x15) <| u1 fun (x17 : Int) => ((if x17 = 0 then some (.inr (.inr ())) else some (.inl (w32 (v2 + 1)))))) else some (.inr (.inl ()))))))
def p_X8_tellsImage_L33 (Γ : AwC) (sh : AwS) (M : AwM) (v0 : Int) (v1 : Int) (Q : State → Prop) (s : Int) : Prop := AW Γ sh M 0 0 33 [some (.inr (.inr v0)), some (.inl v1), some (.inl (s)), none] [] Q
def x_X8_tellsImage_L33 (Γ : AwC) (sh : AwS) (M : AwM) (v0 : Int) (v1 : Int) (Q : State → Prop) : ((Unit) ⊕ (Unit)) → Prop := (Sum.elim (fun (t : Unit) => AW Γ sh M 0 0 66 [some (.inr (.inr v0)), some (.inl v1), none, none] [] Q) (fun (t : Unit) => AW Γ sh M 0 0 58 [none, none, none, none] [] Q))
def fX8_tellsImage_L71 (sh : AwS) (M : AwM) (v0 : Int) (v1 : Int) (v2 : Int) (v3 : Int) : Option ((Int × Int) ⊕ (Int)) :=
  (if v3 < (w32 (v1 - 1)) then gd_ (kd_ sh v0 = (0, 8)) (pb (fX8_tapeByte sh M v0 v3) <| u1 fun (x23 : Int) => (bd_ ((((w32 ((w32 (5 * v2)) + x23)) : Int).tmod 251)) fun (x24 : Int) => (some (.inl (x24, (w32 (v3 + 1))))))) else some (.inr v2))
def p_X8_tellsImage_L71 (Γ : AwC) (sh : AwS) (M : AwM) (v0 : Int) (v1 : Int) (Q : State → Prop) (s : Int × Int) : Prop := AW Γ sh M 0 0 71 [some (.inr (.inr v0)), some (.inl v1), some (.inl (s.1)), some (.inl (s.2))] [] Q
def x_X8_tellsImage_L71 (Γ : AwC) (sh : AwS) (M : AwM) (v0 : Int) (v1 : Int) (Q : State → Prop) : (Int) → Prop := (fun (t : Int) => AW Γ sh M 0 0 98 [some (.inr (.inr v0)), some (.inl v1), some (.inl (t)), none] [] Q)
def fX8_tellsImage (sh : AwS) (M : AwM) (v0 : Int) (v1 : Int) : Option Int :=
  gd_ (kd_ sh v0 = (0, 8)) (gd_ (kd_ sh (M v0 3) = (0, 5)) (gd_ ((kd_ sh (M (M v0 3) 0)).1 = 1 ∧ (0 : Int) ≤ 1 ∧ 1 < ((kd_ sh (M (M v0 3) 0)).2 : Int)) (pb (fX8_imageRow sh M v0 (M (M (M v0 3) 0) 1)) <| u1 fun (x5 : Int) => ((if v1 = (w32 (x5 + 1)) then pb (fX8_tapeDay sh M v0) <| u1 fun (x8 : Int) => ((if 999 < x8 then some 0 else pb (lp (u1 (fX8_tellsImage_L33 sh M v0 v1)) FU 0) (Sum.elim (u0 (pb (lp (u2 (fX8_tellsImage_L71 sh M v0 v1)) FU (103, 0)) (u1 (fun (tq26 : Int) => pb (fX8_tapeByte sh M v0 (w32 (v1 - 1))) <| u1 fun (x28 : Int) => ((if x28 = tq26 then some 1 else some 0)))))) (u0 (some 0))))) else some 0)))))
set_option maxRecDepth 100000 in
set_option maxHeartbeats 4000000 in
theorem w_X8_tellsImage_L33 {Γ : AwC} (hC : AOK Γ RX8 cX8_tellsImage 4 4 0 0 "tellsImage" (some .boolean)) {sh : AwS} {M : AwM} {v0 : Int} {v1 : Int} {Q : State → Prop} : ∀ s r, u1 (fX8_tellsImage_L33 sh M v0 v1) s = some r → (∀ s', r = .inl s' → p_X8_tellsImage_L33 Γ sh M v0 v1 Q s') → (∀ t, r = .inr t → x_X8_tellsImage_L33 Γ sh M v0 v1 Q t) → p_X8_tellsImage_L33 Γ sh M v0 v1 Q s := by
  intro v2 r h hL hX
  replace h := u1_s h
  unfold fX8_tellsImage_L33 at h
  show AW Γ sh M 0 0 33 [some (.inr (.inr v0)), some (.inl v1), some (.inl v2), none] [] Q
  refine aw_iload_n (pc' := 34) (i := 2) hC dX8_tellsImage_33 rfl rfl rfl ?_
  refine aw_aload_n (pc' := 35) (i := 0) hC dX8_tellsImage_34 rfl rfl rfl ?_
  obtain ⟨g10, h⟩ := gd_s h
  refine aw_getfield (pc' := 38) (v := (.inr (.inr (M v0 3)))) hC dX8_tellsImage_35 rfl fl_X8_51 g10 rfl ?_
  obtain ⟨g11, h⟩ := gd_s h
  refine aw_getfield (pc' := 41) (v := (.inr (.inr (M (M v0 3) 0)))) hC dX8_tellsImage_38 rfl fl_X8_101 g11 rfl ?_
  refine aw_iconst (pc' := 42) hC dX8_tellsImage_41 rfl (by decide) ?_
  obtain ⟨g12, h⟩ := gd_s h
  refine aw_iaload (pc' := 43) hC dX8_tellsImage_42 rfl g12 ?_
  refine aw_icmp_ge (tgt := 66) (pc' := 46) hC dX8_tellsImage_43 (by decide) rfl (fun c13 => ?_) (fun c13 => ?_)
  · replace h := it_n c13 h
    refine aw_sub hC [some (.inr (.inr v0)), some (.inl v1), none, none] ⟨rfl, ⟨rfl, trivial⟩⟩ (Nat.le_of_ble_eq_true rfl) ?_
    cases h
    exact hX _ rfl
  · replace h := it_p c13 h
    refine aw_aload_n (pc' := 47) (i := 0) hC dX8_tellsImage_46 rfl rfl rfl ?_
    refine aw_aload_n (pc' := 48) (i := 0) hC dX8_tellsImage_47 rfl rfl rfl ?_
    refine aw_iload_n (pc' := 49) (i := 2) hC dX8_tellsImage_48 rfl rfl rfl ?_
    obtain ⟨x15, q14, h⟩ := pb_s h
    replace h := u1_s h
    refine aw_cV (pc' := 52) (k2 := 0) (n2 := 0) (st := [.inr (.inr v0)]) (stN := [.inl x15, .inr (.inr v0)]) hC [.inl v2] (mX8_imageRow q14) lk_X8_302 g10 dX8_tellsImage_49 rfl rfl (Nat.le_of_ble_eq_true rfl) (Nat.le_of_ble_eq_true rfl) (Nat.le_of_ble_eq_true rfl) rfl (Nat.le_of_ble_eq_true rfl) rfl rfl rfl ?_
    obtain ⟨x17, q16, h⟩ := pb_s h
    replace h := u1_s h
    refine aw_cV (pc' := 55) (k2 := 0) (n2 := 0) (st := []) (stN := [.inl x17]) hC [.inl x15] (mX8_tellsCoin q16) lk_X8_309 g10 dX8_tellsImage_52 rfl rfl (Nat.le_of_ble_eq_true rfl) (Nat.le_of_ble_eq_true rfl) (Nat.le_of_ble_eq_true rfl) rfl (Nat.le_of_ble_eq_true rfl) rfl rfl rfl ?_
    refine aw_if_ne (tgt := 60) (pc' := 58) hC dX8_tellsImage_55 (by decide) rfl (fun c18 => ?_) (fun c18 => ?_)
    · replace h := it_n c18 h
      refine aw_iinc (pc' := 63) (ls' := [some (.inr (.inr v0)), some (.inl v1), some (.inl (w32 (v2 + 1))), none]) hC dX8_tellsImage_60 rfl rfl rfl rfl ?_
      refine aw_goto (tgt := 33) hC dX8_tellsImage_63 (by decide) ?_
      refine aw_sub hC [some (.inr (.inr v0)), some (.inl v1), some (.inl (w32 (v2 + 1))), none] ⟨rfl, ⟨rfl, ⟨rfl, trivial⟩⟩⟩ (Nat.le_of_ble_eq_true rfl) ?_
      cases h
      exact hL _ rfl
    · replace h := it_p c18 h
      refine aw_sub hC [none, none, none, none] trivial (Nat.le_of_ble_eq_true rfl) ?_
      cases h
      exact hX _ rfl
set_option maxRecDepth 100000 in
set_option maxHeartbeats 4000000 in
theorem w_X8_tellsImage_L71 {Γ : AwC} (hC : AOK Γ RX8 cX8_tellsImage 4 4 0 0 "tellsImage" (some .boolean)) {sh : AwS} {M : AwM} {v0 : Int} {v1 : Int} {Q : State → Prop} : ∀ s r, u2 (fX8_tellsImage_L71 sh M v0 v1) s = some r → (∀ s', r = .inl s' → p_X8_tellsImage_L71 Γ sh M v0 v1 Q s') → (∀ t, r = .inr t → x_X8_tellsImage_L71 Γ sh M v0 v1 Q t) → p_X8_tellsImage_L71 Γ sh M v0 v1 Q s := by
  intro s r h hL hX
  obtain ⟨v2, v3⟩ := s
  replace h := u2_s h
  unfold fX8_tellsImage_L71 at h
  show AW Γ sh M 0 0 71 [some (.inr (.inr v0)), some (.inl v1), some (.inl v2), some (.inl v3)] [] Q
  refine aw_iload_n (pc' := 72) (i := 3) hC dX8_tellsImage_71 rfl rfl rfl ?_
  refine aw_iload_n (pc' := 73) (i := 1) hC dX8_tellsImage_72 rfl rfl rfl ?_
  refine aw_iconst (pc' := 74) hC dX8_tellsImage_73 rfl (by decide) ?_
  refine aw_isub (pc' := 75) hC dX8_tellsImage_74 rfl  ?_
  refine aw_icmp_ge (tgt := 98) (pc' := 78) hC dX8_tellsImage_75 (by decide) rfl (fun c20 => ?_) (fun c20 => ?_)
  · replace h := it_n c20 h
    refine aw_sub hC [some (.inr (.inr v0)), some (.inl v1), some (.inl v2), none] ⟨rfl, ⟨rfl, ⟨rfl, trivial⟩⟩⟩ (Nat.le_of_ble_eq_true rfl) ?_
    cases h
    exact hX _ rfl
  · replace h := it_p c20 h
    refine aw_iconst (pc' := 79) hC dX8_tellsImage_78 rfl (by decide) ?_
    refine aw_iload_n (pc' := 80) (i := 2) hC dX8_tellsImage_79 rfl rfl rfl ?_
    refine aw_imul (pc' := 81) hC dX8_tellsImage_80 rfl  ?_
    refine aw_aload_n (pc' := 82) (i := 0) hC dX8_tellsImage_81 rfl rfl rfl ?_
    refine aw_iload_n (pc' := 83) (i := 3) hC dX8_tellsImage_82 rfl rfl rfl ?_
    obtain ⟨g22, h⟩ := gd_s h
    obtain ⟨x23, q21, h⟩ := pb_s h
    replace h := u1_s h
    refine aw_cV (pc' := 86) (k2 := 0) (n2 := 0) (st := [.inl (w32 (5 * v2))]) (stN := [.inl x23, .inl (w32 (5 * v2))]) hC [.inl v3] (mX8_tapeByte q21) lk_X8_271 g22 dX8_tellsImage_83 rfl rfl (Nat.le_of_ble_eq_true rfl) (Nat.le_of_ble_eq_true rfl) (Nat.le_of_ble_eq_true rfl) rfl (Nat.le_of_ble_eq_true rfl) rfl rfl rfl ?_
    refine aw_iadd (pc' := 87) hC dX8_tellsImage_86 rfl  ?_
    refine aw_sipush (pc' := 90) hC dX8_tellsImage_87 rfl (by decide) ?_
    refine aw_irem (pc' := 91) hC dX8_tellsImage_90 rfl (by decide) ?_
    obtain ⟨x24, e25, h⟩ := bd_s h
    refine aw_reni e25 ?_
    refine aw_istore_n (pc' := 92) (i := 2) (ls' := [some (.inr (.inr v0)), some (.inl v1), some (.inl x24), some (.inl v3)]) hC dX8_tellsImage_91 rfl rfl (Nat.le_of_ble_eq_true rfl) rfl rfl ?_
    refine aw_iinc (pc' := 95) (ls' := [some (.inr (.inr v0)), some (.inl v1), some (.inl x24), some (.inl (w32 (v3 + 1)))]) hC dX8_tellsImage_92 rfl rfl rfl rfl ?_
    refine aw_goto (tgt := 71) hC dX8_tellsImage_95 (by decide) ?_
    refine aw_sub hC [some (.inr (.inr v0)), some (.inl v1), some (.inl x24), some (.inl (w32 (v3 + 1)))] ⟨rfl, ⟨rfl, ⟨rfl, ⟨rfl, trivial⟩⟩⟩⟩ (Nat.le_of_ble_eq_true rfl) ?_
    cases h
    exact hL _ rfl
set_option maxRecDepth 100000 in
set_option maxHeartbeats 4000000 in
theorem mX8_tellsImage {sh : AwS} {M : AwM} {v0 : Int} {v1 : Int} {r : Int} (h : fX8_tellsImage sh M v0 v1 = some r) : AMet yX8_tellsImage cX8_tellsImage 4 (some .boolean) 4 0 0 [.inr (.inr v0), .inl v1] sh M (some (.inl r)) sh M := by
  refine amet_of (by decide +kernel) (Nat.le_of_ble_eq_true rfl) (fun Γ hC => ?_)
  replace hC : AOK Γ RX8 cX8_tellsImage 4 4 0 0 "tellsImage" (some .boolean) := hC
  unfold fX8_tellsImage at h
  refine aw_sub hC [some (.inr (.inr v0)), some (.inl v1), none, none] ⟨rfl, ⟨rfl, trivial⟩⟩ (Nat.le_of_ble_eq_true rfl) ?_
  refine aw_iload_n (pc' := 1) (i := 1) hC dX8_tellsImage_0 rfl rfl rfl ?_
  refine aw_aload_n (pc' := 2) (i := 0) hC dX8_tellsImage_1 rfl rfl rfl ?_
  refine aw_aload_n (pc' := 3) (i := 0) hC dX8_tellsImage_2 rfl rfl rfl ?_
  obtain ⟨g1, h⟩ := gd_s h
  refine aw_getfield (pc' := 6) (v := (.inr (.inr (M v0 3)))) hC dX8_tellsImage_3 rfl fl_X8_51 g1 rfl ?_
  obtain ⟨g2, h⟩ := gd_s h
  refine aw_getfield (pc' := 9) (v := (.inr (.inr (M (M v0 3) 0)))) hC dX8_tellsImage_6 rfl fl_X8_101 g2 rfl ?_
  refine aw_iconst (pc' := 10) hC dX8_tellsImage_9 rfl (by decide) ?_
  obtain ⟨g3, h⟩ := gd_s h
  refine aw_iaload (pc' := 11) hC dX8_tellsImage_10 rfl g3 ?_
  obtain ⟨x5, q4, h⟩ := pb_s h
  replace h := u1_s h
  refine aw_cV (pc' := 14) (k2 := 0) (n2 := 0) (st := [.inl v1]) (stN := [.inl x5, .inl v1]) hC [.inl (M (M (M v0 3) 0) 1)] (mX8_imageRow q4) lk_X8_302 g1 dX8_tellsImage_11 rfl rfl (Nat.le_of_ble_eq_true rfl) (Nat.le_of_ble_eq_true rfl) (Nat.le_of_ble_eq_true rfl) rfl (Nat.le_of_ble_eq_true rfl) rfl rfl rfl ?_
  refine aw_iconst (pc' := 15) hC dX8_tellsImage_14 rfl (by decide) ?_
  refine aw_iadd (pc' := 16) hC dX8_tellsImage_15 rfl  ?_
  refine aw_icmp_ne (tgt := 29) (pc' := 19) hC dX8_tellsImage_16 (by decide) rfl (fun c6 => ?_) (fun c6 => ?_)
  · replace h := it_n c6 h
    refine aw_iconst (pc' := 30) hC dX8_tellsImage_29 rfl (by decide) ?_
    cases h
    exact aw_zret hC (Or.inl rfl) dX8_tellsImage_30 (Nat.le_of_ble_eq_true rfl) (Nat.le_of_ble_eq_true rfl)
  · replace h := it_p c6 h
    refine aw_aload_n (pc' := 20) (i := 0) hC dX8_tellsImage_19 rfl rfl rfl ?_
    obtain ⟨x8, q7, h⟩ := pb_s h
    replace h := u1_s h
    refine aw_cV (pc' := 23) (k2 := 0) (n2 := 0) (st := []) (stN := [.inl x8]) hC [] (mX8_tapeDay q7) lk_X8_299 g1 dX8_tellsImage_20 rfl rfl (Nat.le_of_ble_eq_true rfl) (Nat.le_of_ble_eq_true rfl) (Nat.le_of_ble_eq_true rfl) rfl (Nat.le_of_ble_eq_true rfl) rfl rfl rfl ?_
    refine aw_sipush (pc' := 26) hC dX8_tellsImage_23 rfl (by decide) ?_
    refine aw_icmp_le (tgt := 31) (pc' := 29) hC dX8_tellsImage_26 (by decide) rfl (fun c9 => ?_) (fun c9 => ?_)
    · replace h := it_n c9 h
      refine aw_iconst (pc' := 32) hC dX8_tellsImage_31 rfl (by decide) ?_
      refine aw_istore_n (pc' := 33) (i := 2) (ls' := [some (.inr (.inr v0)), some (.inl v1), some (.inl 0), none]) hC dX8_tellsImage_32 rfl rfl (Nat.le_of_ble_eq_true rfl) rfl rfl ?_
      obtain ⟨tq19, q19, h⟩ := pb_s h
      refine aw_sub hC [some (.inr (.inr v0)), some (.inl v1), some (.inl 0), none] ⟨rfl, ⟨rfl, ⟨rfl, trivial⟩⟩⟩ (Nat.le_of_ble_eq_true rfl) ?_
      refine (lp_aw (p_X8_tellsImage_L33 Γ sh M v0 v1 (fin_ Γ 0 0 (some (.inl r)) sh M)) (x_X8_tellsImage_L33 Γ sh M v0 v1 (fin_ Γ 0 0 (some (.inl r)) sh M)) (w_X8_tellsImage_L33 hC ) FU _ _ q19 ?_ : p_X8_tellsImage_L33 Γ sh M v0 v1 (fin_ Γ 0 0 (some (.inl r)) sh M) 0)
      rcases tq19 with tq19 | tq19
      · replace h := se_l h
        cases tq19
        replace h := u0_s h
        show AW Γ sh M 0 0 66 [some (.inr (.inr v0)), some (.inl v1), none, none] [] _
        refine aw_bipush (pc' := 68) hC dX8_tellsImage_66 rfl (by decide) ?_
        refine aw_istore_n (pc' := 69) (i := 2) (ls' := [some (.inr (.inr v0)), some (.inl v1), some (.inl 103), none]) hC dX8_tellsImage_68 rfl rfl (Nat.le_of_ble_eq_true rfl) rfl rfl ?_
        refine aw_iconst (pc' := 70) hC dX8_tellsImage_69 rfl (by decide) ?_
        refine aw_istore_n (pc' := 71) (i := 3) (ls' := [some (.inr (.inr v0)), some (.inl v1), some (.inl 103), some (.inl 0)]) hC dX8_tellsImage_70 rfl rfl (Nat.le_of_ble_eq_true rfl) rfl rfl ?_
        obtain ⟨tq26, q26, h⟩ := pb_s h
        refine aw_sub hC [some (.inr (.inr v0)), some (.inl v1), some (.inl 103), some (.inl 0)] ⟨rfl, ⟨rfl, ⟨rfl, ⟨rfl, trivial⟩⟩⟩⟩ (Nat.le_of_ble_eq_true rfl) ?_
        refine (lp_aw (p_X8_tellsImage_L71 Γ sh M v0 v1 (fin_ Γ 0 0 (some (.inl r)) sh M)) (x_X8_tellsImage_L71 Γ sh M v0 v1 (fin_ Γ 0 0 (some (.inl r)) sh M)) (w_X8_tellsImage_L71 hC ) FU _ _ q26 ?_ : p_X8_tellsImage_L71 Γ sh M v0 v1 (fin_ Γ 0 0 (some (.inl r)) sh M) (103, 0))
        replace h := u1_s h
        show AW Γ sh M 0 0 98 [some (.inr (.inr v0)), some (.inl v1), some (.inl tq26), none] [] _
        refine aw_aload_n (pc' := 99) (i := 0) hC dX8_tellsImage_98 rfl rfl rfl ?_
        refine aw_iload_n (pc' := 100) (i := 1) hC dX8_tellsImage_99 rfl rfl rfl ?_
        refine aw_iconst (pc' := 101) hC dX8_tellsImage_100 rfl (by decide) ?_
        refine aw_isub (pc' := 102) hC dX8_tellsImage_101 rfl  ?_
        obtain ⟨x28, q27, h⟩ := pb_s h
        replace h := u1_s h
        refine aw_cV (pc' := 105) (k2 := 0) (n2 := 0) (st := []) (stN := [.inl x28]) hC [.inl (w32 (v1 - 1))] (mX8_tapeByte q27) lk_X8_271 g1 dX8_tellsImage_102 rfl rfl (Nat.le_of_ble_eq_true rfl) (Nat.le_of_ble_eq_true rfl) (Nat.le_of_ble_eq_true rfl) rfl (Nat.le_of_ble_eq_true rfl) rfl rfl rfl ?_
        refine aw_iload_n (pc' := 106) (i := 2) hC dX8_tellsImage_105 rfl rfl rfl ?_
        refine aw_icmp_ne (tgt := 113) (pc' := 109) hC dX8_tellsImage_106 (by decide) rfl (fun c29 => ?_) (fun c29 => ?_)
        · replace h := it_n c29 h
          refine aw_iconst (pc' := 114) hC dX8_tellsImage_113 rfl (by decide) ?_
          cases h
          exact aw_zret hC (Or.inl rfl) dX8_tellsImage_114 (Nat.le_of_ble_eq_true rfl) (Nat.le_of_ble_eq_true rfl)
        · replace h := it_p c29 h
          refine aw_iconst (pc' := 110) hC dX8_tellsImage_109 rfl (by decide) ?_
          refine aw_goto (tgt := 114) hC dX8_tellsImage_110 (by decide) ?_
          cases h
          exact aw_zret hC (Or.inr rfl) dX8_tellsImage_114 (Nat.le_of_ble_eq_true rfl) (Nat.le_of_ble_eq_true rfl)
      · replace h := se_r h
        cases tq19
        replace h := u0_s h
        show AW Γ sh M 0 0 58 [none, none, none, none] [] _
        refine aw_iconst (pc' := 59) hC dX8_tellsImage_58 rfl (by decide) ?_
        cases h
        exact aw_zret hC (Or.inl rfl) dX8_tellsImage_59 (Nat.le_of_ble_eq_true rfl) (Nat.le_of_ble_eq_true rfl)
    · replace h := it_p c9 h
      refine aw_iconst (pc' := 30) hC dX8_tellsImage_29 rfl (by decide) ?_
      cases h
      exact aw_zret hC (Or.inl rfl) dX8_tellsImage_30 (Nat.le_of_ble_eq_true rfl) (Nat.le_of_ble_eq_true rfl)
-- CoinCircle$Circle.stand(III)V
def fX0_stand (sh : AwS) (M : AwM) (v0 : Int) (v1 : Int) (v2 : Int) (v3 : Int) : Option (AwM) :=
  (if v3 < 2 then (if v3 = 1 then gd_ (kd_ sh v0 = (0, 0)) (gd_ (kd_ sh (M v0 0) = (0, 3)) (gd_ ((kd_ sh (M (M v0 0) 3)).1 = 1 ∧ (0 : Int) ≤ v1 ∧ v1 < ((kd_ sh (M (M v0 0) 3)).2 : Int)) (bd_ (up_ M (M (M v0 0) 3) v1 (or_ (M (M (M v0 0) 3) v1) (sl_ 1 v2))) fun (M6 : AwM) => (some M6)))) else some M) else gd_ (kd_ sh v0 = (0, 0)) (gd_ (kd_ sh (M v0 0) = (0, 3)) (gd_ ((kd_ sh (M (M v0 0) 2)).1 = 1 ∧ (0 : Int) ≤ v1 ∧ v1 < ((kd_ sh (M (M v0 0) 2)).2 : Int)) (bd_ (up_ M (M (M v0 0) 2) v1 (or_ (M (M (M v0 0) 2) v1) (sl_ 1 v2))) fun (M11 : AwM) => (gd_ (kd_ sh (M11 v0 0) = (0, 3)) (pb (fX3_setMet sh M11 (M11 v0 0) v1 v2 (w32 ((M11 (M11 v0 0) 0) - (w32 (v3 - 2))))) <| u1 fun (M15 : AwM) => (some M15)))))))
set_option maxRecDepth 100000 in
set_option maxHeartbeats 4000000 in
theorem mX0_stand {sh : AwS} {M : AwM} {v0 : Int} {v1 : Int} {v2 : Int} {v3 : Int} {M' : AwM} (h : fX0_stand sh M v0 v1 v2 v3 = some M') : AMet yX0_stand cX0_stand 4 none 2 0 0 [.inr (.inr v0), .inl v1, .inl v2, .inl v3] sh M none sh M' := by
  refine amet_of (by decide +kernel) (Nat.le_of_ble_eq_true rfl) (fun Γ hC => ?_)
  replace hC : AOK Γ RX0 cX0_stand 4 2 0 0 "stand" none := hC
  unfold fX0_stand at h
  refine aw_sub hC [some (.inr (.inr v0)), some (.inl v1), some (.inl v2), some (.inl v3)] ⟨rfl, ⟨rfl, ⟨rfl, ⟨rfl, trivial⟩⟩⟩⟩ (Nat.le_of_ble_eq_true rfl) ?_
  refine aw_iload_n (pc' := 1) (i := 3) hC dX0_stand_0 rfl rfl rfl ?_
  refine aw_iconst (pc' := 2) hC dX0_stand_1 rfl (by decide) ?_
  refine aw_icmp_lt (tgt := 43) (pc' := 5) hC dX0_stand_2 (by decide) rfl (fun c1 => ?_) (fun c1 => ?_)
  · replace h := it_p c1 h
    refine aw_iload_n (pc' := 44) (i := 3) hC dX0_stand_43 rfl rfl rfl ?_
    refine aw_iconst (pc' := 45) hC dX0_stand_44 rfl (by decide) ?_
    refine aw_icmp_ne (tgt := 63) (pc' := 48) hC dX0_stand_45 (by decide) rfl (fun c2 => ?_) (fun c2 => ?_)
    · replace h := it_n c2 h
      cases h
      exact aw_vret hC dX0_stand_63 (Nat.le_of_ble_eq_true rfl) (Nat.le_of_ble_eq_true rfl)
    · replace h := it_p c2 h
      refine aw_aload_n (pc' := 49) (i := 0) hC dX0_stand_48 rfl rfl rfl ?_
      obtain ⟨g3, h⟩ := gd_s h
      refine aw_getfield (pc' := 52) (v := (.inr (.inr (M v0 0)))) hC dX0_stand_49 rfl fl_X0_12 g3 rfl ?_
      obtain ⟨g4, h⟩ := gd_s h
      refine aw_getfield (pc' := 55) (v := (.inr (.inr (M (M v0 0) 3)))) hC dX0_stand_52 rfl fl_X0_40 g4 rfl ?_
      refine aw_iload_n (pc' := 56) (i := 1) hC dX0_stand_55 rfl rfl rfl ?_
      refine aw_dup2 (pc' := 57) hC dX0_stand_56 rfl rfl rfl ?_
      obtain ⟨g5, h⟩ := gd_s h
      refine aw_iaload (pc' := 58) hC dX0_stand_57 rfl g5 ?_
      refine aw_iconst (pc' := 59) hC dX0_stand_58 rfl (by decide) ?_
      refine aw_iload_n (pc' := 60) (i := 2) hC dX0_stand_59 rfl rfl rfl ?_
      refine aw_ishl (pc' := 61) hC dX0_stand_60 rfl  ?_
      refine aw_ior (pc' := 62) hC dX0_stand_61 rfl  ?_
      obtain ⟨M6, e7, h⟩ := bd_s h
      refine aw_ias (pc' := 63) hC dX0_stand_62 rfl g5 e7 ?_
      cases h
      exact aw_vret hC dX0_stand_63 (Nat.le_of_ble_eq_true rfl) (Nat.le_of_ble_eq_true rfl)
  · replace h := it_n c1 h
    refine aw_aload_n (pc' := 6) (i := 0) hC dX0_stand_5 rfl rfl rfl ?_
    obtain ⟨g8, h⟩ := gd_s h
    refine aw_getfield (pc' := 9) (v := (.inr (.inr (M v0 0)))) hC dX0_stand_6 rfl fl_X0_12 g8 rfl ?_
    obtain ⟨g9, h⟩ := gd_s h
    refine aw_getfield (pc' := 12) (v := (.inr (.inr (M (M v0 0) 2)))) hC dX0_stand_9 rfl fl_X0_36 g9 rfl ?_
    refine aw_iload_n (pc' := 13) (i := 1) hC dX0_stand_12 rfl rfl rfl ?_
    refine aw_dup2 (pc' := 14) hC dX0_stand_13 rfl rfl rfl ?_
    obtain ⟨g10, h⟩ := gd_s h
    refine aw_iaload (pc' := 15) hC dX0_stand_14 rfl g10 ?_
    refine aw_iconst (pc' := 16) hC dX0_stand_15 rfl (by decide) ?_
    refine aw_iload_n (pc' := 17) (i := 2) hC dX0_stand_16 rfl rfl rfl ?_
    refine aw_ishl (pc' := 18) hC dX0_stand_17 rfl  ?_
    refine aw_ior (pc' := 19) hC dX0_stand_18 rfl  ?_
    obtain ⟨M11, e12, h⟩ := bd_s h
    refine aw_ias (pc' := 20) hC dX0_stand_19 rfl g10 e12 ?_
    refine aw_aload_n (pc' := 21) (i := 0) hC dX0_stand_20 rfl rfl rfl ?_
    refine aw_getfield (pc' := 24) (v := (.inr (.inr (M11 v0 0)))) hC dX0_stand_21 rfl fl_X0_12 g8 rfl ?_
    refine aw_iload_n (pc' := 25) (i := 1) hC dX0_stand_24 rfl rfl rfl ?_
    refine aw_iload_n (pc' := 26) (i := 2) hC dX0_stand_25 rfl rfl rfl ?_
    refine aw_aload_n (pc' := 27) (i := 0) hC dX0_stand_26 rfl rfl rfl ?_
    refine aw_getfield (pc' := 30) (v := (.inr (.inr (M11 v0 0)))) hC dX0_stand_27 rfl fl_X0_12 g8 rfl ?_
    obtain ⟨g13, h⟩ := gd_s h
    refine aw_getfield (pc' := 33) (v := (.inl (M11 (M11 v0 0) 0))) hC dX0_stand_30 rfl fl_X0_26 g13 rfl ?_
    refine aw_iload_n (pc' := 34) (i := 3) hC dX0_stand_33 rfl rfl rfl ?_
    refine aw_iconst (pc' := 35) hC dX0_stand_34 rfl (by decide) ?_
    refine aw_isub (pc' := 36) hC dX0_stand_35 rfl  ?_
    refine aw_isub (pc' := 37) hC dX0_stand_36 rfl  ?_
    obtain ⟨M15, q14, h⟩ := pb_s h
    replace h := u1_s h
    refine aw_cV (pc' := 40) (k2 := 0) (n2 := 0) (st := []) (stN := []) hC [.inl v1, .inl v2, .inl (w32 ((M11 (M11 v0 0) 0) - (w32 (v3 - 2))))] (mX3_setMet q14) lk_X0_44 g13 dX0_stand_37 rfl rfl (Nat.le_of_ble_eq_true rfl) (Nat.le_of_ble_eq_true rfl) (Nat.le_of_ble_eq_true rfl) rfl (Nat.le_of_ble_eq_true rfl) rfl rfl rfl ?_
    refine aw_goto (tgt := 63) hC dX0_stand_40 (by decide) ?_
    cases h
    exact aw_vret hC dX0_stand_63 (Nat.le_of_ble_eq_true rfl) (Nat.le_of_ble_eq_true rfl)
-- CoinCircle.on()Z
def fX8_on_L93 (sh : AwS) (v0 : Int) (v2 : Int) (v3 : Int) (v4 : Int) (v5 : Int) (M : AwM) : Option ((Int × AwM) ⊕ (AwM)) :=
  gd_ (kd_ sh v0 = (0, 8)) (gd_ (kd_ sh (M v0 3) = (0, 5)) (gd_ ((kd_ sh (M (M v0 3) 0)).1 = 1 ∧ (0 : Int) ≤ 0 ∧ 0 < ((kd_ sh (M (M v0 3) 0)).2 : Int)) ((if v5 < (M (M (M v0 3) 0) 0) then pb (fX8_tapeByte sh M v0 (w32 ((w32 (v4 + 1)) + v5))) <| u1 fun (x36 : Int) => (gd_ (kd_ sh (M v0 4) = (0, 0)) (pb (fX0_stand sh M (M v0 4) v3 v5 x36) <| u1 fun (M39 : AwM) => (some (.inl ((w32 (v5 + 1)), M39))))) else some (.inr M)))))
def p_X8_on_L93 (Γ : AwC) (sh : AwS) (v0 : Int) (v2 : Int) (v3 : Int) (v4 : Int) (Q : State → Prop) (s : Int × AwM) : Prop := AW Γ sh (s.2) 0 0 93 [some (.inr (.inr v0)), none, some (.inr (.inr v2)), some (.inl v3), some (.inl v4), some (.inl (s.1))] [] Q
def x_X8_on_L93 (Γ : AwC) (sh : AwS) (v0 : Int) (v2 : Int) (v3 : Int) (v4 : Int) (Q : State → Prop) : (AwM) → Prop := (fun (t : AwM) => AW Γ sh (t) 0 0 134 [some (.inr (.inr v0)), none, some (.inr (.inr v2)), some (.inl v3), none, none] [] Q)
def fX8_on_L44 (sh : AwS) (v0 : Int) (v2 : Int) (v3 : Int) (M : AwM) : Option ((Int × AwM) ⊕ (AwM)) :=
  gd_ (kd_ sh v0 = (0, 8)) (gd_ (kd_ sh (M v0 3) = (0, 5)) (gd_ ((kd_ sh (M (M v0 3) 0)).1 = 1 ∧ (0 : Int) ≤ 1 ∧ 1 < ((kd_ sh (M (M v0 3) 0)).2 : Int)) ((if v3 < (M (M (M v0 3) 0) 1) then pb (fX8_imageRow sh M v0 v3) <| u1 fun (x18 : Int) => (gd_ (kd_ sh v2 = (0, 3)) (pb (fX8_tapeByte sh M v0 x18) <| u1 fun (x21 : Int) => (gd_ ((kd_ sh (M v2 1)).1 = 1 ∧ (0 : Int) ≤ v3 ∧ v3 < ((kd_ sh (M v2 1)).2 : Int)) (bd_ (up_ M (M v2 1) v3 x21) fun (M23 : AwM) => (gd_ ((kd_ sh (M23 v2 2)).1 = 1 ∧ (0 : Int) ≤ v3 ∧ v3 < ((kd_ sh (M23 v2 2)).2 : Int)) (bd_ (up_ M23 (M23 v2 2) v3 0) fun (M26 : AwM) => (gd_ ((kd_ sh (M26 v2 3)).1 = 1 ∧ (0 : Int) ≤ v3 ∧ v3 < ((kd_ sh (M26 v2 3)).2 : Int)) (bd_ (up_ M26 (M26 v2 3) v3 0) fun (M29 : AwM) => (pb (lp (u2 (fX8_on_L93 sh v0 v2 v3 x18)) FU (0, M29)) (u1 (fun (tq40 : AwM) => some (.inl ((w32 (v3 + 1)), tq40))))))))))))) else some (.inr M)))))
def p_X8_on_L44 (Γ : AwC) (sh : AwS) (v0 : Int) (v2 : Int) (Q : State → Prop) (s : Int × AwM) : Prop := AW Γ sh (s.2) 0 0 44 [some (.inr (.inr v0)), none, some (.inr (.inr v2)), some (.inl (s.1)), none, none] [] Q
def x_X8_on_L44 (Γ : AwC) (sh : AwS) (v0 : Int) (v2 : Int) (Q : State → Prop) : (AwM) → Prop := (fun (t : AwM) => AW Γ sh (t) 0 0 140 [some (.inr (.inr v0)), none, none, none, none, none] [] Q)
def fX8_on (sh : AwS) (M : AwM) (v0 : Int) : Option (Int × AwM) :=
  gd_ (kd_ sh v0 = (0, 8)) (bd_ (up_ M v0 1 0) fun (M2 : AwM) => (pb (fX8_tellsImage sh M2 v0 (M v0 1)) <| u1 fun (x5 : Int) => ((if x5 = 0 then pb (fX8_refuse sh M2 v0 5) <| u2 fun (x46 : Int) (M47 : AwM) => (some (0, M47)) else gd_ (kd_ sh (M2 v0 4) = (0, 0)) (pb (fX8_tapeDay sh M2 v0) <| u1 fun (x9 : Int) => (gd_ (kd_ sh (M2 (M2 v0 4) 0) = (0, 3)) (bd_ (up_ M2 (M2 (M2 v0 4) 0) 0 x9) fun (M11 : AwM) => (pb (lp (u2 (fX8_on_L44 sh v0 (M2 (M2 v0 4) 0))) FU (0, M11)) (u1 (fun (tq41 : AwM) => gd_ (kd_ sh (tq41 v0 6) = (0, 2)) (pb (fX2_clear sh tq41 (tq41 v0 6)) <| u1 fun (M44 : AwM) => (some (1, M44)))))))))))))
set_option maxRecDepth 100000 in
set_option maxHeartbeats 4000000 in
theorem w_X8_on_L93 {Γ : AwC} (hC : AOK Γ RX8 cX8_on 6 5 0 0 "on" (some .boolean)) {sh : AwS} {v0 : Int} {v2 : Int} {v3 : Int} {v4 : Int} {Q : State → Prop} : ∀ s r, u2 (fX8_on_L93 sh v0 v2 v3 v4) s = some r → (∀ s', r = .inl s' → p_X8_on_L93 Γ sh v0 v2 v3 v4 Q s') → (∀ t, r = .inr t → x_X8_on_L93 Γ sh v0 v2 v3 v4 Q t) → p_X8_on_L93 Γ sh v0 v2 v3 v4 Q s := by
  intro s r h hL hX
  obtain ⟨v5, M⟩ := s
  replace h := u2_s h
  unfold fX8_on_L93 at h
  show AW Γ sh M 0 0 93 [some (.inr (.inr v0)), none, some (.inr (.inr v2)), some (.inl v3), some (.inl v4), some (.inl v5)] [] Q
  refine aw_iload (pc' := 95) hC dX8_on_93 rfl rfl ?_
  refine aw_aload_n (pc' := 96) (i := 0) hC dX8_on_95 rfl rfl rfl ?_
  obtain ⟨g31, h⟩ := gd_s h
  refine aw_getfield (pc' := 99) (v := (.inr (.inr (M v0 3)))) hC dX8_on_96 rfl fl_X8_51 g31 rfl ?_
  obtain ⟨g32, h⟩ := gd_s h
  refine aw_getfield (pc' := 102) (v := (.inr (.inr (M (M v0 3) 0)))) hC dX8_on_99 rfl fl_X8_101 g32 rfl ?_
  refine aw_iconst (pc' := 103) hC dX8_on_102 rfl (by decide) ?_
  obtain ⟨g33, h⟩ := gd_s h
  refine aw_iaload (pc' := 104) hC dX8_on_103 rfl g33 ?_
  refine aw_icmp_ge (tgt := 134) (pc' := 107) hC dX8_on_104 (by decide) rfl (fun c34 => ?_) (fun c34 => ?_)
  · replace h := it_n c34 h
    refine aw_sub hC [some (.inr (.inr v0)), none, some (.inr (.inr v2)), some (.inl v3), none, none] ⟨rfl, ⟨rfl, ⟨rfl, trivial⟩⟩⟩ (Nat.le_of_ble_eq_true rfl) ?_
    cases h
    exact hX _ rfl
  · replace h := it_p c34 h
    refine aw_aload_n (pc' := 108) (i := 0) hC dX8_on_107 rfl rfl rfl ?_
    refine aw_getfield (pc' := 111) (v := (.inr (.inr (M v0 4)))) hC dX8_on_108 rfl fl_X8_60 g31 rfl ?_
    refine aw_iload_n (pc' := 112) (i := 3) hC dX8_on_111 rfl rfl rfl ?_
    refine aw_iload (pc' := 114) hC dX8_on_112 rfl rfl ?_
    refine aw_aload_n (pc' := 115) (i := 0) hC dX8_on_114 rfl rfl rfl ?_
    refine aw_iload (pc' := 117) hC dX8_on_115 rfl rfl ?_
    refine aw_iconst (pc' := 118) hC dX8_on_117 rfl (by decide) ?_
    refine aw_iadd (pc' := 119) hC dX8_on_118 rfl  ?_
    refine aw_iload (pc' := 121) hC dX8_on_119 rfl rfl ?_
    refine aw_iadd (pc' := 122) hC dX8_on_121 rfl  ?_
    obtain ⟨x36, q35, h⟩ := pb_s h
    replace h := u1_s h
    refine aw_cV (pc' := 125) (k2 := 0) (n2 := 0) (st := [.inl v5, .inl v3, .inr (.inr (M v0 4))]) (stN := [.inl x36, .inl v5, .inl v3, .inr (.inr (M v0 4))]) hC [.inl (w32 ((w32 (v4 + 1)) + v5))] (mX8_tapeByte q35) lk_X8_271 g31 dX8_on_122 rfl rfl (Nat.le_of_ble_eq_true rfl) (Nat.le_of_ble_eq_true rfl) (Nat.le_of_ble_eq_true rfl) rfl (Nat.le_of_ble_eq_true rfl) rfl rfl rfl ?_
    obtain ⟨g38, h⟩ := gd_s h
    obtain ⟨M39, q37, h⟩ := pb_s h
    replace h := u1_s h
    refine aw_cV (pc' := 128) (k2 := 0) (n2 := 0) (st := []) (stN := []) hC [.inl v3, .inl v5, .inl x36] (mX0_stand q37) lk_X8_305 g38 dX8_on_125 rfl rfl (Nat.le_of_ble_eq_true rfl) (Nat.le_of_ble_eq_true rfl) (Nat.le_of_ble_eq_true rfl) rfl (Nat.le_of_ble_eq_true rfl) rfl rfl rfl ?_
    refine aw_iinc (pc' := 131) (ls' := [some (.inr (.inr v0)), none, some (.inr (.inr v2)), some (.inl v3), some (.inl v4), some (.inl (w32 (v5 + 1)))]) hC dX8_on_128 rfl rfl rfl rfl ?_
    refine aw_goto (tgt := 93) hC dX8_on_131 (by decide) ?_
    refine aw_sub hC [some (.inr (.inr v0)), none, some (.inr (.inr v2)), some (.inl v3), some (.inl v4), some (.inl (w32 (v5 + 1)))] ⟨rfl, ⟨rfl, ⟨rfl, ⟨rfl, ⟨rfl, trivial⟩⟩⟩⟩⟩ (Nat.le_of_ble_eq_true rfl) ?_
    cases h
    exact hL _ rfl
set_option maxRecDepth 100000 in
set_option maxHeartbeats 4000000 in
theorem w_X8_on_L44 {Γ : AwC} (hC : AOK Γ RX8 cX8_on 6 5 0 0 "on" (some .boolean)) {sh : AwS} {v0 : Int} {v2 : Int} {Q : State → Prop} : ∀ s r, u2 (fX8_on_L44 sh v0 v2) s = some r → (∀ s', r = .inl s' → p_X8_on_L44 Γ sh v0 v2 Q s') → (∀ t, r = .inr t → x_X8_on_L44 Γ sh v0 v2 Q t) → p_X8_on_L44 Γ sh v0 v2 Q s := by
  intro s r h hL hX
  obtain ⟨v3, M⟩ := s
  replace h := u2_s h
  unfold fX8_on_L44 at h
  show AW Γ sh M 0 0 44 [some (.inr (.inr v0)), none, some (.inr (.inr v2)), some (.inl v3), none, none] [] Q
  refine aw_iload_n (pc' := 45) (i := 3) hC dX8_on_44 rfl rfl rfl ?_
  refine aw_aload_n (pc' := 46) (i := 0) hC dX8_on_45 rfl rfl rfl ?_
  obtain ⟨g13, h⟩ := gd_s h
  refine aw_getfield (pc' := 49) (v := (.inr (.inr (M v0 3)))) hC dX8_on_46 rfl fl_X8_51 g13 rfl ?_
  obtain ⟨g14, h⟩ := gd_s h
  refine aw_getfield (pc' := 52) (v := (.inr (.inr (M (M v0 3) 0)))) hC dX8_on_49 rfl fl_X8_101 g14 rfl ?_
  refine aw_iconst (pc' := 53) hC dX8_on_52 rfl (by decide) ?_
  obtain ⟨g15, h⟩ := gd_s h
  refine aw_iaload (pc' := 54) hC dX8_on_53 rfl g15 ?_
  refine aw_icmp_ge (tgt := 140) (pc' := 57) hC dX8_on_54 (by decide) rfl (fun c16 => ?_) (fun c16 => ?_)
  · replace h := it_n c16 h
    refine aw_sub hC [some (.inr (.inr v0)), none, none, none, none, none] ⟨rfl, trivial⟩ (Nat.le_of_ble_eq_true rfl) ?_
    cases h
    exact hX _ rfl
  · replace h := it_p c16 h
    refine aw_aload_n (pc' := 58) (i := 0) hC dX8_on_57 rfl rfl rfl ?_
    refine aw_iload_n (pc' := 59) (i := 3) hC dX8_on_58 rfl rfl rfl ?_
    obtain ⟨x18, q17, h⟩ := pb_s h
    replace h := u1_s h
    refine aw_cV (pc' := 62) (k2 := 0) (n2 := 0) (st := []) (stN := [.inl x18]) hC [.inl v3] (mX8_imageRow q17) lk_X8_302 g13 dX8_on_59 rfl rfl (Nat.le_of_ble_eq_true rfl) (Nat.le_of_ble_eq_true rfl) (Nat.le_of_ble_eq_true rfl) rfl (Nat.le_of_ble_eq_true rfl) rfl rfl rfl ?_
    refine aw_istore (pc' := 64) (ls' := [some (.inr (.inr v0)), none, some (.inr (.inr v2)), some (.inl v3), some (.inl x18), none]) hC dX8_on_62 rfl (Nat.le_of_ble_eq_true rfl) rfl rfl ?_
    refine aw_aload_n (pc' := 65) (i := 2) hC dX8_on_64 rfl rfl rfl ?_
    obtain ⟨g19, h⟩ := gd_s h
    refine aw_getfield (pc' := 68) (v := (.inr (.inr (M v2 1)))) hC dX8_on_65 rfl fl_X8_169 g19 rfl ?_
    refine aw_iload_n (pc' := 69) (i := 3) hC dX8_on_68 rfl rfl rfl ?_
    refine aw_aload_n (pc' := 70) (i := 0) hC dX8_on_69 rfl rfl rfl ?_
    refine aw_iload (pc' := 72) hC dX8_on_70 rfl rfl ?_
    obtain ⟨x21, q20, h⟩ := pb_s h
    replace h := u1_s h
    refine aw_cV (pc' := 75) (k2 := 0) (n2 := 0) (st := [.inl v3, .inr (.inr (M v2 1))]) (stN := [.inl x21, .inl v3, .inr (.inr (M v2 1))]) hC [.inl x18] (mX8_tapeByte q20) lk_X8_271 g13 dX8_on_72 rfl rfl (Nat.le_of_ble_eq_true rfl) (Nat.le_of_ble_eq_true rfl) (Nat.le_of_ble_eq_true rfl) rfl (Nat.le_of_ble_eq_true rfl) rfl rfl rfl ?_
    obtain ⟨g22, h⟩ := gd_s h
    obtain ⟨M23, e24, h⟩ := bd_s h
    refine aw_ias (pc' := 76) hC dX8_on_75 rfl g22 e24 ?_
    refine aw_aload_n (pc' := 77) (i := 2) hC dX8_on_76 rfl rfl rfl ?_
    refine aw_getfield (pc' := 80) (v := (.inr (.inr (M23 v2 2)))) hC dX8_on_77 rfl fl_X8_172 g19 rfl ?_
    refine aw_iload_n (pc' := 81) (i := 3) hC dX8_on_80 rfl rfl rfl ?_
    refine aw_iconst (pc' := 82) hC dX8_on_81 rfl (by decide) ?_
    obtain ⟨g25, h⟩ := gd_s h
    obtain ⟨M26, e27, h⟩ := bd_s h
    refine aw_ias (pc' := 83) hC dX8_on_82 rfl g25 e27 ?_
    refine aw_aload_n (pc' := 84) (i := 2) hC dX8_on_83 rfl rfl rfl ?_
    refine aw_getfield (pc' := 87) (v := (.inr (.inr (M26 v2 3)))) hC dX8_on_84 rfl fl_X8_175 g19 rfl ?_
    refine aw_iload_n (pc' := 88) (i := 3) hC dX8_on_87 rfl rfl rfl ?_
    refine aw_iconst (pc' := 89) hC dX8_on_88 rfl (by decide) ?_
    obtain ⟨g28, h⟩ := gd_s h
    obtain ⟨M29, e30, h⟩ := bd_s h
    refine aw_ias (pc' := 90) hC dX8_on_89 rfl g28 e30 ?_
    refine aw_iconst (pc' := 91) hC dX8_on_90 rfl (by decide) ?_
    refine aw_istore (pc' := 93) (ls' := [some (.inr (.inr v0)), none, some (.inr (.inr v2)), some (.inl v3), some (.inl x18), some (.inl 0)]) hC dX8_on_91 rfl (Nat.le_of_ble_eq_true rfl) rfl rfl ?_
    obtain ⟨tq40, q40, h⟩ := pb_s h
    refine aw_sub hC [some (.inr (.inr v0)), none, some (.inr (.inr v2)), some (.inl v3), some (.inl x18), some (.inl 0)] ⟨rfl, ⟨rfl, ⟨rfl, ⟨rfl, ⟨rfl, trivial⟩⟩⟩⟩⟩ (Nat.le_of_ble_eq_true rfl) ?_
    refine (lp_aw (p_X8_on_L93 Γ sh v0 v2 v3 x18 Q) (x_X8_on_L93 Γ sh v0 v2 v3 x18 Q) (w_X8_on_L93 hC ) FU _ _ q40 ?_ : p_X8_on_L93 Γ sh v0 v2 v3 x18 Q (0, M29))
    replace h := u1_s h
    show AW Γ sh tq40 0 0 134 [some (.inr (.inr v0)), none, some (.inr (.inr v2)), some (.inl v3), none, none] [] _
    refine aw_iinc (pc' := 137) (ls' := [some (.inr (.inr v0)), none, some (.inr (.inr v2)), some (.inl (w32 (v3 + 1))), none, none]) hC dX8_on_134 rfl rfl rfl rfl ?_
    refine aw_goto (tgt := 44) hC dX8_on_137 (by decide) ?_
    refine aw_sub hC [some (.inr (.inr v0)), none, some (.inr (.inr v2)), some (.inl (w32 (v3 + 1))), none, none] ⟨rfl, ⟨rfl, ⟨rfl, trivial⟩⟩⟩ (Nat.le_of_ble_eq_true rfl) ?_
    cases h
    exact hL _ rfl
set_option maxRecDepth 100000 in
set_option maxHeartbeats 4000000 in
theorem mX8_on {sh : AwS} {M : AwM} {v0 : Int} {r : Int} {M' : AwM} (h : fX8_on sh M v0 = some (r, M')) : AMet yX8_on cX8_on 6 (some .boolean) 5 0 0 [.inr (.inr v0)] sh M (some (.inl r)) sh M' := by
  refine amet_of (by decide +kernel) (Nat.le_of_ble_eq_true rfl) (fun Γ hC => ?_)
  replace hC : AOK Γ RX8 cX8_on 6 5 0 0 "on" (some .boolean) := hC
  unfold fX8_on at h
  refine aw_sub hC [some (.inr (.inr v0)), none, none, none, none, none] ⟨rfl, trivial⟩ (Nat.le_of_ble_eq_true rfl) ?_
  refine aw_aload_n (pc' := 1) (i := 0) hC dX8_on_0 rfl rfl rfl ?_
  obtain ⟨g1, h⟩ := gd_s h
  refine aw_getfield (pc' := 4) (v := (.inl (M v0 1))) hC dX8_on_1 rfl fl_X8_67 g1 rfl ?_
  refine aw_istore_n (pc' := 5) (i := 1) (ls' := [some (.inr (.inr v0)), some (.inl (M v0 1)), none, none, none, none]) hC dX8_on_4 rfl rfl (Nat.le_of_ble_eq_true rfl) rfl rfl ?_
  refine aw_aload_n (pc' := 6) (i := 0) hC dX8_on_5 rfl rfl rfl ?_
  refine aw_iconst (pc' := 7) hC dX8_on_6 rfl (by decide) ?_
  obtain ⟨M2, e3, h⟩ := bd_s h
  refine aw_pf (pc' := 10) hC dX8_on_7 rfl fp_X8_67 g1 rfl trivial e3 ?_
  refine aw_aload_n (pc' := 11) (i := 0) hC dX8_on_10 rfl rfl rfl ?_
  refine aw_iload_n (pc' := 12) (i := 1) hC dX8_on_11 rfl rfl rfl ?_
  obtain ⟨x5, q4, h⟩ := pb_s h
  replace h := u1_s h
  refine aw_cV (pc' := 15) (k2 := 0) (n2 := 0) (st := []) (stN := [.inl x5]) hC [.inl (M v0 1)] (mX8_tellsImage q4) lk_X8_296 g1 dX8_on_12 rfl rfl (Nat.le_of_ble_eq_true rfl) (Nat.le_of_ble_eq_true rfl) (Nat.le_of_ble_eq_true rfl) rfl (Nat.le_of_ble_eq_true rfl) rfl rfl rfl ?_
  refine aw_if_ne (tgt := 26) (pc' := 18) hC dX8_on_15 (by decide) rfl (fun c6 => ?_) (fun c6 => ?_)
  · replace h := it_n c6 h
    refine aw_aload_n (pc' := 27) (i := 0) hC dX8_on_26 rfl rfl rfl ?_
    refine aw_getfield (pc' := 30) (v := (.inr (.inr (M2 v0 4)))) hC dX8_on_27 rfl fl_X8_60 g1 rfl ?_
    obtain ⟨g7, h⟩ := gd_s h
    refine aw_getfield (pc' := 33) (v := (.inr (.inr (M2 (M2 v0 4) 0)))) hC dX8_on_30 rfl fl_X8_110 g7 rfl ?_
    refine aw_astore_n (pc' := 34) (i := 2) (ls' := [some (.inr (.inr v0)), some (.inl (M v0 1)), some (.inr (.inr (M2 (M2 v0 4) 0))), none, none, none]) hC dX8_on_33 rfl rfl (Nat.le_of_ble_eq_true rfl) rfl rfl ?_
    refine aw_aload_n (pc' := 35) (i := 2) hC dX8_on_34 rfl rfl rfl ?_
    refine aw_aload_n (pc' := 36) (i := 0) hC dX8_on_35 rfl rfl rfl ?_
    obtain ⟨x9, q8, h⟩ := pb_s h
    replace h := u1_s h
    refine aw_cV (pc' := 39) (k2 := 0) (n2 := 0) (st := [.inr (.inr (M2 (M2 v0 4) 0))]) (stN := [.inl x9, .inr (.inr (M2 (M2 v0 4) 0))]) hC [] (mX8_tapeDay q8) lk_X8_299 g1 dX8_on_36 rfl rfl (Nat.le_of_ble_eq_true rfl) (Nat.le_of_ble_eq_true rfl) (Nat.le_of_ble_eq_true rfl) rfl (Nat.le_of_ble_eq_true rfl) rfl rfl rfl ?_
    obtain ⟨g10, h⟩ := gd_s h
    obtain ⟨M11, e12, h⟩ := bd_s h
    refine aw_pf (pc' := 42) hC dX8_on_39 rfl fp_X8_114 g10 rfl trivial e12 ?_
    refine aw_iconst (pc' := 43) hC dX8_on_42 rfl (by decide) ?_
    refine aw_istore_n (pc' := 44) (i := 3) (ls' := [some (.inr (.inr v0)), some (.inl (M v0 1)), some (.inr (.inr (M2 (M2 v0 4) 0))), some (.inl 0), none, none]) hC dX8_on_43 rfl rfl (Nat.le_of_ble_eq_true rfl) rfl rfl ?_
    obtain ⟨tq41, q41, h⟩ := pb_s h
    refine aw_sub hC [some (.inr (.inr v0)), none, some (.inr (.inr (M2 (M2 v0 4) 0))), some (.inl 0), none, none] ⟨rfl, ⟨rfl, ⟨rfl, trivial⟩⟩⟩ (Nat.le_of_ble_eq_true rfl) ?_
    refine (lp_aw (p_X8_on_L44 Γ sh v0 (M2 (M2 v0 4) 0) (fin_ Γ 0 0 (some (.inl r)) sh M')) (x_X8_on_L44 Γ sh v0 (M2 (M2 v0 4) 0) (fin_ Γ 0 0 (some (.inl r)) sh M')) (w_X8_on_L44 hC ) FU _ _ q41 ?_ : p_X8_on_L44 Γ sh v0 (M2 (M2 v0 4) 0) (fin_ Γ 0 0 (some (.inl r)) sh M') (0, M11))
    replace h := u1_s h
    show AW Γ sh tq41 0 0 140 [some (.inr (.inr v0)), none, none, none, none, none] [] _
    refine aw_aload_n (pc' := 141) (i := 0) hC dX8_on_140 rfl rfl rfl ?_
    refine aw_getfield (pc' := 144) (v := (.inr (.inr (tq41 v0 6)))) hC dX8_on_141 rfl fl_X8_23 g1 rfl ?_
    obtain ⟨g43, h⟩ := gd_s h
    obtain ⟨M44, q42, h⟩ := pb_s h
    replace h := u1_s h
    refine aw_cV (pc' := 147) (k2 := 0) (n2 := 0) (st := []) (stN := []) hC [] (mX2_clear q42) lk_X8_89 g43 dX8_on_144 rfl rfl (Nat.le_of_ble_eq_true rfl) (Nat.le_of_ble_eq_true rfl) (Nat.le_of_ble_eq_true rfl) rfl (Nat.le_of_ble_eq_true rfl) rfl rfl rfl ?_
    refine aw_iconst (pc' := 148) hC dX8_on_147 rfl (by decide) ?_
    cases h
    exact aw_zret hC (Or.inr rfl) dX8_on_148 (Nat.le_of_ble_eq_true rfl) (Nat.le_of_ble_eq_true rfl)
  · replace h := it_p c6 h
    refine aw_aload_n (pc' := 19) (i := 0) hC dX8_on_18 rfl rfl rfl ?_
    refine aw_iconst (pc' := 20) hC dX8_on_19 rfl (by decide) ?_
    obtain ⟨⟨x46, M47⟩, q45, h⟩ := pb_s h
    replace h := u2_s h
    refine aw_cV (pc' := 23) (k2 := 0) (n2 := 0) (st := []) (stN := [.inl x46]) hC [.inl 5] (mX8_refuse q45) lk_X8_70 g1 dX8_on_20 rfl rfl (Nat.le_of_ble_eq_true rfl) (Nat.le_of_ble_eq_true rfl) (Nat.le_of_ble_eq_true rfl) rfl (Nat.le_of_ble_eq_true rfl) rfl rfl rfl ?_
    refine aw_pop (pc' := 24) hC dX8_on_23 rfl rfl ?_
    refine aw_iconst (pc' := 25) hC dX8_on_24 rfl (by decide) ?_
    cases h
    exact aw_zret hC (Or.inl rfl) dX8_on_25 (Nat.le_of_ble_eq_true rfl) (Nat.le_of_ble_eq_true rfl)
-- CoinCircle.status(I)I
def fX8_status (sh : AwS) (M : AwM) (v0 : Int) (v1 : Int) : Option Int :=
  (if v1 < 0 then some (-1) else (if v1 < 6 then gd_ (kd_ sh v0 = (0, 8)) (gd_ ((kd_ sh (M v0 8)).1 = 1 ∧ (0 : Int) ≤ v1 ∧ v1 < ((kd_ sh (M v0 8)).2 : Int)) (some (M (M v0 8) v1))) else some (-1)))
set_option maxRecDepth 100000 in
set_option maxHeartbeats 4000000 in
theorem mX8_status {sh : AwS} {M : AwM} {v0 : Int} {v1 : Int} {r : Int} (h : fX8_status sh M v0 v1 = some r) : AMet yX8_status cX8_status 2 (some .int) 1 0 0 [.inr (.inr v0), .inl v1] sh M (some (.inl r)) sh M := by
  refine amet_of (by decide +kernel) (Nat.le_of_ble_eq_true rfl) (fun Γ hC => ?_)
  replace hC : AOK Γ RX8 cX8_status 2 1 0 0 "status" (some .int) := hC
  unfold fX8_status at h
  refine aw_sub hC [some (.inr (.inr v0)), some (.inl v1)] ⟨rfl, ⟨rfl, trivial⟩⟩ (Nat.le_of_ble_eq_true rfl) ?_
  refine aw_iload_n (pc' := 1) (i := 1) hC dX8_status_0 rfl rfl rfl ?_
  refine aw_if_lt (tgt := 19) (pc' := 4) hC dX8_status_1 (by decide) rfl (fun c1 => ?_) (fun c1 => ?_)
  · replace h := it_p c1 h
    refine aw_iconst (pc' := 20) hC dX8_status_19 rfl (by decide) ?_
    cases h
    exact aw_iret hC dX8_status_20 (Nat.le_of_ble_eq_true rfl) (Nat.le_of_ble_eq_true rfl)
  · replace h := it_n c1 h
    refine aw_iload_n (pc' := 5) (i := 1) hC dX8_status_4 rfl rfl rfl ?_
    refine aw_bipush (pc' := 7) hC dX8_status_5 rfl (by decide) ?_
    refine aw_icmp_ge (tgt := 19) (pc' := 10) hC dX8_status_7 (by decide) rfl (fun c2 => ?_) (fun c2 => ?_)
    · replace h := it_n c2 h
      refine aw_iconst (pc' := 20) hC dX8_status_19 rfl (by decide) ?_
      cases h
      exact aw_iret hC dX8_status_20 (Nat.le_of_ble_eq_true rfl) (Nat.le_of_ble_eq_true rfl)
    · replace h := it_p c2 h
      refine aw_aload_n (pc' := 11) (i := 0) hC dX8_status_10 rfl rfl rfl ?_
      obtain ⟨g3, h⟩ := gd_s h
      refine aw_getfield (pc' := 14) (v := (.inr (.inr (M v0 8)))) hC dX8_status_11 rfl fl_X8_34 g3 rfl ?_
      refine aw_iload_n (pc' := 15) (i := 1) hC dX8_status_14 rfl rfl rfl ?_
      obtain ⟨g4, h⟩ := gd_s h
      refine aw_iaload (pc' := 16) hC dX8_status_15 rfl g4 ?_
      refine aw_goto (tgt := 20) hC dX8_status_16 (by decide) ?_
      cases h
      exact aw_iret hC dX8_status_20 (Nat.le_of_ble_eq_true rfl) (Nat.le_of_ble_eq_true rfl)
-- CoinCircleModel.<init>()V
set_option maxRecDepth 100000 in
set_option maxHeartbeats 4000000 in
def fX9_init (sh : AwS) (M : AwM) (v0 : Int) : Option (AwS × AwM) :=
  gd_ ((0 : Int) < v0) (bd_ ((sh.length : Nat) : Int) fun (p2 : Int) => (bd_ (sh ++ [(1, 1800)]) fun (sh4 : AwS) => (gd_ (kd_ sh4 v0 = (0, 9)) (bd_ (up_ M v0 0 p2) fun (M7 : AwM) => (bd_ (up_ M7 v0 1 0) fun (M9 : AwM) => (bd_ (up_ M9 v0 2 0) fun (M11 : AwM) => (bd_ (up_ M11 v0 3 0) fun (M13 : AwM) => (bd_ (up_ M13 v0 4 0) fun (M15 : AwM) => (bd_ (up_ M15 v0 5 0) fun (M17 : AwM) => (bd_ (up_ M17 v0 6 0) fun (M19 : AwM) => (bd_ (up_ M19 v0 7 0) fun (M21 : AwM) => (bd_ (up_ M21 v0 8 0) fun (M23 : AwM) => (bd_ (up_ M23 v0 9 (-1)) fun (M25 : AwM) => (bd_ (up_ M25 v0 10 0) fun (M27 : AwM) => (bd_ (up_ M27 v0 11 (-1)) fun (M29 : AwM) => (bd_ (up_ M29 v0 12 (-1)) fun (M31 : AwM) => (bd_ (up_ M31 v0 13 0) fun (M33 : AwM) => (bd_ ((sh4.length : Nat) : Int) fun (p35 : Int) => (bd_ (sh4 ++ [(1, 2)]) fun (sh37 : AwS) => (gd_ (kd_ sh37 v0 = (0, 9)) (bd_ (up_ M33 v0 14 p35) fun (M40 : AwM) => (bd_ ((sh37.length : Nat) : Int) fun (p42 : Int) => (bd_ (sh37 ++ [(1, 20)]) fun (sh44 : AwS) => (gd_ (kd_ sh44 v0 = (0, 9)) (bd_ (up_ M40 v0 15 p42) fun (M47 : AwM) => (bd_ ((sh44.length : Nat) : Int) fun (p49 : Int) => (bd_ (sh44 ++ [(1, 2)]) fun (sh51 : AwS) => (gd_ (kd_ sh51 v0 = (0, 9)) (bd_ (up_ M47 v0 16 p49) fun (M54 : AwM) => (bd_ ((sh51.length : Nat) : Int) fun (p56 : Int) => (bd_ (sh51 ++ [(1, 24)]) fun (sh58 : AwS) => (gd_ (kd_ sh58 v0 = (0, 9)) (bd_ (up_ M54 v0 17 p56) fun (M61 : AwM) => (bd_ ((sh58.length : Nat) : Int) fun (p63 : Int) => (bd_ (sh58 ++ [(1, 24)]) fun (sh65 : AwS) => (gd_ (kd_ sh65 v0 = (0, 9)) (bd_ (up_ M61 v0 18 p63) fun (M68 : AwM) => (bd_ ((sh65.length : Nat) : Int) fun (p70 : Int) => (bd_ (sh65 ++ [(1, 24)]) fun (sh72 : AwS) => (gd_ (kd_ sh72 v0 = (0, 9)) (bd_ (up_ M68 v0 19 p70) fun (M75 : AwM) => (bd_ ((sh72.length : Nat) : Int) fun (p77 : Int) => (bd_ (sh72 ++ [(1, 24)]) fun (sh79 : AwS) => (gd_ (kd_ sh79 v0 = (0, 9)) (bd_ (up_ M75 v0 20 p77) fun (M82 : AwM) => (bd_ ((sh79.length : Nat) : Int) fun (p84 : Int) => (bd_ (sh79 ++ [(1, 2)]) fun (sh86 : AwS) => (gd_ (kd_ sh86 v0 = (0, 9)) (bd_ (up_ M82 v0 21 p84) fun (M89 : AwM) => (bd_ ((sh86.length : Nat) : Int) fun (p91 : Int) => (bd_ (sh86 ++ [(1, 20)]) fun (sh93 : AwS) => (gd_ (kd_ sh93 v0 = (0, 9)) (bd_ (up_ M89 v0 22 p91) fun (M96 : AwM) => (bd_ ((sh93.length : Nat) : Int) fun (p98 : Int) => (bd_ (sh93 ++ [(1, 20)]) fun (sh100 : AwS) => (gd_ (kd_ sh100 v0 = (0, 9)) (bd_ (up_ M96 v0 23 p98) fun (M103 : AwM) => (bd_ ((sh100.length : Nat) : Int) fun (p105 : Int) => (bd_ (sh100 ++ [(1, 2)]) fun (sh107 : AwS) => (gd_ (kd_ sh107 v0 = (0, 9)) (bd_ (up_ M103 v0 24 p105) fun (M110 : AwM) => (bd_ ((sh107.length : Nat) : Int) fun (p112 : Int) => (bd_ (sh107 ++ [(1, 2)]) fun (sh114 : AwS) => (gd_ (kd_ sh114 v0 = (0, 9)) (bd_ (up_ M110 v0 25 p112) fun (M117 : AwM) => (bd_ ((sh114.length : Nat) : Int) fun (p119 : Int) => (bd_ (sh114 ++ [(1, 2)]) fun (sh121 : AwS) => (gd_ (kd_ sh121 v0 = (0, 9)) (bd_ (up_ M117 v0 26 p119) fun (M124 : AwM) => (bd_ ((sh121.length : Nat) : Int) fun (p126 : Int) => (bd_ (sh121 ++ [(1, 2)]) fun (sh128 : AwS) => (gd_ (kd_ sh128 v0 = (0, 9)) (bd_ (up_ M124 v0 27 p126) fun (M131 : AwM) => (bd_ ((sh128.length : Nat) : Int) fun (p133 : Int) => (bd_ (sh128 ++ [(1, 2)]) fun (sh135 : AwS) => (gd_ (kd_ sh135 v0 = (0, 9)) (bd_ (up_ M131 v0 28 p133) fun (M138 : AwM) => (bd_ ((sh135.length : Nat) : Int) fun (p140 : Int) => (bd_ (sh135 ++ [(1, 2)]) fun (sh142 : AwS) => (gd_ (kd_ sh142 v0 = (0, 9)) (bd_ (up_ M138 v0 29 p140) fun (M145 : AwM) => (bd_ ((sh142.length : Nat) : Int) fun (p147 : Int) => (bd_ (sh142 ++ [(1, 3200)]) fun (sh149 : AwS) => (gd_ (kd_ sh149 v0 = (0, 9)) (bd_ (up_ M145 v0 30 p147) fun (M152 : AwM) => (bd_ ((sh149.length : Nat) : Int) fun (p154 : Int) => (bd_ (sh149 ++ [(1, 3200)]) fun (sh156 : AwS) => (gd_ (kd_ sh156 v0 = (0, 9)) (bd_ (up_ M152 v0 31 p154) fun (M159 : AwM) => (bd_ ((sh156.length : Nat) : Int) fun (p161 : Int) => (bd_ (sh156 ++ [(2, 20)]) fun (sh163 : AwS) => (gd_ (kd_ sh163 v0 = (0, 9)) (bd_ (up_ M159 v0 32 p161) fun (M166 : AwM) => (bd_ ((sh163.length : Nat) : Int) fun (p168 : Int) => (bd_ (sh163 ++ [(2, 24)]) fun (sh170 : AwS) => (gd_ (kd_ sh170 v0 = (0, 9)) (bd_ (up_ M166 v0 33 p168) fun (M173 : AwM) => (bd_ ((sh170.length : Nat) : Int) fun (p175 : Int) => (bd_ (sh170 ++ [(2, 20)]) fun (sh177 : AwS) => (gd_ (kd_ sh177 v0 = (0, 9)) (bd_ (up_ M173 v0 34 p175) fun (M180 : AwM) => (bd_ (up_ M180 v0 35 0) fun (M182 : AwM) => (bd_ (up_ M182 v0 36 1) fun (M184 : AwM) => (bd_ ((sh177.length : Nat) : Int) fun (p186 : Int) => (bd_ (sh177 ++ [(1, 20)]) fun (sh188 : AwS) => (gd_ (kd_ sh188 v0 = (0, 9)) (bd_ (up_ M184 v0 37 p186) fun (M191 : AwM) => (bd_ ((sh188.length : Nat) : Int) fun (p193 : Int) => (bd_ (sh188 ++ [(1, 20)]) fun (sh195 : AwS) => (gd_ (kd_ sh195 v0 = (0, 9)) (bd_ (up_ M191 v0 38 p193) fun (M198 : AwM) => (bd_ ((sh195.length : Nat) : Int) fun (p200 : Int) => (bd_ (sh195 ++ [(4, 20)]) fun (sh202 : AwS) => (gd_ (kd_ sh202 v0 = (0, 9)) (bd_ (up_ M198 v0 39 p200) fun (M205 : AwM) => (bd_ ((sh202.length : Nat) : Int) fun (p207 : Int) => (bd_ (sh202 ++ [(1, 20)]) fun (sh209 : AwS) => (gd_ (kd_ sh209 v0 = (0, 9)) (bd_ (up_ M205 v0 40 p207) fun (M212 : AwM) => (bd_ ((sh209.length : Nat) : Int) fun (p214 : Int) => (bd_ (sh209 ++ [(1, 20)]) fun (sh216 : AwS) => (gd_ (kd_ sh216 v0 = (0, 9)) (bd_ (up_ M212 v0 41 p214) fun (M219 : AwM) => (bd_ (up_ M219 v0 42 0) fun (M221 : AwM) => (bd_ (up_ M221 v0 43 0) fun (M223 : AwM) => (bd_ ((sh216.length : Nat) : Int) fun (p225 : Int) => (bd_ (sh216 ++ [(1, 500)]) fun (sh227 : AwS) => (gd_ (kd_ sh227 v0 = (0, 9)) (bd_ (up_ M223 v0 44 p225) fun (M230 : AwM) => (bd_ (up_ M230 v0 45 0) fun (M232 : AwM) => (bd_ (up_ M232 v0 46 0) fun (M234 : AwM) => (bd_ ((sh227.length : Nat) : Int) fun (p236 : Int) => (bd_ (sh227 ++ [(1, 6)]) fun (sh238 : AwS) => (gd_ (kd_ sh238 v0 = (0, 9)) (bd_ (up_ M234 v0 47 p236) fun (M241 : AwM) => (bd_ ((sh238.length : Nat) : Int) fun (p243 : Int) => (bd_ (sh238 ++ [(1, 22)]) fun (sh245 : AwS) => (gd_ (kd_ sh245 v0 = (0, 9)) (bd_ (up_ M241 v0 48 p243) fun (M248 : AwM) => (bd_ ((sh245.length : Nat) : Int) fun (p250 : Int) => (bd_ (sh245 ++ [(1, 264)]) fun (sh252 : AwS) => (gd_ (kd_ sh252 v0 = (0, 9)) (bd_ (up_ M248 v0 49 p250) fun (M255 : AwM) => (bd_ ((sh252.length : Nat) : Int) fun (p257 : Int) => (bd_ (sh252 ++ [(1, 264)]) fun (sh259 : AwS) => (gd_ (kd_ sh259 v0 = (0, 9)) (bd_ (up_ M255 v0 50 p257) fun (M262 : AwM) => (bd_ ((sh259.length : Nat) : Int) fun (p264 : Int) => (bd_ (sh259 ++ [(1, 264)]) fun (sh266 : AwS) => (gd_ (kd_ sh266 v0 = (0, 9)) (bd_ (up_ M262 v0 51 p264) fun (M269 : AwM) => (bd_ ((sh266.length : Nat) : Int) fun (p271 : Int) => (bd_ (sh266 ++ [(1, 2640)]) fun (sh273 : AwS) => (gd_ (kd_ sh273 v0 = (0, 9)) (bd_ (up_ M269 v0 52 p271) fun (M276 : AwM) => (bd_ (up_ M276 v0 53 0) fun (M278 : AwM) => (bd_ (up_ M278 v0 54 0) fun (M280 : AwM) => (bd_ (up_ M280 v0 55 1) fun (M282 : AwM) => (bd_ ((sh273.length : Nat) : Int) fun (p284 : Int) => (bd_ (sh273 ++ [(2, 500)]) fun (sh286 : AwS) => (gd_ (kd_ sh286 v0 = (0, 9)) (bd_ (up_ M282 v0 56 p284) fun (M289 : AwM) => (bd_ (up_ M289 v0 57 0) fun (M291 : AwM) => (bd_ (up_ M291 v0 58 0) fun (M293 : AwM) => (bd_ (up_ M293 v0 59 0) fun (M295 : AwM) => (bd_ (up_ M295 v0 60 0) fun (M297 : AwM) => (bd_ (up_ M297 v0 61 0) fun (M299 : AwM) => (bd_ (up_ M299 v0 62 0) fun (M301 : AwM) => (bd_ ((sh286.length : Nat) : Int) fun (p303 : Int) => (bd_ (sh286 ++ [(1, 10240)]) fun (sh305 : AwS) => (gd_ (kd_ sh305 v0 = (0, 9)) (bd_ (up_ M301 v0 63 p303) fun (M308 : AwM) => (bd_ ((sh305.length : Nat) : Int) fun (p310 : Int) => (bd_ (sh305 ++ [(1, 10240)]) fun (sh312 : AwS) => (gd_ (kd_ sh312 v0 = (0, 9)) (bd_ (up_ M308 v0 64 p310) fun (M315 : AwM) => (bd_ ((sh312.length : Nat) : Int) fun (p317 : Int) => (bd_ (sh312 ++ [(1, 10240)]) fun (sh319 : AwS) => (gd_ (kd_ sh319 v0 = (0, 9)) (bd_ (up_ M315 v0 65 p317) fun (M322 : AwM) => (bd_ (up_ M322 v0 66 0) fun (M324 : AwM) => (bd_ (up_ M324 v0 67 0) fun (M326 : AwM) => (bd_ ((sh319.length : Nat) : Int) fun (p328 : Int) => (bd_ (sh319 ++ [(1, 20)]) fun (sh330 : AwS) => (gd_ (kd_ sh330 v0 = (0, 9)) (bd_ (up_ M326 v0 68 p328) fun (M333 : AwM) => (bd_ ((sh330.length : Nat) : Int) fun (p335 : Int) => (bd_ (sh330 ++ [(1, 150)]) fun (sh337 : AwS) => (gd_ (kd_ sh337 v0 = (0, 9)) (bd_ (up_ M333 v0 69 p335) fun (M340 : AwM) => (bd_ (up_ M340 v0 70 0) fun (M342 : AwM) => (gd_ ((kd_ sh337 (M342 v0 26)).1 = 1 ∧ (0 : Int) ≤ 0 ∧ 0 < ((kd_ sh337 (M342 v0 26)).2 : Int)) (bd_ (up_ M342 (M342 v0 26) 0 (-1)) fun (M345 : AwM) => (gd_ ((kd_ sh337 (M345 v0 28)).1 = 1 ∧ (0 : Int) ≤ 0 ∧ 0 < ((kd_ sh337 (M345 v0 28)).2 : Int)) (bd_ (up_ M345 (M345 v0 28) 0 (-1)) fun (M348 : AwM) => (some (sh337, M348)))))))))))))))))))))))))))))))))))))))))))))))))))))))))))))))))))))))))))))))))))))))))))))))))))))))))))))))))))))))))))))))))))))))))))))))))))))))))))))))))))))))))))))))))))))))))))))))))))))
set_option maxRecDepth 100000 in
set_option maxHeartbeats 4000000 in
theorem mX9_init {sh : AwS} {M : AwM} {v0 : Int} {sh' : AwS} {M' : AwM} (h : fX9_init sh M v0 = some (sh', M')) : AMet yX9_init cX9_init 1 none 2 40 43888 [.inr (.inr v0)] sh M none sh' M' := by
  refine amet_of (by decide +kernel) (Nat.le_of_ble_eq_true rfl) (fun Γ hC => ?_)
  replace hC : AOK Γ RX9 cX9_init 1 2 40 43888 "<init>" none := hC
  unfold fX9_init at h
  refine aw_sub hC [some (.inr (.inr v0))] ⟨rfl, trivial⟩ (Nat.le_of_ble_eq_true rfl) ?_
  refine aw_aload_n (pc' := 1) (i := 0) hC dX9_init_0 rfl rfl rfl ?_
  obtain ⟨g1, h⟩ := gd_s h
  refine aw_obj (pc' := 4) hC lo_X9_1 g1 dX9_init_1 rfl (Nat.le_of_ble_eq_true rfl) (Nat.le_of_ble_eq_true rfl) ?_
  refine aw_aload_n (pc' := 5) (i := 0) hC dX9_init_4 rfl rfl rfl ?_
  refine aw_sipush (pc' := 8) hC dX9_init_5 rfl (by decide) ?_
  obtain ⟨p2, e3, h⟩ := bd_s h
  obtain ⟨sh4, e5, h⟩ := bd_s h
  refine aw_na_int (pc' := 10) (k2 := 1) (n2 := 1800) hC dX9_init_8 rfl la_int rfl (Nat.le_of_ble_eq_true rfl) rfl rfl (Nat.le_of_ble_eq_true rfl) (Nat.le_of_ble_eq_true rfl) e3 e5 ?_
  obtain ⟨g6, h⟩ := gd_s h
  obtain ⟨M7, e8, h⟩ := bd_s h
  refine aw_pff (pc' := 13) hC dX9_init_10 rfl ff_X9_7 g6 rfl trivial e8 ?_
  refine aw_aload_n (pc' := 14) (i := 0) hC dX9_init_13 rfl rfl rfl ?_
  refine aw_iconst (pc' := 15) hC dX9_init_14 rfl (by decide) ?_
  obtain ⟨M9, e10, h⟩ := bd_s h
  refine aw_pf (pc' := 18) hC dX9_init_15 rfl fp_X9_13 g6 rfl trivial e10 ?_
  refine aw_aload_n (pc' := 19) (i := 0) hC dX9_init_18 rfl rfl rfl ?_
  refine aw_iconst (pc' := 20) hC dX9_init_19 rfl (by decide) ?_
  obtain ⟨M11, e12, h⟩ := bd_s h
  refine aw_pf (pc' := 23) hC dX9_init_20 rfl fp_X9_17 g6 rfl trivial e12 ?_
  refine aw_aload_n (pc' := 24) (i := 0) hC dX9_init_23 rfl rfl rfl ?_
  refine aw_iconst (pc' := 25) hC dX9_init_24 rfl (by decide) ?_
  obtain ⟨M13, e14, h⟩ := bd_s h
  refine aw_pf (pc' := 28) hC dX9_init_25 rfl fp_X9_20 g6 rfl trivial e14 ?_
  refine aw_aload_n (pc' := 29) (i := 0) hC dX9_init_28 rfl rfl rfl ?_
  refine aw_iconst (pc' := 30) hC dX9_init_29 rfl (by decide) ?_
  obtain ⟨M15, e16, h⟩ := bd_s h
  refine aw_pf (pc' := 33) hC dX9_init_30 rfl fp_X9_23 g6 rfl trivial e16 ?_
  refine aw_aload_n (pc' := 34) (i := 0) hC dX9_init_33 rfl rfl rfl ?_
  refine aw_iconst (pc' := 35) hC dX9_init_34 rfl (by decide) ?_
  obtain ⟨M17, e18, h⟩ := bd_s h
  refine aw_pf (pc' := 38) hC dX9_init_35 rfl fp_X9_26 g6 rfl trivial e18 ?_
  refine aw_aload_n (pc' := 39) (i := 0) hC dX9_init_38 rfl rfl rfl ?_
  refine aw_iconst (pc' := 40) hC dX9_init_39 rfl (by decide) ?_
  obtain ⟨M19, e20, h⟩ := bd_s h
  refine aw_pf (pc' := 43) hC dX9_init_40 rfl fp_X9_29 g6 rfl trivial e20 ?_
  refine aw_aload_n (pc' := 44) (i := 0) hC dX9_init_43 rfl rfl rfl ?_
  refine aw_lconst (pc' := 45) (v := 0) hC dX9_init_44 rfl rfl (by decide) ?_
  obtain ⟨M21, e22, h⟩ := bd_s h
  refine aw_pf (pc' := 48) hC dX9_init_45 rfl fp_X9_32 g6 rfl trivial e22 ?_
  refine aw_aload_n (pc' := 49) (i := 0) hC dX9_init_48 rfl rfl rfl ?_
  refine aw_iconst (pc' := 50) hC dX9_init_49 rfl (by decide) ?_
  obtain ⟨M23, e24, h⟩ := bd_s h
  refine aw_pf (pc' := 53) hC dX9_init_50 rfl fp_X9_36 g6 rfl trivial e24 ?_
  refine aw_aload_n (pc' := 54) (i := 0) hC dX9_init_53 rfl rfl rfl ?_
  refine aw_iconst (pc' := 55) hC dX9_init_54 rfl (by decide) ?_
  obtain ⟨M25, e26, h⟩ := bd_s h
  refine aw_pf (pc' := 58) hC dX9_init_55 rfl fp_X9_39 g6 rfl trivial e26 ?_
  refine aw_aload_n (pc' := 59) (i := 0) hC dX9_init_58 rfl rfl rfl ?_
  refine aw_iconst (pc' := 60) hC dX9_init_59 rfl (by decide) ?_
  obtain ⟨M27, e28, h⟩ := bd_s h
  refine aw_pf (pc' := 63) hC dX9_init_60 rfl fp_X9_42 g6 rfl trivial e28 ?_
  refine aw_aload_n (pc' := 64) (i := 0) hC dX9_init_63 rfl rfl rfl ?_
  refine aw_iconst (pc' := 65) hC dX9_init_64 rfl (by decide) ?_
  obtain ⟨M29, e30, h⟩ := bd_s h
  refine aw_pf (pc' := 68) hC dX9_init_65 rfl fp_X9_45 g6 rfl trivial e30 ?_
  refine aw_aload_n (pc' := 69) (i := 0) hC dX9_init_68 rfl rfl rfl ?_
  refine aw_iconst (pc' := 70) hC dX9_init_69 rfl (by decide) ?_
  obtain ⟨M31, e32, h⟩ := bd_s h
  refine aw_pf (pc' := 73) hC dX9_init_70 rfl fp_X9_48 g6 rfl trivial e32 ?_
  refine aw_aload_n (pc' := 74) (i := 0) hC dX9_init_73 rfl rfl rfl ?_
  refine aw_iconst (pc' := 75) hC dX9_init_74 rfl (by decide) ?_
  obtain ⟨M33, e34, h⟩ := bd_s h
  refine aw_pf (pc' := 78) hC dX9_init_75 rfl fp_X9_51 g6 rfl trivial e34 ?_
  refine aw_aload_n (pc' := 79) (i := 0) hC dX9_init_78 rfl rfl rfl ?_
  refine aw_iconst (pc' := 80) hC dX9_init_79 rfl (by decide) ?_
  obtain ⟨p35, e36, h⟩ := bd_s h
  obtain ⟨sh37, e38, h⟩ := bd_s h
  refine aw_na_int (pc' := 82) (k2 := 2) (n2 := 1802) hC dX9_init_80 rfl la_int rfl (Nat.le_of_ble_eq_true rfl) rfl rfl (Nat.le_of_ble_eq_true rfl) (Nat.le_of_ble_eq_true rfl) e36 e38 ?_
  obtain ⟨g39, h⟩ := gd_s h
  obtain ⟨M40, e41, h⟩ := bd_s h
  refine aw_pff (pc' := 85) hC dX9_init_82 rfl ff_X9_54 g39 rfl trivial e41 ?_
  refine aw_aload_n (pc' := 86) (i := 0) hC dX9_init_85 rfl rfl rfl ?_
  refine aw_bipush (pc' := 88) hC dX9_init_86 rfl (by decide) ?_
  obtain ⟨p42, e43, h⟩ := bd_s h
  obtain ⟨sh44, e45, h⟩ := bd_s h
  refine aw_na_int (pc' := 90) (k2 := 3) (n2 := 1822) hC dX9_init_88 rfl la_int rfl (Nat.le_of_ble_eq_true rfl) rfl rfl (Nat.le_of_ble_eq_true rfl) (Nat.le_of_ble_eq_true rfl) e43 e45 ?_
  obtain ⟨g46, h⟩ := gd_s h
  obtain ⟨M47, e48, h⟩ := bd_s h
  refine aw_pff (pc' := 93) hC dX9_init_90 rfl ff_X9_57 g46 rfl trivial e48 ?_
  refine aw_aload_n (pc' := 94) (i := 0) hC dX9_init_93 rfl rfl rfl ?_
  refine aw_iconst (pc' := 95) hC dX9_init_94 rfl (by decide) ?_
  obtain ⟨p49, e50, h⟩ := bd_s h
  obtain ⟨sh51, e52, h⟩ := bd_s h
  refine aw_na_int (pc' := 97) (k2 := 4) (n2 := 1824) hC dX9_init_95 rfl la_int rfl (Nat.le_of_ble_eq_true rfl) rfl rfl (Nat.le_of_ble_eq_true rfl) (Nat.le_of_ble_eq_true rfl) e50 e52 ?_
  obtain ⟨g53, h⟩ := gd_s h
  obtain ⟨M54, e55, h⟩ := bd_s h
  refine aw_pff (pc' := 100) hC dX9_init_97 rfl ff_X9_60 g53 rfl trivial e55 ?_
  refine aw_aload_n (pc' := 101) (i := 0) hC dX9_init_100 rfl rfl rfl ?_
  refine aw_bipush (pc' := 103) hC dX9_init_101 rfl (by decide) ?_
  obtain ⟨p56, e57, h⟩ := bd_s h
  obtain ⟨sh58, e59, h⟩ := bd_s h
  refine aw_na_int (pc' := 105) (k2 := 5) (n2 := 1848) hC dX9_init_103 rfl la_int rfl (Nat.le_of_ble_eq_true rfl) rfl rfl (Nat.le_of_ble_eq_true rfl) (Nat.le_of_ble_eq_true rfl) e57 e59 ?_
  obtain ⟨g60, h⟩ := gd_s h
  obtain ⟨M61, e62, h⟩ := bd_s h
  refine aw_pff (pc' := 108) hC dX9_init_105 rfl ff_X9_63 g60 rfl trivial e62 ?_
  refine aw_aload_n (pc' := 109) (i := 0) hC dX9_init_108 rfl rfl rfl ?_
  refine aw_bipush (pc' := 111) hC dX9_init_109 rfl (by decide) ?_
  obtain ⟨p63, e64, h⟩ := bd_s h
  obtain ⟨sh65, e66, h⟩ := bd_s h
  refine aw_na_int (pc' := 113) (k2 := 6) (n2 := 1872) hC dX9_init_111 rfl la_int rfl (Nat.le_of_ble_eq_true rfl) rfl rfl (Nat.le_of_ble_eq_true rfl) (Nat.le_of_ble_eq_true rfl) e64 e66 ?_
  obtain ⟨g67, h⟩ := gd_s h
  obtain ⟨M68, e69, h⟩ := bd_s h
  refine aw_pff (pc' := 116) hC dX9_init_113 rfl ff_X9_66 g67 rfl trivial e69 ?_
  refine aw_aload_n (pc' := 117) (i := 0) hC dX9_init_116 rfl rfl rfl ?_
  refine aw_bipush (pc' := 119) hC dX9_init_117 rfl (by decide) ?_
  obtain ⟨p70, e71, h⟩ := bd_s h
  obtain ⟨sh72, e73, h⟩ := bd_s h
  refine aw_na_int (pc' := 121) (k2 := 7) (n2 := 1896) hC dX9_init_119 rfl la_int rfl (Nat.le_of_ble_eq_true rfl) rfl rfl (Nat.le_of_ble_eq_true rfl) (Nat.le_of_ble_eq_true rfl) e71 e73 ?_
  obtain ⟨g74, h⟩ := gd_s h
  obtain ⟨M75, e76, h⟩ := bd_s h
  refine aw_pff (pc' := 124) hC dX9_init_121 rfl ff_X9_69 g74 rfl trivial e76 ?_
  refine aw_aload_n (pc' := 125) (i := 0) hC dX9_init_124 rfl rfl rfl ?_
  refine aw_bipush (pc' := 127) hC dX9_init_125 rfl (by decide) ?_
  obtain ⟨p77, e78, h⟩ := bd_s h
  obtain ⟨sh79, e80, h⟩ := bd_s h
  refine aw_na_int (pc' := 129) (k2 := 8) (n2 := 1920) hC dX9_init_127 rfl la_int rfl (Nat.le_of_ble_eq_true rfl) rfl rfl (Nat.le_of_ble_eq_true rfl) (Nat.le_of_ble_eq_true rfl) e78 e80 ?_
  obtain ⟨g81, h⟩ := gd_s h
  obtain ⟨M82, e83, h⟩ := bd_s h
  refine aw_pff (pc' := 132) hC dX9_init_129 rfl ff_X9_72 g81 rfl trivial e83 ?_
  refine aw_aload_n (pc' := 133) (i := 0) hC dX9_init_132 rfl rfl rfl ?_
  refine aw_iconst (pc' := 134) hC dX9_init_133 rfl (by decide) ?_
  obtain ⟨p84, e85, h⟩ := bd_s h
  obtain ⟨sh86, e87, h⟩ := bd_s h
  refine aw_na_int (pc' := 136) (k2 := 9) (n2 := 1922) hC dX9_init_134 rfl la_int rfl (Nat.le_of_ble_eq_true rfl) rfl rfl (Nat.le_of_ble_eq_true rfl) (Nat.le_of_ble_eq_true rfl) e85 e87 ?_
  obtain ⟨g88, h⟩ := gd_s h
  obtain ⟨M89, e90, h⟩ := bd_s h
  refine aw_pff (pc' := 139) hC dX9_init_136 rfl ff_X9_75 g88 rfl trivial e90 ?_
  refine aw_aload_n (pc' := 140) (i := 0) hC dX9_init_139 rfl rfl rfl ?_
  refine aw_bipush (pc' := 142) hC dX9_init_140 rfl (by decide) ?_
  obtain ⟨p91, e92, h⟩ := bd_s h
  obtain ⟨sh93, e94, h⟩ := bd_s h
  refine aw_na_int (pc' := 144) (k2 := 10) (n2 := 1942) hC dX9_init_142 rfl la_int rfl (Nat.le_of_ble_eq_true rfl) rfl rfl (Nat.le_of_ble_eq_true rfl) (Nat.le_of_ble_eq_true rfl) e92 e94 ?_
  obtain ⟨g95, h⟩ := gd_s h
  obtain ⟨M96, e97, h⟩ := bd_s h
  refine aw_pff (pc' := 147) hC dX9_init_144 rfl ff_X9_78 g95 rfl trivial e97 ?_
  refine aw_aload_n (pc' := 148) (i := 0) hC dX9_init_147 rfl rfl rfl ?_
  refine aw_bipush (pc' := 150) hC dX9_init_148 rfl (by decide) ?_
  obtain ⟨p98, e99, h⟩ := bd_s h
  obtain ⟨sh100, e101, h⟩ := bd_s h
  refine aw_na_int (pc' := 152) (k2 := 11) (n2 := 1962) hC dX9_init_150 rfl la_int rfl (Nat.le_of_ble_eq_true rfl) rfl rfl (Nat.le_of_ble_eq_true rfl) (Nat.le_of_ble_eq_true rfl) e99 e101 ?_
  obtain ⟨g102, h⟩ := gd_s h
  obtain ⟨M103, e104, h⟩ := bd_s h
  refine aw_pff (pc' := 155) hC dX9_init_152 rfl ff_X9_81 g102 rfl trivial e104 ?_
  refine aw_aload_n (pc' := 156) (i := 0) hC dX9_init_155 rfl rfl rfl ?_
  refine aw_iconst (pc' := 157) hC dX9_init_156 rfl (by decide) ?_
  obtain ⟨p105, e106, h⟩ := bd_s h
  obtain ⟨sh107, e108, h⟩ := bd_s h
  refine aw_na_int (pc' := 159) (k2 := 12) (n2 := 1964) hC dX9_init_157 rfl la_int rfl (Nat.le_of_ble_eq_true rfl) rfl rfl (Nat.le_of_ble_eq_true rfl) (Nat.le_of_ble_eq_true rfl) e106 e108 ?_
  obtain ⟨g109, h⟩ := gd_s h
  obtain ⟨M110, e111, h⟩ := bd_s h
  refine aw_pff (pc' := 162) hC dX9_init_159 rfl ff_X9_84 g109 rfl trivial e111 ?_
  refine aw_aload_n (pc' := 163) (i := 0) hC dX9_init_162 rfl rfl rfl ?_
  refine aw_iconst (pc' := 164) hC dX9_init_163 rfl (by decide) ?_
  obtain ⟨p112, e113, h⟩ := bd_s h
  obtain ⟨sh114, e115, h⟩ := bd_s h
  refine aw_na_int (pc' := 166) (k2 := 13) (n2 := 1966) hC dX9_init_164 rfl la_int rfl (Nat.le_of_ble_eq_true rfl) rfl rfl (Nat.le_of_ble_eq_true rfl) (Nat.le_of_ble_eq_true rfl) e113 e115 ?_
  obtain ⟨g116, h⟩ := gd_s h
  obtain ⟨M117, e118, h⟩ := bd_s h
  refine aw_pff (pc' := 169) hC dX9_init_166 rfl ff_X9_87 g116 rfl trivial e118 ?_
  refine aw_aload_n (pc' := 170) (i := 0) hC dX9_init_169 rfl rfl rfl ?_
  refine aw_iconst (pc' := 171) hC dX9_init_170 rfl (by decide) ?_
  obtain ⟨p119, e120, h⟩ := bd_s h
  obtain ⟨sh121, e122, h⟩ := bd_s h
  refine aw_na_int (pc' := 173) (k2 := 14) (n2 := 1968) hC dX9_init_171 rfl la_int rfl (Nat.le_of_ble_eq_true rfl) rfl rfl (Nat.le_of_ble_eq_true rfl) (Nat.le_of_ble_eq_true rfl) e120 e122 ?_
  obtain ⟨g123, h⟩ := gd_s h
  obtain ⟨M124, e125, h⟩ := bd_s h
  refine aw_pff (pc' := 176) hC dX9_init_173 rfl ff_X9_90 g123 rfl trivial e125 ?_
  refine aw_aload_n (pc' := 177) (i := 0) hC dX9_init_176 rfl rfl rfl ?_
  refine aw_iconst (pc' := 178) hC dX9_init_177 rfl (by decide) ?_
  obtain ⟨p126, e127, h⟩ := bd_s h
  obtain ⟨sh128, e129, h⟩ := bd_s h
  refine aw_na_int (pc' := 180) (k2 := 15) (n2 := 1970) hC dX9_init_178 rfl la_int rfl (Nat.le_of_ble_eq_true rfl) rfl rfl (Nat.le_of_ble_eq_true rfl) (Nat.le_of_ble_eq_true rfl) e127 e129 ?_
  obtain ⟨g130, h⟩ := gd_s h
  obtain ⟨M131, e132, h⟩ := bd_s h
  refine aw_pff (pc' := 183) hC dX9_init_180 rfl ff_X9_93 g130 rfl trivial e132 ?_
  refine aw_aload_n (pc' := 184) (i := 0) hC dX9_init_183 rfl rfl rfl ?_
  refine aw_iconst (pc' := 185) hC dX9_init_184 rfl (by decide) ?_
  obtain ⟨p133, e134, h⟩ := bd_s h
  obtain ⟨sh135, e136, h⟩ := bd_s h
  refine aw_na_int (pc' := 187) (k2 := 16) (n2 := 1972) hC dX9_init_185 rfl la_int rfl (Nat.le_of_ble_eq_true rfl) rfl rfl (Nat.le_of_ble_eq_true rfl) (Nat.le_of_ble_eq_true rfl) e134 e136 ?_
  obtain ⟨g137, h⟩ := gd_s h
  obtain ⟨M138, e139, h⟩ := bd_s h
  refine aw_pff (pc' := 190) hC dX9_init_187 rfl ff_X9_96 g137 rfl trivial e139 ?_
  refine aw_aload_n (pc' := 191) (i := 0) hC dX9_init_190 rfl rfl rfl ?_
  refine aw_iconst (pc' := 192) hC dX9_init_191 rfl (by decide) ?_
  obtain ⟨p140, e141, h⟩ := bd_s h
  obtain ⟨sh142, e143, h⟩ := bd_s h
  refine aw_na_int (pc' := 194) (k2 := 17) (n2 := 1974) hC dX9_init_192 rfl la_int rfl (Nat.le_of_ble_eq_true rfl) rfl rfl (Nat.le_of_ble_eq_true rfl) (Nat.le_of_ble_eq_true rfl) e141 e143 ?_
  obtain ⟨g144, h⟩ := gd_s h
  obtain ⟨M145, e146, h⟩ := bd_s h
  refine aw_pff (pc' := 197) hC dX9_init_194 rfl ff_X9_99 g144 rfl trivial e146 ?_
  refine aw_aload_n (pc' := 198) (i := 0) hC dX9_init_197 rfl rfl rfl ?_
  refine aw_sipush (pc' := 201) hC dX9_init_198 rfl (by decide) ?_
  obtain ⟨p147, e148, h⟩ := bd_s h
  obtain ⟨sh149, e150, h⟩ := bd_s h
  refine aw_na_int (pc' := 203) (k2 := 18) (n2 := 5174) hC dX9_init_201 rfl la_int rfl (Nat.le_of_ble_eq_true rfl) rfl rfl (Nat.le_of_ble_eq_true rfl) (Nat.le_of_ble_eq_true rfl) e148 e150 ?_
  obtain ⟨g151, h⟩ := gd_s h
  obtain ⟨M152, e153, h⟩ := bd_s h
  refine aw_pff (pc' := 206) hC dX9_init_203 rfl ff_X9_102 g151 rfl trivial e153 ?_
  refine aw_aload_n (pc' := 207) (i := 0) hC dX9_init_206 rfl rfl rfl ?_
  refine aw_sipush (pc' := 210) hC dX9_init_207 rfl (by decide) ?_
  obtain ⟨p154, e155, h⟩ := bd_s h
  obtain ⟨sh156, e157, h⟩ := bd_s h
  refine aw_na_int (pc' := 212) (k2 := 19) (n2 := 8374) hC dX9_init_210 rfl la_int rfl (Nat.le_of_ble_eq_true rfl) rfl rfl (Nat.le_of_ble_eq_true rfl) (Nat.le_of_ble_eq_true rfl) e155 e157 ?_
  obtain ⟨g158, h⟩ := gd_s h
  obtain ⟨M159, e160, h⟩ := bd_s h
  refine aw_pff (pc' := 215) hC dX9_init_212 rfl ff_X9_105 g158 rfl trivial e160 ?_
  refine aw_aload_n (pc' := 216) (i := 0) hC dX9_init_215 rfl rfl rfl ?_
  refine aw_bipush (pc' := 218) hC dX9_init_216 rfl (by decide) ?_
  obtain ⟨p161, e162, h⟩ := bd_s h
  obtain ⟨sh163, e164, h⟩ := bd_s h
  refine aw_na_long (pc' := 220) (k2 := 20) (n2 := 8394) hC dX9_init_218 rfl la_long rfl (Nat.le_of_ble_eq_true rfl) rfl rfl (Nat.le_of_ble_eq_true rfl) (Nat.le_of_ble_eq_true rfl) e162 e164 ?_
  obtain ⟨g165, h⟩ := gd_s h
  obtain ⟨M166, e167, h⟩ := bd_s h
  refine aw_pff (pc' := 223) hC dX9_init_220 rfl ff_X9_108 g165 rfl trivial e167 ?_
  refine aw_aload_n (pc' := 224) (i := 0) hC dX9_init_223 rfl rfl rfl ?_
  refine aw_bipush (pc' := 226) hC dX9_init_224 rfl (by decide) ?_
  obtain ⟨p168, e169, h⟩ := bd_s h
  obtain ⟨sh170, e171, h⟩ := bd_s h
  refine aw_na_long (pc' := 228) (k2 := 21) (n2 := 8418) hC dX9_init_226 rfl la_long rfl (Nat.le_of_ble_eq_true rfl) rfl rfl (Nat.le_of_ble_eq_true rfl) (Nat.le_of_ble_eq_true rfl) e169 e171 ?_
  obtain ⟨g172, h⟩ := gd_s h
  obtain ⟨M173, e174, h⟩ := bd_s h
  refine aw_pff (pc' := 231) hC dX9_init_228 rfl ff_X9_112 g172 rfl trivial e174 ?_
  refine aw_aload_n (pc' := 232) (i := 0) hC dX9_init_231 rfl rfl rfl ?_
  refine aw_bipush (pc' := 234) hC dX9_init_232 rfl (by decide) ?_
  obtain ⟨p175, e176, h⟩ := bd_s h
  obtain ⟨sh177, e178, h⟩ := bd_s h
  refine aw_na_long (pc' := 236) (k2 := 22) (n2 := 8438) hC dX9_init_234 rfl la_long rfl (Nat.le_of_ble_eq_true rfl) rfl rfl (Nat.le_of_ble_eq_true rfl) (Nat.le_of_ble_eq_true rfl) e176 e178 ?_
  obtain ⟨g179, h⟩ := gd_s h
  obtain ⟨M180, e181, h⟩ := bd_s h
  refine aw_pff (pc' := 239) hC dX9_init_236 rfl ff_X9_115 g179 rfl trivial e181 ?_
  refine aw_aload_n (pc' := 240) (i := 0) hC dX9_init_239 rfl rfl rfl ?_
  refine aw_iconst (pc' := 241) hC dX9_init_240 rfl (by decide) ?_
  obtain ⟨M182, e183, h⟩ := bd_s h
  refine aw_pf (pc' := 244) hC dX9_init_241 rfl fp_X9_118 g179 rfl trivial e183 ?_
  refine aw_aload_n (pc' := 245) (i := 0) hC dX9_init_244 rfl rfl rfl ?_
  refine aw_iconst (pc' := 246) hC dX9_init_245 rfl (by decide) ?_
  obtain ⟨M184, e185, h⟩ := bd_s h
  refine aw_pf (pc' := 249) hC dX9_init_246 rfl fp_X9_121 g179 rfl trivial e185 ?_
  refine aw_aload_n (pc' := 250) (i := 0) hC dX9_init_249 rfl rfl rfl ?_
  refine aw_bipush (pc' := 252) hC dX9_init_250 rfl (by decide) ?_
  obtain ⟨p186, e187, h⟩ := bd_s h
  obtain ⟨sh188, e189, h⟩ := bd_s h
  refine aw_na_int (pc' := 254) (k2 := 23) (n2 := 8458) hC dX9_init_252 rfl la_int rfl (Nat.le_of_ble_eq_true rfl) rfl rfl (Nat.le_of_ble_eq_true rfl) (Nat.le_of_ble_eq_true rfl) e187 e189 ?_
  obtain ⟨g190, h⟩ := gd_s h
  obtain ⟨M191, e192, h⟩ := bd_s h
  refine aw_pff (pc' := 257) hC dX9_init_254 rfl ff_X9_124 g190 rfl trivial e192 ?_
  refine aw_aload_n (pc' := 258) (i := 0) hC dX9_init_257 rfl rfl rfl ?_
  refine aw_bipush (pc' := 260) hC dX9_init_258 rfl (by decide) ?_
  obtain ⟨p193, e194, h⟩ := bd_s h
  obtain ⟨sh195, e196, h⟩ := bd_s h
  refine aw_na_int (pc' := 262) (k2 := 24) (n2 := 8478) hC dX9_init_260 rfl la_int rfl (Nat.le_of_ble_eq_true rfl) rfl rfl (Nat.le_of_ble_eq_true rfl) (Nat.le_of_ble_eq_true rfl) e194 e196 ?_
  obtain ⟨g197, h⟩ := gd_s h
  obtain ⟨M198, e199, h⟩ := bd_s h
  refine aw_pff (pc' := 265) hC dX9_init_262 rfl ff_X9_127 g197 rfl trivial e199 ?_
  refine aw_aload_n (pc' := 266) (i := 0) hC dX9_init_265 rfl rfl rfl ?_
  refine aw_bipush (pc' := 268) hC dX9_init_266 rfl (by decide) ?_
  obtain ⟨p200, e201, h⟩ := bd_s h
  obtain ⟨sh202, e203, h⟩ := bd_s h
  refine aw_na_boolean (pc' := 270) (k2 := 25) (n2 := 8498) hC dX9_init_268 rfl la_boolean rfl (Nat.le_of_ble_eq_true rfl) rfl rfl (Nat.le_of_ble_eq_true rfl) (Nat.le_of_ble_eq_true rfl) e201 e203 ?_
  obtain ⟨g204, h⟩ := gd_s h
  obtain ⟨M205, e206, h⟩ := bd_s h
  refine aw_pff (pc' := 273) hC dX9_init_270 rfl ff_X9_130 g204 rfl trivial e206 ?_
  refine aw_aload_n (pc' := 274) (i := 0) hC dX9_init_273 rfl rfl rfl ?_
  refine aw_bipush (pc' := 276) hC dX9_init_274 rfl (by decide) ?_
  obtain ⟨p207, e208, h⟩ := bd_s h
  obtain ⟨sh209, e210, h⟩ := bd_s h
  refine aw_na_int (pc' := 278) (k2 := 26) (n2 := 8518) hC dX9_init_276 rfl la_int rfl (Nat.le_of_ble_eq_true rfl) rfl rfl (Nat.le_of_ble_eq_true rfl) (Nat.le_of_ble_eq_true rfl) e208 e210 ?_
  obtain ⟨g211, h⟩ := gd_s h
  obtain ⟨M212, e213, h⟩ := bd_s h
  refine aw_pff (pc' := 281) hC dX9_init_278 rfl ff_X9_134 g211 rfl trivial e213 ?_
  refine aw_aload_n (pc' := 282) (i := 0) hC dX9_init_281 rfl rfl rfl ?_
  refine aw_bipush (pc' := 284) hC dX9_init_282 rfl (by decide) ?_
  obtain ⟨p214, e215, h⟩ := bd_s h
  obtain ⟨sh216, e217, h⟩ := bd_s h
  refine aw_na_int (pc' := 286) (k2 := 27) (n2 := 8538) hC dX9_init_284 rfl la_int rfl (Nat.le_of_ble_eq_true rfl) rfl rfl (Nat.le_of_ble_eq_true rfl) (Nat.le_of_ble_eq_true rfl) e215 e217 ?_
  obtain ⟨g218, h⟩ := gd_s h
  obtain ⟨M219, e220, h⟩ := bd_s h
  refine aw_pff (pc' := 289) hC dX9_init_286 rfl ff_X9_137 g218 rfl trivial e220 ?_
  refine aw_aload_n (pc' := 290) (i := 0) hC dX9_init_289 rfl rfl rfl ?_
  refine aw_iconst (pc' := 291) hC dX9_init_290 rfl (by decide) ?_
  obtain ⟨M221, e222, h⟩ := bd_s h
  refine aw_pf (pc' := 294) hC dX9_init_291 rfl fp_X9_140 g218 rfl trivial e222 ?_
  refine aw_aload_n (pc' := 295) (i := 0) hC dX9_init_294 rfl rfl rfl ?_
  refine aw_iconst (pc' := 296) hC dX9_init_295 rfl (by decide) ?_
  obtain ⟨M223, e224, h⟩ := bd_s h
  refine aw_pf (pc' := 299) hC dX9_init_296 rfl fp_X9_143 g218 rfl trivial e224 ?_
  refine aw_aload_n (pc' := 300) (i := 0) hC dX9_init_299 rfl rfl rfl ?_
  refine aw_sipush (pc' := 303) hC dX9_init_300 rfl (by decide) ?_
  obtain ⟨p225, e226, h⟩ := bd_s h
  obtain ⟨sh227, e228, h⟩ := bd_s h
  refine aw_na_int (pc' := 305) (k2 := 28) (n2 := 9038) hC dX9_init_303 rfl la_int rfl (Nat.le_of_ble_eq_true rfl) rfl rfl (Nat.le_of_ble_eq_true rfl) (Nat.le_of_ble_eq_true rfl) e226 e228 ?_
  obtain ⟨g229, h⟩ := gd_s h
  obtain ⟨M230, e231, h⟩ := bd_s h
  refine aw_pff (pc' := 308) hC dX9_init_305 rfl ff_X9_146 g229 rfl trivial e231 ?_
  refine aw_aload_n (pc' := 309) (i := 0) hC dX9_init_308 rfl rfl rfl ?_
  refine aw_iconst (pc' := 310) hC dX9_init_309 rfl (by decide) ?_
  obtain ⟨M232, e233, h⟩ := bd_s h
  refine aw_pf (pc' := 313) hC dX9_init_310 rfl fp_X9_149 g229 rfl trivial e233 ?_
  refine aw_aload_n (pc' := 314) (i := 0) hC dX9_init_313 rfl rfl rfl ?_
  refine aw_iconst (pc' := 315) hC dX9_init_314 rfl (by decide) ?_
  obtain ⟨M234, e235, h⟩ := bd_s h
  refine aw_pf (pc' := 318) hC dX9_init_315 rfl fp_X9_152 g229 rfl (Or.inl rfl) e235 ?_
  refine aw_aload_n (pc' := 319) (i := 0) hC dX9_init_318 rfl rfl rfl ?_
  refine aw_bipush (pc' := 321) hC dX9_init_319 rfl (by decide) ?_
  obtain ⟨p236, e237, h⟩ := bd_s h
  obtain ⟨sh238, e239, h⟩ := bd_s h
  refine aw_na_int (pc' := 323) (k2 := 29) (n2 := 9044) hC dX9_init_321 rfl la_int rfl (Nat.le_of_ble_eq_true rfl) rfl rfl (Nat.le_of_ble_eq_true rfl) (Nat.le_of_ble_eq_true rfl) e237 e239 ?_
  obtain ⟨g240, h⟩ := gd_s h
  obtain ⟨M241, e242, h⟩ := bd_s h
  refine aw_pff (pc' := 326) hC dX9_init_323 rfl ff_X9_156 g240 rfl trivial e242 ?_
  refine aw_aload_n (pc' := 327) (i := 0) hC dX9_init_326 rfl rfl rfl ?_
  refine aw_bipush (pc' := 329) hC dX9_init_327 rfl (by decide) ?_
  obtain ⟨p243, e244, h⟩ := bd_s h
  obtain ⟨sh245, e246, h⟩ := bd_s h
  refine aw_na_int (pc' := 331) (k2 := 30) (n2 := 9066) hC dX9_init_329 rfl la_int rfl (Nat.le_of_ble_eq_true rfl) rfl rfl (Nat.le_of_ble_eq_true rfl) (Nat.le_of_ble_eq_true rfl) e244 e246 ?_
  obtain ⟨g247, h⟩ := gd_s h
  obtain ⟨M248, e249, h⟩ := bd_s h
  refine aw_pff (pc' := 334) hC dX9_init_331 rfl ff_X9_159 g247 rfl trivial e249 ?_
  refine aw_aload_n (pc' := 335) (i := 0) hC dX9_init_334 rfl rfl rfl ?_
  refine aw_sipush (pc' := 338) hC dX9_init_335 rfl (by decide) ?_
  obtain ⟨p250, e251, h⟩ := bd_s h
  obtain ⟨sh252, e253, h⟩ := bd_s h
  refine aw_na_int (pc' := 340) (k2 := 31) (n2 := 9330) hC dX9_init_338 rfl la_int rfl (Nat.le_of_ble_eq_true rfl) rfl rfl (Nat.le_of_ble_eq_true rfl) (Nat.le_of_ble_eq_true rfl) e251 e253 ?_
  obtain ⟨g254, h⟩ := gd_s h
  obtain ⟨M255, e256, h⟩ := bd_s h
  refine aw_pff (pc' := 343) hC dX9_init_340 rfl ff_X9_162 g254 rfl trivial e256 ?_
  refine aw_aload_n (pc' := 344) (i := 0) hC dX9_init_343 rfl rfl rfl ?_
  refine aw_sipush (pc' := 347) hC dX9_init_344 rfl (by decide) ?_
  obtain ⟨p257, e258, h⟩ := bd_s h
  obtain ⟨sh259, e260, h⟩ := bd_s h
  refine aw_na_int (pc' := 349) (k2 := 32) (n2 := 9594) hC dX9_init_347 rfl la_int rfl (Nat.le_of_ble_eq_true rfl) rfl rfl (Nat.le_of_ble_eq_true rfl) (Nat.le_of_ble_eq_true rfl) e258 e260 ?_
  obtain ⟨g261, h⟩ := gd_s h
  obtain ⟨M262, e263, h⟩ := bd_s h
  refine aw_pff (pc' := 352) hC dX9_init_349 rfl ff_X9_165 g261 rfl trivial e263 ?_
  refine aw_aload_n (pc' := 353) (i := 0) hC dX9_init_352 rfl rfl rfl ?_
  refine aw_sipush (pc' := 356) hC dX9_init_353 rfl (by decide) ?_
  obtain ⟨p264, e265, h⟩ := bd_s h
  obtain ⟨sh266, e267, h⟩ := bd_s h
  refine aw_na_int (pc' := 358) (k2 := 33) (n2 := 9858) hC dX9_init_356 rfl la_int rfl (Nat.le_of_ble_eq_true rfl) rfl rfl (Nat.le_of_ble_eq_true rfl) (Nat.le_of_ble_eq_true rfl) e265 e267 ?_
  obtain ⟨g268, h⟩ := gd_s h
  obtain ⟨M269, e270, h⟩ := bd_s h
  refine aw_pff (pc' := 361) hC dX9_init_358 rfl ff_X9_168 g268 rfl trivial e270 ?_
  refine aw_aload_n (pc' := 362) (i := 0) hC dX9_init_361 rfl rfl rfl ?_
  refine aw_sipush (pc' := 365) hC dX9_init_362 rfl (by decide) ?_
  obtain ⟨p271, e272, h⟩ := bd_s h
  obtain ⟨sh273, e274, h⟩ := bd_s h
  refine aw_na_int (pc' := 367) (k2 := 34) (n2 := 12498) hC dX9_init_365 rfl la_int rfl (Nat.le_of_ble_eq_true rfl) rfl rfl (Nat.le_of_ble_eq_true rfl) (Nat.le_of_ble_eq_true rfl) e272 e274 ?_
  obtain ⟨g275, h⟩ := gd_s h
  obtain ⟨M276, e277, h⟩ := bd_s h
  refine aw_pff (pc' := 370) hC dX9_init_367 rfl ff_X9_171 g275 rfl trivial e277 ?_
  refine aw_aload_n (pc' := 371) (i := 0) hC dX9_init_370 rfl rfl rfl ?_
  refine aw_iconst (pc' := 372) hC dX9_init_371 rfl (by decide) ?_
  obtain ⟨M278, e279, h⟩ := bd_s h
  refine aw_pf (pc' := 375) hC dX9_init_372 rfl fp_X9_174 g275 rfl trivial e279 ?_
  refine aw_aload_n (pc' := 376) (i := 0) hC dX9_init_375 rfl rfl rfl ?_
  refine aw_iconst (pc' := 377) hC dX9_init_376 rfl (by decide) ?_
  obtain ⟨M280, e281, h⟩ := bd_s h
  refine aw_pf (pc' := 380) hC dX9_init_377 rfl fp_X9_177 g275 rfl trivial e281 ?_
  refine aw_aload_n (pc' := 381) (i := 0) hC dX9_init_380 rfl rfl rfl ?_
  refine aw_lconst (pc' := 382) (v := 1) hC dX9_init_381 rfl rfl (by decide) ?_
  obtain ⟨M282, e283, h⟩ := bd_s h
  refine aw_pf (pc' := 385) hC dX9_init_382 rfl fp_X9_180 g275 rfl trivial e283 ?_
  refine aw_aload_n (pc' := 386) (i := 0) hC dX9_init_385 rfl rfl rfl ?_
  refine aw_sipush (pc' := 389) hC dX9_init_386 rfl (by decide) ?_
  obtain ⟨p284, e285, h⟩ := bd_s h
  obtain ⟨sh286, e287, h⟩ := bd_s h
  refine aw_na_long (pc' := 391) (k2 := 35) (n2 := 12998) hC dX9_init_389 rfl la_long rfl (Nat.le_of_ble_eq_true rfl) rfl rfl (Nat.le_of_ble_eq_true rfl) (Nat.le_of_ble_eq_true rfl) e285 e287 ?_
  obtain ⟨g288, h⟩ := gd_s h
  obtain ⟨M289, e290, h⟩ := bd_s h
  refine aw_pff (pc' := 394) hC dX9_init_391 rfl ff_X9_183 g288 rfl trivial e290 ?_
  refine aw_aload_n (pc' := 395) (i := 0) hC dX9_init_394 rfl rfl rfl ?_
  refine aw_iconst (pc' := 396) hC dX9_init_395 rfl (by decide) ?_
  obtain ⟨M291, e292, h⟩ := bd_s h
  refine aw_pf (pc' := 399) hC dX9_init_396 rfl fp_X9_186 g288 rfl trivial e292 ?_
  refine aw_aload_n (pc' := 400) (i := 0) hC dX9_init_399 rfl rfl rfl ?_
  refine aw_iconst (pc' := 401) hC dX9_init_400 rfl (by decide) ?_
  obtain ⟨M293, e294, h⟩ := bd_s h
  refine aw_pf (pc' := 404) hC dX9_init_401 rfl fp_X9_189 g288 rfl trivial e294 ?_
  refine aw_aload_n (pc' := 405) (i := 0) hC dX9_init_404 rfl rfl rfl ?_
  refine aw_iconst (pc' := 406) hC dX9_init_405 rfl (by decide) ?_
  obtain ⟨M295, e296, h⟩ := bd_s h
  refine aw_pf (pc' := 409) hC dX9_init_406 rfl fp_X9_192 g288 rfl trivial e296 ?_
  refine aw_aload_n (pc' := 410) (i := 0) hC dX9_init_409 rfl rfl rfl ?_
  refine aw_iconst (pc' := 411) hC dX9_init_410 rfl (by decide) ?_
  obtain ⟨M297, e298, h⟩ := bd_s h
  refine aw_pf (pc' := 414) hC dX9_init_411 rfl fp_X9_195 g288 rfl trivial e298 ?_
  refine aw_aload_n (pc' := 415) (i := 0) hC dX9_init_414 rfl rfl rfl ?_
  refine aw_iconst (pc' := 416) hC dX9_init_415 rfl (by decide) ?_
  obtain ⟨M299, e300, h⟩ := bd_s h
  refine aw_pf (pc' := 419) hC dX9_init_416 rfl fp_X9_198 g288 rfl trivial e300 ?_
  refine aw_aload_n (pc' := 420) (i := 0) hC dX9_init_419 rfl rfl rfl ?_
  refine aw_iconst (pc' := 421) hC dX9_init_420 rfl (by decide) ?_
  obtain ⟨M301, e302, h⟩ := bd_s h
  refine aw_pf (pc' := 424) hC dX9_init_421 rfl fp_X9_201 g288 rfl trivial e302 ?_
  refine aw_aload_n (pc' := 425) (i := 0) hC dX9_init_424 rfl rfl rfl ?_
  refine aw_sipush (pc' := 428) hC dX9_init_425 rfl (by decide) ?_
  obtain ⟨p303, e304, h⟩ := bd_s h
  obtain ⟨sh305, e306, h⟩ := bd_s h
  refine aw_na_int (pc' := 430) (k2 := 36) (n2 := 23238) hC dX9_init_428 rfl la_int rfl (Nat.le_of_ble_eq_true rfl) rfl rfl (Nat.le_of_ble_eq_true rfl) (Nat.le_of_ble_eq_true rfl) e304 e306 ?_
  obtain ⟨g307, h⟩ := gd_s h
  obtain ⟨M308, e309, h⟩ := bd_s h
  refine aw_pff (pc' := 433) hC dX9_init_430 rfl ff_X9_204 g307 rfl trivial e309 ?_
  refine aw_aload_n (pc' := 434) (i := 0) hC dX9_init_433 rfl rfl rfl ?_
  refine aw_sipush (pc' := 437) hC dX9_init_434 rfl (by decide) ?_
  obtain ⟨p310, e311, h⟩ := bd_s h
  obtain ⟨sh312, e313, h⟩ := bd_s h
  refine aw_na_int (pc' := 439) (k2 := 37) (n2 := 33478) hC dX9_init_437 rfl la_int rfl (Nat.le_of_ble_eq_true rfl) rfl rfl (Nat.le_of_ble_eq_true rfl) (Nat.le_of_ble_eq_true rfl) e311 e313 ?_
  obtain ⟨g314, h⟩ := gd_s h
  obtain ⟨M315, e316, h⟩ := bd_s h
  refine aw_pff (pc' := 442) hC dX9_init_439 rfl ff_X9_207 g314 rfl trivial e316 ?_
  refine aw_aload_n (pc' := 443) (i := 0) hC dX9_init_442 rfl rfl rfl ?_
  refine aw_sipush (pc' := 446) hC dX9_init_443 rfl (by decide) ?_
  obtain ⟨p317, e318, h⟩ := bd_s h
  obtain ⟨sh319, e320, h⟩ := bd_s h
  refine aw_na_int (pc' := 448) (k2 := 38) (n2 := 43718) hC dX9_init_446 rfl la_int rfl (Nat.le_of_ble_eq_true rfl) rfl rfl (Nat.le_of_ble_eq_true rfl) (Nat.le_of_ble_eq_true rfl) e318 e320 ?_
  obtain ⟨g321, h⟩ := gd_s h
  obtain ⟨M322, e323, h⟩ := bd_s h
  refine aw_pff (pc' := 451) hC dX9_init_448 rfl ff_X9_210 g321 rfl trivial e323 ?_
  refine aw_aload_n (pc' := 452) (i := 0) hC dX9_init_451 rfl rfl rfl ?_
  refine aw_iconst (pc' := 453) hC dX9_init_452 rfl (by decide) ?_
  obtain ⟨M324, e325, h⟩ := bd_s h
  refine aw_pf (pc' := 456) hC dX9_init_453 rfl fp_X9_213 g321 rfl trivial e325 ?_
  refine aw_aload_n (pc' := 457) (i := 0) hC dX9_init_456 rfl rfl rfl ?_
  refine aw_iconst (pc' := 458) hC dX9_init_457 rfl (by decide) ?_
  obtain ⟨M326, e327, h⟩ := bd_s h
  refine aw_pf (pc' := 461) hC dX9_init_458 rfl fp_X9_216 g321 rfl trivial e327 ?_
  refine aw_aload_n (pc' := 462) (i := 0) hC dX9_init_461 rfl rfl rfl ?_
  refine aw_bipush (pc' := 464) hC dX9_init_462 rfl (by decide) ?_
  obtain ⟨p328, e329, h⟩ := bd_s h
  obtain ⟨sh330, e331, h⟩ := bd_s h
  refine aw_na_int (pc' := 466) (k2 := 39) (n2 := 43738) hC dX9_init_464 rfl la_int rfl (Nat.le_of_ble_eq_true rfl) rfl rfl (Nat.le_of_ble_eq_true rfl) (Nat.le_of_ble_eq_true rfl) e329 e331 ?_
  obtain ⟨g332, h⟩ := gd_s h
  obtain ⟨M333, e334, h⟩ := bd_s h
  refine aw_pff (pc' := 469) hC dX9_init_466 rfl ff_X9_219 g332 rfl trivial e334 ?_
  refine aw_aload_n (pc' := 470) (i := 0) hC dX9_init_469 rfl rfl rfl ?_
  refine aw_sipush (pc' := 473) hC dX9_init_470 rfl (by decide) ?_
  obtain ⟨p335, e336, h⟩ := bd_s h
  obtain ⟨sh337, e338, h⟩ := bd_s h
  refine aw_na_int (pc' := 475) (k2 := 40) (n2 := 43888) hC dX9_init_473 rfl la_int rfl (Nat.le_of_ble_eq_true rfl) rfl rfl (Nat.le_of_ble_eq_true rfl) (Nat.le_of_ble_eq_true rfl) e336 e338 ?_
  obtain ⟨g339, h⟩ := gd_s h
  obtain ⟨M340, e341, h⟩ := bd_s h
  refine aw_pff (pc' := 478) hC dX9_init_475 rfl ff_X9_222 g339 rfl trivial e341 ?_
  refine aw_aload_n (pc' := 479) (i := 0) hC dX9_init_478 rfl rfl rfl ?_
  refine aw_iconst (pc' := 480) hC dX9_init_479 rfl (by decide) ?_
  obtain ⟨M342, e343, h⟩ := bd_s h
  refine aw_pf (pc' := 483) hC dX9_init_480 rfl fp_X9_225 g339 rfl trivial e343 ?_
  refine aw_aload_n (pc' := 484) (i := 0) hC dX9_init_483 rfl rfl rfl ?_
  refine aw_getfield (pc' := 487) (v := (.inr (.inr (M342 v0 26)))) hC dX9_init_484 rfl fl_X9_90 g339 rfl ?_
  refine aw_iconst (pc' := 488) hC dX9_init_487 rfl (by decide) ?_
  refine aw_iconst (pc' := 489) hC dX9_init_488 rfl (by decide) ?_
  obtain ⟨g344, h⟩ := gd_s h
  obtain ⟨M345, e346, h⟩ := bd_s h
  refine aw_ias (pc' := 490) hC dX9_init_489 rfl g344 e346 ?_
  refine aw_aload_n (pc' := 491) (i := 0) hC dX9_init_490 rfl rfl rfl ?_
  refine aw_getfield (pc' := 494) (v := (.inr (.inr (M345 v0 28)))) hC dX9_init_491 rfl fl_X9_96 g339 rfl ?_
  refine aw_iconst (pc' := 495) hC dX9_init_494 rfl (by decide) ?_
  refine aw_iconst (pc' := 496) hC dX9_init_495 rfl (by decide) ?_
  obtain ⟨g347, h⟩ := gd_s h
  obtain ⟨M348, e349, h⟩ := bd_s h
  refine aw_ias (pc' := 497) hC dX9_init_496 rfl g347 e349 ?_
  cases h
  exact aw_vret hC dX9_init_497 (Nat.le_of_ble_eq_true rfl) (Nat.le_of_ble_eq_true rfl)
-- CoinCircleModel.is(III)Z
def fX9_is (sh : AwS) (M : AwM) (v0 : Int) (v1 : Int) (v2 : Int) : Option Int :=
  (if v0 < v1 then some 0 else (if v2 < v0 then some 0 else some 1))
set_option maxRecDepth 100000 in
set_option maxHeartbeats 4000000 in
theorem mX9_is {sh : AwS} {M : AwM} {v0 : Int} {v1 : Int} {v2 : Int} {r : Int} (h : fX9_is sh M v0 v1 v2 = some r) : AMet yX9_is cX9_is 3 (some .boolean) 1 0 0 [.inl v0, .inl v1, .inl v2] sh M (some (.inl r)) sh M := by
  refine amet_of (by decide +kernel) (Nat.le_of_ble_eq_true rfl) (fun Γ hC => ?_)
  replace hC : AOK Γ RX9 cX9_is 3 1 0 0 "is" (some .boolean) := hC
  unfold fX9_is at h
  refine aw_sub hC [some (.inl v0), some (.inl v1), some (.inl v2)] ⟨rfl, ⟨rfl, ⟨rfl, trivial⟩⟩⟩ (Nat.le_of_ble_eq_true rfl) ?_
  refine aw_iload_n (pc' := 1) (i := 0) hC dX9_is_0 rfl rfl rfl ?_
  refine aw_iload_n (pc' := 2) (i := 1) hC dX9_is_1 rfl rfl rfl ?_
  refine aw_icmp_lt (tgt := 14) (pc' := 5) hC dX9_is_2 (by decide) rfl (fun c1 => ?_) (fun c1 => ?_)
  · replace h := it_p c1 h
    refine aw_iconst (pc' := 15) hC dX9_is_14 rfl (by decide) ?_
    cases h
    exact aw_zret hC (Or.inl rfl) dX9_is_15 (Nat.le_of_ble_eq_true rfl) (Nat.le_of_ble_eq_true rfl)
  · replace h := it_n c1 h
    refine aw_iload_n (pc' := 6) (i := 0) hC dX9_is_5 rfl rfl rfl ?_
    refine aw_iload_n (pc' := 7) (i := 2) hC dX9_is_6 rfl rfl rfl ?_
    refine aw_icmp_gt (tgt := 14) (pc' := 10) hC dX9_is_7 (by decide) rfl (fun c2 => ?_) (fun c2 => ?_)
    · replace h := it_p c2 h
      refine aw_iconst (pc' := 15) hC dX9_is_14 rfl (by decide) ?_
      cases h
      exact aw_zret hC (Or.inl rfl) dX9_is_15 (Nat.le_of_ble_eq_true rfl) (Nat.le_of_ble_eq_true rfl)
    · replace h := it_n c2 h
      refine aw_iconst (pc' := 11) hC dX9_is_10 rfl (by decide) ?_
      refine aw_goto (tgt := 15) hC dX9_is_11 (by decide) ?_
      cases h
      exact aw_zret hC (Or.inr rfl) dX9_is_15 (Nat.le_of_ble_eq_true rfl) (Nat.le_of_ble_eq_true rfl)
-- CoinCircleModel.put(I)V
def fX9_put_L3 (sh : AwS) (v0 : Int) (v1 : Int) (v2 : Int) (M : AwM) : Option ((Int × AwM) ⊕ (AwM)) :=
  (if v2 < 0 then some (.inr M) else gd_ (kd_ sh v0 = (0, 9)) (gd_ ((kd_ sh (M v0 0)).1 = 1 ∧ (0 : Int) ≤ (M v0 1) ∧ (M v0 1) < ((kd_ sh (M v0 0)).2 : Int)) (bd_ (up_ M (M v0 0) (M v0 1) (an_ (sr_ v1 v2) 255)) fun (M4 : AwM) => (bd_ (up_ M4 v0 1 (w32 ((M4 v0 1) + 1))) fun (M6 : AwM) => (some (.inl ((w32 (v2 + (-8))), M6)))))))
def p_X9_put_L3 (Γ : AwC) (sh : AwS) (v0 : Int) (v1 : Int) (Q : State → Prop) (s : Int × AwM) : Prop := AW Γ sh (s.2) 0 0 3 [some (.inr (.inr v0)), some (.inl v1), some (.inl (s.1))] [] Q
def x_X9_put_L3 (Γ : AwC) (sh : AwS) (v0 : Int) (v1 : Int) (Q : State → Prop) : (AwM) → Prop := (fun (t : AwM) => AW Γ sh (t) 0 0 39 [none, none, none] [] Q)
def fX9_put (sh : AwS) (M : AwM) (v0 : Int) (v1 : Int) : Option (AwM) :=
  pb (lp (u2 (fX9_put_L3 sh v0 v1)) FU (24, M)) (u1 (fun (tq8 : AwM) => some tq8))
set_option maxRecDepth 100000 in
set_option maxHeartbeats 4000000 in
theorem w_X9_put_L3 {Γ : AwC} (hC : AOK Γ RX9 cX9_put 3 1 0 0 "put" none) {sh : AwS} {v0 : Int} {v1 : Int} {Q : State → Prop} : ∀ s r, u2 (fX9_put_L3 sh v0 v1) s = some r → (∀ s', r = .inl s' → p_X9_put_L3 Γ sh v0 v1 Q s') → (∀ t, r = .inr t → x_X9_put_L3 Γ sh v0 v1 Q t) → p_X9_put_L3 Γ sh v0 v1 Q s := by
  intro s r h hL hX
  obtain ⟨v2, M⟩ := s
  replace h := u2_s h
  unfold fX9_put_L3 at h
  show AW Γ sh M 0 0 3 [some (.inr (.inr v0)), some (.inl v1), some (.inl v2)] [] Q
  refine aw_iload_n (pc' := 4) (i := 2) hC dX9_put_3 rfl rfl rfl ?_
  refine aw_if_lt (tgt := 39) (pc' := 7) hC dX9_put_4 (by decide) rfl (fun c1 => ?_) (fun c1 => ?_)
  · replace h := it_p c1 h
    refine aw_sub hC [none, none, none] trivial (Nat.le_of_ble_eq_true rfl) ?_
    cases h
    exact hX _ rfl
  · replace h := it_n c1 h
    refine aw_aload_n (pc' := 8) (i := 0) hC dX9_put_7 rfl rfl rfl ?_
    obtain ⟨g2, h⟩ := gd_s h
    refine aw_getfield (pc' := 11) (v := (.inr (.inr (M v0 0)))) hC dX9_put_8 rfl fl_X9_7 g2 rfl ?_
    refine aw_aload_n (pc' := 12) (i := 0) hC dX9_put_11 rfl rfl rfl ?_
    refine aw_getfield (pc' := 15) (v := (.inl (M v0 1))) hC dX9_put_12 rfl fl_X9_13 g2 rfl ?_
    refine aw_iload_n (pc' := 16) (i := 1) hC dX9_put_15 rfl rfl rfl ?_
    refine aw_iload_n (pc' := 17) (i := 2) hC dX9_put_16 rfl rfl rfl ?_
    refine aw_ishr (pc' := 18) hC dX9_put_17 rfl  ?_
    refine aw_sipush (pc' := 21) hC dX9_put_18 rfl (by decide) ?_
    refine aw_iand (pc' := 22) hC dX9_put_21 rfl  ?_
    obtain ⟨g3, h⟩ := gd_s h
    obtain ⟨M4, e5, h⟩ := bd_s h
    refine aw_ias (pc' := 23) hC dX9_put_22 rfl g3 e5 ?_
    refine aw_aload_n (pc' := 24) (i := 0) hC dX9_put_23 rfl rfl rfl ?_
    refine aw_dup (pc' := 25) hC dX9_put_24 rfl rfl ?_
    refine aw_getfield (pc' := 28) (v := (.inl (M4 v0 1))) hC dX9_put_25 rfl fl_X9_13 g2 rfl ?_
    refine aw_iconst (pc' := 29) hC dX9_put_28 rfl (by decide) ?_
    refine aw_iadd (pc' := 30) hC dX9_put_29 rfl  ?_
    obtain ⟨M6, e7, h⟩ := bd_s h
    refine aw_pf (pc' := 33) hC dX9_put_30 rfl fp_X9_13 g2 rfl trivial e7 ?_
    refine aw_iinc (pc' := 36) (ls' := [some (.inr (.inr v0)), some (.inl v1), some (.inl (w32 (v2 + (-8))))]) hC dX9_put_33 rfl rfl rfl rfl ?_
    refine aw_goto (tgt := 3) hC dX9_put_36 (by decide) ?_
    refine aw_sub hC [some (.inr (.inr v0)), some (.inl v1), some (.inl (w32 (v2 + (-8))))] ⟨rfl, ⟨rfl, ⟨rfl, trivial⟩⟩⟩ (Nat.le_of_ble_eq_true rfl) ?_
    cases h
    exact hL _ rfl
set_option maxRecDepth 100000 in
set_option maxHeartbeats 4000000 in
theorem mX9_put {sh : AwS} {M : AwM} {v0 : Int} {v1 : Int} {M' : AwM} (h : fX9_put sh M v0 v1 = some M') : AMet yX9_put cX9_put 3 none 1 0 0 [.inr (.inr v0), .inl v1] sh M none sh M' := by
  refine amet_of (by decide +kernel) (Nat.le_of_ble_eq_true rfl) (fun Γ hC => ?_)
  replace hC : AOK Γ RX9 cX9_put 3 1 0 0 "put" none := hC
  unfold fX9_put at h
  refine aw_sub hC [some (.inr (.inr v0)), some (.inl v1), none] ⟨rfl, ⟨rfl, trivial⟩⟩ (Nat.le_of_ble_eq_true rfl) ?_
  refine aw_bipush (pc' := 2) hC dX9_put_0 rfl (by decide) ?_
  refine aw_istore_n (pc' := 3) (i := 2) (ls' := [some (.inr (.inr v0)), some (.inl v1), some (.inl 24)]) hC dX9_put_2 rfl rfl (Nat.le_of_ble_eq_true rfl) rfl rfl ?_
  obtain ⟨tq8, q8, h⟩ := pb_s h
  refine aw_sub hC [some (.inr (.inr v0)), some (.inl v1), some (.inl 24)] ⟨rfl, ⟨rfl, ⟨rfl, trivial⟩⟩⟩ (Nat.le_of_ble_eq_true rfl) ?_
  refine (lp_aw (p_X9_put_L3 Γ sh v0 v1 (fin_ Γ 0 0 none sh M')) (x_X9_put_L3 Γ sh v0 v1 (fin_ Γ 0 0 none sh M')) (w_X9_put_L3 hC ) FU _ _ q8 ?_ : p_X9_put_L3 Γ sh v0 v1 (fin_ Γ 0 0 none sh M') (24, M))
  replace h := u1_s h
  show AW Γ sh tq8 0 0 39 [none, none, none] [] _
  cases h
  exact aw_vret hC dX9_put_39 (Nat.le_of_ble_eq_true rfl) (Nat.le_of_ble_eq_true rfl)
-- CoinCircleModel.refuses(I)I
def fX9_refuses (sh : AwS) (M : AwM) (v0 : Int) (v1 : Int) : Option (Int × AwM) :=
  gd_ (kd_ sh v0 = (0, 9)) (gd_ ((kd_ sh (M v0 47)).1 = 1 ∧ (0 : Int) ≤ v1 ∧ v1 < ((kd_ sh (M v0 47)).2 : Int)) (bd_ (up_ M (M v0 47) v1 (w32 ((M (M v0 47) v1) + 1))) fun (M3 : AwM) => (some ((-1), M3))))
set_option maxRecDepth 100000 in
set_option maxHeartbeats 4000000 in
theorem mX9_refuses {sh : AwS} {M : AwM} {v0 : Int} {v1 : Int} {r : Int} {M' : AwM} (h : fX9_refuses sh M v0 v1 = some (r, M')) : AMet yX9_refuses cX9_refuses 2 (some .int) 1 0 0 [.inr (.inr v0), .inl v1] sh M (some (.inl r)) sh M' := by
  refine amet_of (by decide +kernel) (Nat.le_of_ble_eq_true rfl) (fun Γ hC => ?_)
  replace hC : AOK Γ RX9 cX9_refuses 2 1 0 0 "refuses" (some .int) := hC
  unfold fX9_refuses at h
  refine aw_sub hC [some (.inr (.inr v0)), some (.inl v1)] ⟨rfl, ⟨rfl, trivial⟩⟩ (Nat.le_of_ble_eq_true rfl) ?_
  refine aw_aload_n (pc' := 1) (i := 0) hC dX9_refuses_0 rfl rfl rfl ?_
  obtain ⟨g1, h⟩ := gd_s h
  refine aw_getfield (pc' := 4) (v := (.inr (.inr (M v0 47)))) hC dX9_refuses_1 rfl fl_X9_156 g1 rfl ?_
  refine aw_iload_n (pc' := 5) (i := 1) hC dX9_refuses_4 rfl rfl rfl ?_
  refine aw_dup2 (pc' := 6) hC dX9_refuses_5 rfl rfl rfl ?_
  obtain ⟨g2, h⟩ := gd_s h
  refine aw_iaload (pc' := 7) hC dX9_refuses_6 rfl g2 ?_
  refine aw_iconst (pc' := 8) hC dX9_refuses_7 rfl (by decide) ?_
  refine aw_iadd (pc' := 9) hC dX9_refuses_8 rfl  ?_
  obtain ⟨M3, e4, h⟩ := bd_s h
  refine aw_ias (pc' := 10) hC dX9_refuses_9 rfl g2 e4 ?_
  refine aw_iconst (pc' := 11) hC dX9_refuses_10 rfl (by decide) ?_
  cases h
  exact aw_iret hC dX9_refuses_11 (Nat.le_of_ble_eq_true rfl) (Nat.le_of_ble_eq_true rfl)
-- CoinCircleModel.feed(IIIII)I
def fX9_feed (sh : AwS) (M : AwM) (v0 : Int) (v1 : Int) (v2 : Int) (v3 : Int) (v4 : Int) (v5 : Int) : Option (Int × AwM) :=
  gd_ (kd_ sh v0 = (0, 9)) ((if 1600 < (w32 ((M v0 1) + 20)) then pb (fX9_refuses sh M v0 0) <| u2 fun (x14 : Int) (M15 : AwM) => (some (x14, M15)) else pb (fX9_put sh M v0 v1) <| u1 fun (M4 : AwM) => (pb (fX9_put sh M4 v0 v2) <| u1 fun (M6 : AwM) => (pb (fX9_put sh M6 v0 v3) <| u1 fun (M8 : AwM) => (pb (fX9_put sh M8 v0 v4) <| u1 fun (M10 : AwM) => (pb (fX9_put sh M10 v0 v5) <| u1 fun (M12 : AwM) => (some ((M12 v0 1), M12))))))))
set_option maxRecDepth 100000 in
set_option maxHeartbeats 4000000 in
theorem mX9_feed {sh : AwS} {M : AwM} {v0 : Int} {v1 : Int} {v2 : Int} {v3 : Int} {v4 : Int} {v5 : Int} {r : Int} {M' : AwM} (h : fX9_feed sh M v0 v1 v2 v3 v4 v5 = some (r, M')) : AMet yX9_feed cX9_feed 6 (some .int) 2 0 0 [.inr (.inr v0), .inl v1, .inl v2, .inl v3, .inl v4, .inl v5] sh M (some (.inl r)) sh M' := by
  refine amet_of (by decide +kernel) (Nat.le_of_ble_eq_true rfl) (fun Γ hC => ?_)
  replace hC : AOK Γ RX9 cX9_feed 6 2 0 0 "feed" (some .int) := hC
  unfold fX9_feed at h
  refine aw_sub hC [some (.inr (.inr v0)), some (.inl v1), some (.inl v2), some (.inl v3), some (.inl v4), some (.inl v5)] ⟨rfl, ⟨rfl, ⟨rfl, ⟨rfl, ⟨rfl, ⟨rfl, trivial⟩⟩⟩⟩⟩⟩ (Nat.le_of_ble_eq_true rfl) ?_
  refine aw_aload_n (pc' := 1) (i := 0) hC dX9_feed_0 rfl rfl rfl ?_
  obtain ⟨g1, h⟩ := gd_s h
  refine aw_getfield (pc' := 4) (v := (.inl (M v0 1))) hC dX9_feed_1 rfl fl_X9_13 g1 rfl ?_
  refine aw_bipush (pc' := 6) hC dX9_feed_4 rfl (by decide) ?_
  refine aw_iadd (pc' := 7) hC dX9_feed_6 rfl  ?_
  refine aw_sipush (pc' := 10) hC dX9_feed_7 rfl (by decide) ?_
  refine aw_icmp_le (tgt := 19) (pc' := 13) hC dX9_feed_10 (by decide) rfl (fun c2 => ?_) (fun c2 => ?_)
  · replace h := it_n c2 h
    refine aw_aload_n (pc' := 20) (i := 0) hC dX9_feed_19 rfl rfl rfl ?_
    refine aw_iload_n (pc' := 21) (i := 1) hC dX9_feed_20 rfl rfl rfl ?_
    obtain ⟨M4, q3, h⟩ := pb_s h
    replace h := u1_s h
    refine aw_cV (pc' := 24) (k2 := 0) (n2 := 0) (st := []) (stN := []) hC [.inl v1] (mX9_put q3) lk_X9_232 g1 dX9_feed_21 rfl rfl (Nat.le_of_ble_eq_true rfl) (Nat.le_of_ble_eq_true rfl) (Nat.le_of_ble_eq_true rfl) rfl (Nat.le_of_ble_eq_true rfl) rfl rfl rfl ?_
    refine aw_aload_n (pc' := 25) (i := 0) hC dX9_feed_24 rfl rfl rfl ?_
    refine aw_iload_n (pc' := 26) (i := 2) hC dX9_feed_25 rfl rfl rfl ?_
    obtain ⟨M6, q5, h⟩ := pb_s h
    replace h := u1_s h
    refine aw_cV (pc' := 29) (k2 := 0) (n2 := 0) (st := []) (stN := []) hC [.inl v2] (mX9_put q5) lk_X9_232 g1 dX9_feed_26 rfl rfl (Nat.le_of_ble_eq_true rfl) (Nat.le_of_ble_eq_true rfl) (Nat.le_of_ble_eq_true rfl) rfl (Nat.le_of_ble_eq_true rfl) rfl rfl rfl ?_
    refine aw_aload_n (pc' := 30) (i := 0) hC dX9_feed_29 rfl rfl rfl ?_
    refine aw_iload_n (pc' := 31) (i := 3) hC dX9_feed_30 rfl rfl rfl ?_
    obtain ⟨M8, q7, h⟩ := pb_s h
    replace h := u1_s h
    refine aw_cV (pc' := 34) (k2 := 0) (n2 := 0) (st := []) (stN := []) hC [.inl v3] (mX9_put q7) lk_X9_232 g1 dX9_feed_31 rfl rfl (Nat.le_of_ble_eq_true rfl) (Nat.le_of_ble_eq_true rfl) (Nat.le_of_ble_eq_true rfl) rfl (Nat.le_of_ble_eq_true rfl) rfl rfl rfl ?_
    refine aw_aload_n (pc' := 35) (i := 0) hC dX9_feed_34 rfl rfl rfl ?_
    refine aw_iload (pc' := 37) hC dX9_feed_35 rfl rfl ?_
    obtain ⟨M10, q9, h⟩ := pb_s h
    replace h := u1_s h
    refine aw_cV (pc' := 40) (k2 := 0) (n2 := 0) (st := []) (stN := []) hC [.inl v4] (mX9_put q9) lk_X9_232 g1 dX9_feed_37 rfl rfl (Nat.le_of_ble_eq_true rfl) (Nat.le_of_ble_eq_true rfl) (Nat.le_of_ble_eq_true rfl) rfl (Nat.le_of_ble_eq_true rfl) rfl rfl rfl ?_
    refine aw_aload_n (pc' := 41) (i := 0) hC dX9_feed_40 rfl rfl rfl ?_
    refine aw_iload (pc' := 43) hC dX9_feed_41 rfl rfl ?_
    obtain ⟨M12, q11, h⟩ := pb_s h
    replace h := u1_s h
    refine aw_cV (pc' := 46) (k2 := 0) (n2 := 0) (st := []) (stN := []) hC [.inl v5] (mX9_put q11) lk_X9_232 g1 dX9_feed_43 rfl rfl (Nat.le_of_ble_eq_true rfl) (Nat.le_of_ble_eq_true rfl) (Nat.le_of_ble_eq_true rfl) rfl (Nat.le_of_ble_eq_true rfl) rfl rfl rfl ?_
    refine aw_aload_n (pc' := 47) (i := 0) hC dX9_feed_46 rfl rfl rfl ?_
    refine aw_getfield (pc' := 50) (v := (.inl (M12 v0 1))) hC dX9_feed_47 rfl fl_X9_13 g1 rfl ?_
    cases h
    exact aw_iret hC dX9_feed_50 (Nat.le_of_ble_eq_true rfl) (Nat.le_of_ble_eq_true rfl)
  · replace h := it_p c2 h
    refine aw_aload_n (pc' := 14) (i := 0) hC dX9_feed_13 rfl rfl rfl ?_
    refine aw_iconst (pc' := 15) hC dX9_feed_14 rfl (by decide) ?_
    obtain ⟨⟨x14, M15⟩, q13, h⟩ := pb_s h
    replace h := u2_s h
    refine aw_cV (pc' := 18) (k2 := 0) (n2 := 0) (st := []) (stN := [.inl x14]) hC [.inl 0] (mX9_refuses q13) lk_X9_228 g1 dX9_feed_15 rfl rfl (Nat.le_of_ble_eq_true rfl) (Nat.le_of_ble_eq_true rfl) (Nat.le_of_ble_eq_true rfl) rfl (Nat.le_of_ble_eq_true rfl) rfl rfl rfl ?_
    cases h
    exact aw_iret hC dX9_feed_18 (Nat.le_of_ble_eq_true rfl) (Nat.le_of_ble_eq_true rfl)
-- CoinCircleModel.end(I)Z
def fX9_end (sh : AwS) (M : AwM) (v0 : Int) (v1 : Int) : Option (Int × AwM) :=
  (if v1 < 0 then gd_ (kd_ sh v0 = (0, 9)) (pb (fX9_refuses sh M v0 0) <| u2 fun (x4 : Int) (M5 : AwM) => ((if x4 < 0 then some (0, M5) else some (1, M5)))) else gd_ (kd_ sh v0 = (0, 9)) ((if (M v0 1) < v1 then pb (fX9_refuses sh M v0 0) <| u2 fun (x12 : Int) (M13 : AwM) => ((if x12 < 0 then some (0, M13) else some (1, M13))) else bd_ (up_ M v0 1 v1) fun (M9 : AwM) => (some (1, M9)))))
set_option maxRecDepth 100000 in
set_option maxHeartbeats 4000000 in
theorem mX9_end {sh : AwS} {M : AwM} {v0 : Int} {v1 : Int} {r : Int} {M' : AwM} (h : fX9_end sh M v0 v1 = some (r, M')) : AMet yX9_end cX9_end 2 (some .boolean) 2 0 0 [.inr (.inr v0), .inl v1] sh M (some (.inl r)) sh M' := by
  refine amet_of (by decide +kernel) (Nat.le_of_ble_eq_true rfl) (fun Γ hC => ?_)
  replace hC : AOK Γ RX9 cX9_end 2 2 0 0 "end" (some .boolean) := hC
  unfold fX9_end at h
  refine aw_sub hC [some (.inr (.inr v0)), some (.inl v1)] ⟨rfl, ⟨rfl, trivial⟩⟩ (Nat.le_of_ble_eq_true rfl) ?_
  refine aw_iload_n (pc' := 1) (i := 1) hC dX9_end_0 rfl rfl rfl ?_
  refine aw_if_lt (tgt := 12) (pc' := 4) hC dX9_end_1 (by decide) rfl (fun c1 => ?_) (fun c1 => ?_)
  · replace h := it_p c1 h
    refine aw_aload_n (pc' := 13) (i := 0) hC dX9_end_12 rfl rfl rfl ?_
    refine aw_iconst (pc' := 14) hC dX9_end_13 rfl (by decide) ?_
    obtain ⟨g3, h⟩ := gd_s h
    obtain ⟨⟨x4, M5⟩, q2, h⟩ := pb_s h
    replace h := u2_s h
    refine aw_cV (pc' := 17) (k2 := 0) (n2 := 0) (st := []) (stN := [.inl x4]) hC [.inl 0] (mX9_refuses q2) lk_X9_228 g3 dX9_end_14 rfl rfl (Nat.le_of_ble_eq_true rfl) (Nat.le_of_ble_eq_true rfl) (Nat.le_of_ble_eq_true rfl) rfl (Nat.le_of_ble_eq_true rfl) rfl rfl rfl ?_
    refine aw_if_lt (tgt := 24) (pc' := 20) hC dX9_end_17 (by decide) rfl (fun c6 => ?_) (fun c6 => ?_)
    · replace h := it_p c6 h
      refine aw_iconst (pc' := 25) hC dX9_end_24 rfl (by decide) ?_
      cases h
      exact aw_zret hC (Or.inl rfl) dX9_end_25 (Nat.le_of_ble_eq_true rfl) (Nat.le_of_ble_eq_true rfl)
    · replace h := it_n c6 h
      refine aw_iconst (pc' := 21) hC dX9_end_20 rfl (by decide) ?_
      refine aw_goto (tgt := 25) hC dX9_end_21 (by decide) ?_
      cases h
      exact aw_zret hC (Or.inr rfl) dX9_end_25 (Nat.le_of_ble_eq_true rfl) (Nat.le_of_ble_eq_true rfl)
  · replace h := it_n c1 h
    refine aw_iload_n (pc' := 5) (i := 1) hC dX9_end_4 rfl rfl rfl ?_
    refine aw_aload_n (pc' := 6) (i := 0) hC dX9_end_5 rfl rfl rfl ?_
    obtain ⟨g7, h⟩ := gd_s h
    refine aw_getfield (pc' := 9) (v := (.inl (M v0 1))) hC dX9_end_6 rfl fl_X9_13 g7 rfl ?_
    refine aw_icmp_le (tgt := 26) (pc' := 12) hC dX9_end_9 (by decide) rfl (fun c8 => ?_) (fun c8 => ?_)
    · replace h := it_n c8 h
      refine aw_aload_n (pc' := 27) (i := 0) hC dX9_end_26 rfl rfl rfl ?_
      refine aw_iload_n (pc' := 28) (i := 1) hC dX9_end_27 rfl rfl rfl ?_
      obtain ⟨M9, e10, h⟩ := bd_s h
      refine aw_pf (pc' := 31) hC dX9_end_28 rfl fp_X9_13 g7 rfl trivial e10 ?_
      refine aw_iconst (pc' := 32) hC dX9_end_31 rfl (by decide) ?_
      cases h
      exact aw_zret hC (Or.inr rfl) dX9_end_32 (Nat.le_of_ble_eq_true rfl) (Nat.le_of_ble_eq_true rfl)
    · replace h := it_p c8 h
      refine aw_aload_n (pc' := 13) (i := 0) hC dX9_end_12 rfl rfl rfl ?_
      refine aw_iconst (pc' := 14) hC dX9_end_13 rfl (by decide) ?_
      obtain ⟨⟨x12, M13⟩, q11, h⟩ := pb_s h
      replace h := u2_s h
      refine aw_cV (pc' := 17) (k2 := 0) (n2 := 0) (st := []) (stN := [.inl x12]) hC [.inl 0] (mX9_refuses q11) lk_X9_228 g7 dX9_end_14 rfl rfl (Nat.le_of_ble_eq_true rfl) (Nat.le_of_ble_eq_true rfl) (Nat.le_of_ble_eq_true rfl) rfl (Nat.le_of_ble_eq_true rfl) rfl rfl rfl ?_
      refine aw_if_lt (tgt := 24) (pc' := 20) hC dX9_end_17 (by decide) rfl (fun c14 => ?_) (fun c14 => ?_)
      · replace h := it_p c14 h
        refine aw_iconst (pc' := 25) hC dX9_end_24 rfl (by decide) ?_
        cases h
        exact aw_zret hC (Or.inl rfl) dX9_end_25 (Nat.le_of_ble_eq_true rfl) (Nat.le_of_ble_eq_true rfl)
      · replace h := it_n c14 h
        refine aw_iconst (pc' := 21) hC dX9_end_20 rfl (by decide) ?_
        refine aw_goto (tgt := 25) hC dX9_end_21 (by decide) ?_
        cases h
        exact aw_zret hC (Or.inr rfl) dX9_end_25 (Nat.le_of_ble_eq_true rfl) (Nat.le_of_ble_eq_true rfl)
