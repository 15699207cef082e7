-- CoinCircleModel.begin()V
def fX9_begin_L19 (sh : AwS) (v0 : Int) (v1 : Int) (M : AwM) : Option ((Int × AwM) ⊕ (AwM)) :=
  (if v1 < 12 then gd_ (kd_ sh v0 = (0, 9)) (gd_ ((kd_ sh (M v0 18)).1 = 1 ∧ (0 : Int) ≤ (w32 ((w32 (12 * (M v0 13))) + v1)) ∧ (w32 ((w32 (12 * (M v0 13))) + v1)) < ((kd_ sh (M v0 18)).2 : Int)) (gd_ ((kd_ sh (M v0 49)).1 = 1 ∧ (0 : Int) ≤ v1 ∧ v1 < ((kd_ sh (M v0 49)).2 : Int)) (bd_ (up_ M (M v0 49) v1 (M (M v0 18) (w32 ((w32 (12 * (M v0 13))) + v1)))) fun (M13 : AwM) => (gd_ ((kd_ sh (M13 v0 19)).1 = 1 ∧ (0 : Int) ≤ (w32 ((w32 (12 * (M13 v0 13))) + v1)) ∧ (w32 ((w32 (12 * (M13 v0 13))) + v1)) < ((kd_ sh (M13 v0 19)).2 : Int)) (gd_ ((kd_ sh (M13 v0 50)).1 = 1 ∧ (0 : Int) ≤ v1 ∧ v1 < ((kd_ sh (M13 v0 50)).2 : Int)) (bd_ (up_ M13 (M13 v0 50) v1 (M13 (M13 v0 19) (w32 ((w32 (12 * (M13 v0 13))) + v1)))) fun (M17 : AwM) => (gd_ ((kd_ sh (M17 v0 20)).1 = 1 ∧ (0 : Int) ≤ (w32 ((w32 (12 * (M17 v0 13))) + v1)) ∧ (w32 ((w32 (12 * (M17 v0 13))) + v1)) < ((kd_ sh (M17 v0 20)).2 : Int)) (gd_ ((kd_ sh (M17 v0 51)).1 = 1 ∧ (0 : Int) ≤ v1 ∧ v1 < ((kd_ sh (M17 v0 51)).2 : Int)) (bd_ (up_ M17 (M17 v0 51) v1 (M17 (M17 v0 20) (w32 ((w32 (12 * (M17 v0 13))) + v1)))) fun (M21 : AwM) => (some (.inl ((w32 (v1 + 1)), M21)))))))))))) else some (.inr M))
def p_X9_begin_L19 (Γ : AwC) (sh : AwS) (v0 : Int) (Q : State → Prop) (s : Int × AwM) : Prop := AW Γ sh (s.2) 0 0 19 [some (.inr (.inr v0)), some (.inl (s.1))] [] Q
def x_X9_begin_L19 (Γ : AwC) (sh : AwS) (v0 : Int) (Q : State → Prop) : (AwM) → Prop := (fun (t : AwM) => AW Γ sh (t) 0 0 91 [some (.inr (.inr v0)), none] [] Q)
def fX9_begin_L93 (sh : AwS) (v0 : Int) (v1 : Int) (M : AwM) : Option ((Int × AwM) ⊕ (AwM)) :=
  (if v1 < 120 then gd_ (kd_ sh v0 = (0, 9)) (gd_ ((kd_ sh (M v0 52)).1 = 1 ∧ (0 : Int) ≤ v1 ∧ v1 < ((kd_ sh (M v0 52)).2 : Int)) (bd_ (up_ M (M v0 52) v1 0) fun (M27 : AwM) => (some (.inl ((w32 (v1 + 1)), M27))))) else some (.inr M))
def p_X9_begin_L93 (Γ : AwC) (sh : AwS) (v0 : Int) (Q : State → Prop) (s : Int × AwM) : Prop := AW Γ sh (s.2) 0 0 93 [some (.inr (.inr v0)), some (.inl (s.1))] [] Q
def x_X9_begin_L93 (Γ : AwC) (sh : AwS) (v0 : Int) (Q : State → Prop) : (AwM) → Prop := (fun (t : AwM) => AW Γ sh (t) 0 0 112 [none, none] [] Q)
def fX9_begin (sh : AwS) (M : AwM) (v0 : Int) : Option (AwM) :=
  gd_ (kd_ sh v0 = (0, 9)) (gd_ ((kd_ sh (M v0 48)).1 = 1 ∧ (0 : Int) ≤ 0 ∧ 0 < ((kd_ sh (M v0 48)).2 : Int)) (bd_ (up_ M (M v0 48) 0 0) fun (M3 : AwM) => (bd_ (up_ M3 v0 54 0) fun (M5 : AwM) => (bd_ (up_ M5 v0 67 0) fun (M7 : AwM) => (pb (lp (u2 (fX9_begin_L19 sh v0)) FU (0, M7)) (u1 (fun (tq23 : AwM) => pb (lp (u2 (fX9_begin_L93 sh v0)) FU (0, tq23)) (u1 (fun (tq29 : AwM) => some tq29)))))))))
set_option maxRecDepth 100000 in
set_option maxHeartbeats 4000000 in
theorem w_X9_begin_L19 {Γ : AwC} (hC : AOK Γ RX9 cX9_begin 2 1 0 0 "begin" none) {sh : AwS} {v0 : Int} {Q : State → Prop} : ∀ s r, u2 (fX9_begin_L19 sh v0) s = some r → (∀ s', r = .inl s' → p_X9_begin_L19 Γ sh v0 Q s') → (∀ t, r = .inr t → x_X9_begin_L19 Γ sh v0 Q t) → p_X9_begin_L19 Γ sh v0 Q s := by
  intro s r h hL hX
  obtain ⟨v1, M⟩ := s
  replace h := u2_s h
  unfold fX9_begin_L19 at h
  show AW Γ sh M 0 0 19 [some (.inr (.inr v0)), some (.inl v1)] [] Q
  refine aw_iload_n (pc' := 20) (i := 1) hC dX9_begin_19 rfl rfl rfl ?_
  refine aw_bipush (pc' := 22) hC dX9_begin_20 rfl (by decide) ?_
  refine aw_icmp_ge (tgt := 91) (pc' := 25) hC dX9_begin_22 (by decide) rfl (fun c9 => ?_) (fun c9 => ?_)
  · replace h := it_n c9 h
    refine aw_sub hC [some (.inr (.inr v0)), none] ⟨rfl, trivial⟩ (Nat.le_of_ble_eq_true rfl) ?_
    cases h
    exact hX _ rfl
  · replace h := it_p c9 h
    refine aw_aload_n (pc' := 26) (i := 0) hC dX9_begin_25 rfl rfl rfl ?_
    obtain ⟨g10, h⟩ := gd_s h
    refine aw_getfield (pc' := 29) (v := (.inr (.inr (M v0 49)))) hC dX9_begin_26 rfl fl_X9_162 g10 rfl ?_
    refine aw_iload_n (pc' := 30) (i := 1) hC dX9_begin_29 rfl rfl rfl ?_
    refine aw_aload_n (pc' := 31) (i := 0) hC dX9_begin_30 rfl rfl rfl ?_
    refine aw_getfield (pc' := 34) (v := (.inr (.inr (M v0 18)))) hC dX9_begin_31 rfl fl_X9_66 g10 rfl ?_
    refine aw_bipush (pc' := 36) hC dX9_begin_34 rfl (by decide) ?_
    refine aw_aload_n (pc' := 37) (i := 0) hC dX9_begin_36 rfl rfl rfl ?_
    refine aw_getfield (pc' := 40) (v := (.inl (M v0 13))) hC dX9_begin_37 rfl fl_X9_51 g10 rfl ?_
    refine aw_imul (pc' := 41) hC dX9_begin_40 rfl  ?_
    refine aw_iload_n (pc' := 42) (i := 1) hC dX9_begin_41 rfl rfl rfl ?_
    refine aw_iadd (pc' := 43) hC dX9_begin_42 rfl  ?_
    obtain ⟨g11, h⟩ := gd_s h
    refine aw_iaload (pc' := 44) hC dX9_begin_43 rfl g11 ?_
    obtain ⟨g12, h⟩ := gd_s h
    obtain ⟨M13, e14, h⟩ := bd_s h
    refine aw_ias (pc' := 45) hC dX9_begin_44 rfl g12 e14 ?_
    refine aw_aload_n (pc' := 46) (i := 0) hC dX9_begin_45 rfl rfl rfl ?_
    refine aw_getfield (pc' := 49) (v := (.inr (.inr (M13 v0 50)))) hC dX9_begin_46 rfl fl_X9_165 g10 rfl ?_
    refine aw_iload_n (pc' := 50) (i := 1) hC dX9_begin_49 rfl rfl rfl ?_
    refine aw_aload_n (pc' := 51) (i := 0) hC dX9_begin_50 rfl rfl rfl ?_
    refine aw_getfield (pc' := 54) (v := (.inr (.inr (M13 v0 19)))) hC dX9_begin_51 rfl fl_X9_69 g10 rfl ?_
    refine aw_bipush (pc' := 56) hC dX9_begin_54 rfl (by decide) ?_
    refine aw_aload_n (pc' := 57) (i := 0) hC dX9_begin_56 rfl rfl rfl ?_
    refine aw_getfield (pc' := 60) (v := (.inl (M13 v0 13))) hC dX9_begin_57 rfl fl_X9_51 g10 rfl ?_
    refine aw_imul (pc' := 61) hC dX9_begin_60 rfl  ?_
    refine aw_iload_n (pc' := 62) (i := 1) hC dX9_begin_61 rfl rfl rfl ?_
    refine aw_iadd (pc' := 63) hC dX9_begin_62 rfl  ?_
    obtain ⟨g15, h⟩ := gd_s h
    refine aw_iaload (pc' := 64) hC dX9_begin_63 rfl g15 ?_
    obtain ⟨g16, h⟩ := gd_s h
    obtain ⟨M17, e18, h⟩ := bd_s h
    refine aw_ias (pc' := 65) hC dX9_begin_64 rfl g16 e18 ?_
    refine aw_aload_n (pc' := 66) (i := 0) hC dX9_begin_65 rfl rfl rfl ?_
    refine aw_getfield (pc' := 69) (v := (.inr (.inr (M17 v0 51)))) hC dX9_begin_66 rfl fl_X9_168 g10 rfl ?_
    refine aw_iload_n (pc' := 70) (i := 1) hC dX9_begin_69 rfl rfl rfl ?_
    refine aw_aload_n (pc' := 71) (i := 0) hC dX9_begin_70 rfl rfl rfl ?_
    refine aw_getfield (pc' := 74) (v := (.inr (.inr (M17 v0 20)))) hC dX9_begin_71 rfl fl_X9_72 g10 rfl ?_
    refine aw_bipush (pc' := 76) hC dX9_begin_74 rfl (by decide) ?_
    refine aw_aload_n (pc' := 77) (i := 0) hC dX9_begin_76 rfl rfl rfl ?_
    refine aw_getfield (pc' := 80) (v := (.inl (M17 v0 13))) hC dX9_begin_77 rfl fl_X9_51 g10 rfl ?_
    refine aw_imul (pc' := 81) hC dX9_begin_80 rfl  ?_
    refine aw_iload_n (pc' := 82) (i := 1) hC dX9_begin_81 rfl rfl rfl ?_
    refine aw_iadd (pc' := 83) hC dX9_begin_82 rfl  ?_
    obtain ⟨g19, h⟩ := gd_s h
    refine aw_iaload (pc' := 84) hC dX9_begin_83 rfl g19 ?_
    obtain ⟨g20, h⟩ := gd_s h
    obtain ⟨M21, e22, h⟩ := bd_s h
    refine aw_ias (pc' := 85) hC dX9_begin_84 rfl g20 e22 ?_
    refine aw_iinc (pc' := 88) (ls' := [some (.inr (.inr v0)), some (.inl (w32 (v1 + 1)))]) hC dX9_begin_85 rfl rfl rfl rfl ?_
    refine aw_goto (tgt := 19) hC dX9_begin_88 (by decide) ?_
    refine aw_sub hC [some (.inr (.inr v0)), some (.inl (w32 (v1 + 1)))] ⟨rfl, ⟨rfl, trivial⟩⟩ (Nat.le_of_ble_eq_true rfl) ?_
    cases h
    exact hL _ rfl
set_option maxRecDepth 100000 in
set_option maxHeartbeats 4000000 in
theorem w_X9_begin_L93 {Γ : AwC} (hC : AOK Γ RX9 cX9_begin 2 1 0 0 "begin" none) {sh : AwS} {v0 : Int} {Q : State → Prop} : ∀ s r, u2 (fX9_begin_L93 sh v0) s = some r → (∀ s', r = .inl s' → p_X9_begin_L93 Γ sh v0 Q s') → (∀ t, r = .inr t → x_X9_begin_L93 Γ sh v0 Q t) → p_X9_begin_L93 Γ sh v0 Q s := by
  intro s r h hL hX
  obtain ⟨v1, M⟩ := s
  replace h := u2_s h
  unfold fX9_begin_L93 at h
  show AW Γ sh M 0 0 93 [some (.inr (.inr v0)), some (.inl v1)] [] Q
  refine aw_iload_n (pc' := 94) (i := 1) hC dX9_begin_93 rfl rfl rfl ?_
  refine aw_bipush (pc' := 96) hC dX9_begin_94 rfl (by decide) ?_
  refine aw_icmp_ge (tgt := 112) (pc' := 99) hC dX9_begin_96 (by decide) rfl (fun c24 => ?_) (fun c24 => ?_)
  · replace h := it_n c24 h
    refine aw_sub hC [none, none] trivial (Nat.le_of_ble_eq_true rfl) ?_
    cases h
    exact hX _ rfl
  · replace h := it_p c24 h
    refine aw_aload_n (pc' := 100) (i := 0) hC dX9_begin_99 rfl rfl rfl ?_
    obtain ⟨g25, h⟩ := gd_s h
    refine aw_getfield (pc' := 103) (v := (.inr (.inr (M v0 52)))) hC dX9_begin_100 rfl fl_X9_171 g25 rfl ?_
    refine aw_iload_n (pc' := 104) (i := 1) hC dX9_begin_103 rfl rfl rfl ?_
    refine aw_iconst (pc' := 105) hC dX9_begin_104 rfl (by decide) ?_
    obtain ⟨g26, h⟩ := gd_s h
    obtain ⟨M27, e28, h⟩ := bd_s h
    refine aw_ias (pc' := 106) hC dX9_begin_105 rfl g26 e28 ?_
    refine aw_iinc (pc' := 109) (ls' := [some (.inr (.inr v0)), some (.inl (w32 (v1 + 1)))]) hC dX9_begin_106 rfl rfl rfl rfl ?_
    refine aw_goto (tgt := 93) hC dX9_begin_109 (by decide) ?_
    refine aw_sub hC [some (.inr (.inr v0)), some (.inl (w32 (v1 + 1)))] ⟨rfl, ⟨rfl, trivial⟩⟩ (Nat.le_of_ble_eq_true rfl) ?_
    cases h
    exact hL _ rfl
set_option maxRecDepth 100000 in
set_option maxHeartbeats 4000000 in
theorem mX9_begin {sh : AwS} {M : AwM} {v0 : Int} {M' : AwM} (h : fX9_begin sh M v0 = some M') : AMet yX9_begin cX9_begin 2 none 1 0 0 [.inr (.inr v0)] sh M none sh M' := by
  refine amet_of (by decide +kernel) (Nat.le_of_ble_eq_true rfl) (fun Γ hC => ?_)
  replace hC : AOK Γ RX9 cX9_begin 2 1 0 0 "begin" none := hC
  unfold fX9_begin at h
  refine aw_sub hC [some (.inr (.inr v0)), none] ⟨rfl, trivial⟩ (Nat.le_of_ble_eq_true rfl) ?_
  refine aw_aload_n (pc' := 1) (i := 0) hC dX9_begin_0 rfl rfl rfl ?_
  obtain ⟨g1, h⟩ := gd_s h
  refine aw_getfield (pc' := 4) (v := (.inr (.inr (M v0 48)))) hC dX9_begin_1 rfl fl_X9_159 g1 rfl ?_
  refine aw_iconst (pc' := 5) hC dX9_begin_4 rfl (by decide) ?_
  refine aw_iconst (pc' := 6) hC dX9_begin_5 rfl (by decide) ?_
  obtain ⟨g2, h⟩ := gd_s h
  obtain ⟨M3, e4, h⟩ := bd_s h
  refine aw_ias (pc' := 7) hC dX9_begin_6 rfl g2 e4 ?_
  refine aw_aload_n (pc' := 8) (i := 0) hC dX9_begin_7 rfl rfl rfl ?_
  refine aw_iconst (pc' := 9) hC dX9_begin_8 rfl (by decide) ?_
  obtain ⟨M5, e6, h⟩ := bd_s h
  refine aw_pf (pc' := 12) hC dX9_begin_9 rfl fp_X9_177 g1 rfl trivial e6 ?_
  refine aw_aload_n (pc' := 13) (i := 0) hC dX9_begin_12 rfl rfl rfl ?_
  refine aw_iconst (pc' := 14) hC dX9_begin_13 rfl (by decide) ?_
  obtain ⟨M7, e8, h⟩ := bd_s h
  refine aw_pf (pc' := 17) hC dX9_begin_14 rfl fp_X9_216 g1 rfl trivial e8 ?_
  refine aw_iconst (pc' := 18) hC dX9_begin_17 rfl (by decide) ?_
  refine aw_istore_n (pc' := 19) (i := 1) (ls' := [some (.inr (.inr v0)), some (.inl 0)]) hC dX9_begin_18 rfl rfl (Nat.le_of_ble_eq_true rfl) rfl rfl ?_
  obtain ⟨tq23, q23, h⟩ := pb_s h
  refine aw_sub hC [some (.inr (.inr v0)), some (.inl 0)] ⟨rfl, ⟨rfl, trivial⟩⟩ (Nat.le_of_ble_eq_true rfl) ?_
  refine (lp_aw (p_X9_begin_L19 Γ sh v0 (fin_ Γ 0 0 none sh M')) (x_X9_begin_L19 Γ sh v0 (fin_ Γ 0 0 none sh M')) (w_X9_begin_L19 hC ) FU _ _ q23 ?_ : p_X9_begin_L19 Γ sh v0 (fin_ Γ 0 0 none sh M') (0, M7))
  replace h := u1_s h
  show AW Γ sh tq23 0 0 91 [some (.inr (.inr v0)), none] [] _
  refine aw_iconst (pc' := 92) hC dX9_begin_91 rfl (by decide) ?_
  refine aw_istore_n (pc' := 93) (i := 1) (ls' := [some (.inr (.inr v0)), some (.inl 0)]) hC dX9_begin_92 rfl rfl (Nat.le_of_ble_eq_true rfl) rfl rfl ?_
  obtain ⟨tq29, q29, h⟩ := pb_s h
  refine aw_sub hC [some (.inr (.inr v0)), some (.inl 0)] ⟨rfl, ⟨rfl, trivial⟩⟩ (Nat.le_of_ble_eq_true rfl) ?_
  refine (lp_aw (p_X9_begin_L93 Γ sh v0 (fin_ Γ 0 0 none sh M')) (x_X9_begin_L93 Γ sh v0 (fin_ Γ 0 0 none sh M')) (w_X9_begin_L93 hC ) FU _ _ q29 ?_ : p_X9_begin_L93 Γ sh v0 (fin_ Γ 0 0 none sh M') (0, tq23))
  replace h := u1_s h
  show AW Γ sh tq29 0 0 112 [none, none] [] _
  cases h
  exact aw_vret hC dX9_begin_112 (Nat.le_of_ble_eq_true rfl) (Nat.le_of_ble_eq_true rfl)
-- CoinCircleModel.society()I
def fX9_society_L119 (sh : AwS) (v0 : Int) (v1 : Int) (M : AwM) : Option ((Int × AwM) ⊕ (Int × AwM)) :=
  gd_ (kd_ sh v0 = (0, 9)) ((if (M v0 8) = 0 then (if (M v0 3) = 0 then some (.inr (v1, M)) else pb (fX9_statement sh M v0) <| u1 fun (M43 : AwM) => (pb (fX9_finishes sh M43 v0 (w32 (v1 + 1))) <| u1 fun (M45 : AwM) => (some (.inl ((w32 (v1 + 1)), M45))))) else some (.inr (v1, M))))
def p_X9_society_L119 (Γ : AwC) (sh : AwS) (v0 : Int) (Q : State → Prop) (s : Int × AwM) : Prop := AW Γ sh (s.2) 0 0 119 [some (.inr (.inr v0)), some (.inl (s.1))] [] Q
def x_X9_society_L119 (Γ : AwC) (sh : AwS) (v0 : Int) (Q : State → Prop) : (Int × AwM) → Prop := (fun (t : Int × AwM) => AW Γ sh (t.2) 0 0 148 [some (.inr (.inr v0)), some (.inl (t.1))] [] Q)
def fX9_society_J148 (sh : AwS) (M : AwM) (v0 : Int) (v1 : Int) : Option (Int × AwM) :=
  gd_ (kd_ sh v0 = (0, 9)) (bd_ (up_ M v0 10 (M v0 8)) fun (M50 : AwM) => (bd_ (up_ M50 v0 11 (M50 v0 9)) fun (M52 : AwM) => ((if 0 < (M52 v0 8) then pb (fX9_refuses sh M52 v0 1) <| u2 fun (x60 : Int) (M61 : AwM) => (some (x60, M61)) else bd_ (up_ M52 v0 13 (M52 v0 36)) fun (M55 : AwM) => (pb (fX9_begin sh M55 v0) <| u1 fun (M58 : AwM) => (some (v1, M58)))))))
def fX9_society (sh : AwS) (M : AwM) (v0 : Int) : Option (Int × AwM) :=
  gd_ (kd_ sh v0 = (0, 9)) (bd_ (up_ M v0 2 (M v0 1)) fun (M2 : AwM) => (bd_ (up_ M2 v0 1 0) fun (M4 : AwM) => (bd_ (up_ M4 v0 5 0) fun (M6 : AwM) => (bd_ (up_ M6 v0 8 0) fun (M8 : AwM) => (bd_ (up_ M8 v0 9 (-1)) fun (M10 : AwM) => (bd_ (up_ M10 v0 36 (w32 (1 - (M10 v0 13)))) fun (M12 : AwM) => (gd_ ((kd_ sh (M12 v0 14)).1 = 1 ∧ (0 : Int) ≤ (M12 v0 36) ∧ (M12 v0 36) < ((kd_ sh (M12 v0 14)).2 : Int)) (bd_ (up_ M12 (M12 v0 14) (M12 v0 36) 0) fun (M15 : AwM) => (gd_ ((kd_ sh (M15 v0 16)).1 = 1 ∧ (0 : Int) ≤ (M15 v0 36) ∧ (M15 v0 36) < ((kd_ sh (M15 v0 16)).2 : Int)) (bd_ (up_ M15 (M15 v0 16) (M15 v0 36) 0) fun (M18 : AwM) => (gd_ ((kd_ sh (M18 v0 21)).1 = 1 ∧ (0 : Int) ≤ (M18 v0 36) ∧ (M18 v0 36) < ((kd_ sh (M18 v0 21)).2 : Int)) (bd_ (up_ M18 (M18 v0 21) (M18 v0 36) 0) fun (M21 : AwM) => (gd_ ((kd_ sh (M21 v0 24)).1 = 1 ∧ (0 : Int) ≤ (M21 v0 36) ∧ (M21 v0 36) < ((kd_ sh (M21 v0 24)).2 : Int)) (bd_ (up_ M21 (M21 v0 24) (M21 v0 36) 0) fun (M24 : AwM) => (gd_ ((kd_ sh (M24 v0 25)).1 = 1 ∧ (0 : Int) ≤ (M24 v0 36) ∧ (M24 v0 36) < ((kd_ sh (M24 v0 25)).2 : Int)) (bd_ (up_ M24 (M24 v0 25) (M24 v0 36) 0) fun (M27 : AwM) => (gd_ ((kd_ sh (M27 v0 26)).1 = 1 ∧ (0 : Int) ≤ (M27 v0 36) ∧ (M27 v0 36) < ((kd_ sh (M27 v0 26)).2 : Int)) (bd_ (up_ M27 (M27 v0 26) (M27 v0 36) (-1)) fun (M30 : AwM) => (gd_ ((kd_ sh (M30 v0 28)).1 = 1 ∧ (0 : Int) ≤ (M30 v0 36) ∧ (M30 v0 36) < ((kd_ sh (M30 v0 28)).2 : Int)) (bd_ (up_ M30 (M30 v0 28) (M30 v0 36) (-1)) fun (M33 : AwM) => (bd_ (up_ M33 v0 35 0) fun (M35 : AwM) => (pb (fX9_ahead sh M35 v0) <| u1 fun (M38 : AwM) => (pb (lp (u2 (fX9_society_L119 sh v0)) FU (0, M38)) (u2 (fun (x47 : Int) (M48 : AwM) => fX9_society_J148 sh M48 v0 x47)))))))))))))))))))))))))
set_option maxRecDepth 100000 in
set_option maxHeartbeats 4000000 in
theorem w_X9_society_L119 {Γ : AwC} (hC : AOK Γ RX9 cX9_society 2 8 0 0 "society" (some .int)) {sh : AwS} {v0 : Int} {Q : State → Prop} : ∀ s r, u2 (fX9_society_L119 sh v0) s = some r → (∀ s', r = .inl s' → p_X9_society_L119 Γ sh v0 Q s') → (∀ t, r = .inr t → x_X9_society_L119 Γ sh v0 Q t) → p_X9_society_L119 Γ sh v0 Q s := by
  intro s r h hL hX
  obtain ⟨v1, M⟩ := s
  replace h := u2_s h
  unfold fX9_society_L119 at h
  show AW Γ sh M 0 0 119 [some (.inr (.inr v0)), some (.inl v1)] [] Q
  refine aw_aload_n (pc' := 120) (i := 0) hC dX9_society_119 rfl rfl rfl ?_
  obtain ⟨g39, h⟩ := gd_s h
  refine aw_getfield (pc' := 123) (v := (.inl (M v0 8))) hC dX9_society_120 rfl fl_X9_36 g39 rfl ?_
  refine aw_if_ne (tgt := 148) (pc' := 126) hC dX9_society_123 (by decide) rfl (fun c40 => ?_) (fun c40 => ?_)
  · replace h := it_n c40 h
    refine aw_sub hC [some (.inr (.inr v0)), some (.inl v1)] ⟨rfl, ⟨rfl, trivial⟩⟩ (Nat.le_of_ble_eq_true rfl) ?_
    cases h
    exact hX _ rfl
  · replace h := it_p c40 h
    refine aw_aload_n (pc' := 127) (i := 0) hC dX9_society_126 rfl rfl rfl ?_
    refine aw_getfield (pc' := 130) (v := (.inl (M v0 3))) hC dX9_society_127 rfl fl_X9_20 g39 rfl ?_
    refine aw_if_eq (tgt := 148) (pc' := 133) hC dX9_society_130 (by decide) rfl (fun c41 => ?_) (fun c41 => ?_)
    · replace h := it_p c41 h
      refine aw_sub hC [some (.inr (.inr v0)), some (.inl v1)] ⟨rfl, ⟨rfl, trivial⟩⟩ (Nat.le_of_ble_eq_true rfl) ?_
      cases h
      exact hX _ rfl
    · replace h := it_n c41 h
      refine aw_aload_n (pc' := 134) (i := 0) hC dX9_society_133 rfl rfl rfl ?_
      obtain ⟨M43, q42, h⟩ := pb_s h
      replace h := u1_s h
      refine aw_cV (pc' := 137) (k2 := 0) (n2 := 0) (st := []) (stN := []) hC [] (mX9_statement q42) lk_X9_404 g39 dX9_society_134 rfl rfl (Nat.le_of_ble_eq_true rfl) (Nat.le_of_ble_eq_true rfl) (Nat.le_of_ble_eq_true rfl) rfl (Nat.le_of_ble_eq_true rfl) rfl rfl rfl ?_
      refine aw_iinc (pc' := 140) (ls' := [some (.inr (.inr v0)), some (.inl (w32 (v1 + 1)))]) hC dX9_society_137 rfl rfl rfl rfl ?_
      refine aw_aload_n (pc' := 141) (i := 0) hC dX9_society_140 rfl rfl rfl ?_
      refine aw_iload_n (pc' := 142) (i := 1) hC dX9_society_141 rfl rfl rfl ?_
      obtain ⟨M45, q44, h⟩ := pb_s h
      replace h := u1_s h
      refine aw_cV (pc' := 145) (k2 := 0) (n2 := 0) (st := []) (stN := []) hC [.inl (w32 (v1 + 1))] (mX9_finishes q44) lk_X9_407 g39 dX9_society_142 rfl rfl (Nat.le_of_ble_eq_true rfl) (Nat.le_of_ble_eq_true rfl) (Nat.le_of_ble_eq_true rfl) rfl (Nat.le_of_ble_eq_true rfl) rfl rfl rfl ?_
      refine aw_goto (tgt := 119) hC dX9_society_145 (by decide) ?_
      refine aw_sub hC [some (.inr (.inr v0)), some (.inl (w32 (v1 + 1)))] ⟨rfl, ⟨rfl, trivial⟩⟩ (Nat.le_of_ble_eq_true rfl) ?_
      cases h
      exact hL _ rfl
set_option maxRecDepth 100000 in
set_option maxHeartbeats 4000000 in
theorem w_X9_society_J148 {Γ : AwC} (hC : AOK Γ RX9 cX9_society 2 8 0 0 "society" (some .int)) {sh : AwS} {M : AwM} {v0 : Int} {v1 : Int} {r : Int} {M' : AwM} (h : fX9_society_J148 sh M v0 v1 = some (r, M')) {Q : State → Prop} (hQ : Q = (fin_ Γ 0 0 (some (.inl r)) sh M')) : AW Γ sh M 0 0 148 [some (.inr (.inr v0)), some (.inl v1)] [] Q := by
  unfold fX9_society_J148 at h
  refine aw_aload_n (pc' := 149) (i := 0) hC dX9_society_148 rfl rfl rfl ?_
  refine aw_aload_n (pc' := 150) (i := 0) hC dX9_society_149 rfl rfl rfl ?_
  obtain ⟨g49, h⟩ := gd_s h
  refine aw_getfield (pc' := 153) (v := (.inl (M v0 8))) hC dX9_society_150 rfl fl_X9_36 g49 rfl ?_
  obtain ⟨M50, e51, h⟩ := bd_s h
  refine aw_pf (pc' := 156) hC dX9_society_153 rfl fp_X9_42 g49 rfl trivial e51 ?_
  refine aw_aload_n (pc' := 157) (i := 0) hC dX9_society_156 rfl rfl rfl ?_
  refine aw_aload_n (pc' := 158) (i := 0) hC dX9_society_157 rfl rfl rfl ?_
  refine aw_getfield (pc' := 161) (v := (.inl (M50 v0 9))) hC dX9_society_158 rfl fl_X9_39 g49 rfl ?_
  obtain ⟨M52, e53, h⟩ := bd_s h
  refine aw_pf (pc' := 164) hC dX9_society_161 rfl fp_X9_45 g49 rfl trivial e53 ?_
  refine aw_aload_n (pc' := 165) (i := 0) hC dX9_society_164 rfl rfl rfl ?_
  refine aw_getfield (pc' := 168) (v := (.inl (M52 v0 8))) hC dX9_society_165 rfl fl_X9_36 g49 rfl ?_
  refine aw_if_le (tgt := 177) (pc' := 171) hC dX9_society_168 (by decide) rfl (fun c54 => ?_) (fun c54 => ?_)
  · replace h := it_n c54 h
    refine aw_aload_n (pc' := 178) (i := 0) hC dX9_society_177 rfl rfl rfl ?_
    refine aw_aload_n (pc' := 179) (i := 0) hC dX9_society_178 rfl rfl rfl ?_
    refine aw_getfield (pc' := 182) (v := (.inl (M52 v0 36))) hC dX9_society_179 rfl fl_X9_121 g49 rfl ?_
    obtain ⟨M55, e56, h⟩ := bd_s h
    refine aw_pf (pc' := 185) hC dX9_society_182 rfl fp_X9_51 g49 rfl trivial e56 ?_
    refine aw_aload_n (pc' := 186) (i := 0) hC dX9_society_185 rfl rfl rfl ?_
    obtain ⟨M58, q57, h⟩ := pb_s h
    replace h := u1_s h
    refine aw_cV (pc' := 189) (k2 := 0) (n2 := 0) (st := []) (stN := []) hC [] (mX9_begin q57) lk_X9_410 g49 dX9_society_186 rfl rfl (Nat.le_of_ble_eq_true rfl) (Nat.le_of_ble_eq_true rfl) (Nat.le_of_ble_eq_true rfl) rfl (Nat.le_of_ble_eq_true rfl) rfl rfl rfl ?_
    refine aw_iload_n (pc' := 190) (i := 1) hC dX9_society_189 rfl rfl rfl ?_
    cases h
    subst hQ
    exact aw_iret hC dX9_society_190 (Nat.le_of_ble_eq_true rfl) (Nat.le_of_ble_eq_true rfl)
  · replace h := it_p c54 h
    refine aw_aload_n (pc' := 172) (i := 0) hC dX9_society_171 rfl rfl rfl ?_
    refine aw_iconst (pc' := 173) hC dX9_society_172 rfl (by decide) ?_
    obtain ⟨⟨x60, M61⟩, q59, h⟩ := pb_s h
    replace h := u2_s h
    refine aw_cV (pc' := 176) (k2 := 0) (n2 := 0) (st := []) (stN := [.inl x60]) hC [.inl 1] (mX9_refuses q59) lk_X9_228 g49 dX9_society_173 rfl rfl (Nat.le_of_ble_eq_true rfl) (Nat.le_of_ble_eq_true rfl) (Nat.le_of_ble_eq_true rfl) rfl (Nat.le_of_ble_eq_true rfl) rfl rfl rfl ?_
    cases h
    subst hQ
    exact aw_iret hC dX9_society_176 (Nat.le_of_ble_eq_true rfl) (Nat.le_of_ble_eq_true rfl)
set_option maxRecDepth 100000 in
set_option maxHeartbeats 4000000 in
theorem mX9_society {sh : AwS} {M : AwM} {v0 : Int} {r : Int} {M' : AwM} (h : fX9_society sh M v0 = some (r, M')) : AMet yX9_society cX9_society 2 (some .int) 8 0 0 [.inr (.inr v0)] sh M (some (.inl r)) sh M' := by
  refine amet_of (by decide +kernel) (Nat.le_of_ble_eq_true rfl) (fun Γ hC => ?_)
  replace hC : AOK Γ RX9 cX9_society 2 8 0 0 "society" (some .int) := hC
  unfold fX9_society at h
  refine aw_sub hC [some (.inr (.inr v0)), none] ⟨rfl, trivial⟩ (Nat.le_of_ble_eq_true rfl) ?_
  refine aw_aload_n (pc' := 1) (i := 0) hC dX9_society_0 rfl rfl rfl ?_
  refine aw_aload_n (pc' := 2) (i := 0) hC dX9_society_1 rfl rfl rfl ?_
  obtain ⟨g1, h⟩ := gd_s h
  refine aw_getfield (pc' := 5) (v := (.inl (M v0 1))) hC dX9_society_2 rfl fl_X9_13 g1 rfl ?_
  obtain ⟨M2, e3, h⟩ := bd_s h
  refine aw_pf (pc' := 8) hC dX9_society_5 rfl fp_X9_17 g1 rfl trivial e3 ?_
  refine aw_aload_n (pc' := 9) (i := 0) hC dX9_society_8 rfl rfl rfl ?_
  refine aw_iconst (pc' := 10) hC dX9_society_9 rfl (by decide) ?_
  obtain ⟨M4, e5, h⟩ := bd_s h
  refine aw_pf (pc' := 13) hC dX9_society_10 rfl fp_X9_13 g1 rfl trivial e5 ?_
  refine aw_aload_n (pc' := 14) (i := 0) hC dX9_society_13 rfl rfl rfl ?_
  refine aw_iconst (pc' := 15) hC dX9_society_14 rfl (by decide) ?_
  obtain ⟨M6, e7, h⟩ := bd_s h
  refine aw_pf (pc' := 18) hC dX9_society_15 rfl fp_X9_26 g1 rfl trivial e7 ?_
  refine aw_aload_n (pc' := 19) (i := 0) hC dX9_society_18 rfl rfl rfl ?_
  refine aw_iconst (pc' := 20) hC dX9_society_19 rfl (by decide) ?_
  obtain ⟨M8, e9, h⟩ := bd_s h
  refine aw_pf (pc' := 23) hC dX9_society_20 rfl fp_X9_36 g1 rfl trivial e9 ?_
  refine aw_aload_n (pc' := 24) (i := 0) hC dX9_society_23 rfl rfl rfl ?_
  refine aw_iconst (pc' := 25) hC dX9_society_24 rfl (by decide) ?_
  obtain ⟨M10, e11, h⟩ := bd_s h
  refine aw_pf (pc' := 28) hC dX9_society_25 rfl fp_X9_39 g1 rfl trivial e11 ?_
  refine aw_aload_n (pc' := 29) (i := 0) hC dX9_society_28 rfl rfl rfl ?_
  refine aw_iconst (pc' := 30) hC dX9_society_29 rfl (by decide) ?_
  refine aw_aload_n (pc' := 31) (i := 0) hC dX9_society_30 rfl rfl rfl ?_
  refine aw_getfield (pc' := 34) (v := (.inl (M10 v0 13))) hC dX9_society_31 rfl fl_X9_51 g1 rfl ?_
  refine aw_isub (pc' := 35) hC dX9_society_34 rfl  ?_
  obtain ⟨M12, e13, h⟩ := bd_s h
  refine aw_pf (pc' := 38) hC dX9_society_35 rfl fp_X9_121 g1 rfl trivial e13 ?_
  refine aw_aload_n (pc' := 39) (i := 0) hC dX9_society_38 rfl rfl rfl ?_
  refine aw_getfield (pc' := 42) (v := (.inr (.inr (M12 v0 14)))) hC dX9_society_39 rfl fl_X9_54 g1 rfl ?_
  refine aw_aload_n (pc' := 43) (i := 0) hC dX9_society_42 rfl rfl rfl ?_
  refine aw_getfield (pc' := 46) (v := (.inl (M12 v0 36))) hC dX9_society_43 rfl fl_X9_121 g1 rfl ?_
  refine aw_iconst (pc' := 47) hC dX9_society_46 rfl (by decide) ?_
  obtain ⟨g14, h⟩ := gd_s h
  obtain ⟨M15, e16, h⟩ := bd_s h
  refine aw_ias (pc' := 48) hC dX9_society_47 rfl g14 e16 ?_
  refine aw_aload_n (pc' := 49) (i := 0) hC dX9_society_48 rfl rfl rfl ?_
  refine aw_getfield (pc' := 52) (v := (.inr (.inr (M15 v0 16)))) hC dX9_society_49 rfl fl_X9_60 g1 rfl ?_
  refine aw_aload_n (pc' := 53) (i := 0) hC dX9_society_52 rfl rfl rfl ?_
  refine aw_getfield (pc' := 56) (v := (.inl (M15 v0 36))) hC dX9_society_53 rfl fl_X9_121 g1 rfl ?_
  refine aw_iconst (pc' := 57) hC dX9_society_56 rfl (by decide) ?_
  obtain ⟨g17, h⟩ := gd_s h
  obtain ⟨M18, e19, h⟩ := bd_s h
  refine aw_ias (pc' := 58) hC dX9_society_57 rfl g17 e19 ?_
  refine aw_aload_n (pc' := 59) (i := 0) hC dX9_society_58 rfl rfl rfl ?_
  refine aw_getfield (pc' := 62) (v := (.inr (.inr (M18 v0 21)))) hC dX9_society_59 rfl fl_X9_75 g1 rfl ?_
  refine aw_aload_n (pc' := 63) (i := 0) hC dX9_society_62 rfl rfl rfl ?_
  refine aw_getfield (pc' := 66) (v := (.inl (M18 v0 36))) hC dX9_society_63 rfl fl_X9_121 g1 rfl ?_
  refine aw_iconst (pc' := 67) hC dX9_society_66 rfl (by decide) ?_
  obtain ⟨g20, h⟩ := gd_s h
  obtain ⟨M21, e22, h⟩ := bd_s h
  refine aw_ias (pc' := 68) hC dX9_society_67 rfl g20 e22 ?_
  refine aw_aload_n (pc' := 69) (i := 0) hC dX9_society_68 rfl rfl rfl ?_
  refine aw_getfield (pc' := 72) (v := (.inr (.inr (M21 v0 24)))) hC dX9_society_69 rfl fl_X9_84 g1 rfl ?_
  refine aw_aload_n (pc' := 73) (i := 0) hC dX9_society_72 rfl rfl rfl ?_
  refine aw_getfield (pc' := 76) (v := (.inl (M21 v0 36))) hC dX9_society_73 rfl fl_X9_121 g1 rfl ?_
  refine aw_iconst (pc' := 77) hC dX9_society_76 rfl (by decide) ?_
  obtain ⟨g23, h⟩ := gd_s h
  obtain ⟨M24, e25, h⟩ := bd_s h
  refine aw_ias (pc' := 78) hC dX9_society_77 rfl g23 e25 ?_
  refine aw_aload_n (pc' := 79) (i := 0) hC dX9_society_78 rfl rfl rfl ?_
  refine aw_getfield (pc' := 82) (v := (.inr (.inr (M24 v0 25)))) hC dX9_society_79 rfl fl_X9_87 g1 rfl ?_
  refine aw_aload_n (pc' := 83) (i := 0) hC dX9_society_82 rfl rfl rfl ?_
  refine aw_getfield (pc' := 86) (v := (.inl (M24 v0 36))) hC dX9_society_83 rfl fl_X9_121 g1 rfl ?_
  refine aw_iconst (pc' := 87) hC dX9_society_86 rfl (by decide) ?_
  obtain ⟨g26, h⟩ := gd_s h
  obtain ⟨M27, e28, h⟩ := bd_s h
  refine aw_ias (pc' := 88) hC dX9_society_87 rfl g26 e28 ?_
  refine aw_aload_n (pc' := 89) (i := 0) hC dX9_society_88 rfl rfl rfl ?_
  refine aw_getfield (pc' := 92) (v := (.inr (.inr (M27 v0 26)))) hC dX9_society_89 rfl fl_X9_90 g1 rfl ?_
  refine aw_aload_n (pc' := 93) (i := 0) hC dX9_society_92 rfl rfl rfl ?_
  refine aw_getfield (pc' := 96) (v := (.inl (M27 v0 36))) hC dX9_society_93 rfl fl_X9_121 g1 rfl ?_
  refine aw_iconst (pc' := 97) hC dX9_society_96 rfl (by decide) ?_
  obtain ⟨g29, h⟩ := gd_s h
  obtain ⟨M30, e31, h⟩ := bd_s h
  refine aw_ias (pc' := 98) hC dX9_society_97 rfl g29 e31 ?_
  refine aw_aload_n (pc' := 99) (i := 0) hC dX9_society_98 rfl rfl rfl ?_
  refine aw_getfield (pc' := 102) (v := (.inr (.inr (M30 v0 28)))) hC dX9_society_99 rfl fl_X9_96 g1 rfl ?_
  refine aw_aload_n (pc' := 103) (i := 0) hC dX9_society_102 rfl rfl rfl ?_
  refine aw_getfield (pc' := 106) (v := (.inl (M30 v0 36))) hC dX9_society_103 rfl fl_X9_121 g1 rfl ?_
  refine aw_iconst (pc' := 107) hC dX9_society_106 rfl (by decide) ?_
  obtain ⟨g32, h⟩ := gd_s h
  obtain ⟨M33, e34, h⟩ := bd_s h
  refine aw_ias (pc' := 108) hC dX9_society_107 rfl g32 e34 ?_
  refine aw_aload_n (pc' := 109) (i := 0) hC dX9_society_108 rfl rfl rfl ?_
  refine aw_iconst (pc' := 110) hC dX9_society_109 rfl (by decide) ?_
  obtain ⟨M35, e36, h⟩ := bd_s h
  refine aw_pf (pc' := 113) hC dX9_society_110 rfl fp_X9_118 g1 rfl trivial e36 ?_
  refine aw_iconst (pc' := 114) hC dX9_society_113 rfl (by decide) ?_
  refine aw_istore_n (pc' := 115) (i := 1) (ls' := [some (.inr (.inr v0)), some (.inl 0)]) hC dX9_society_114 rfl rfl (Nat.le_of_ble_eq_true rfl) rfl rfl ?_
  refine aw_aload_n (pc' := 116) (i := 0) hC dX9_society_115 rfl rfl rfl ?_
  obtain ⟨M38, q37, h⟩ := pb_s h
  replace h := u1_s h
  refine aw_cV (pc' := 119) (k2 := 0) (n2 := 0) (st := []) (stN := []) hC [] (mX9_ahead q37) lk_X9_257 g1 dX9_society_116 rfl rfl (Nat.le_of_ble_eq_true rfl) (Nat.le_of_ble_eq_true rfl) (Nat.le_of_ble_eq_true rfl) rfl (Nat.le_of_ble_eq_true rfl) rfl rfl rfl ?_
  obtain ⟨tq46, q46, h⟩ := pb_s h
  refine aw_sub hC [some (.inr (.inr v0)), some (.inl 0)] ⟨rfl, ⟨rfl, trivial⟩⟩ (Nat.le_of_ble_eq_true rfl) ?_
  refine (lp_aw (p_X9_society_L119 Γ sh v0 (fin_ Γ 0 0 (some (.inl r)) sh M')) (x_X9_society_L119 Γ sh v0 (fin_ Γ 0 0 (some (.inl r)) sh M')) (w_X9_society_L119 hC ) FU _ _ q46 ?_ : p_X9_society_L119 Γ sh v0 (fin_ Γ 0 0 (some (.inl r)) sh M') (0, M38))
  obtain ⟨x47, M48⟩ := tq46
  replace h := u2_s h
  show AW Γ sh M48 0 0 148 [some (.inr (.inr v0)), some (.inl x47)] [] _
  refine aw_sub hC [some (.inr (.inr v0)), some (.inl x47)] ⟨rfl, ⟨rfl, trivial⟩⟩ (Nat.le_of_ble_eq_true rfl) ?_
  exact w_X9_society_J148 hC h rfl
-- CoinCircleModel.fault(I)I
def fX9_fault (sh : AwS) (M : AwM) (v0 : Int) (v1 : Int) : Option Int :=
  (if v1 = 0 then gd_ (kd_ sh v0 = (0, 9)) (some (M v0 10)) else (if v1 = 1 then gd_ (kd_ sh v0 = (0, 9)) (some (M v0 11)) else some (-1)))
set_option maxRecDepth 100000 in
set_option maxHeartbeats 4000000 in
theorem mX9_fault {sh : AwS} {M : AwM} {v0 : Int} {v1 : Int} {r : Int} (h : fX9_fault sh M v0 v1 = some r) : AMet yX9_fault cX9_fault 2 (some .int) 1 0 0 [.inr (.inr v0), .inl v1] sh M (some (.inl r)) sh M := by
  refine amet_of (by decide +kernel) (Nat.le_of_ble_eq_true rfl) (fun Γ hC => ?_)
  replace hC : AOK Γ RX9 cX9_fault 2 1 0 0 "fault" (some .int) := hC
  unfold fX9_fault at h
  refine aw_sub hC [some (.inr (.inr v0)), some (.inl v1)] ⟨rfl, ⟨rfl, trivial⟩⟩ (Nat.le_of_ble_eq_true rfl) ?_
  refine aw_iload_n (pc' := 1) (i := 1) hC dX9_fault_0 rfl rfl rfl ?_
  refine aw_if_ne (tgt := 11) (pc' := 4) hC dX9_fault_1 (by decide) rfl (fun c1 => ?_) (fun c1 => ?_)
  · replace h := it_n c1 h
    refine aw_iload_n (pc' := 12) (i := 1) hC dX9_fault_11 rfl rfl rfl ?_
    refine aw_iconst (pc' := 13) hC dX9_fault_12 rfl (by decide) ?_
    refine aw_icmp_ne (tgt := 23) (pc' := 16) hC dX9_fault_13 (by decide) rfl (fun c2 => ?_) (fun c2 => ?_)
    · replace h := it_n c2 h
      refine aw_iconst (pc' := 24) hC dX9_fault_23 rfl (by decide) ?_
      cases h
      exact aw_iret hC dX9_fault_24 (Nat.le_of_ble_eq_true rfl) (Nat.le_of_ble_eq_true rfl)
    · replace h := it_p c2 h
      refine aw_aload_n (pc' := 17) (i := 0) hC dX9_fault_16 rfl rfl rfl ?_
      obtain ⟨g3, h⟩ := gd_s h
      refine aw_getfield (pc' := 20) (v := (.inl (M v0 11))) hC dX9_fault_17 rfl fl_X9_45 g3 rfl ?_
      refine aw_goto (tgt := 24) hC dX9_fault_20 (by decide) ?_
      cases h
      exact aw_iret hC dX9_fault_24 (Nat.le_of_ble_eq_true rfl) (Nat.le_of_ble_eq_true rfl)
  · replace h := it_p c1 h
    refine aw_aload_n (pc' := 5) (i := 0) hC dX9_fault_4 rfl rfl rfl ?_
    obtain ⟨g4, h⟩ := gd_s h
    refine aw_getfield (pc' := 8) (v := (.inl (M v0 10))) hC dX9_fault_5 rfl fl_X9_42 g4 rfl ?_
    refine aw_goto (tgt := 24) hC dX9_fault_8 (by decide) ?_
    cases h
    exact aw_iret hC dX9_fault_24 (Nat.le_of_ble_eq_true rfl) (Nat.le_of_ble_eq_true rfl)
-- CoinCircleModel.status(I)I
def fX9_status (sh : AwS) (M : AwM) (v0 : Int) (v1 : Int) : Option Int :=
  pb (fX9_is sh M v1 0 5) <| u1 fun (x2 : Int) => ((if x2 = 0 then some (-1) else gd_ (kd_ sh v0 = (0, 9)) (gd_ ((kd_ sh (M v0 47)).1 = 1 ∧ (0 : Int) ≤ v1 ∧ v1 < ((kd_ sh (M v0 47)).2 : Int)) (some (M (M v0 47) v1)))))
set_option maxRecDepth 100000 in
set_option maxHeartbeats 4000000 in
theorem mX9_status {sh : AwS} {M : AwM} {v0 : Int} {v1 : Int} {r : Int} (h : fX9_status sh M v0 v1 = some r) : AMet yX9_status cX9_status 2 (some .int) 2 0 0 [.inr (.inr v0), .inl v1] sh M (some (.inl r)) sh M := by
  refine amet_of (by decide +kernel) (Nat.le_of_ble_eq_true rfl) (fun Γ hC => ?_)
  replace hC : AOK Γ RX9 cX9_status 2 2 0 0 "status" (some .int) := hC
  unfold fX9_status at h
  refine aw_sub hC [some (.inr (.inr v0)), some (.inl v1)] ⟨rfl, ⟨rfl, trivial⟩⟩ (Nat.le_of_ble_eq_true rfl) ?_
  refine aw_iload_n (pc' := 1) (i := 1) hC dX9_status_0 rfl rfl rfl ?_
  refine aw_iconst (pc' := 2) hC dX9_status_1 rfl (by decide) ?_
  refine aw_iconst (pc' := 3) hC dX9_status_2 rfl (by decide) ?_
  obtain ⟨x2, q1, h⟩ := pb_s h
  replace h := u1_s h
  refine aw_cS (pc' := 6) (k2 := 0) (n2 := 0) (st := []) (stN := [.inl x2]) hC [.inl v1, .inl 0, .inl 5] (mX9_is q1) lk_X9_314 dX9_status_3 rfl rfl (Nat.le_of_ble_eq_true rfl) (Nat.le_of_ble_eq_true rfl) (Nat.le_of_ble_eq_true rfl) rfl (Nat.le_of_ble_eq_true rfl) rfl rfl rfl ?_
  refine aw_if_eq (tgt := 18) (pc' := 9) hC dX9_status_6 (by decide) rfl (fun c3 => ?_) (fun c3 => ?_)
  · replace h := it_p c3 h
    refine aw_iconst (pc' := 19) hC dX9_status_18 rfl (by decide) ?_
    cases h
    exact aw_iret hC dX9_status_19 (Nat.le_of_ble_eq_true rfl) (Nat.le_of_ble_eq_true rfl)
  · replace h := it_n c3 h
    refine aw_aload_n (pc' := 10) (i := 0) hC dX9_status_9 rfl rfl rfl ?_
    obtain ⟨g4, h⟩ := gd_s h
    refine aw_getfield (pc' := 13) (v := (.inr (.inr (M v0 47)))) hC dX9_status_10 rfl fl_X9_156 g4 rfl ?_
    refine aw_iload_n (pc' := 14) (i := 1) hC dX9_status_13 rfl rfl rfl ?_
    obtain ⟨g5, h⟩ := gd_s h
    refine aw_iaload (pc' := 15) hC dX9_status_14 rfl g5 ?_
    refine aw_goto (tgt := 19) hC dX9_status_15 (by decide) ?_
    cases h
    exact aw_iret hC dX9_status_19 (Nat.le_of_ble_eq_true rfl) (Nat.le_of_ble_eq_true rfl)
-- CoinCircleModel.isPerson(I)Z
def fX9_isPerson (sh : AwS) (M : AwM) (v0 : Int) (v1 : Int) : Option Int :=
  (if v1 < 0 then some 0 else gd_ (kd_ sh v0 = (0, 9)) (gd_ ((kd_ sh (M v0 14)).1 = 1 ∧ (0 : Int) ≤ (M v0 13) ∧ (M v0 13) < ((kd_ sh (M v0 14)).2 : Int)) ((if v1 < (M (M v0 14) (M v0 13)) then some 1 else some 0))))
set_option maxRecDepth 100000 in
set_option maxHeartbeats 4000000 in
theorem mX9_isPerson {sh : AwS} {M : AwM} {v0 : Int} {v1 : Int} {r : Int} (h : fX9_isPerson sh M v0 v1 = some r) : AMet yX9_isPerson cX9_isPerson 2 (some .boolean) 1 0 0 [.inr (.inr v0), .inl v1] sh M (some (.inl r)) sh M := by
  refine amet_of (by decide +kernel) (Nat.le_of_ble_eq_true rfl) (fun Γ hC => ?_)
  replace hC : AOK Γ RX9 cX9_isPerson 2 1 0 0 "isPerson" (some .boolean) := hC
  unfold fX9_isPerson at h
  refine aw_sub hC [some (.inr (.inr v0)), some (.inl v1)] ⟨rfl, ⟨rfl, trivial⟩⟩ (Nat.le_of_ble_eq_true rfl) ?_
  refine aw_iload_n (pc' := 1) (i := 1) hC dX9_isPerson_0 rfl rfl rfl ?_
  refine aw_if_lt (tgt := 21) (pc' := 4) hC dX9_isPerson_1 (by decide) rfl (fun c1 => ?_) (fun c1 => ?_)
  · replace h := it_p c1 h
    refine aw_iconst (pc' := 22) hC dX9_isPerson_21 rfl (by decide) ?_
    cases h
    exact aw_zret hC (Or.inl rfl) dX9_isPerson_22 (Nat.le_of_ble_eq_true rfl) (Nat.le_of_ble_eq_true rfl)
  · replace h := it_n c1 h
    refine aw_iload_n (pc' := 5) (i := 1) hC dX9_isPerson_4 rfl rfl rfl ?_
    refine aw_aload_n (pc' := 6) (i := 0) hC dX9_isPerson_5 rfl rfl rfl ?_
    obtain ⟨g2, h⟩ := gd_s h
    refine aw_getfield (pc' := 9) (v := (.inr (.inr (M v0 14)))) hC dX9_isPerson_6 rfl fl_X9_54 g2 rfl ?_
    refine aw_aload_n (pc' := 10) (i := 0) hC dX9_isPerson_9 rfl rfl rfl ?_
    refine aw_getfield (pc' := 13) (v := (.inl (M v0 13))) hC dX9_isPerson_10 rfl fl_X9_51 g2 rfl ?_
    obtain ⟨g3, h⟩ := gd_s h
    refine aw_iaload (pc' := 14) hC dX9_isPerson_13 rfl g3 ?_
    refine aw_icmp_ge (tgt := 21) (pc' := 17) hC dX9_isPerson_14 (by decide) rfl (fun c4 => ?_) (fun c4 => ?_)
    · replace h := it_n c4 h
      refine aw_iconst (pc' := 22) hC dX9_isPerson_21 rfl (by decide) ?_
      cases h
      exact aw_zret hC (Or.inl rfl) dX9_isPerson_22 (Nat.le_of_ble_eq_true rfl) (Nat.le_of_ble_eq_true rfl)
    · replace h := it_p c4 h
      refine aw_iconst (pc' := 18) hC dX9_isPerson_17 rfl (by decide) ?_
      refine aw_goto (tgt := 22) hC dX9_isPerson_18 (by decide) ?_
      cases h
      exact aw_zret hC (Or.inr rfl) dX9_isPerson_22 (Nat.le_of_ble_eq_true rfl) (Nat.le_of_ble_eq_true rfl)
-- CoinCircleModel.isCoin(I)Z
def fX9_isCoin (sh : AwS) (M : AwM) (v0 : Int) (v1 : Int) : Option Int :=
  (if v1 < 0 then some 0 else gd_ (kd_ sh v0 = (0, 9)) (gd_ ((kd_ sh (M v0 16)).1 = 1 ∧ (0 : Int) ≤ (M v0 13) ∧ (M v0 13) < ((kd_ sh (M v0 16)).2 : Int)) ((if v1 < (M (M v0 16) (M v0 13)) then some 1 else some 0))))
set_option maxRecDepth 100000 in
set_option maxHeartbeats 4000000 in
theorem mX9_isCoin {sh : AwS} {M : AwM} {v0 : Int} {v1 : Int} {r : Int} (h : fX9_isCoin sh M v0 v1 = some r) : AMet yX9_isCoin cX9_isCoin 2 (some .boolean) 1 0 0 [.inr (.inr v0), .inl v1] sh M (some (.inl r)) sh M := by
  refine amet_of (by decide +kernel) (Nat.le_of_ble_eq_true rfl) (fun Γ hC => ?_)
  replace hC : AOK Γ RX9 cX9_isCoin 2 1 0 0 "isCoin" (some .boolean) := hC
  unfold fX9_isCoin at h
  refine aw_sub hC [some (.inr (.inr v0)), some (.inl v1)] ⟨rfl, ⟨rfl, trivial⟩⟩ (Nat.le_of_ble_eq_true rfl) ?_
  refine aw_iload_n (pc' := 1) (i := 1) hC dX9_isCoin_0 rfl rfl rfl ?_
  refine aw_if_lt (tgt := 21) (pc' := 4) hC dX9_isCoin_1 (by decide) rfl (fun c1 => ?_) (fun c1 => ?_)
  · replace h := it_p c1 h
    refine aw_iconst (pc' := 22) hC dX9_isCoin_21 rfl (by decide) ?_
    cases h
    exact aw_zret hC (Or.inl rfl) dX9_isCoin_22 (Nat.le_of_ble_eq_true rfl) (Nat.le_of_ble_eq_true rfl)
  · replace h := it_n c1 h
    refine aw_iload_n (pc' := 5) (i := 1) hC dX9_isCoin_4 rfl rfl rfl ?_
    refine aw_aload_n (pc' := 6) (i := 0) hC dX9_isCoin_5 rfl rfl rfl ?_
    obtain ⟨g2, h⟩ := gd_s h
    refine aw_getfield (pc' := 9) (v := (.inr (.inr (M v0 16)))) hC dX9_isCoin_6 rfl fl_X9_60 g2 rfl ?_
    refine aw_aload_n (pc' := 10) (i := 0) hC dX9_isCoin_9 rfl rfl rfl ?_
    refine aw_getfield (pc' := 13) (v := (.inl (M v0 13))) hC dX9_isCoin_10 rfl fl_X9_51 g2 rfl ?_
    obtain ⟨g3, h⟩ := gd_s h
    refine aw_iaload (pc' := 14) hC dX9_isCoin_13 rfl g3 ?_
    refine aw_icmp_ge (tgt := 21) (pc' := 17) hC dX9_isCoin_14 (by decide) rfl (fun c4 => ?_) (fun c4 => ?_)
    · replace h := it_n c4 h
      refine aw_iconst (pc' := 22) hC dX9_isCoin_21 rfl (by decide) ?_
      cases h
      exact aw_zret hC (Or.inl rfl) dX9_isCoin_22 (Nat.le_of_ble_eq_true rfl) (Nat.le_of_ble_eq_true rfl)
    · replace h := it_p c4 h
      refine aw_iconst (pc' := 18) hC dX9_isCoin_17 rfl (by decide) ?_
      refine aw_goto (tgt := 22) hC dX9_isCoin_18 (by decide) ?_
      cases h
      exact aw_zret hC (Or.inr rfl) dX9_isCoin_22 (Nat.le_of_ble_eq_true rfl) (Nat.le_of_ble_eq_true rfl)
-- CoinCircleModel.isWare(I)Z
def fX9_isWare (sh : AwS) (M : AwM) (v0 : Int) (v1 : Int) : Option Int :=
  (if v1 < 0 then some 0 else gd_ (kd_ sh v0 = (0, 9)) (gd_ ((kd_ sh (M v0 21)).1 = 1 ∧ (0 : Int) ≤ (M v0 13) ∧ (M v0 13) < ((kd_ sh (M v0 21)).2 : Int)) ((if v1 < (M (M v0 21) (M v0 13)) then some 1 else some 0))))
set_option maxRecDepth 100000 in
set_option maxHeartbeats 4000000 in
theorem mX9_isWare {sh : AwS} {M : AwM} {v0 : Int} {v1 : Int} {r : Int} (h : fX9_isWare sh M v0 v1 = some r) : AMet yX9_isWare cX9_isWare 2 (some .boolean) 1 0 0 [.inr (.inr v0), .inl v1] sh M (some (.inl r)) sh M := by
  refine amet_of (by decide +kernel) (Nat.le_of_ble_eq_true rfl) (fun Γ hC => ?_)
  replace hC : AOK Γ RX9 cX9_isWare 2 1 0 0 "isWare" (some .boolean) := hC
  unfold fX9_isWare at h
  refine aw_sub hC [some (.inr (.inr v0)), some (.inl v1)] ⟨rfl, ⟨rfl, trivial⟩⟩ (Nat.le_of_ble_eq_true rfl) ?_
  refine aw_iload_n (pc' := 1) (i := 1) hC dX9_isWare_0 rfl rfl rfl ?_
  refine aw_if_lt (tgt := 21) (pc' := 4) hC dX9_isWare_1 (by decide) rfl (fun c1 => ?_) (fun c1 => ?_)
  · replace h := it_p c1 h
    refine aw_iconst (pc' := 22) hC dX9_isWare_21 rfl (by decide) ?_
    cases h
    exact aw_zret hC (Or.inl rfl) dX9_isWare_22 (Nat.le_of_ble_eq_true rfl) (Nat.le_of_ble_eq_true rfl)
  · replace h := it_n c1 h
    refine aw_iload_n (pc' := 5) (i := 1) hC dX9_isWare_4 rfl rfl rfl ?_
    refine aw_aload_n (pc' := 6) (i := 0) hC dX9_isWare_5 rfl rfl rfl ?_
    obtain ⟨g2, h⟩ := gd_s h
    refine aw_getfield (pc' := 9) (v := (.inr (.inr (M v0 21)))) hC dX9_isWare_6 rfl fl_X9_75 g2 rfl ?_
    refine aw_aload_n (pc' := 10) (i := 0) hC dX9_isWare_9 rfl rfl rfl ?_
    refine aw_getfield (pc' := 13) (v := (.inl (M v0 13))) hC dX9_isWare_10 rfl fl_X9_51 g2 rfl ?_
    obtain ⟨g3, h⟩ := gd_s h
    refine aw_iaload (pc' := 14) hC dX9_isWare_13 rfl g3 ?_
    refine aw_icmp_ge (tgt := 21) (pc' := 17) hC dX9_isWare_14 (by decide) rfl (fun c4 => ?_) (fun c4 => ?_)
    · replace h := it_n c4 h
      refine aw_iconst (pc' := 22) hC dX9_isWare_21 rfl (by decide) ?_
      cases h
      exact aw_zret hC (Or.inl rfl) dX9_isWare_22 (Nat.le_of_ble_eq_true rfl) (Nat.le_of_ble_eq_true rfl)
    · replace h := it_p c4 h
      refine aw_iconst (pc' := 18) hC dX9_isWare_17 rfl (by decide) ?_
      refine aw_goto (tgt := 22) hC dX9_isWare_18 (by decide) ?_
      cases h
      exact aw_zret hC (Or.inr rfl) dX9_isWare_22 (Nat.le_of_ble_eq_true rfl) (Nat.le_of_ble_eq_true rfl)
-- CoinCircleModel.bits(I)I
def fX9_bits_L4 (sh : AwS) (M : AwM) (v1 : Int) (v2 : Int) : Option ((Int × Int) ⊕ (Int)) :=
  (if v2 = 0 then some (.inr v1) else some (.inl ((w32 (v1 + 1)), (an_ v2 (w32 (v2 - 1))))))
def p_X9_bits_L4 (Γ : AwC) (sh : AwS) (M : AwM) (Q : State → Prop) (s : Int × Int) : Prop := AW Γ sh M 0 0 4 [none, some (.inl (s.1)), some (.inl (s.2))] [] Q
def x_X9_bits_L4 (Γ : AwC) (sh : AwS) (M : AwM) (Q : State → Prop) : (Int) → Prop := (fun (t : Int) => AW Γ sh M 0 0 20 [none, some (.inl (t)), none] [] Q)
def fX9_bits (sh : AwS) (M : AwM) (v0 : Int) : Option Int :=
  pb (lp (u2 (fX9_bits_L4 sh M)) FU (0, v0)) (u1 (fun (tq2 : Int) => some tq2))
set_option maxRecDepth 100000 in
set_option maxHeartbeats 4000000 in
theorem w_X9_bits_L4 {Γ : AwC} (hC : AOK Γ RX9 cX9_bits 3 1 0 0 "bits" (some .int)) {sh : AwS} {M : AwM} {Q : State → Prop} : ∀ s r, u2 (fX9_bits_L4 sh M) s = some r → (∀ s', r = .inl s' → p_X9_bits_L4 Γ sh M Q s') → (∀ t, r = .inr t → x_X9_bits_L4 Γ sh M Q t) → p_X9_bits_L4 Γ sh M Q s := by
  intro s r h hL hX
  obtain ⟨v1, v2⟩ := s
  replace h := u2_s h
  unfold fX9_bits_L4 at h
  show AW Γ sh M 0 0 4 [none, some (.inl v1), some (.inl v2)] [] Q
  refine aw_iload_n (pc' := 5) (i := 2) hC dX9_bits_4 rfl rfl rfl ?_
  refine aw_if_eq (tgt := 20) (pc' := 8) hC dX9_bits_5 (by decide) rfl (fun c1 => ?_) (fun c1 => ?_)
  · replace h := it_p c1 h
    refine aw_sub hC [none, some (.inl v1), none] ⟨rfl, trivial⟩ (Nat.le_of_ble_eq_true rfl) ?_
    cases h
    exact hX _ rfl
  · replace h := it_n c1 h
    refine aw_iinc (pc' := 11) (ls' := [none, some (.inl (w32 (v1 + 1))), some (.inl v2)]) hC dX9_bits_8 rfl rfl rfl rfl ?_
    refine aw_iload_n (pc' := 12) (i := 2) hC dX9_bits_11 rfl rfl rfl ?_
    refine aw_iload_n (pc' := 13) (i := 2) hC dX9_bits_12 rfl rfl rfl ?_
    refine aw_iconst (pc' := 14) hC dX9_bits_13 rfl (by decide) ?_
    refine aw_isub (pc' := 15) hC dX9_bits_14 rfl  ?_
    refine aw_iand (pc' := 16) hC dX9_bits_15 rfl  ?_
    refine aw_istore_n (pc' := 17) (i := 2) (ls' := [none, some (.inl (w32 (v1 + 1))), some (.inl (an_ v2 (w32 (v2 - 1))))]) hC dX9_bits_16 rfl rfl (Nat.le_of_ble_eq_true rfl) rfl rfl ?_
    refine aw_goto (tgt := 4) hC dX9_bits_17 (by decide) ?_
    refine aw_sub hC [none, some (.inl (w32 (v1 + 1))), some (.inl (an_ v2 (w32 (v2 - 1))))] ⟨rfl, ⟨rfl, trivial⟩⟩ (Nat.le_of_ble_eq_true rfl) ?_
    cases h
    exact hL _ rfl
set_option maxRecDepth 100000 in
set_option maxHeartbeats 4000000 in
theorem mX9_bits {sh : AwS} {M : AwM} {v0 : Int} {r : Int} (h : fX9_bits sh M v0 = some r) : AMet yX9_bits cX9_bits 3 (some .int) 1 0 0 [.inl v0] sh M (some (.inl r)) sh M := by
  refine amet_of (by decide +kernel) (Nat.le_of_ble_eq_true rfl) (fun Γ hC => ?_)
  replace hC : AOK Γ RX9 cX9_bits 3 1 0 0 "bits" (some .int) := hC
  unfold fX9_bits at h
  refine aw_sub hC [some (.inl v0), none, none] ⟨rfl, trivial⟩ (Nat.le_of_ble_eq_true rfl) ?_
  refine aw_iconst (pc' := 1) hC dX9_bits_0 rfl (by decide) ?_
  refine aw_istore_n (pc' := 2) (i := 1) (ls' := [some (.inl v0), some (.inl 0), none]) hC dX9_bits_1 rfl rfl (Nat.le_of_ble_eq_true rfl) rfl rfl ?_
  refine aw_iload_n (pc' := 3) (i := 0) hC dX9_bits_2 rfl rfl rfl ?_
  refine aw_istore_n (pc' := 4) (i := 2) (ls' := [some (.inl v0), some (.inl 0), some (.inl v0)]) hC dX9_bits_3 rfl rfl (Nat.le_of_ble_eq_true rfl) rfl rfl ?_
  obtain ⟨tq2, q2, h⟩ := pb_s h
  refine aw_sub hC [none, some (.inl 0), some (.inl v0)] ⟨rfl, ⟨rfl, trivial⟩⟩ (Nat.le_of_ble_eq_true rfl) ?_
  refine (lp_aw (p_X9_bits_L4 Γ sh M (fin_ Γ 0 0 (some (.inl r)) sh M)) (x_X9_bits_L4 Γ sh M (fin_ Γ 0 0 (some (.inl r)) sh M)) (w_X9_bits_L4 hC ) FU _ _ q2 ?_ : p_X9_bits_L4 Γ sh M (fin_ Γ 0 0 (some (.inl r)) sh M) (0, v0))
  replace h := u1_s h
  show AW Γ sh M 0 0 20 [none, some (.inl tq2), none] [] _
  refine aw_iload_n (pc' := 21) (i := 1) hC dX9_bits_20 rfl rfl rfl ?_
  cases h
  exact aw_iret hC dX9_bits_21 (Nat.le_of_ble_eq_true rfl) (Nat.le_of_ble_eq_true rfl)
-- CoinCircleModel.worthOf(I)I
def fX9_worthOf (sh : AwS) (M : AwM) (v0 : Int) (v1 : Int) : Option Int :=
  gd_ (kd_ sh v0 = (0, 9)) (gd_ ((kd_ sh (M v0 17)).1 = 1 ∧ (0 : Int) ≤ (w32 ((w32 (12 * (M v0 13))) + v1)) ∧ (w32 ((w32 (12 * (M v0 13))) + v1)) < ((kd_ sh (M v0 17)).2 : Int)) (some (M (M v0 17) (w32 ((w32 (12 * (M v0 13))) + v1)))))
set_option maxRecDepth 100000 in
set_option maxHeartbeats 4000000 in
theorem mX9_worthOf {sh : AwS} {M : AwM} {v0 : Int} {v1 : Int} {r : Int} (h : fX9_worthOf sh M v0 v1 = some r) : AMet yX9_worthOf cX9_worthOf 2 (some .int) 1 0 0 [.inr (.inr v0), .inl v1] sh M (some (.inl r)) sh M := by
  refine amet_of (by decide +kernel) (Nat.le_of_ble_eq_true rfl) (fun Γ hC => ?_)
  replace hC : AOK Γ RX9 cX9_worthOf 2 1 0 0 "worthOf" (some .int) := hC
  unfold fX9_worthOf at h
  refine aw_sub hC [some (.inr (.inr v0)), some (.inl v1)] ⟨rfl, ⟨rfl, trivial⟩⟩ (Nat.le_of_ble_eq_true rfl) ?_
  refine aw_aload_n (pc' := 1) (i := 0) hC dX9_worthOf_0 rfl rfl rfl ?_
  obtain ⟨g1, h⟩ := gd_s h
  refine aw_getfield (pc' := 4) (v := (.inr (.inr (M v0 17)))) hC dX9_worthOf_1 rfl fl_X9_63 g1 rfl ?_
  refine aw_bipush (pc' := 6) hC dX9_worthOf_4 rfl (by decide) ?_
  refine aw_aload_n (pc' := 7) (i := 0) hC dX9_worthOf_6 rfl rfl rfl ?_
  refine aw_getfield (pc' := 10) (v := (.inl (M v0 13))) hC dX9_worthOf_7 rfl fl_X9_51 g1 rfl ?_
  refine aw_imul (pc' := 11) hC dX9_worthOf_10 rfl  ?_
  refine aw_iload_n (pc' := 12) (i := 1) hC dX9_worthOf_11 rfl rfl rfl ?_
  refine aw_iadd (pc' := 13) hC dX9_worthOf_12 rfl  ?_
  obtain ⟨g2, h⟩ := gd_s h
  refine aw_iaload (pc' := 14) hC dX9_worthOf_13 rfl g2 ?_
  cases h
  exact aw_iret hC dX9_worthOf_14 (Nat.le_of_ble_eq_true rfl) (Nat.le_of_ble_eq_true rfl)
-- CoinCircleModel.rankOf(I)I
def fX9_rankOf (sh : AwS) (M : AwM) (v0 : Int) (v1 : Int) : Option Int :=
  gd_ (kd_ sh v0 = (0, 9)) (gd_ ((kd_ sh (M v0 15)).1 = 1 ∧ (0 : Int) ≤ (w32 ((w32 (10 * (M v0 13))) + v1)) ∧ (w32 ((w32 (10 * (M v0 13))) + v1)) < ((kd_ sh (M v0 15)).2 : Int)) (some (M (M v0 15) (w32 ((w32 (10 * (M v0 13))) + v1)))))
set_option maxRecDepth 100000 in
set_option maxHeartbeats 4000000 in
theorem mX9_rankOf {sh : AwS} {M : AwM} {v0 : Int} {v1 : Int} {r : Int} (h : fX9_rankOf sh M v0 v1 = some r) : AMet yX9_rankOf cX9_rankOf 2 (some .int) 1 0 0 [.inr (.inr v0), .inl v1] sh M (some (.inl r)) sh M := by
  refine amet_of (by decide +kernel) (Nat.le_of_ble_eq_true rfl) (fun Γ hC => ?_)
  replace hC : AOK Γ RX9 cX9_rankOf 2 1 0 0 "rankOf" (some .int) := hC
  unfold fX9_rankOf at h
  refine aw_sub hC [some (.inr (.inr v0)), some (.inl v1)] ⟨rfl, ⟨rfl, trivial⟩⟩ (Nat.le_of_ble_eq_true rfl) ?_
  refine aw_aload_n (pc' := 1) (i := 0) hC dX9_rankOf_0 rfl rfl rfl ?_
  obtain ⟨g1, h⟩ := gd_s h
  refine aw_getfield (pc' := 4) (v := (.inr (.inr (M v0 15)))) hC dX9_rankOf_1 rfl fl_X9_57 g1 rfl ?_
  refine aw_bipush (pc' := 6) hC dX9_rankOf_4 rfl (by decide) ?_
  refine aw_aload_n (pc' := 7) (i := 0) hC dX9_rankOf_6 rfl rfl rfl ?_
  refine aw_getfield (pc' := 10) (v := (.inl (M v0 13))) hC dX9_rankOf_7 rfl fl_X9_51 g1 rfl ?_
  refine aw_imul (pc' := 11) hC dX9_rankOf_10 rfl  ?_
  refine aw_iload_n (pc' := 12) (i := 1) hC dX9_rankOf_11 rfl rfl rfl ?_
  refine aw_iadd (pc' := 13) hC dX9_rankOf_12 rfl  ?_
  obtain ⟨g2, h⟩ := gd_s h
  refine aw_iaload (pc' := 14) hC dX9_rankOf_13 rfl g2 ?_
  cases h
  exact aw_iret hC dX9_rankOf_14 (Nat.le_of_ble_eq_true rfl) (Nat.le_of_ble_eq_true rfl)
-- CoinCircleModel.copies(II)V
def fX9_copies_L14 (sh : AwS) (v0 : Int) (v1 : Int) (v2 : Int) (v3 : Int) (M : AwM) : Option ((Int × AwM) ⊕ (AwM)) :=
  (if v3 < 12 then gd_ (kd_ sh v0 = (0, 9)) (gd_ ((kd_ sh (M v0 49)).1 = 1 ∧ (0 : Int) ≤ (w32 ((w32 (12 * v2)) + v3)) ∧ (w32 ((w32 (12 * v2)) + v3)) < ((kd_ sh (M v0 49)).2 : Int)) (gd_ ((kd_ sh (M v0 49)).1 = 1 ∧ (0 : Int) ≤ (w32 ((w32 (12 * v1)) + v3)) ∧ (w32 ((w32 (12 * v1)) + v3)) < ((kd_ sh (M v0 49)).2 : Int)) (bd_ (up_ M (M v0 49) (w32 ((w32 (12 * v1)) + v3)) (M (M v0 49) (w32 ((w32 (12 * v2)) + v3)))) fun (M10 : AwM) => (gd_ ((kd_ sh (M10 v0 50)).1 = 1 ∧ (0 : Int) ≤ (w32 ((w32 (12 * v2)) + v3)) ∧ (w32 ((w32 (12 * v2)) + v3)) < ((kd_ sh (M10 v0 50)).2 : Int)) (gd_ ((kd_ sh (M10 v0 50)).1 = 1 ∧ (0 : Int) ≤ (w32 ((w32 (12 * v1)) + v3)) ∧ (w32 ((w32 (12 * v1)) + v3)) < ((kd_ sh (M10 v0 50)).2 : Int)) (bd_ (up_ M10 (M10 v0 50) (w32 ((w32 (12 * v1)) + v3)) (M10 (M10 v0 50) (w32 ((w32 (12 * v2)) + v3)))) fun (M14 : AwM) => (gd_ ((kd_ sh (M14 v0 51)).1 = 1 ∧ (0 : Int) ≤ (w32 ((w32 (12 * v2)) + v3)) ∧ (w32 ((w32 (12 * v2)) + v3)) < ((kd_ sh (M14 v0 51)).2 : Int)) (gd_ ((kd_ sh (M14 v0 51)).1 = 1 ∧ (0 : Int) ≤ (w32 ((w32 (12 * v1)) + v3)) ∧ (w32 ((w32 (12 * v1)) + v3)) < ((kd_ sh (M14 v0 51)).2 : Int)) (bd_ (up_ M14 (M14 v0 51) (w32 ((w32 (12 * v1)) + v3)) (M14 (M14 v0 51) (w32 ((w32 (12 * v2)) + v3)))) fun (M18 : AwM) => (some (.inl ((w32 (v3 + 1)), M18)))))))))))) else some (.inr M))
def p_X9_copies_L14 (Γ : AwC) (sh : AwS) (v0 : Int) (v1 : Int) (v2 : Int) (Q : State → Prop) (s : Int × AwM) : Prop := AW Γ sh (s.2) 0 0 14 [some (.inr (.inr v0)), some (.inl v1), some (.inl v2), some (.inl (s.1))] [] Q
def x_X9_copies_L14 (Γ : AwC) (sh : AwS) (v0 : Int) (v1 : Int) (v2 : Int) (Q : State → Prop) : (AwM) → Prop := (fun (t : AwM) => AW Γ sh (t) 0 0 92 [some (.inr (.inr v0)), some (.inl v1), some (.inl v2), none] [] Q)
def fX9_copies_L94 (sh : AwS) (v0 : Int) (v1 : Int) (v2 : Int) (v3 : Int) (M : AwM) : Option ((Int × AwM) ⊕ (AwM)) :=
  (if v3 < 120 then gd_ (kd_ sh v0 = (0, 9)) (gd_ ((kd_ sh (M v0 52)).1 = 1 ∧ (0 : Int) ≤ (w32 ((w32 (120 * v2)) + v3)) ∧ (w32 ((w32 (120 * v2)) + v3)) < ((kd_ sh (M v0 52)).2 : Int)) (gd_ ((kd_ sh (M v0 52)).1 = 1 ∧ (0 : Int) ≤ (w32 ((w32 (120 * v1)) + v3)) ∧ (w32 ((w32 (120 * v1)) + v3)) < ((kd_ sh (M v0 52)).2 : Int)) (bd_ (up_ M (M v0 52) (w32 ((w32 (120 * v1)) + v3)) (M (M v0 52) (w32 ((w32 (120 * v2)) + v3)))) fun (M25 : AwM) => (some (.inl ((w32 (v3 + 1)), M25)))))) else some (.inr M))
def p_X9_copies_L94 (Γ : AwC) (sh : AwS) (v0 : Int) (v1 : Int) (v2 : Int) (Q : State → Prop) (s : Int × AwM) : Prop := AW Γ sh (s.2) 0 0 94 [some (.inr (.inr v0)), some (.inl v1), some (.inl v2), some (.inl (s.1))] [] Q
def x_X9_copies_L94 (Γ : AwC) (sh : AwS) (v0 : Int) (v1 : Int) (v2 : Int) (Q : State → Prop) : (AwM) → Prop := (fun (t : AwM) => AW Γ sh (t) 0 0 128 [none, none, none, none] [] Q)
def fX9_copies (sh : AwS) (M : AwM) (v0 : Int) (v1 : Int) (v2 : Int) : Option (AwM) :=
  gd_ (kd_ sh v0 = (0, 9)) (gd_ ((kd_ sh (M v0 48)).1 = 1 ∧ (0 : Int) ≤ v2 ∧ v2 < ((kd_ sh (M v0 48)).2 : Int)) (gd_ ((kd_ sh (M v0 48)).1 = 1 ∧ (0 : Int) ≤ v1 ∧ v1 < ((kd_ sh (M v0 48)).2 : Int)) (bd_ (up_ M (M v0 48) v1 (M (M v0 48) v2)) fun (M4 : AwM) => (pb (lp (u2 (fX9_copies_L14 sh v0 v1 v2)) FU (0, M4)) (u1 (fun (tq20 : AwM) => pb (lp (u2 (fX9_copies_L94 sh v0 v1 v2)) FU (0, tq20)) (u1 (fun (tq27 : AwM) => some tq27))))))))
set_option maxRecDepth 100000 in
set_option maxHeartbeats 4000000 in
theorem w_X9_copies_L14 {Γ : AwC} (hC : AOK Γ RX9 cX9_copies 4 1 0 0 "copies" none) {sh : AwS} {v0 : Int} {v1 : Int} {v2 : Int} {Q : State → Prop} : ∀ s r, u2 (fX9_copies_L14 sh v0 v1 v2) s = some r → (∀ s', r = .inl s' → p_X9_copies_L14 Γ sh v0 v1 v2 Q s') → (∀ t, r = .inr t → x_X9_copies_L14 Γ sh v0 v1 v2 Q t) → p_X9_copies_L14 Γ sh v0 v1 v2 Q s := by
  intro s r h hL hX
  obtain ⟨v3, M⟩ := s
  replace h := u2_s h
  unfold fX9_copies_L14 at h
  show AW Γ sh M 0 0 14 [some (.inr (.inr v0)), some (.inl v1), some (.inl v2), some (.inl v3)] [] Q
  refine aw_iload_n (pc' := 15) (i := 3) hC dX9_copies_14 rfl rfl rfl ?_
  refine aw_bipush (pc' := 17) hC dX9_copies_15 rfl (by decide) ?_
  refine aw_icmp_ge (tgt := 92) (pc' := 20) hC dX9_copies_17 (by decide) rfl (fun c6 => ?_) (fun c6 => ?_)
  · replace h := it_n c6 h
    refine aw_sub hC [some (.inr (.inr v0)), some (.inl v1), some (.inl v2), none] ⟨rfl, ⟨rfl, ⟨rfl, trivial⟩⟩⟩ (Nat.le_of_ble_eq_true rfl) ?_
    cases h
    exact hX _ rfl
  · replace h := it_p c6 h
    refine aw_aload_n (pc' := 21) (i := 0) hC dX9_copies_20 rfl rfl rfl ?_
    obtain ⟨g7, h⟩ := gd_s h
    refine aw_getfield (pc' := 24) (v := (.inr (.inr (M v0 49)))) hC dX9_copies_21 rfl fl_X9_162 g7 rfl ?_
    refine aw_bipush (pc' := 26) hC dX9_copies_24 rfl (by decide) ?_
    refine aw_iload_n (pc' := 27) (i := 1) hC dX9_copies_26 rfl rfl rfl ?_
    refine aw_imul (pc' := 28) hC dX9_copies_27 rfl  ?_
    refine aw_iload_n (pc' := 29) (i := 3) hC dX9_copies_28 rfl rfl rfl ?_
    refine aw_iadd (pc' := 30) hC dX9_copies_29 rfl  ?_
    refine aw_aload_n (pc' := 31) (i := 0) hC dX9_copies_30 rfl rfl rfl ?_
    refine aw_getfield (pc' := 34) (v := (.inr (.inr (M v0 49)))) hC dX9_copies_31 rfl fl_X9_162 g7 rfl ?_
    refine aw_bipush (pc' := 36) hC dX9_copies_34 rfl (by decide) ?_
    refine aw_iload_n (pc' := 37) (i := 2) hC dX9_copies_36 rfl rfl rfl ?_
    refine aw_imul (pc' := 38) hC dX9_copies_37 rfl  ?_
    refine aw_iload_n (pc' := 39) (i := 3) hC dX9_copies_38 rfl rfl rfl ?_
    refine aw_iadd (pc' := 40) hC dX9_copies_39 rfl  ?_
    obtain ⟨g8, h⟩ := gd_s h
    refine aw_iaload (pc' := 41) hC dX9_copies_40 rfl g8 ?_
    obtain ⟨g9, h⟩ := gd_s h
    obtain ⟨M10, e11, h⟩ := bd_s h
    refine aw_ias (pc' := 42) hC dX9_copies_41 rfl g9 e11 ?_
    refine aw_aload_n (pc' := 43) (i := 0) hC dX9_copies_42 rfl rfl rfl ?_
    refine aw_getfield (pc' := 46) (v := (.inr (.inr (M10 v0 50)))) hC dX9_copies_43 rfl fl_X9_165 g7 rfl ?_
    refine aw_bipush (pc' := 48) hC dX9_copies_46 rfl (by decide) ?_
    refine aw_iload_n (pc' := 49) (i := 1) hC dX9_copies_48 rfl rfl rfl ?_
    refine aw_imul (pc' := 50) hC dX9_copies_49 rfl  ?_
    refine aw_iload_n (pc' := 51) (i := 3) hC dX9_copies_50 rfl rfl rfl ?_
    refine aw_iadd (pc' := 52) hC dX9_copies_51 rfl  ?_
    refine aw_aload_n (pc' := 53) (i := 0) hC dX9_copies_52 rfl rfl rfl ?_
    refine aw_getfield (pc' := 56) (v := (.inr (.inr (M10 v0 50)))) hC dX9_copies_53 rfl fl_X9_165 g7 rfl ?_
    refine aw_bipush (pc' := 58) hC dX9_copies_56 rfl (by decide) ?_
    refine aw_iload_n (pc' := 59) (i := 2) hC dX9_copies_58 rfl rfl rfl ?_
    refine aw_imul (pc' := 60) hC dX9_copies_59 rfl  ?_
    refine aw_iload_n (pc' := 61) (i := 3) hC dX9_copies_60 rfl rfl rfl ?_
    refine aw_iadd (pc' := 62) hC dX9_copies_61 rfl  ?_
    obtain ⟨g12, h⟩ := gd_s h
    refine aw_iaload (pc' := 63) hC dX9_copies_62 rfl g12 ?_
    obtain ⟨g13, h⟩ := gd_s h
    obtain ⟨M14, e15, h⟩ := bd_s h
    refine aw_ias (pc' := 64) hC dX9_copies_63 rfl g13 e15 ?_
    refine aw_aload_n (pc' := 65) (i := 0) hC dX9_copies_64 rfl rfl rfl ?_
    refine aw_getfield (pc' := 68) (v := (.inr (.inr (M14 v0 51)))) hC dX9_copies_65 rfl fl_X9_168 g7 rfl ?_
    refine aw_bipush (pc' := 70) hC dX9_copies_68 rfl (by decide) ?_
    refine aw_iload_n (pc' := 71) (i := 1) hC dX9_copies_70 rfl rfl rfl ?_
    refine aw_imul (pc' := 72) hC dX9_copies_71 rfl  ?_
    refine aw_iload_n (pc' := 73) (i := 3) hC dX9_copies_72 rfl rfl rfl ?_
    refine aw_iadd (pc' := 74) hC dX9_copies_73 rfl  ?_
    refine aw_aload_n (pc' := 75) (i := 0) hC dX9_copies_74 rfl rfl rfl ?_
    refine aw_getfield (pc' := 78) (v := (.inr (.inr (M14 v0 51)))) hC dX9_copies_75 rfl fl_X9_168 g7 rfl ?_
    refine aw_bipush (pc' := 80) hC dX9_copies_78 rfl (by decide) ?_
    refine aw_iload_n (pc' := 81) (i := 2) hC dX9_copies_80 rfl rfl rfl ?_
    refine aw_imul (pc' := 82) hC dX9_copies_81 rfl  ?_
    refine aw_iload_n (pc' := 83) (i := 3) hC dX9_copies_82 rfl rfl rfl ?_
    refine aw_iadd (pc' := 84) hC dX9_copies_83 rfl  ?_
    obtain ⟨g16, h⟩ := gd_s h
    refine aw_iaload (pc' := 85) hC dX9_copies_84 rfl g16 ?_
    obtain ⟨g17, h⟩ := gd_s h
    obtain ⟨M18, e19, h⟩ := bd_s h
    refine aw_ias (pc' := 86) hC dX9_copies_85 rfl g17 e19 ?_
    refine aw_iinc (pc' := 89) (ls' := [some (.inr (.inr v0)), some (.inl v1), some (.inl v2), some (.inl (w32 (v3 + 1)))]) hC dX9_copies_86 rfl rfl rfl rfl ?_
    refine aw_goto (tgt := 14) hC dX9_copies_89 (by decide) ?_
    refine aw_sub hC [some (.inr (.inr v0)), some (.inl v1), some (.inl v2), some (.inl (w32 (v3 + 1)))] ⟨rfl, ⟨rfl, ⟨rfl, ⟨rfl, trivial⟩⟩⟩⟩ (Nat.le_of_ble_eq_true rfl) ?_
    cases h
    exact hL _ rfl
set_option maxRecDepth 100000 in
set_option maxHeartbeats 4000000 in
theorem w_X9_copies_L94 {Γ : AwC} (hC : AOK Γ RX9 cX9_copies 4 1 0 0 "copies" none) {sh : AwS} {v0 : Int} {v1 : Int} {v2 : Int} {Q : State → Prop} : ∀ s r, u2 (fX9_copies_L94 sh v0 v1 v2) s = some r → (∀ s', r = .inl s' → p_X9_copies_L94 Γ sh v0 v1 v2 Q s') → (∀ t, r = .inr t → x_X9_copies_L94 Γ sh v0 v1 v2 Q t) → p_X9_copies_L94 Γ sh v0 v1 v2 Q s := by
  intro s r h hL hX
  obtain ⟨v3, M⟩ := s
  replace h := u2_s h
  unfold fX9_copies_L94 at h
  show AW Γ sh M 0 0 94 [some (.inr (.inr v0)), some (.inl v1), some (.inl v2), some (.inl v3)] [] Q
  refine aw_iload_n (pc' := 95) (i := 3) hC dX9_copies_94 rfl rfl rfl ?_
  refine aw_bipush (pc' := 97) hC dX9_copies_95 rfl (by decide) ?_
  refine aw_icmp_ge (tgt := 128) (pc' := 100) hC dX9_copies_97 (by decide) rfl (fun c21 => ?_) (fun c21 => ?_)
  · replace h := it_n c21 h
    refine aw_sub hC [none, none, none, none] trivial (Nat.le_of_ble_eq_true rfl) ?_
    cases h
    exact hX _ rfl
  · replace h := it_p c21 h
    refine aw_aload_n (pc' := 101) (i := 0) hC dX9_copies_100 rfl rfl rfl ?_
    obtain ⟨g22, h⟩ := gd_s h
    refine aw_getfield (pc' := 104) (v := (.inr (.inr (M v0 52)))) hC dX9_copies_101 rfl fl_X9_171 g22 rfl ?_
    refine aw_bipush (pc' := 106) hC dX9_copies_104 rfl (by decide) ?_
    refine aw_iload_n (pc' := 107) (i := 1) hC dX9_copies_106 rfl rfl rfl ?_
    refine aw_imul (pc' := 108) hC dX9_copies_107 rfl  ?_
    refine aw_iload_n (pc' := 109) (i := 3) hC dX9_copies_108 rfl rfl rfl ?_
    refine aw_iadd (pc' := 110) hC dX9_copies_109 rfl  ?_
    refine aw_aload_n (pc' := 111) (i := 0) hC dX9_copies_110 rfl rfl rfl ?_
    refine aw_getfield (pc' := 114) (v := (.inr (.inr (M v0 52)))) hC dX9_copies_111 rfl fl_X9_171 g22 rfl ?_
    refine aw_bipush (pc' := 116) hC dX9_copies_114 rfl (by decide) ?_
    refine aw_iload_n (pc' := 117) (i := 2) hC dX9_copies_116 rfl rfl rfl ?_
    refine aw_imul (pc' := 118) hC dX9_copies_117 rfl  ?_
    refine aw_iload_n (pc' := 119) (i := 3) hC dX9_copies_118 rfl rfl rfl ?_
    refine aw_iadd (pc' := 120) hC dX9_copies_119 rfl  ?_
    obtain ⟨g23, h⟩ := gd_s h
    refine aw_iaload (pc' := 121) hC dX9_copies_120 rfl g23 ?_
    obtain ⟨g24, h⟩ := gd_s h
    obtain ⟨M25, e26, h⟩ := bd_s h
    refine aw_ias (pc' := 122) hC dX9_copies_121 rfl g24 e26 ?_
    refine aw_iinc (pc' := 125) (ls' := [some (.inr (.inr v0)), some (.inl v1), some (.inl v2), some (.inl (w32 (v3 + 1)))]) hC dX9_copies_122 rfl rfl rfl rfl ?_
    refine aw_goto (tgt := 94) hC dX9_copies_125 (by decide) ?_
    refine aw_sub hC [some (.inr (.inr v0)), some (.inl v1), some (.inl v2), some (.inl (w32 (v3 + 1)))] ⟨rfl, ⟨rfl, ⟨rfl, ⟨rfl, trivial⟩⟩⟩⟩ (Nat.le_of_ble_eq_true rfl) ?_
    cases h
    exact hL _ rfl
set_option maxRecDepth 100000 in
set_option maxHeartbeats 4000000 in
theorem mX9_copies {sh : AwS} {M : AwM} {v0 : Int} {v1 : Int} {v2 : Int} {M' : AwM} (h : fX9_copies sh M v0 v1 v2 = some M') : AMet yX9_copies cX9_copies 4 none 1 0 0 [.inr (.inr v0), .inl v1, .inl v2] sh M none sh M' := by
  refine amet_of (by decide +kernel) (Nat.le_of_ble_eq_true rfl) (fun Γ hC => ?_)
  replace hC : AOK Γ RX9 cX9_copies 4 1 0 0 "copies" none := hC
  unfold fX9_copies at h
  refine aw_sub hC [some (.inr (.inr v0)), some (.inl v1), some (.inl v2), none] ⟨rfl, ⟨rfl, ⟨rfl, trivial⟩⟩⟩ (Nat.le_of_ble_eq_true rfl) ?_
  refine aw_aload_n (pc' := 1) (i := 0) hC dX9_copies_0 rfl rfl rfl ?_
  obtain ⟨g1, h⟩ := gd_s h
  refine aw_getfield (pc' := 4) (v := (.inr (.inr (M v0 48)))) hC dX9_copies_1 rfl fl_X9_159 g1 rfl ?_
  refine aw_iload_n (pc' := 5) (i := 1) hC dX9_copies_4 rfl rfl rfl ?_
  refine aw_aload_n (pc' := 6) (i := 0) hC dX9_copies_5 rfl rfl rfl ?_
  refine aw_getfield (pc' := 9) (v := (.inr (.inr (M v0 48)))) hC dX9_copies_6 rfl fl_X9_159 g1 rfl ?_
  refine aw_iload_n (pc' := 10) (i := 2) hC dX9_copies_9 rfl rfl rfl ?_
  obtain ⟨g2, h⟩ := gd_s h
  refine aw_iaload (pc' := 11) hC dX9_copies_10 rfl g2 ?_
  obtain ⟨g3, h⟩ := gd_s h
  obtain ⟨M4, e5, h⟩ := bd_s h
  refine aw_ias (pc' := 12) hC dX9_copies_11 rfl g3 e5 ?_
  refine aw_iconst (pc' := 13) hC dX9_copies_12 rfl (by decide) ?_
  refine aw_istore_n (pc' := 14) (i := 3) (ls' := [some (.inr (.inr v0)), some (.inl v1), some (.inl v2), some (.inl 0)]) hC dX9_copies_13 rfl rfl (Nat.le_of_ble_eq_true rfl) rfl rfl ?_
  obtain ⟨tq20, q20, h⟩ := pb_s h
  refine aw_sub hC [some (.inr (.inr v0)), some (.inl v1), some (.inl v2), some (.inl 0)] ⟨rfl, ⟨rfl, ⟨rfl, ⟨rfl, trivial⟩⟩⟩⟩ (Nat.le_of_ble_eq_true rfl) ?_
  refine (lp_aw (p_X9_copies_L14 Γ sh v0 v1 v2 (fin_ Γ 0 0 none sh M')) (x_X9_copies_L14 Γ sh v0 v1 v2 (fin_ Γ 0 0 none sh M')) (w_X9_copies_L14 hC ) FU _ _ q20 ?_ : p_X9_copies_L14 Γ sh v0 v1 v2 (fin_ Γ 0 0 none sh M') (0, M4))
  replace h := u1_s h
  show AW Γ sh tq20 0 0 92 [some (.inr (.inr v0)), some (.inl v1), some (.inl v2), none] [] _
  refine aw_iconst (pc' := 93) hC dX9_copies_92 rfl (by decide) ?_
  refine aw_istore_n (pc' := 94) (i := 3) (ls' := [some (.inr (.inr v0)), some (.inl v1), some (.inl v2), some (.inl 0)]) hC dX9_copies_93 rfl rfl (Nat.le_of_ble_eq_true rfl) rfl rfl ?_
  obtain ⟨tq27, q27, h⟩ := pb_s h
  refine aw_sub hC [some (.inr (.inr v0)), some (.inl v1), some (.inl v2), some (.inl 0)] ⟨rfl, ⟨rfl, ⟨rfl, ⟨rfl, trivial⟩⟩⟩⟩ (Nat.le_of_ble_eq_true rfl) ?_
  refine (lp_aw (p_X9_copies_L94 Γ sh v0 v1 v2 (fin_ Γ 0 0 none sh M')) (x_X9_copies_L94 Γ sh v0 v1 v2 (fin_ Γ 0 0 none sh M')) (w_X9_copies_L94 hC ) FU _ _ q27 ?_ : p_X9_copies_L94 Γ sh v0 v1 v2 (fin_ Γ 0 0 none sh M') (0, tq20))
  replace h := u1_s h
  show AW Γ sh tq27 0 0 128 [none, none, none, none] [] _
  cases h
  exact aw_vret hC dX9_copies_128 (Nat.le_of_ble_eq_true rfl) (Nat.le_of_ble_eq_true rfl)
-- CoinCircleModel.ring(I)I
def fX9_ring (sh : AwS) (M : AwM) (v0 : Int) (v1 : Int) : Option Int :=
  gd_ (kd_ sh v0 = (0, 9)) (some (w32 (2 + (((w32 ((M v0 53) + v1)) : Int).tmod 20))))
set_option maxRecDepth 100000 in
set_option maxHeartbeats 4000000 in
theorem mX9_ring {sh : AwS} {M : AwM} {v0 : Int} {v1 : Int} {r : Int} (h : fX9_ring sh M v0 v1 = some r) : AMet yX9_ring cX9_ring 2 (some .int) 1 0 0 [.inr (.inr v0), .inl v1] sh M (some (.inl r)) sh M := by
  refine amet_of (by decide +kernel) (Nat.le_of_ble_eq_true rfl) (fun Γ hC => ?_)
  replace hC : AOK Γ RX9 cX9_ring 2 1 0 0 "ring" (some .int) := hC
  unfold fX9_ring at h
  refine aw_sub hC [some (.inr (.inr v0)), some (.inl v1)] ⟨rfl, ⟨rfl, trivial⟩⟩ (Nat.le_of_ble_eq_true rfl) ?_
  refine aw_iconst (pc' := 1) hC dX9_ring_0 rfl (by decide) ?_
  refine aw_aload_n (pc' := 2) (i := 0) hC dX9_ring_1 rfl rfl rfl ?_
  obtain ⟨g1, h⟩ := gd_s h
  refine aw_getfield (pc' := 5) (v := (.inl (M v0 53))) hC dX9_ring_2 rfl fl_X9_174 g1 rfl ?_
  refine aw_iload_n (pc' := 6) (i := 1) hC dX9_ring_5 rfl rfl rfl ?_
  refine aw_iadd (pc' := 7) hC dX9_ring_6 rfl  ?_
  refine aw_bipush (pc' := 9) hC dX9_ring_7 rfl (by decide) ?_
  refine aw_irem (pc' := 10) hC dX9_ring_9 rfl (by decide) ?_
  refine aw_iadd (pc' := 11) hC dX9_ring_10 rfl  ?_
  cases h
  exact aw_iret hC dX9_ring_11 (Nat.le_of_ble_eq_true rfl) (Nat.le_of_ble_eq_true rfl)
-- CoinCircleModel.keeps()V
def fX9_keeps (sh : AwS) (M : AwM) (v0 : Int) : Option (AwM) :=
  gd_ (kd_ sh v0 = (0, 9)) ((if (M v0 54) = 20 then bd_ (up_ M v0 53 (((w32 ((M v0 53) + 1)) : Int).tmod 20)) fun (M9 : AwM) => (bd_ (up_ M9 v0 54 (w32 ((M9 v0 54) - 1))) fun (M11 : AwM) => (pb (fX9_ring sh M11 v0 (M11 v0 54)) <| u1 fun (x14 : Int) => (pb (fX9_copies sh M11 v0 x14 0) <| u1 fun (M16 : AwM) => (bd_ (up_ M16 v0 54 (w32 ((M16 v0 54) + 1))) fun (M17 : AwM) => (some M17))))) else pb (fX9_ring sh M v0 (M v0 54)) <| u1 fun (x4 : Int) => (pb (fX9_copies sh M v0 x4 0) <| u1 fun (M6 : AwM) => (bd_ (up_ M6 v0 54 (w32 ((M6 v0 54) + 1))) fun (M7 : AwM) => (some M7)))))
set_option maxRecDepth 100000 in
set_option maxHeartbeats 4000000 in
theorem mX9_keeps {sh : AwS} {M : AwM} {v0 : Int} {M' : AwM} (h : fX9_keeps sh M v0 = some M') : AMet yX9_keeps cX9_keeps 1 none 2 0 0 [.inr (.inr v0)] sh M none sh M' := by
  refine amet_of (by decide +kernel) (Nat.le_of_ble_eq_true rfl) (fun Γ hC => ?_)
  replace hC : AOK Γ RX9 cX9_keeps 1 2 0 0 "keeps" none := hC
  unfold fX9_keeps at h
  refine aw_sub hC [some (.inr (.inr v0))] ⟨rfl, trivial⟩ (Nat.le_of_ble_eq_true rfl) ?_
  refine aw_aload_n (pc' := 1) (i := 0) hC dX9_keeps_0 rfl rfl rfl ?_
  obtain ⟨g1, h⟩ := gd_s h
  refine aw_getfield (pc' := 4) (v := (.inl (M v0 54))) hC dX9_keeps_1 rfl fl_X9_177 g1 rfl ?_
  refine aw_bipush (pc' := 6) hC dX9_keeps_4 rfl (by decide) ?_
  refine aw_icmp_ne (tgt := 32) (pc' := 9) hC dX9_keeps_6 (by decide) rfl (fun c2 => ?_) (fun c2 => ?_)
  · replace h := it_n c2 h
    refine aw_aload_n (pc' := 33) (i := 0) hC dX9_keeps_32 rfl rfl rfl ?_
    refine aw_aload_n (pc' := 34) (i := 0) hC dX9_keeps_33 rfl rfl rfl ?_
    refine aw_aload_n (pc' := 35) (i := 0) hC dX9_keeps_34 rfl rfl rfl ?_
    refine aw_getfield (pc' := 38) (v := (.inl (M v0 54))) hC dX9_keeps_35 rfl fl_X9_177 g1 rfl ?_
    obtain ⟨x4, q3, h⟩ := pb_s h
    replace h := u1_s h
    refine aw_cV (pc' := 41) (k2 := 0) (n2 := 0) (st := [.inr (.inr v0)]) (stN := [.inl x4, .inr (.inr v0)]) hC [.inl (M v0 54)] (mX9_ring q3) lk_X9_413 g1 dX9_keeps_38 rfl rfl (Nat.le_of_ble_eq_true rfl) (Nat.le_of_ble_eq_true rfl) (Nat.le_of_ble_eq_true rfl) rfl (Nat.le_of_ble_eq_true rfl) rfl rfl rfl ?_
    refine aw_iconst (pc' := 42) hC dX9_keeps_41 rfl (by decide) ?_
    obtain ⟨M6, q5, h⟩ := pb_s h
    replace h := u1_s h
    refine aw_cV (pc' := 45) (k2 := 0) (n2 := 0) (st := []) (stN := []) hC [.inl x4, .inl 0] (mX9_copies q5) lk_X9_416 g1 dX9_keeps_42 rfl rfl (Nat.le_of_ble_eq_true rfl) (Nat.le_of_ble_eq_true rfl) (Nat.le_of_ble_eq_true rfl) rfl (Nat.le_of_ble_eq_true rfl) rfl rfl rfl ?_
    refine aw_aload_n (pc' := 46) (i := 0) hC dX9_keeps_45 rfl rfl rfl ?_
    refine aw_dup (pc' := 47) hC dX9_keeps_46 rfl rfl ?_
    refine aw_getfield (pc' := 50) (v := (.inl (M6 v0 54))) hC dX9_keeps_47 rfl fl_X9_177 g1 rfl ?_
    refine aw_iconst (pc' := 51) hC dX9_keeps_50 rfl (by decide) ?_
    refine aw_iadd (pc' := 52) hC dX9_keeps_51 rfl  ?_
    obtain ⟨M7, e8, h⟩ := bd_s h
    refine aw_pf (pc' := 55) hC dX9_keeps_52 rfl fp_X9_177 g1 rfl trivial e8 ?_
    cases h
    exact aw_vret hC dX9_keeps_55 (Nat.le_of_ble_eq_true rfl) (Nat.le_of_ble_eq_true rfl)
  · replace h := it_p c2 h
    refine aw_aload_n (pc' := 10) (i := 0) hC dX9_keeps_9 rfl rfl rfl ?_
    refine aw_aload_n (pc' := 11) (i := 0) hC dX9_keeps_10 rfl rfl rfl ?_
    refine aw_getfield (pc' := 14) (v := (.inl (M v0 53))) hC dX9_keeps_11 rfl fl_X9_174 g1 rfl ?_
    refine aw_iconst (pc' := 15) hC dX9_keeps_14 rfl (by decide) ?_
    refine aw_iadd (pc' := 16) hC dX9_keeps_15 rfl  ?_
    refine aw_bipush (pc' := 18) hC dX9_keeps_16 rfl (by decide) ?_
    refine aw_irem (pc' := 19) hC dX9_keeps_18 rfl (by decide) ?_
    obtain ⟨M9, e10, h⟩ := bd_s h
    refine aw_pf (pc' := 22) hC dX9_keeps_19 rfl fp_X9_174 g1 rfl trivial e10 ?_
    refine aw_aload_n (pc' := 23) (i := 0) hC dX9_keeps_22 rfl rfl rfl ?_
    refine aw_dup (pc' := 24) hC dX9_keeps_23 rfl rfl ?_
    refine aw_getfield (pc' := 27) (v := (.inl (M9 v0 54))) hC dX9_keeps_24 rfl fl_X9_177 g1 rfl ?_
    refine aw_iconst (pc' := 28) hC dX9_keeps_27 rfl (by decide) ?_
    refine aw_isub (pc' := 29) hC dX9_keeps_28 rfl  ?_
    obtain ⟨M11, e12, h⟩ := bd_s h
    refine aw_pf (pc' := 32) hC dX9_keeps_29 rfl fp_X9_177 g1 rfl trivial e12 ?_
    refine aw_aload_n (pc' := 33) (i := 0) hC dX9_keeps_32 rfl rfl rfl ?_
    refine aw_aload_n (pc' := 34) (i := 0) hC dX9_keeps_33 rfl rfl rfl ?_
    refine aw_aload_n (pc' := 35) (i := 0) hC dX9_keeps_34 rfl rfl rfl ?_
    refine aw_getfield (pc' := 38) (v := (.inl (M11 v0 54))) hC dX9_keeps_35 rfl fl_X9_177 g1 rfl ?_
    obtain ⟨x14, q13, h⟩ := pb_s h
    replace h := u1_s h
    refine aw_cV (pc' := 41) (k2 := 0) (n2 := 0) (st := [.inr (.inr v0)]) (stN := [.inl x14, .inr (.inr v0)]) hC [.inl (M11 v0 54)] (mX9_ring q13) lk_X9_413 g1 dX9_keeps_38 rfl rfl (Nat.le_of_ble_eq_true rfl) (Nat.le_of_ble_eq_true rfl) (Nat.le_of_ble_eq_true rfl) rfl (Nat.le_of_ble_eq_true rfl) rfl rfl rfl ?_
    refine aw_iconst (pc' := 42) hC dX9_keeps_41 rfl (by decide) ?_
    obtain ⟨M16, q15, h⟩ := pb_s h
    replace h := u1_s h
    refine aw_cV (pc' := 45) (k2 := 0) (n2 := 0) (st := []) (stN := []) hC [.inl x14, .inl 0] (mX9_copies q15) lk_X9_416 g1 dX9_keeps_42 rfl rfl (Nat.le_of_ble_eq_true rfl) (Nat.le_of_ble_eq_true rfl) (Nat.le_of_ble_eq_true rfl) rfl (Nat.le_of_ble_eq_true rfl) rfl rfl rfl ?_
    refine aw_aload_n (pc' := 46) (i := 0) hC dX9_keeps_45 rfl rfl rfl ?_
    refine aw_dup (pc' := 47) hC dX9_keeps_46 rfl rfl ?_
    refine aw_getfield (pc' := 50) (v := (.inl (M16 v0 54))) hC dX9_keeps_47 rfl fl_X9_177 g1 rfl ?_
    refine aw_iconst (pc' := 51) hC dX9_keeps_50 rfl (by decide) ?_
    refine aw_iadd (pc' := 52) hC dX9_keeps_51 rfl  ?_
    obtain ⟨M17, e18, h⟩ := bd_s h
    refine aw_pf (pc' := 55) hC dX9_keeps_52 rfl fp_X9_177 g1 rfl trivial e18 ?_
    cases h
    exact aw_vret hC dX9_keeps_55 (Nat.le_of_ble_eq_true rfl) (Nat.le_of_ble_eq_true rfl)
-- CoinCircleModel.undo()Z
def fX9_undo (sh : AwS) (M : AwM) (v0 : Int) : Option (Int × AwM) :=
  gd_ (kd_ sh v0 = (0, 9)) ((if (M v0 54) = 0 then pb (fX9_refuses sh M v0 4) <| u2 fun (x10 : Int) (M11 : AwM) => ((if x10 < 0 then some (0, M11) else some (1, M11))) else bd_ (up_ M v0 54 (w32 ((M v0 54) - 1))) fun (M3 : AwM) => (pb (fX9_ring sh M3 v0 (M3 v0 54)) <| u1 fun (x6 : Int) => (pb (fX9_copies sh M3 v0 0 x6) <| u1 fun (M8 : AwM) => (some (1, M8))))))
set_option maxRecDepth 100000 in
set_option maxHeartbeats 4000000 in
theorem mX9_undo {sh : AwS} {M : AwM} {v0 : Int} {r : Int} {M' : AwM} (h : fX9_undo sh M v0 = some (r, M')) : AMet yX9_undo cX9_undo 1 (some .boolean) 2 0 0 [.inr (.inr v0)] sh M (some (.inl r)) sh M' := by
  refine amet_of (by decide +kernel) (Nat.le_of_ble_eq_true rfl) (fun Γ hC => ?_)
  replace hC : AOK Γ RX9 cX9_undo 1 2 0 0 "undo" (some .boolean) := hC
  unfold fX9_undo at h
  refine aw_sub hC [some (.inr (.inr v0))] ⟨rfl, trivial⟩ (Nat.le_of_ble_eq_true rfl) ?_
  refine aw_aload_n (pc' := 1) (i := 0) hC dX9_undo_0 rfl rfl rfl ?_
  obtain ⟨g1, h⟩ := gd_s h
  refine aw_getfield (pc' := 4) (v := (.inl (M v0 54))) hC dX9_undo_1 rfl fl_X9_177 g1 rfl ?_
  refine aw_if_ne (tgt := 21) (pc' := 7) hC dX9_undo_4 (by decide) rfl (fun c2 => ?_) (fun c2 => ?_)
  · replace h := it_n c2 h
    refine aw_aload_n (pc' := 22) (i := 0) hC dX9_undo_21 rfl rfl rfl ?_
    refine aw_dup (pc' := 23) hC dX9_undo_22 rfl rfl ?_
    refine aw_getfield (pc' := 26) (v := (.inl (M v0 54))) hC dX9_undo_23 rfl fl_X9_177 g1 rfl ?_
    refine aw_iconst (pc' := 27) hC dX9_undo_26 rfl (by decide) ?_
    refine aw_isub (pc' := 28) hC dX9_undo_27 rfl  ?_
    obtain ⟨M3, e4, h⟩ := bd_s h
    refine aw_pf (pc' := 31) hC dX9_undo_28 rfl fp_X9_177 g1 rfl trivial e4 ?_
    refine aw_aload_n (pc' := 32) (i := 0) hC dX9_undo_31 rfl rfl rfl ?_
    refine aw_iconst (pc' := 33) hC dX9_undo_32 rfl (by decide) ?_
    refine aw_aload_n (pc' := 34) (i := 0) hC dX9_undo_33 rfl rfl rfl ?_
    refine aw_aload_n (pc' := 35) (i := 0) hC dX9_undo_34 rfl rfl rfl ?_
    refine aw_getfield (pc' := 38) (v := (.inl (M3 v0 54))) hC dX9_undo_35 rfl fl_X9_177 g1 rfl ?_
    obtain ⟨x6, q5, h⟩ := pb_s h
    replace h := u1_s h
    refine aw_cV (pc' := 41) (k2 := 0) (n2 := 0) (st := [.inl 0, .inr (.inr v0)]) (stN := [.inl x6, .inl 0, .inr (.inr v0)]) hC [.inl (M3 v0 54)] (mX9_ring q5) lk_X9_413 g1 dX9_undo_38 rfl rfl (Nat.le_of_ble_eq_true rfl) (Nat.le_of_ble_eq_true rfl) (Nat.le_of_ble_eq_true rfl) rfl (Nat.le_of_ble_eq_true rfl) rfl rfl rfl ?_
    obtain ⟨M8, q7, h⟩ := pb_s h
    replace h := u1_s h
    refine aw_cV (pc' := 44) (k2 := 0) (n2 := 0) (st := []) (stN := []) hC [.inl 0, .inl x6] (mX9_copies q7) lk_X9_416 g1 dX9_undo_41 rfl rfl (Nat.le_of_ble_eq_true rfl) (Nat.le_of_ble_eq_true rfl) (Nat.le_of_ble_eq_true rfl) rfl (Nat.le_of_ble_eq_true rfl) rfl rfl rfl ?_
    refine aw_iconst (pc' := 45) hC dX9_undo_44 rfl (by decide) ?_
    cases h
    exact aw_zret hC (Or.inr rfl) dX9_undo_45 (Nat.le_of_ble_eq_true rfl) (Nat.le_of_ble_eq_true rfl)
  · replace h := it_p c2 h
    refine aw_aload_n (pc' := 8) (i := 0) hC dX9_undo_7 rfl rfl rfl ?_
    refine aw_iconst (pc' := 9) hC dX9_undo_8 rfl (by decide) ?_
    obtain ⟨⟨x10, M11⟩, q9, h⟩ := pb_s h
    replace h := u2_s h
    refine aw_cV (pc' := 12) (k2 := 0) (n2 := 0) (st := []) (stN := [.inl x10]) hC [.inl 4] (mX9_refuses q9) lk_X9_228 g1 dX9_undo_9 rfl rfl (Nat.le_of_ble_eq_true rfl) (Nat.le_of_ble_eq_true rfl) (Nat.le_of_ble_eq_true rfl) rfl (Nat.le_of_ble_eq_true rfl) rfl rfl rfl ?_
    refine aw_if_lt (tgt := 19) (pc' := 15) hC dX9_undo_12 (by decide) rfl (fun c12 => ?_) (fun c12 => ?_)
    · replace h := it_p c12 h
      refine aw_iconst (pc' := 20) hC dX9_undo_19 rfl (by decide) ?_
      cases h
      exact aw_zret hC (Or.inl rfl) dX9_undo_20 (Nat.le_of_ble_eq_true rfl) (Nat.le_of_ble_eq_true rfl)
    · replace h := it_n c12 h
      refine aw_iconst (pc' := 16) hC dX9_undo_15 rfl (by decide) ?_
      refine aw_goto (tgt := 20) hC dX9_undo_16 (by decide) ?_
      cases h
      exact aw_zret hC (Or.inr rfl) dX9_undo_20 (Nat.le_of_ble_eq_true rfl) (Nat.le_of_ble_eq_true rfl)
-- CoinCircleModel.heldBy(II)I
def fX9_heldBy_L5 (sh : AwS) (M : AwM) (v0 : Int) (v1 : Int) (v2 : Int) (v3 : Int) (v4 : Int) : Option ((Int × Int) ⊕ (Int)) :=
  gd_ (kd_ sh v0 = (0, 9)) (gd_ ((kd_ sh (M v0 16)).1 = 1 ∧ (0 : Int) ≤ (M v0 13) ∧ (M v0 13) < ((kd_ sh (M v0 16)).2 : Int)) ((if v4 < (M (M v0 16) (M v0 13)) then gd_ ((kd_ sh (M v0 49)).1 = 1 ∧ (0 : Int) ≤ (w32 ((w32 (12 * v1)) + v4)) ∧ (w32 ((w32 (12 * v1)) + v4)) < ((kd_ sh (M v0 49)).2 : Int)) ((if (M (M v0 49) (w32 ((w32 (12 * v1)) + v4))) = v2 then some (.inl ((or_ v3 (sl_ 1 v4)), (w32 (v4 + 1)))) else some (.inl ((or_ v3 0), (w32 (v4 + 1)))))) else some (.inr v3))))
def p_X9_heldBy_L5 (Γ : AwC) (sh : AwS) (M : AwM) (v0 : Int) (v1 : Int) (v2 : Int) (Q : State → Prop) (s : Int × Int) : Prop := AW Γ sh M 0 0 5 [some (.inr (.inr v0)), some (.inl v1), some (.inl v2), some (.inl (s.1)), some (.inl (s.2))] [] Q
def x_X9_heldBy_L5 (Γ : AwC) (sh : AwS) (M : AwM) (v0 : Int) (v1 : Int) (v2 : Int) (Q : State → Prop) : (Int) → Prop := (fun (t : Int) => AW Γ sh M 0 0 52 [none, none, none, some (.inl (t)), none] [] Q)
def fX9_heldBy (sh : AwS) (M : AwM) (v0 : Int) (v1 : Int) (v2 : Int) : Option Int :=
  pb (lp (u2 (fX9_heldBy_L5 sh M v0 v1 v2)) FU (0, 0)) (u1 (fun (tq6 : Int) => some tq6))
set_option maxRecDepth 100000 in
set_option maxHeartbeats 4000000 in
theorem w_X9_heldBy_L5 {Γ : AwC} (hC : AOK Γ RX9 cX9_heldBy 5 1 0 0 "heldBy" (some .int)) {sh : AwS} {M : AwM} {v0 : Int} {v1 : Int} {v2 : Int} {Q : State → Prop} : ∀ s r, u2 (fX9_heldBy_L5 sh M v0 v1 v2) s = some r → (∀ s', r = .inl s' → p_X9_heldBy_L5 Γ sh M v0 v1 v2 Q s') → (∀ t, r = .inr t → x_X9_heldBy_L5 Γ sh M v0 v1 v2 Q t) → p_X9_heldBy_L5 Γ sh M v0 v1 v2 Q s := by
  intro s r h hL hX
  obtain ⟨v3, v4⟩ := s
  replace h := u2_s h
  unfold fX9_heldBy_L5 at h
  show AW Γ sh M 0 0 5 [some (.inr (.inr v0)), some (.inl v1), some (.inl v2), some (.inl v3), some (.inl v4)] [] Q
  refine aw_iload (pc' := 7) hC dX9_heldBy_5 rfl rfl ?_
  refine aw_aload_n (pc' := 8) (i := 0) hC dX9_heldBy_7 rfl rfl rfl ?_
  obtain ⟨g1, h⟩ := gd_s h
  refine aw_getfield (pc' := 11) (v := (.inr (.inr (M v0 16)))) hC dX9_heldBy_8 rfl fl_X9_60 g1 rfl ?_
  refine aw_aload_n (pc' := 12) (i := 0) hC dX9_heldBy_11 rfl rfl rfl ?_
  refine aw_getfield (pc' := 15) (v := (.inl (M v0 13))) hC dX9_heldBy_12 rfl fl_X9_51 g1 rfl ?_
  obtain ⟨g2, h⟩ := gd_s h
  refine aw_iaload (pc' := 16) hC dX9_heldBy_15 rfl g2 ?_
  refine aw_icmp_ge (tgt := 52) (pc' := 19) hC dX9_heldBy_16 (by decide) rfl (fun c3 => ?_) (fun c3 => ?_)
  · replace h := it_n c3 h
    refine aw_sub hC [none, none, none, some (.inl v3), none] ⟨rfl, trivial⟩ (Nat.le_of_ble_eq_true rfl) ?_
    cases h
    exact hX _ rfl
  · replace h := it_p c3 h
    refine aw_iload_n (pc' := 20) (i := 3) hC dX9_heldBy_19 rfl rfl rfl ?_
    refine aw_aload_n (pc' := 21) (i := 0) hC dX9_heldBy_20 rfl rfl rfl ?_
    refine aw_getfield (pc' := 24) (v := (.inr (.inr (M v0 49)))) hC dX9_heldBy_21 rfl fl_X9_162 g1 rfl ?_
    refine aw_bipush (pc' := 26) hC dX9_heldBy_24 rfl (by decide) ?_
    refine aw_iload_n (pc' := 27) (i := 1) hC dX9_heldBy_26 rfl rfl rfl ?_
    refine aw_imul (pc' := 28) hC dX9_heldBy_27 rfl  ?_
    refine aw_iload (pc' := 30) hC dX9_heldBy_28 rfl rfl ?_
    refine aw_iadd (pc' := 31) hC dX9_heldBy_30 rfl  ?_
    obtain ⟨g4, h⟩ := gd_s h
    refine aw_iaload (pc' := 32) hC dX9_heldBy_31 rfl g4 ?_
    refine aw_iload_n (pc' := 33) (i := 2) hC dX9_heldBy_32 rfl rfl rfl ?_
    refine aw_icmp_ne (tgt := 43) (pc' := 36) hC dX9_heldBy_33 (by decide) rfl (fun c5 => ?_) (fun c5 => ?_)
    · replace h := it_n c5 h
      refine aw_iconst (pc' := 44) hC dX9_heldBy_43 rfl (by decide) ?_
      refine aw_ior (pc' := 45) hC dX9_heldBy_44 rfl  ?_
      refine aw_istore_n (pc' := 46) (i := 3) (ls' := [some (.inr (.inr v0)), some (.inl v1), some (.inl v2), some (.inl (or_ v3 0)), some (.inl v4)]) hC dX9_heldBy_45 rfl rfl (Nat.le_of_ble_eq_true rfl) rfl rfl ?_
      refine aw_iinc (pc' := 49) (ls' := [some (.inr (.inr v0)), some (.inl v1), some (.inl v2), some (.inl (or_ v3 0)), some (.inl (w32 (v4 + 1)))]) hC dX9_heldBy_46 rfl rfl rfl rfl ?_
      refine aw_goto (tgt := 5) hC dX9_heldBy_49 (by decide) ?_
      refine aw_sub hC [some (.inr (.inr v0)), some (.inl v1), some (.inl v2), some (.inl (or_ v3 0)), some (.inl (w32 (v4 + 1)))] ⟨rfl, ⟨rfl, ⟨rfl, ⟨rfl, ⟨rfl, trivial⟩⟩⟩⟩⟩ (Nat.le_of_ble_eq_true rfl) ?_
      cases h
      exact hL _ rfl
    · replace h := it_p c5 h
      refine aw_iconst (pc' := 37) hC dX9_heldBy_36 rfl (by decide) ?_
      refine aw_iload (pc' := 39) hC dX9_heldBy_37 rfl rfl ?_
      refine aw_ishl (pc' := 40) hC dX9_heldBy_39 rfl  ?_
      refine aw_goto (tgt := 44) hC dX9_heldBy_40 (by decide) ?_
      refine aw_ior (pc' := 45) hC dX9_heldBy_44 rfl  ?_
      refine aw_istore_n (pc' := 46) (i := 3) (ls' := [some (.inr (.inr v0)), some (.inl v1), some (.inl v2), some (.inl (or_ v3 (sl_ 1 v4))), some (.inl v4)]) hC dX9_heldBy_45 rfl rfl (Nat.le_of_ble_eq_true rfl) rfl rfl ?_
      refine aw_iinc (pc' := 49) (ls' := [some (.inr (.inr v0)), some (.inl v1), some (.inl v2), some (.inl (or_ v3 (sl_ 1 v4))), some (.inl (w32 (v4 + 1)))]) hC dX9_heldBy_46 rfl rfl rfl rfl ?_
      refine aw_goto (tgt := 5) hC dX9_heldBy_49 (by decide) ?_
      refine aw_sub hC [some (.inr (.inr v0)), some (.inl v1), some (.inl v2), some (.inl (or_ v3 (sl_ 1 v4))), some (.inl (w32 (v4 + 1)))] ⟨rfl, ⟨rfl, ⟨rfl, ⟨rfl, ⟨rfl, trivial⟩⟩⟩⟩⟩ (Nat.le_of_ble_eq_true rfl) ?_
      cases h
      exact hL _ rfl
set_option maxRecDepth 100000 in
set_option maxHeartbeats 4000000 in
theorem mX9_heldBy {sh : AwS} {M : AwM} {v0 : Int} {v1 : Int} {v2 : Int} {r : Int} (h : fX9_heldBy sh M v0 v1 v2 = some r) : AMet yX9_heldBy cX9_heldBy 5 (some .int) 1 0 0 [.inr (.inr v0), .inl v1, .inl v2] sh M (some (.inl r)) sh M := by
  refine amet_of (by decide +kernel) (Nat.le_of_ble_eq_true rfl) (fun Γ hC => ?_)
  replace hC : AOK Γ RX9 cX9_heldBy 5 1 0 0 "heldBy" (some .int) := hC
  unfold fX9_heldBy at h
  refine aw_sub hC [some (.inr (.inr v0)), some (.inl v1), some (.inl v2), none, none] ⟨rfl, ⟨rfl, ⟨rfl, trivial⟩⟩⟩ (Nat.le_of_ble_eq_true rfl) ?_
  refine aw_iconst (pc' := 1) hC dX9_heldBy_0 rfl (by decide) ?_
  refine aw_istore_n (pc' := 2) (i := 3) (ls' := [some (.inr (.inr v0)), some (.inl v1), some (.inl v2), some (.inl 0), none]) hC dX9_heldBy_1 rfl rfl (Nat.le_of_ble_eq_true rfl) rfl rfl ?_
  refine aw_iconst (pc' := 3) hC dX9_heldBy_2 rfl (by decide) ?_
  refine aw_istore (pc' := 5) (ls' := [some (.inr (.inr v0)), some (.inl v1), some (.inl v2), some (.inl 0), some (.inl 0)]) hC dX9_heldBy_3 rfl (Nat.le_of_ble_eq_true rfl) rfl rfl ?_
  obtain ⟨tq6, q6, h⟩ := pb_s h
  refine aw_sub hC [some (.inr (.inr v0)), some (.inl v1), some (.inl v2), some (.inl 0), some (.inl 0)] ⟨rfl, ⟨rfl, ⟨rfl, ⟨rfl, ⟨rfl, trivial⟩⟩⟩⟩⟩ (Nat.le_of_ble_eq_true rfl) ?_
  refine (lp_aw (p_X9_heldBy_L5 Γ sh M v0 v1 v2 (fin_ Γ 0 0 (some (.inl r)) sh M)) (x_X9_heldBy_L5 Γ sh M v0 v1 v2 (fin_ Γ 0 0 (some (.inl r)) sh M)) (w_X9_heldBy_L5 hC ) FU _ _ q6 ?_ : p_X9_heldBy_L5 Γ sh M v0 v1 v2 (fin_ Γ 0 0 (some (.inl r)) sh M) (0, 0))
  replace h := u1_s h
  show AW Γ sh M 0 0 52 [none, none, none, some (.inl tq6), none] [] _
  refine aw_iload_n (pc' := 53) (i := 3) hC dX9_heldBy_52 rfl rfl rfl ?_
  cases h
  exact aw_iret hC dX9_heldBy_53 (Nat.le_of_ble_eq_true rfl) (Nat.le_of_ble_eq_true rfl)
-- CoinCircleModel.knowing(II)I
def fX9_knowing_L5 (sh : AwS) (M : AwM) (v0 : Int) (v1 : Int) (v2 : Int) (v3 : Int) (v4 : Int) : Option ((Int × Int) ⊕ (Int)) :=
  gd_ (kd_ sh v0 = (0, 9)) (gd_ ((kd_ sh (M v0 16)).1 = 1 ∧ (0 : Int) ≤ (M v0 13) ∧ (M v0 13) < ((kd_ sh (M v0 16)).2 : Int)) ((if v4 < (M (M v0 16) (M v0 13)) then gd_ ((kd_ sh (M v0 50)).1 = 1 ∧ (0 : Int) ≤ (w32 ((w32 (12 * v1)) + v4)) ∧ (w32 ((w32 (12 * v1)) + v4)) < ((kd_ sh (M v0 50)).2 : Int)) (pb (fX9_has2 sh M (M (M v0 50) (w32 ((w32 (12 * v1)) + v4))) v2) <| u1 fun (x6 : Int) => ((if x6 = 0 then some (.inl ((or_ v3 0), (w32 (v4 + 1)))) else some (.inl ((or_ v3 (sl_ 1 v4)), (w32 (v4 + 1))))))) else some (.inr v3))))
def p_X9_knowing_L5 (Γ : AwC) (sh : AwS) (M : AwM) (v0 : Int) (v1 : Int) (v2 : Int) (Q : State → Prop) (s : Int × Int) : Prop := AW Γ sh M 0 0 5 [some (.inr (.inr v0)), some (.inl v1), some (.inl v2), some (.inl (s.1)), some (.inl (s.2))] [] Q
def x_X9_knowing_L5 (Γ : AwC) (sh : AwS) (M : AwM) (v0 : Int) (v1 : Int) (v2 : Int) (Q : State → Prop) : (Int) → Prop := (fun (t : Int) => AW Γ sh M 0 0 55 [none, none, none, some (.inl (t)), none] [] Q)
def fX9_knowing (sh : AwS) (M : AwM) (v0 : Int) (v1 : Int) (v2 : Int) : Option Int :=
  pb (lp (u2 (fX9_knowing_L5 sh M v0 v1 v2)) FU (0, 0)) (u1 (fun (tq8 : Int) => some tq8))
set_option maxRecDepth 100000 in
set_option maxHeartbeats 4000000 in
theorem w_X9_knowing_L5 {Γ : AwC} (hC : AOK Γ RX9 cX9_knowing 5 2 0 0 "knowing" (some .int)) {sh : AwS} {M : AwM} {v0 : Int} {v1 : Int} {v2 : Int} {Q : State → Prop} : ∀ s r, u2 (fX9_knowing_L5 sh M v0 v1 v2) s = some r → (∀ s', r = .inl s' → p_X9_knowing_L5 Γ sh M v0 v1 v2 Q s') → (∀ t, r = .inr t → x_X9_knowing_L5 Γ sh M v0 v1 v2 Q t) → p_X9_knowing_L5 Γ sh M v0 v1 v2 Q s := by
  intro s r h hL hX
  obtain ⟨v3, v4⟩ := s
  replace h := u2_s h
  unfold fX9_knowing_L5 at h
  show AW Γ sh M 0 0 5 [some (.inr (.inr v0)), some (.inl v1), some (.inl v2), some (.inl v3), some (.inl v4)] [] Q
  refine aw_iload (pc' := 7) hC dX9_knowing_5 rfl rfl ?_
  refine aw_aload_n (pc' := 8) (i := 0) hC dX9_knowing_7 rfl rfl rfl ?_
  obtain ⟨g1, h⟩ := gd_s h
  refine aw_getfield (pc' := 11) (v := (.inr (.inr (M v0 16)))) hC dX9_knowing_8 rfl fl_X9_60 g1 rfl ?_
  refine aw_aload_n (pc' := 12) (i := 0) hC dX9_knowing_11 rfl rfl rfl ?_
  refine aw_getfield (pc' := 15) (v := (.inl (M v0 13))) hC dX9_knowing_12 rfl fl_X9_51 g1 rfl ?_
  obtain ⟨g2, h⟩ := gd_s h
  refine aw_iaload (pc' := 16) hC dX9_knowing_15 rfl g2 ?_
  refine aw_icmp_ge (tgt := 55) (pc' := 19) hC dX9_knowing_16 (by decide) rfl (fun c3 => ?_) (fun c3 => ?_)
  · replace h := it_n c3 h
    refine aw_sub hC [none, none, none, some (.inl v3), none] ⟨rfl, trivial⟩ (Nat.le_of_ble_eq_true rfl) ?_
    cases h
    exact hX _ rfl
  · replace h := it_p c3 h
    refine aw_iload_n (pc' := 20) (i := 3) hC dX9_knowing_19 rfl rfl rfl ?_
    refine aw_aload_n (pc' := 21) (i := 0) hC dX9_knowing_20 rfl rfl rfl ?_
    refine aw_getfield (pc' := 24) (v := (.inr (.inr (M v0 50)))) hC dX9_knowing_21 rfl fl_X9_165 g1 rfl ?_
    refine aw_bipush (pc' := 26) hC dX9_knowing_24 rfl (by decide) ?_
    refine aw_iload_n (pc' := 27) (i := 1) hC dX9_knowing_26 rfl rfl rfl ?_
    refine aw_imul (pc' := 28) hC dX9_knowing_27 rfl  ?_
    refine aw_iload (pc' := 30) hC dX9_knowing_28 rfl rfl ?_
    refine aw_iadd (pc' := 31) hC dX9_knowing_30 rfl  ?_
    obtain ⟨g4, h⟩ := gd_s h
    refine aw_iaload (pc' := 32) hC dX9_knowing_31 rfl g4 ?_
    refine aw_iload_n (pc' := 33) (i := 2) hC dX9_knowing_32 rfl rfl rfl ?_
    obtain ⟨x6, q5, h⟩ := pb_s h
    replace h := u1_s h
    refine aw_cS (pc' := 36) (k2 := 0) (n2 := 0) (st := [.inl v3]) (stN := [.inl x6, .inl v3]) hC [.inl (M (M v0 50) (w32 ((w32 (12 * v1)) + v4))), .inl v2] (mX9_has2 q5) lk_X9_373 dX9_knowing_33 rfl rfl (Nat.le_of_ble_eq_true rfl) (Nat.le_of_ble_eq_true rfl) (Nat.le_of_ble_eq_true rfl) rfl (Nat.le_of_ble_eq_true rfl) rfl rfl rfl ?_
    refine aw_if_eq (tgt := 46) (pc' := 39) hC dX9_knowing_36 (by decide) rfl (fun c7 => ?_) (fun c7 => ?_)
    · replace h := it_p c7 h
      refine aw_iconst (pc' := 47) hC dX9_knowing_46 rfl (by decide) ?_
      refine aw_ior (pc' := 48) hC dX9_knowing_47 rfl  ?_
      refine aw_istore_n (pc' := 49) (i := 3) (ls' := [some (.inr (.inr v0)), some (.inl v1), some (.inl v2), some (.inl (or_ v3 0)), some (.inl v4)]) hC dX9_knowing_48 rfl rfl (Nat.le_of_ble_eq_true rfl) rfl rfl ?_
      refine aw_iinc (pc' := 52) (ls' := [some (.inr (.inr v0)), some (.inl v1), some (.inl v2), some (.inl (or_ v3 0)), some (.inl (w32 (v4 + 1)))]) hC dX9_knowing_49 rfl rfl rfl rfl ?_
      refine aw_goto (tgt := 5) hC dX9_knowing_52 (by decide) ?_
      refine aw_sub hC [some (.inr (.inr v0)), some (.inl v1), some (.inl v2), some (.inl (or_ v3 0)), some (.inl (w32 (v4 + 1)))] ⟨rfl, ⟨rfl, ⟨rfl, ⟨rfl, ⟨rfl, trivial⟩⟩⟩⟩⟩ (Nat.le_of_ble_eq_true rfl) ?_
      cases h
      exact hL _ rfl
    · replace h := it_n c7 h
      refine aw_iconst (pc' := 40) hC dX9_knowing_39 rfl (by decide) ?_
      refine aw_iload (pc' := 42) hC dX9_knowing_40 rfl rfl ?_
      refine aw_ishl (pc' := 43) hC dX9_knowing_42 rfl  ?_
      refine aw_goto (tgt := 47) hC dX9_knowing_43 (by decide) ?_
      refine aw_ior (pc' := 48) hC dX9_knowing_47 rfl  ?_
      refine aw_istore_n (pc' := 49) (i := 3) (ls' := [some (.inr (.inr v0)), some (.inl v1), some (.inl v2), some (.inl (or_ v3 (sl_ 1 v4))), some (.inl v4)]) hC dX9_knowing_48 rfl rfl (Nat.le_of_ble_eq_true rfl) rfl rfl ?_
      refine aw_iinc (pc' := 52) (ls' := [some (.inr (.inr v0)), some (.inl v1), some (.inl v2), some (.inl (or_ v3 (sl_ 1 v4))), some (.inl (w32 (v4 + 1)))]) hC dX9_knowing_49 rfl rfl rfl rfl ?_
      refine aw_goto (tgt := 5) hC dX9_knowing_52 (by decide) ?_
      refine aw_sub hC [some (.inr (.inr v0)), some (.inl v1), some (.inl v2), some (.inl (or_ v3 (sl_ 1 v4))), some (.inl (w32 (v4 + 1)))] ⟨rfl, ⟨rfl, ⟨rfl, ⟨rfl, ⟨rfl, trivial⟩⟩⟩⟩⟩ (Nat.le_of_ble_eq_true rfl) ?_
      cases h
      exact hL _ rfl
set_option maxRecDepth 100000 in
set_option maxHeartbeats 4000000 in
theorem mX9_knowing {sh : AwS} {M : AwM} {v0 : Int} {v1 : Int} {v2 : Int} {r : Int} (h : fX9_knowing sh M v0 v1 v2 = some r) : AMet yX9_knowing cX9_knowing 5 (some .int) 2 0 0 [.inr (.inr v0), .inl v1, .inl v2] sh M (some (.inl r)) sh M := by
  refine amet_of (by decide +kernel) (Nat.le_of_ble_eq_true rfl) (fun Γ hC => ?_)
  replace hC : AOK Γ RX9 cX9_knowing 5 2 0 0 "knowing" (some .int) := hC
  unfold fX9_knowing at h
  refine aw_sub hC [some (.inr (.inr v0)), some (.inl v1), some (.inl v2), none, none] ⟨rfl, ⟨rfl, ⟨rfl, trivial⟩⟩⟩ (Nat.le_of_ble_eq_true rfl) ?_
  refine aw_iconst (pc' := 1) hC dX9_knowing_0 rfl (by decide) ?_
  refine aw_istore_n (pc' := 2) (i := 3) (ls' := [some (.inr (.inr v0)), some (.inl v1), some (.inl v2), some (.inl 0), none]) hC dX9_knowing_1 rfl rfl (Nat.le_of_ble_eq_true rfl) rfl rfl ?_
  refine aw_iconst (pc' := 3) hC dX9_knowing_2 rfl (by decide) ?_
  refine aw_istore (pc' := 5) (ls' := [some (.inr (.inr v0)), some (.inl v1), some (.inl v2), some (.inl 0), some (.inl 0)]) hC dX9_knowing_3 rfl (Nat.le_of_ble_eq_true rfl) rfl rfl ?_
  obtain ⟨tq8, q8, h⟩ := pb_s h
  refine aw_sub hC [some (.inr (.inr v0)), some (.inl v1), some (.inl v2), some (.inl 0), some (.inl 0)] ⟨rfl, ⟨rfl, ⟨rfl, ⟨rfl, ⟨rfl, trivial⟩⟩⟩⟩⟩ (Nat.le_of_ble_eq_true rfl) ?_
  refine (lp_aw (p_X9_knowing_L5 Γ sh M v0 v1 v2 (fin_ Γ 0 0 (some (.inl r)) sh M)) (x_X9_knowing_L5 Γ sh M v0 v1 v2 (fin_ Γ 0 0 (some (.inl r)) sh M)) (w_X9_knowing_L5 hC ) FU _ _ q8 ?_ : p_X9_knowing_L5 Γ sh M v0 v1 v2 (fin_ Γ 0 0 (some (.inl r)) sh M) (0, 0))
  replace h := u1_s h
  show AW Γ sh M 0 0 55 [none, none, none, some (.inl tq8), none] [] _
  refine aw_iload_n (pc' := 56) (i := 3) hC dX9_knowing_55 rfl rfl rfl ?_
  cases h
  exact aw_iret hC dX9_knowing_56 (Nat.le_of_ble_eq_true rfl) (Nat.le_of_ble_eq_true rfl)
-- CoinCircleModel.worthAll(I)I
def fX9_worthAll_L4 (sh : AwS) (M : AwM) (v0 : Int) (v1 : Int) (v2 : Int) (v3 : Int) : Option ((Int × Int) ⊕ (Int)) :=
  gd_ (kd_ sh v0 = (0, 9)) (gd_ ((kd_ sh (M v0 16)).1 = 1 ∧ (0 : Int) ≤ (M v0 13) ∧ (M v0 13) < ((kd_ sh (M v0 16)).2 : Int)) ((if v3 < (M (M v0 16) (M v0 13)) then pb (fX9_has2 sh M v1 v3) <| u1 fun (x5 : Int) => ((if x5 = 0 then some (.inl ((w32 (v2 + 0)), (w32 (v3 + 1)))) else pb (fX9_worthOf sh M v0 v3) <| u1 fun (x8 : Int) => (some (.inl ((w32 (v2 + x8)), (w32 (v3 + 1))))))) else some (.inr v2))))
def p_X9_worthAll_L4 (Γ : AwC) (sh : AwS) (M : AwM) (v0 : Int) (v1 : Int) (Q : State → Prop) (s : Int × Int) : Prop := AW Γ sh M 0 0 4 [some (.inr (.inr v0)), some (.inl v1), some (.inl (s.1)), some (.inl (s.2))] [] Q
def x_X9_worthAll_L4 (Γ : AwC) (sh : AwS) (M : AwM) (v0 : Int) (v1 : Int) (Q : State → Prop) : (Int) → Prop := (fun (t : Int) => AW Γ sh M 0 0 43 [none, none, some (.inl (t)), none] [] Q)
def fX9_worthAll (sh : AwS) (M : AwM) (v0 : Int) (v1 : Int) : Option Int :=
  pb (lp (u2 (fX9_worthAll_L4 sh M v0 v1)) FU (0, 0)) (u1 (fun (tq9 : Int) => some tq9))
set_option maxRecDepth 100000 in
set_option maxHeartbeats 4000000 in
theorem w_X9_worthAll_L4 {Γ : AwC} (hC : AOK Γ RX9 cX9_worthAll 4 2 0 0 "worthAll" (some .int)) {sh : AwS} {M : AwM} {v0 : Int} {v1 : Int} {Q : State → Prop} : ∀ s r, u2 (fX9_worthAll_L4 sh M v0 v1) s = some r → (∀ s', r = .inl s' → p_X9_worthAll_L4 Γ sh M v0 v1 Q s') → (∀ t, r = .inr t → x_X9_worthAll_L4 Γ sh M v0 v1 Q t) → p_X9_worthAll_L4 Γ sh M v0 v1 Q s := by
  intro s r h hL hX
  obtain ⟨v2, v3⟩ := s
  replace h := u2_s h
  unfold fX9_worthAll_L4 at h
  show AW Γ sh M 0 0 4 [some (.inr (.inr v0)), some (.inl v1), some (.inl v2), some (.inl v3)] [] Q
  refine aw_iload_n (pc' := 5) (i := 3) hC dX9_worthAll_4 rfl rfl rfl ?_
  refine aw_aload_n (pc' := 6) (i := 0) hC dX9_worthAll_5 rfl rfl rfl ?_
  obtain ⟨g1, h⟩ := gd_s h
  refine aw_getfield (pc' := 9) (v := (.inr (.inr (M v0 16)))) hC dX9_worthAll_6 rfl fl_X9_60 g1 rfl ?_
  refine aw_aload_n (pc' := 10) (i := 0) hC dX9_worthAll_9 rfl rfl rfl ?_
  refine aw_getfield (pc' := 13) (v := (.inl (M v0 13))) hC dX9_worthAll_10 rfl fl_X9_51 g1 rfl ?_
  obtain ⟨g2, h⟩ := gd_s h
  refine aw_iaload (pc' := 14) hC dX9_worthAll_13 rfl g2 ?_
  refine aw_icmp_ge (tgt := 43) (pc' := 17) hC dX9_worthAll_14 (by decide) rfl (fun c3 => ?_) (fun c3 => ?_)
  · replace h := it_n c3 h
    refine aw_sub hC [none, none, some (.inl v2), none] ⟨rfl, trivial⟩ (Nat.le_of_ble_eq_true rfl) ?_
    cases h
    exact hX _ rfl
  · replace h := it_p c3 h
    refine aw_iload_n (pc' := 18) (i := 2) hC dX9_worthAll_17 rfl rfl rfl ?_
    refine aw_iload_n (pc' := 19) (i := 1) hC dX9_worthAll_18 rfl rfl rfl ?_
    refine aw_iload_n (pc' := 20) (i := 3) hC dX9_worthAll_19 rfl rfl rfl ?_
    obtain ⟨x5, q4, h⟩ := pb_s h
    replace h := u1_s h
    refine aw_cS (pc' := 23) (k2 := 0) (n2 := 0) (st := [.inl v2]) (stN := [.inl x5, .inl v2]) hC [.inl v1, .inl v3] (mX9_has2 q4) lk_X9_373 dX9_worthAll_20 rfl rfl (Nat.le_of_ble_eq_true rfl) (Nat.le_of_ble_eq_true rfl) (Nat.le_of_ble_eq_true rfl) rfl (Nat.le_of_ble_eq_true rfl) rfl rfl rfl ?_
    refine aw_if_eq (tgt := 34) (pc' := 26) hC dX9_worthAll_23 (by decide) rfl (fun c6 => ?_) (fun c6 => ?_)
    · replace h := it_p c6 h
      refine aw_iconst (pc' := 35) hC dX9_worthAll_34 rfl (by decide) ?_
      refine aw_iadd (pc' := 36) hC dX9_worthAll_35 rfl  ?_
      refine aw_istore_n (pc' := 37) (i := 2) (ls' := [some (.inr (.inr v0)), some (.inl v1), some (.inl (w32 (v2 + 0))), some (.inl v3)]) hC dX9_worthAll_36 rfl rfl (Nat.le_of_ble_eq_true rfl) rfl rfl ?_
      refine aw_iinc (pc' := 40) (ls' := [some (.inr (.inr v0)), some (.inl v1), some (.inl (w32 (v2 + 0))), some (.inl (w32 (v3 + 1)))]) hC dX9_worthAll_37 rfl rfl rfl rfl ?_
      refine aw_goto (tgt := 4) hC dX9_worthAll_40 (by decide) ?_
      refine aw_sub hC [some (.inr (.inr v0)), some (.inl v1), some (.inl (w32 (v2 + 0))), some (.inl (w32 (v3 + 1)))] ⟨rfl, ⟨rfl, ⟨rfl, ⟨rfl, trivial⟩⟩⟩⟩ (Nat.le_of_ble_eq_true rfl) ?_
      cases h
      exact hL _ rfl
    · replace h := it_n c6 h
      refine aw_aload_n (pc' := 27) (i := 0) hC dX9_worthAll_26 rfl rfl rfl ?_
      refine aw_iload_n (pc' := 28) (i := 3) hC dX9_worthAll_27 rfl rfl rfl ?_
      obtain ⟨x8, q7, h⟩ := pb_s h
      replace h := u1_s h
      refine aw_cV (pc' := 31) (k2 := 0) (n2 := 0) (st := [.inl v2]) (stN := [.inl x8, .inl v2]) hC [.inl v3] (mX9_worthOf q7) lk_X9_419 g1 dX9_worthAll_28 rfl rfl (Nat.le_of_ble_eq_true rfl) (Nat.le_of_ble_eq_true rfl) (Nat.le_of_ble_eq_true rfl) rfl (Nat.le_of_ble_eq_true rfl) rfl rfl rfl ?_
      refine aw_goto (tgt := 35) hC dX9_worthAll_31 (by decide) ?_
      refine aw_iadd (pc' := 36) hC dX9_worthAll_35 rfl  ?_
      refine aw_istore_n (pc' := 37) (i := 2) (ls' := [some (.inr (.inr v0)), some (.inl v1), some (.inl (w32 (v2 + x8))), some (.inl v3)]) hC dX9_worthAll_36 rfl rfl (Nat.le_of_ble_eq_true rfl) rfl rfl ?_
      refine aw_iinc (pc' := 40) (ls' := [some (.inr (.inr v0)), some (.inl v1), some (.inl (w32 (v2 + x8))), some (.inl (w32 (v3 + 1)))]) hC dX9_worthAll_37 rfl rfl rfl rfl ?_
      refine aw_goto (tgt := 4) hC dX9_worthAll_40 (by decide) ?_
      refine aw_sub hC [some (.inr (.inr v0)), some (.inl v1), some (.inl (w32 (v2 + x8))), some (.inl (w32 (v3 + 1)))] ⟨rfl, ⟨rfl, ⟨rfl, ⟨rfl, trivial⟩⟩⟩⟩ (Nat.le_of_ble_eq_true rfl) ?_
      cases h
      exact hL _ rfl
set_option maxRecDepth 100000 in
set_option maxHeartbeats 4000000 in
theorem mX9_worthAll {sh : AwS} {M : AwM} {v0 : Int} {v1 : Int} {r : Int} (h : fX9_worthAll sh M v0 v1 = some r) : AMet yX9_worthAll cX9_worthAll 4 (some .int) 2 0 0 [.inr (.inr v0), .inl v1] sh M (some (.inl r)) sh M := by
  refine amet_of (by decide +kernel) (Nat.le_of_ble_eq_true rfl) (fun Γ hC => ?_)
  replace hC : AOK Γ RX9 cX9_worthAll 4 2 0 0 "worthAll" (some .int) := hC
  unfold fX9_worthAll at h
  refine aw_sub hC [some (.inr (.inr v0)), some (.inl v1), none, none] ⟨rfl, ⟨rfl, trivial⟩⟩ (Nat.le_of_ble_eq_true rfl) ?_
  refine aw_iconst (pc' := 1) hC dX9_worthAll_0 rfl (by decide) ?_
  refine aw_istore_n (pc' := 2) (i := 2) (ls' := [some (.inr (.inr v0)), some (.inl v1), some (.inl 0), none]) hC dX9_worthAll_1 rfl rfl (Nat.le_of_ble_eq_true rfl) rfl rfl ?_
  refine aw_iconst (pc' := 3) hC dX9_worthAll_2 rfl (by decide) ?_
  refine aw_istore_n (pc' := 4) (i := 3) (ls' := [some (.inr (.inr v0)), some (.inl v1), some (.inl 0), some (.inl 0)]) hC dX9_worthAll_3 rfl rfl (Nat.le_of_ble_eq_true rfl) rfl rfl ?_
  obtain ⟨tq9, q9, h⟩ := pb_s h
  refine aw_sub hC [some (.inr (.inr v0)), some (.inl v1), some (.inl 0), some (.inl 0)] ⟨rfl, ⟨rfl, ⟨rfl, ⟨rfl, trivial⟩⟩⟩⟩ (Nat.le_of_ble_eq_true rfl) ?_
  refine (lp_aw (p_X9_worthAll_L4 Γ sh M v0 v1 (fin_ Γ 0 0 (some (.inl r)) sh M)) (x_X9_worthAll_L4 Γ sh M v0 v1 (fin_ Γ 0 0 (some (.inl r)) sh M)) (w_X9_worthAll_L4 hC ) FU _ _ q9 ?_ : p_X9_worthAll_L4 Γ sh M v0 v1 (fin_ Γ 0 0 (some (.inl r)) sh M) (0, 0))
  replace h := u1_s h
  show AW Γ sh M 0 0 43 [none, none, some (.inl tq9), none] [] _
  refine aw_iload_n (pc' := 44) (i := 2) hC dX9_worthAll_43 rfl rfl rfl ?_
  cases h
  exact aw_iret hC dX9_worthAll_44 (Nat.le_of_ble_eq_true rfl) (Nat.le_of_ble_eq_true rfl)
-- CoinCircleModel.part(II)J
def fX9_part (sh : AwS) (M : AwM) (v0 : Int) (v1 : Int) (v2 : Int) : Option Int :=
  (if v1 = 0 then some v2 else (if v1 = 1 then gd_ (kd_ sh v0 = (0, 9)) (some (M v0 57)) else (if v1 = 2 then gd_ (kd_ sh v0 = (0, 9)) (some (M v0 58)) else (if v1 = 3 then gd_ (kd_ sh v0 = (0, 9)) (some (M v0 59)) else (if v1 = 4 then gd_ (kd_ sh v0 = (0, 9)) (some (M v0 60)) else (if v1 = 5 then gd_ (kd_ sh v0 = (0, 9)) (some (M v0 61)) else (if v1 = 6 then gd_ (kd_ sh v0 = (0, 9)) (some (M v0 62)) else some 1)))))))
set_option maxRecDepth 100000 in
set_option maxHeartbeats 4000000 in
theorem mX9_part {sh : AwS} {M : AwM} {v0 : Int} {v1 : Int} {v2 : Int} {r : Int} (h : fX9_part sh M v0 v1 v2 = some r) : AMet yX9_part cX9_part 3 (some .long) 1 0 0 [.inr (.inr v0), .inl v1, .inl v2] sh M (some (.inr (.inl r))) sh M := by
  refine amet_of (by decide +kernel) (Nat.le_of_ble_eq_true rfl) (fun Γ hC => ?_)
  replace hC : AOK Γ RX9 cX9_part 3 1 0 0 "part" (some .long) := hC
  unfold fX9_part at h
  refine aw_sub hC [some (.inr (.inr v0)), some (.inl v1), some (.inl v2)] ⟨rfl, ⟨rfl, ⟨rfl, trivial⟩⟩⟩ (Nat.le_of_ble_eq_true rfl) ?_
  refine aw_iload_n (pc' := 1) (i := 1) hC dX9_part_0 rfl rfl rfl ?_
  by_cases c1 : v1 = 0
  · replace h := it_p c1 h
    refine aw_tsIn (tgt := 44) (off := 43) hC dX9_part_1 ⟨by omega, by omega, by rw [c1]; rfl⟩ (by decide) ?_
    refine aw_iload_n (pc' := 45) (i := 2) hC dX9_part_44 rfl rfl rfl ?_
    refine aw_i2l (pc' := 46) hC dX9_part_45 rfl  ?_
    cases h
    exact aw_lret hC dX9_part_46 (Nat.le_of_ble_eq_true rfl) (Nat.le_of_ble_eq_true rfl)
  · replace h := it_n c1 h
    by_cases c2 : v1 = 1
    · replace h := it_p c2 h
      refine aw_tsIn (tgt := 47) (off := 46) hC dX9_part_1 ⟨by omega, by omega, by rw [c2]; rfl⟩ (by decide) ?_
      refine aw_aload_n (pc' := 48) (i := 0) hC dX9_part_47 rfl rfl rfl ?_
      obtain ⟨g8, h⟩ := gd_s h
      refine aw_getfield (pc' := 51) (v := (.inl (M v0 57))) hC dX9_part_48 rfl fl_X9_186 g8 rfl ?_
      refine aw_i2l (pc' := 52) hC dX9_part_51 rfl  ?_
      cases h
      exact aw_lret hC dX9_part_52 (Nat.le_of_ble_eq_true rfl) (Nat.le_of_ble_eq_true rfl)
    · replace h := it_n c2 h
      by_cases c3 : v1 = 2
      · replace h := it_p c3 h
        refine aw_tsIn (tgt := 53) (off := 52) hC dX9_part_1 ⟨by omega, by omega, by rw [c3]; rfl⟩ (by decide) ?_
        refine aw_aload_n (pc' := 54) (i := 0) hC dX9_part_53 rfl rfl rfl ?_
        obtain ⟨g9, h⟩ := gd_s h
        refine aw_getfield (pc' := 57) (v := (.inl (M v0 58))) hC dX9_part_54 rfl fl_X9_189 g9 rfl ?_
        refine aw_i2l (pc' := 58) hC dX9_part_57 rfl  ?_
        cases h
        exact aw_lret hC dX9_part_58 (Nat.le_of_ble_eq_true rfl) (Nat.le_of_ble_eq_true rfl)
      · replace h := it_n c3 h
        by_cases c4 : v1 = 3
        · replace h := it_p c4 h
          refine aw_tsIn (tgt := 59) (off := 58) hC dX9_part_1 ⟨by omega, by omega, by rw [c4]; rfl⟩ (by decide) ?_
          refine aw_aload_n (pc' := 60) (i := 0) hC dX9_part_59 rfl rfl rfl ?_
          obtain ⟨g10, h⟩ := gd_s h
          refine aw_getfield (pc' := 63) (v := (.inl (M v0 59))) hC dX9_part_60 rfl fl_X9_192 g10 rfl ?_
          refine aw_i2l (pc' := 64) hC dX9_part_63 rfl  ?_
          cases h
          exact aw_lret hC dX9_part_64 (Nat.le_of_ble_eq_true rfl) (Nat.le_of_ble_eq_true rfl)
        · replace h := it_n c4 h
          by_cases c5 : v1 = 4
          · replace h := it_p c5 h
            refine aw_tsIn (tgt := 65) (off := 64) hC dX9_part_1 ⟨by omega, by omega, by rw [c5]; rfl⟩ (by decide) ?_
            refine aw_aload_n (pc' := 66) (i := 0) hC dX9_part_65 rfl rfl rfl ?_
            obtain ⟨g11, h⟩ := gd_s h
            refine aw_getfield (pc' := 69) (v := (.inl (M v0 60))) hC dX9_part_66 rfl fl_X9_195 g11 rfl ?_
            refine aw_i2l (pc' := 70) hC dX9_part_69 rfl  ?_
            cases h
            exact aw_lret hC dX9_part_70 (Nat.le_of_ble_eq_true rfl) (Nat.le_of_ble_eq_true rfl)
          · replace h := it_n c5 h
            by_cases c6 : v1 = 5
            · replace h := it_p c6 h
              refine aw_tsIn (tgt := 71) (off := 70) hC dX9_part_1 ⟨by omega, by omega, by rw [c6]; rfl⟩ (by decide) ?_
              refine aw_aload_n (pc' := 72) (i := 0) hC dX9_part_71 rfl rfl rfl ?_
              obtain ⟨g12, h⟩ := gd_s h
              refine aw_getfield (pc' := 75) (v := (.inl (M v0 61))) hC dX9_part_72 rfl fl_X9_198 g12 rfl ?_
              refine aw_i2l (pc' := 76) hC dX9_part_75 rfl  ?_
              cases h
              exact aw_lret hC dX9_part_76 (Nat.le_of_ble_eq_true rfl) (Nat.le_of_ble_eq_true rfl)
            · replace h := it_n c6 h
              by_cases c7 : v1 = 6
              · replace h := it_p c7 h
                refine aw_tsIn (tgt := 77) (off := 76) hC dX9_part_1 ⟨by omega, by omega, by rw [c7]; rfl⟩ (by decide) ?_
                refine aw_aload_n (pc' := 78) (i := 0) hC dX9_part_77 rfl rfl rfl ?_
                obtain ⟨g13, h⟩ := gd_s h
                refine aw_getfield (pc' := 81) (v := (.inl (M v0 62))) hC dX9_part_78 rfl fl_X9_201 g13 rfl ?_
                refine aw_i2l (pc' := 82) hC dX9_part_81 rfl  ?_
                cases h
                exact aw_lret hC dX9_part_82 (Nat.le_of_ble_eq_true rfl) (Nat.le_of_ble_eq_true rfl)
              · replace h := it_n c7 h
                refine aw_tsOut (tgt := 83) hC dX9_part_1 (by omega) (by decide) ?_
                refine aw_lconst (pc' := 84) (v := 1) hC dX9_part_83 rfl rfl (by decide) ?_
                cases h
                exact aw_lret hC dX9_part_84 (Nat.le_of_ble_eq_true rfl) (Nat.le_of_ble_eq_true rfl)
-- CoinCircleModel.held(J)J
def fX9_held (sh : AwS) (M : AwM) (v0 : Int) : Option Int :=
  (if 0 < (cmp_ v0 1000000) then some 1000000 else (if (cmp_ v0 (-1000000)) < 0 then some (-1000000) else some v0))
set_option maxRecDepth 100000 in
set_option maxHeartbeats 4000000 in
theorem mX9_held {sh : AwS} {M : AwM} {v0 : Int} {r : Int} (h : fX9_held sh M v0 = some r) : AMet yX9_held cX9_held 2 (some .long) 1 0 0 [.inr (.inl v0)] sh M (some (.inr (.inl r))) sh M := by
  refine amet_of (by decide +kernel) (Nat.le_of_ble_eq_true rfl) (fun Γ hC => ?_)
  replace hC : AOK Γ RX9 cX9_held 2 1 0 0 "held" (some .long) := hC
  unfold fX9_held at h
  refine aw_sub hC [some (.inr (.inl v0)), none] ⟨rfl, trivial⟩ (Nat.le_of_ble_eq_true rfl) ?_
  refine aw_lload_n (pc' := 1) (i := 0) hC dX9_held_0 rfl rfl rfl ?_
  refine aw_ldc2 (pc' := 4) (v := 1000000) hC dX9_held_1 rfl ck_X9_422 (by unfold I64; omega) ?_
  refine aw_lcmp (pc' := 5) hC dX9_held_4 rfl  ?_
  refine aw_if_le (tgt := 14) (pc' := 8) hC dX9_held_5 (by decide) rfl (fun c1 => ?_) (fun c1 => ?_)
  · replace h := it_n c1 h
    refine aw_lload_n (pc' := 15) (i := 0) hC dX9_held_14 rfl rfl rfl ?_
    refine aw_ldc2 (pc' := 18) (v := (-1000000)) hC dX9_held_15 rfl ck_X9_424 (by unfold I64; omega) ?_
    refine aw_lcmp (pc' := 19) hC dX9_held_18 rfl  ?_
    refine aw_if_ge (tgt := 28) (pc' := 22) hC dX9_held_19 (by decide) rfl (fun c2 => ?_) (fun c2 => ?_)
    · replace h := it_n c2 h
      refine aw_lload_n (pc' := 29) (i := 0) hC dX9_held_28 rfl rfl rfl ?_
      cases h
      exact aw_lret hC dX9_held_29 (Nat.le_of_ble_eq_true rfl) (Nat.le_of_ble_eq_true rfl)
    · replace h := it_p c2 h
      refine aw_ldc2 (pc' := 25) (v := (-1000000)) hC dX9_held_22 rfl ck_X9_424 (by unfold I64; omega) ?_
      refine aw_goto (tgt := 29) hC dX9_held_25 (by decide) ?_
      cases h
      exact aw_lret hC dX9_held_29 (Nat.le_of_ble_eq_true rfl) (Nat.le_of_ble_eq_true rfl)
  · replace h := it_p c1 h
    refine aw_ldc2 (pc' := 11) (v := 1000000) hC dX9_held_8 rfl ck_X9_422 (by unfold I64; omega) ?_
    refine aw_goto (tgt := 29) hC dX9_held_11 (by decide) ?_
    cases h
    exact aw_lret hC dX9_held_29 (Nat.le_of_ble_eq_true rfl) (Nat.le_of_ble_eq_true rfl)
-- CoinCircleModel.floor(JJ)J
def fX9_floor_J32 (sh : AwS) (M : AwM) (v2 : Int) (v4 : Int) (s0 : Int) : Option Int :=
  (if (cmp_ v2 0) < 0 then (if s0 = 1 then some v4 else some (w64 (v4 - 1))) else (if s0 = 0 then some v4 else some (w64 (v4 - 1))))
def fX9_floor (sh : AwS) (M : AwM) (v0 : Int) (v2 : Int) : Option Int :=
  (if (cmp_ v2 0) = 0 then some 0 else gd_ (v2 ≠ 0) ((if (cmp_ (v0.tmod v2) 0) = 0 then some (w64 (v0.tdiv v2)) else (if (cmp_ v0 0) < 0 then fX9_floor_J32 sh M v2 (w64 (v0.tdiv v2)) 1 else fX9_floor_J32 sh M v2 (w64 (v0.tdiv v2)) 0))))
set_option maxRecDepth 100000 in
set_option maxHeartbeats 4000000 in
theorem w_X9_floor_J32 {Γ : AwC} (hC : AOK Γ RX9 cX9_floor 6 1 0 0 "floor" (some .long)) {sh : AwS} {M : AwM} {v2 : Int} {v4 : Int} {s0 : Int} {r : Int} (h : fX9_floor_J32 sh M v2 v4 s0 = some r) {Q : State → Prop} (hQ : Q = (fin_ Γ 0 0 (some (.inr (.inl r))) sh M)) : AW Γ sh M 0 0 32 [none, none, some (.inr (.inl v2)), none, some (.inr (.inl v4)), none] [.inl s0] Q := by
  unfold fX9_floor_J32 at h
  refine aw_lload_n (pc' := 33) (i := 2) hC dX9_floor_32 rfl rfl rfl ?_
  refine aw_lconst (pc' := 34) (v := 0) hC dX9_floor_33 rfl rfl (by decide) ?_
  refine aw_lcmp (pc' := 35) hC dX9_floor_34 rfl  ?_
  refine aw_if_ge (tgt := 42) (pc' := 38) hC dX9_floor_35 (by decide) rfl (fun c5 => ?_) (fun c5 => ?_)
  · replace h := it_n c5 h
    refine aw_iconst (pc' := 43) hC dX9_floor_42 rfl (by decide) ?_
    refine aw_icmp_eq (tgt := 53) (pc' := 46) hC dX9_floor_43 (by decide) rfl (fun c6 => ?_) (fun c6 => ?_)
    · replace h := it_p c6 h
      refine aw_lload (pc' := 55) hC dX9_floor_53 rfl rfl ?_
      cases h
      subst hQ
      exact aw_lret hC dX9_floor_55 (Nat.le_of_ble_eq_true rfl) (Nat.le_of_ble_eq_true rfl)
    · replace h := it_n c6 h
      refine aw_lload (pc' := 48) hC dX9_floor_46 rfl rfl ?_
      refine aw_lconst (pc' := 49) (v := 1) hC dX9_floor_48 rfl rfl (by decide) ?_
      refine aw_lsub (pc' := 50) hC dX9_floor_49 rfl  ?_
      refine aw_goto (tgt := 55) hC dX9_floor_50 (by decide) ?_
      cases h
      subst hQ
      exact aw_lret hC dX9_floor_55 (Nat.le_of_ble_eq_true rfl) (Nat.le_of_ble_eq_true rfl)
  · replace h := it_p c5 h
    refine aw_iconst (pc' := 39) hC dX9_floor_38 rfl (by decide) ?_
    refine aw_goto (tgt := 43) hC dX9_floor_39 (by decide) ?_
    refine aw_icmp_eq (tgt := 53) (pc' := 46) hC dX9_floor_43 (by decide) rfl (fun c7 => ?_) (fun c7 => ?_)
    · replace h := it_p c7 h
      refine aw_lload (pc' := 55) hC dX9_floor_53 rfl rfl ?_
      cases h
      subst hQ
      exact aw_lret hC dX9_floor_55 (Nat.le_of_ble_eq_true rfl) (Nat.le_of_ble_eq_true rfl)
    · replace h := it_n c7 h
      refine aw_lload (pc' := 48) hC dX9_floor_46 rfl rfl ?_
      refine aw_lconst (pc' := 49) (v := 1) hC dX9_floor_48 rfl rfl (by decide) ?_
      refine aw_lsub (pc' := 50) hC dX9_floor_49 rfl  ?_
      refine aw_goto (tgt := 55) hC dX9_floor_50 (by decide) ?_
      cases h
      subst hQ
      exact aw_lret hC dX9_floor_55 (Nat.le_of_ble_eq_true rfl) (Nat.le_of_ble_eq_true rfl)
set_option maxRecDepth 100000 in
set_option maxHeartbeats 4000000 in
theorem mX9_floor {sh : AwS} {M : AwM} {v0 : Int} {v2 : Int} {r : Int} (h : fX9_floor sh M v0 v2 = some r) : AMet yX9_floor cX9_floor 6 (some .long) 1 0 0 [.inr (.inl v0), .inr (.inl v2)] sh M (some (.inr (.inl r))) sh M := by
  refine amet_of (by decide +kernel) (Nat.le_of_ble_eq_true rfl) (fun Γ hC => ?_)
  replace hC : AOK Γ RX9 cX9_floor 6 1 0 0 "floor" (some .long) := hC
  unfold fX9_floor at h
  refine aw_sub hC [some (.inr (.inl v0)), none, some (.inr (.inl v2)), none, none, none] ⟨rfl, ⟨rfl, trivial⟩⟩ (Nat.le_of_ble_eq_true rfl) ?_
  refine aw_lload_n (pc' := 1) (i := 2) hC dX9_floor_0 rfl rfl rfl ?_
  refine aw_lconst (pc' := 2) (v := 0) hC dX9_floor_1 rfl rfl (by decide) ?_
  refine aw_lcmp (pc' := 3) hC dX9_floor_2 rfl  ?_
  refine aw_if_ne (tgt := 8) (pc' := 6) hC dX9_floor_3 (by decide) rfl (fun c1 => ?_) (fun c1 => ?_)
  · replace h := it_n c1 h
    refine aw_lload_n (pc' := 9) (i := 0) hC dX9_floor_8 rfl rfl rfl ?_
    refine aw_lload_n (pc' := 10) (i := 2) hC dX9_floor_9 rfl rfl rfl ?_
    obtain ⟨g2, h⟩ := gd_s h
    refine aw_ldiv (pc' := 11) hC dX9_floor_10 rfl g2 ?_
    refine aw_lstore (pc' := 13) (ls' := [some (.inr (.inl v0)), none, some (.inr (.inl v2)), none, some (.inr (.inl (w64 (v0.tdiv v2)))), none]) hC dX9_floor_11 rfl (Nat.le_of_ble_eq_true rfl) rfl rfl ?_
    refine aw_lload_n (pc' := 14) (i := 0) hC dX9_floor_13 rfl rfl rfl ?_
    refine aw_lload_n (pc' := 15) (i := 2) hC dX9_floor_14 rfl rfl rfl ?_
    refine aw_lrem (pc' := 16) hC dX9_floor_15 rfl g2 ?_
    refine aw_lconst (pc' := 17) (v := 0) hC dX9_floor_16 rfl rfl (by decide) ?_
    refine aw_lcmp (pc' := 18) hC dX9_floor_17 rfl  ?_
    refine aw_if_eq (tgt := 53) (pc' := 21) hC dX9_floor_18 (by decide) rfl (fun c3 => ?_) (fun c3 => ?_)
    · replace h := it_p c3 h
      refine aw_lload (pc' := 55) hC dX9_floor_53 rfl rfl ?_
      cases h
      exact aw_lret hC dX9_floor_55 (Nat.le_of_ble_eq_true rfl) (Nat.le_of_ble_eq_true rfl)
    · replace h := it_n c3 h
      refine aw_lload_n (pc' := 22) (i := 0) hC dX9_floor_21 rfl rfl rfl ?_
      refine aw_lconst (pc' := 23) (v := 0) hC dX9_floor_22 rfl rfl (by decide) ?_
      refine aw_lcmp (pc' := 24) hC dX9_floor_23 rfl  ?_
      refine aw_if_ge (tgt := 31) (pc' := 27) hC dX9_floor_24 (by decide) rfl (fun c4 => ?_) (fun c4 => ?_)
      · replace h := it_n c4 h
        refine aw_iconst (pc' := 32) hC dX9_floor_31 rfl (by decide) ?_
        refine aw_sub hC [none, none, some (.inr (.inl v2)), none, some (.inr (.inl (w64 (v0.tdiv v2)))), none] ⟨rfl, ⟨rfl, trivial⟩⟩ (Nat.le_of_ble_eq_true rfl) ?_
        exact w_X9_floor_J32 hC h rfl
      · replace h := it_p c4 h
        refine aw_iconst (pc' := 28) hC dX9_floor_27 rfl (by decide) ?_
        refine aw_goto (tgt := 32) hC dX9_floor_28 (by decide) ?_
        refine aw_sub hC [none, none, some (.inr (.inl v2)), none, some (.inr (.inl (w64 (v0.tdiv v2)))), none] ⟨rfl, ⟨rfl, trivial⟩⟩ (Nat.le_of_ble_eq_true rfl) ?_
        exact w_X9_floor_J32 hC h rfl
  · replace h := it_p c1 h
    refine aw_lconst (pc' := 7) (v := 0) hC dX9_floor_6 rfl rfl (by decide) ?_
    cases h
    exact aw_lret hC dX9_floor_7 (Nat.le_of_ble_eq_true rfl) (Nat.le_of_ble_eq_true rfl)
-- CoinCircleModel.two(IJJ)J
def fX9_two (sh : AwS) (M : AwM) (v0 : Int) (v1 : Int) (v3 : Int) : Option Int :=
  (if v0 = 10 then pb (fX9_held sh M (w64 (v1 + v3))) <| u1 fun (x13 : Int) => (some x13) else (if v0 = 11 then pb (fX9_held sh M (w64 (v1 - v3))) <| u1 fun (x15 : Int) => (some x15) else (if v0 = 12 then pb (fX9_held sh M (w64 (v1 * v3))) <| u1 fun (x17 : Int) => (some x17) else (if v0 = 13 then pb (fX9_floor sh M v1 v3) <| u1 fun (x19 : Int) => (pb (fX9_held sh M x19) <| u1 fun (x21 : Int) => (some x21)) else (if v0 = 14 then (if (cmp_ v3 0) = 0 then some 0 else pb (fX9_floor sh M v1 v3) <| u1 fun (x24 : Int) => (pb (fX9_held sh M (w64 (v1 - (w64 (v3 * x24))))) <| u1 fun (x26 : Int) => (some x26))) else (if v0 = 15 then (if (cmp_ v1 v3) < 0 then some v1 else some v3) else (if v0 = 16 then (if 0 < (cmp_ v1 v3) then some v1 else some v3) else (if v0 = 17 then (if (cmp_ v1 v3) < 0 then some 1 else some 0) else (if v0 = 18 then (if 0 < (cmp_ v1 v3) then some 1 else some 0) else (if v0 = 19 then (if (cmp_ v1 v3) = 0 then some 1 else some 0) else (if v0 = 20 then some (anl_ v1 v3) else some (orl_ v1 v3))))))))))))
set_option maxRecDepth 100000 in
set_option maxHeartbeats 4000000 in
theorem mX9_two {sh : AwS} {M : AwM} {v0 : Int} {v1 : Int} {v3 : Int} {r : Int} (h : fX9_two sh M v0 v1 v3 = some r) : AMet yX9_two cX9_two 5 (some .long) 2 0 0 [.inl v0, .inr (.inl v1), .inr (.inl v3)] sh M (some (.inr (.inl r))) sh M := by
  refine amet_of (by decide +kernel) (Nat.le_of_ble_eq_true rfl) (fun Γ hC => ?_)
  replace hC : AOK Γ RX9 cX9_two 5 2 0 0 "two" (some .long) := hC
  unfold fX9_two at h
  refine aw_sub hC [some (.inl v0), some (.inr (.inl v1)), none, some (.inr (.inl v3)), none] ⟨rfl, ⟨rfl, ⟨rfl, trivial⟩⟩⟩ (Nat.le_of_ble_eq_true rfl) ?_
  refine aw_iload_n (pc' := 1) (i := 0) hC dX9_two_0 rfl rfl rfl ?_
  by_cases c1 : v0 = 10
  · replace h := it_p c1 h
    refine aw_tsIn (tgt := 60) (off := 59) hC dX9_two_1 ⟨by omega, by omega, by rw [c1]; rfl⟩ (by decide) ?_
    refine aw_lload_n (pc' := 61) (i := 1) hC dX9_two_60 rfl rfl rfl ?_
    refine aw_lload_n (pc' := 62) (i := 3) hC dX9_two_61 rfl rfl rfl ?_
    refine aw_ladd (pc' := 63) hC dX9_two_62 rfl  ?_
    obtain ⟨x13, q12, h⟩ := pb_s h
    replace h := u1_s h
    refine aw_cS (pc' := 66) (k2 := 0) (n2 := 0) (st := []) (stN := [.inr (.inl x13)]) hC [.inr (.inl (w64 (v1 + v3)))] (mX9_held q12) lk_X9_426 dX9_two_63 rfl rfl (Nat.le_of_ble_eq_true rfl) (Nat.le_of_ble_eq_true rfl) (Nat.le_of_ble_eq_true rfl) rfl (Nat.le_of_ble_eq_true rfl) rfl rfl rfl ?_
    cases h
    exact aw_lret hC dX9_two_66 (Nat.le_of_ble_eq_true rfl) (Nat.le_of_ble_eq_true rfl)
  · replace h := it_n c1 h
    by_cases c2 : v0 = 11
    · replace h := it_p c2 h
      refine aw_tsIn (tgt := 67) (off := 66) hC dX9_two_1 ⟨by omega, by omega, by rw [c2]; rfl⟩ (by decide) ?_
      refine aw_lload_n (pc' := 68) (i := 1) hC dX9_two_67 rfl rfl rfl ?_
      refine aw_lload_n (pc' := 69) (i := 3) hC dX9_two_68 rfl rfl rfl ?_
      refine aw_lsub (pc' := 70) hC dX9_two_69 rfl  ?_
      obtain ⟨x15, q14, h⟩ := pb_s h
      replace h := u1_s h
      refine aw_cS (pc' := 73) (k2 := 0) (n2 := 0) (st := []) (stN := [.inr (.inl x15)]) hC [.inr (.inl (w64 (v1 - v3)))] (mX9_held q14) lk_X9_426 dX9_two_70 rfl rfl (Nat.le_of_ble_eq_true rfl) (Nat.le_of_ble_eq_true rfl) (Nat.le_of_ble_eq_true rfl) rfl (Nat.le_of_ble_eq_true rfl) rfl rfl rfl ?_
      cases h
      exact aw_lret hC dX9_two_73 (Nat.le_of_ble_eq_true rfl) (Nat.le_of_ble_eq_true rfl)
    · replace h := it_n c2 h
      by_cases c3 : v0 = 12
      · replace h := it_p c3 h
        refine aw_tsIn (tgt := 74) (off := 73) hC dX9_two_1 ⟨by omega, by omega, by rw [c3]; rfl⟩ (by decide) ?_
        refine aw_lload_n (pc' := 75) (i := 1) hC dX9_two_74 rfl rfl rfl ?_
        refine aw_lload_n (pc' := 76) (i := 3) hC dX9_two_75 rfl rfl rfl ?_
        refine aw_lmul (pc' := 77) hC dX9_two_76 rfl  ?_
        obtain ⟨x17, q16, h⟩ := pb_s h
        replace h := u1_s h
        refine aw_cS (pc' := 80) (k2 := 0) (n2 := 0) (st := []) (stN := [.inr (.inl x17)]) hC [.inr (.inl (w64 (v1 * v3)))] (mX9_held q16) lk_X9_426 dX9_two_77 rfl rfl (Nat.le_of_ble_eq_true rfl) (Nat.le_of_ble_eq_true rfl) (Nat.le_of_ble_eq_true rfl) rfl (Nat.le_of_ble_eq_true rfl) rfl rfl rfl ?_
        cases h
        exact aw_lret hC dX9_two_80 (Nat.le_of_ble_eq_true rfl) (Nat.le_of_ble_eq_true rfl)
      · replace h := it_n c3 h
        by_cases c4 : v0 = 13
        · replace h := it_p c4 h
          refine aw_tsIn (tgt := 81) (off := 80) hC dX9_two_1 ⟨by omega, by omega, by rw [c4]; rfl⟩ (by decide) ?_
          refine aw_lload_n (pc' := 82) (i := 1) hC dX9_two_81 rfl rfl rfl ?_
          refine aw_lload_n (pc' := 83) (i := 3) hC dX9_two_82 rfl rfl rfl ?_
          obtain ⟨x19, q18, h⟩ := pb_s h
          replace h := u1_s h
          refine aw_cS (pc' := 86) (k2 := 0) (n2 := 0) (st := []) (stN := [.inr (.inl x19)]) hC [.inr (.inl v1), .inr (.inl v3)] (mX9_floor q18) lk_X9_430 dX9_two_83 rfl rfl (Nat.le_of_ble_eq_true rfl) (Nat.le_of_ble_eq_true rfl) (Nat.le_of_ble_eq_true rfl) rfl (Nat.le_of_ble_eq_true rfl) rfl rfl rfl ?_
          obtain ⟨x21, q20, h⟩ := pb_s h
          replace h := u1_s h
          refine aw_cS (pc' := 89) (k2 := 0) (n2 := 0) (st := []) (stN := [.inr (.inl x21)]) hC [.inr (.inl x19)] (mX9_held q20) lk_X9_426 dX9_two_86 rfl rfl (Nat.le_of_ble_eq_true rfl) (Nat.le_of_ble_eq_true rfl) (Nat.le_of_ble_eq_true rfl) rfl (Nat.le_of_ble_eq_true rfl) rfl rfl rfl ?_
          cases h
          exact aw_lret hC dX9_two_89 (Nat.le_of_ble_eq_true rfl) (Nat.le_of_ble_eq_true rfl)
        · replace h := it_n c4 h
          by_cases c5 : v0 = 14
          · replace h := it_p c5 h
            refine aw_tsIn (tgt := 90) (off := 89) hC dX9_two_1 ⟨by omega, by omega, by rw [c5]; rfl⟩ (by decide) ?_
            refine aw_lload_n (pc' := 91) (i := 3) hC dX9_two_90 rfl rfl rfl ?_
            refine aw_lconst (pc' := 92) (v := 0) hC dX9_two_91 rfl rfl (by decide) ?_
            refine aw_lcmp (pc' := 93) hC dX9_two_92 rfl  ?_
            refine aw_if_ne (tgt := 100) (pc' := 96) hC dX9_two_93 (by decide) rfl (fun c22 => ?_) (fun c22 => ?_)
            · replace h := it_n c22 h
              refine aw_lload_n (pc' := 101) (i := 1) hC dX9_two_100 rfl rfl rfl ?_
              refine aw_lload_n (pc' := 102) (i := 3) hC dX9_two_101 rfl rfl rfl ?_
              refine aw_lload_n (pc' := 103) (i := 1) hC dX9_two_102 rfl rfl rfl ?_
              refine aw_lload_n (pc' := 104) (i := 3) hC dX9_two_103 rfl rfl rfl ?_
              obtain ⟨x24, q23, h⟩ := pb_s h
              replace h := u1_s h
              refine aw_cS (pc' := 107) (k2 := 0) (n2 := 0) (st := [.inr (.inl v3), .inr (.inl v1)]) (stN := [.inr (.inl x24), .inr (.inl v3), .inr (.inl v1)]) hC [.inr (.inl v1), .inr (.inl v3)] (mX9_floor q23) lk_X9_430 dX9_two_104 rfl rfl (Nat.le_of_ble_eq_true rfl) (Nat.le_of_ble_eq_true rfl) (Nat.le_of_ble_eq_true rfl) rfl (Nat.le_of_ble_eq_true rfl) rfl rfl rfl ?_
              refine aw_lmul (pc' := 108) hC dX9_two_107 rfl  ?_
              refine aw_lsub (pc' := 109) hC dX9_two_108 rfl  ?_
              obtain ⟨x26, q25, h⟩ := pb_s h
              replace h := u1_s h
              refine aw_cS (pc' := 112) (k2 := 0) (n2 := 0) (st := []) (stN := [.inr (.inl x26)]) hC [.inr (.inl (w64 (v1 - (w64 (v3 * x24)))))] (mX9_held q25) lk_X9_426 dX9_two_109 rfl rfl (Nat.le_of_ble_eq_true rfl) (Nat.le_of_ble_eq_true rfl) (Nat.le_of_ble_eq_true rfl) rfl (Nat.le_of_ble_eq_true rfl) rfl rfl rfl ?_
              cases h
              exact aw_lret hC dX9_two_112 (Nat.le_of_ble_eq_true rfl) (Nat.le_of_ble_eq_true rfl)
            · replace h := it_p c22 h
              refine aw_lconst (pc' := 97) (v := 0) hC dX9_two_96 rfl rfl (by decide) ?_
              refine aw_goto (tgt := 112) hC dX9_two_97 (by decide) ?_
              cases h
              exact aw_lret hC dX9_two_112 (Nat.le_of_ble_eq_true rfl) (Nat.le_of_ble_eq_true rfl)
          · replace h := it_n c5 h
            by_cases c6 : v0 = 15
            · replace h := it_p c6 h
              refine aw_tsIn (tgt := 113) (off := 112) hC dX9_two_1 ⟨by omega, by omega, by rw [c6]; rfl⟩ (by decide) ?_
              refine aw_lload_n (pc' := 114) (i := 1) hC dX9_two_113 rfl rfl rfl ?_
              refine aw_lload_n (pc' := 115) (i := 3) hC dX9_two_114 rfl rfl rfl ?_
              refine aw_lcmp (pc' := 116) hC dX9_two_115 rfl  ?_
              refine aw_if_ge (tgt := 123) (pc' := 119) hC dX9_two_116 (by decide) rfl (fun c27 => ?_) (fun c27 => ?_)
              · replace h := it_n c27 h
                refine aw_lload_n (pc' := 124) (i := 3) hC dX9_two_123 rfl rfl rfl ?_
                cases h
                exact aw_lret hC dX9_two_124 (Nat.le_of_ble_eq_true rfl) (Nat.le_of_ble_eq_true rfl)
              · replace h := it_p c27 h
                refine aw_lload_n (pc' := 120) (i := 1) hC dX9_two_119 rfl rfl rfl ?_
                refine aw_goto (tgt := 124) hC dX9_two_120 (by decide) ?_
                cases h
                exact aw_lret hC dX9_two_124 (Nat.le_of_ble_eq_true rfl) (Nat.le_of_ble_eq_true rfl)
            · replace h := it_n c6 h
              by_cases c7 : v0 = 16
              · replace h := it_p c7 h
                refine aw_tsIn (tgt := 125) (off := 124) hC dX9_two_1 ⟨by omega, by omega, by rw [c7]; rfl⟩ (by decide) ?_
                refine aw_lload_n (pc' := 126) (i := 1) hC dX9_two_125 rfl rfl rfl ?_
                refine aw_lload_n (pc' := 127) (i := 3) hC dX9_two_126 rfl rfl rfl ?_
                refine aw_lcmp (pc' := 128) hC dX9_two_127 rfl  ?_
                refine aw_if_le (tgt := 135) (pc' := 131) hC dX9_two_128 (by decide) rfl (fun c28 => ?_) (fun c28 => ?_)
                · replace h := it_n c28 h
                  refine aw_lload_n (pc' := 136) (i := 3) hC dX9_two_135 rfl rfl rfl ?_
                  cases h
                  exact aw_lret hC dX9_two_136 (Nat.le_of_ble_eq_true rfl) (Nat.le_of_ble_eq_true rfl)
                · replace h := it_p c28 h
                  refine aw_lload_n (pc' := 132) (i := 1) hC dX9_two_131 rfl rfl rfl ?_
                  refine aw_goto (tgt := 136) hC dX9_two_132 (by decide) ?_
                  cases h
                  exact aw_lret hC dX9_two_136 (Nat.le_of_ble_eq_true rfl) (Nat.le_of_ble_eq_true rfl)
              · replace h := it_n c7 h
                by_cases c8 : v0 = 17
                · replace h := it_p c8 h
                  refine aw_tsIn (tgt := 137) (off := 136) hC dX9_two_1 ⟨by omega, by omega, by rw [c8]; rfl⟩ (by decide) ?_
                  refine aw_lload_n (pc' := 138) (i := 1) hC dX9_two_137 rfl rfl rfl ?_
                  refine aw_lload_n (pc' := 139) (i := 3) hC dX9_two_138 rfl rfl rfl ?_
                  refine aw_lcmp (pc' := 140) hC dX9_two_139 rfl  ?_
                  refine aw_if_ge (tgt := 147) (pc' := 143) hC dX9_two_140 (by decide) rfl (fun c29 => ?_) (fun c29 => ?_)
                  · replace h := it_n c29 h
                    refine aw_lconst (pc' := 148) (v := 0) hC dX9_two_147 rfl rfl (by decide) ?_
                    cases h
                    exact aw_lret hC dX9_two_148 (Nat.le_of_ble_eq_true rfl) (Nat.le_of_ble_eq_true rfl)
                  · replace h := it_p c29 h
                    refine aw_lconst (pc' := 144) (v := 1) hC dX9_two_143 rfl rfl (by decide) ?_
                    refine aw_goto (tgt := 148) hC dX9_two_144 (by decide) ?_
                    cases h
                    exact aw_lret hC dX9_two_148 (Nat.le_of_ble_eq_true rfl) (Nat.le_of_ble_eq_true rfl)
                · replace h := it_n c8 h
                  by_cases c9 : v0 = 18
                  · replace h := it_p c9 h
                    refine aw_tsIn (tgt := 149) (off := 148) hC dX9_two_1 ⟨by omega, by omega, by rw [c9]; rfl⟩ (by decide) ?_
                    refine aw_lload_n (pc' := 150) (i := 1) hC dX9_two_149 rfl rfl rfl ?_
                    refine aw_lload_n (pc' := 151) (i := 3) hC dX9_two_150 rfl rfl rfl ?_
                    refine aw_lcmp (pc' := 152) hC dX9_two_151 rfl  ?_
                    refine aw_if_le (tgt := 159) (pc' := 155) hC dX9_two_152 (by decide) rfl (fun c30 => ?_) (fun c30 => ?_)
                    · replace h := it_n c30 h
                      refine aw_lconst (pc' := 160) (v := 0) hC dX9_two_159 rfl rfl (by decide) ?_
                      cases h
                      exact aw_lret hC dX9_two_160 (Nat.le_of_ble_eq_true rfl) (Nat.le_of_ble_eq_true rfl)
                    · replace h := it_p c30 h
                      refine aw_lconst (pc' := 156) (v := 1) hC dX9_two_155 rfl rfl (by decide) ?_
                      refine aw_goto (tgt := 160) hC dX9_two_156 (by decide) ?_
                      cases h
                      exact aw_lret hC dX9_two_160 (Nat.le_of_ble_eq_true rfl) (Nat.le_of_ble_eq_true rfl)
                  · replace h := it_n c9 h
                    by_cases c10 : v0 = 19
                    · replace h := it_p c10 h
                      refine aw_tsIn (tgt := 161) (off := 160) hC dX9_two_1 ⟨by omega, by omega, by rw [c10]; rfl⟩ (by decide) ?_
                      refine aw_lload_n (pc' := 162) (i := 1) hC dX9_two_161 rfl rfl rfl ?_
                      refine aw_lload_n (pc' := 163) (i := 3) hC dX9_two_162 rfl rfl rfl ?_
                      refine aw_lcmp (pc' := 164) hC dX9_two_163 rfl  ?_
                      refine aw_if_ne (tgt := 171) (pc' := 167) hC dX9_two_164 (by decide) rfl (fun c31 => ?_) (fun c31 => ?_)
                      · replace h := it_n c31 h
                        refine aw_lconst (pc' := 172) (v := 0) hC dX9_two_171 rfl rfl (by decide) ?_
                        cases h
                        exact aw_lret hC dX9_two_172 (Nat.le_of_ble_eq_true rfl) (Nat.le_of_ble_eq_true rfl)
                      · replace h := it_p c31 h
                        refine aw_lconst (pc' := 168) (v := 1) hC dX9_two_167 rfl rfl (by decide) ?_
                        refine aw_goto (tgt := 172) hC dX9_two_168 (by decide) ?_
                        cases h
                        exact aw_lret hC dX9_two_172 (Nat.le_of_ble_eq_true rfl) (Nat.le_of_ble_eq_true rfl)
                    · replace h := it_n c10 h
                      by_cases c11 : v0 = 20
                      · replace h := it_p c11 h
                        refine aw_tsIn (tgt := 173) (off := 172) hC dX9_two_1 ⟨by omega, by omega, by rw [c11]; rfl⟩ (by decide) ?_
                        refine aw_lload_n (pc' := 174) (i := 1) hC dX9_two_173 rfl rfl rfl ?_
                        refine aw_lload_n (pc' := 175) (i := 3) hC dX9_two_174 rfl rfl rfl ?_
                        refine aw_land (pc' := 176) hC dX9_two_175 rfl  ?_
                        cases h
                        exact aw_lret hC dX9_two_176 (Nat.le_of_ble_eq_true rfl) (Nat.le_of_ble_eq_true rfl)
                      · replace h := it_n c11 h
                        refine aw_tsOut (tgt := 177) hC dX9_two_1 (by omega) (by decide) ?_
                        refine aw_lload_n (pc' := 178) (i := 1) hC dX9_two_177 rfl rfl rfl ?_
                        refine aw_lload_n (pc' := 179) (i := 3) hC dX9_two_178 rfl rfl rfl ?_
                        refine aw_lor (pc' := 180) hC dX9_two_179 rfl  ?_
                        cases h
                        exact aw_lret hC dX9_two_180 (Nat.le_of_ble_eq_true rfl) (Nat.le_of_ble_eq_true rfl)
-- CoinCircleModel.reckons(II)J
def fX9_reckons_L14 (sh : AwS) (v0 : Int) (v2 : Int) (v3 : Int) (v4 : Int) (M : AwM) : Option ((Int × Int × AwM) ⊕ (AwM)) :=
  gd_ (kd_ sh v0 = (0, 9)) ((if v4 < (w32 ((w32 (1600 * (M v0 13))) + v2)) then gd_ ((kd_ sh (M v0 30)).1 = 1 ∧ (0 : Int) ≤ v4 ∧ v4 < ((kd_ sh (M v0 30)).2 : Int)) ((if 9 < (M (M v0 30) v4) then (if (M (M v0 30) v4) = 22 then gd_ ((kd_ sh (M v0 56)).1 = 2 ∧ (0 : Int) ≤ (w32 (v3 - 1)) ∧ (w32 (v3 - 1)) < ((kd_ sh (M v0 56)).2 : Int)) (bd_ (up_ M (M v0 56) (w32 (v3 - 1)) (w64 (1 - (M (M v0 56) (w32 (v3 - 1)))))) fun (M14 : AwM) => (some (.inl (v3, (w32 (v4 + 1)), M14)))) else gd_ ((kd_ sh (M v0 56)).1 = 2 ∧ (0 : Int) ≤ (w32 ((w32 (v3 + (-1))) - 1)) ∧ (w32 ((w32 (v3 + (-1))) - 1)) < ((kd_ sh (M v0 56)).2 : Int)) (gd_ ((kd_ sh (M v0 56)).1 = 2 ∧ (0 : Int) ≤ (w32 (v3 + (-1))) ∧ (w32 (v3 + (-1))) < ((kd_ sh (M v0 56)).2 : Int)) (pb (fX9_two sh M (M (M v0 30) v4) (M (M v0 56) (w32 ((w32 (v3 + (-1))) - 1))) (M (M v0 56) (w32 (v3 + (-1))))) <| u1 fun (x10 : Int) => (bd_ (up_ M (M v0 56) (w32 ((w32 (v3 + (-1))) - 1)) x10) fun (M11 : AwM) => (some (.inl ((w32 (v3 + (-1))), (w32 (v4 + 1)), M11))))))) else gd_ ((kd_ sh (M v0 31)).1 = 1 ∧ (0 : Int) ≤ v4 ∧ v4 < ((kd_ sh (M v0 31)).2 : Int)) (pb (fX9_part sh M v0 (M (M v0 30) v4) (M (M v0 31) v4)) <| u1 fun (x18 : Int) => (gd_ ((kd_ sh (M v0 56)).1 = 2 ∧ (0 : Int) ≤ v3 ∧ v3 < ((kd_ sh (M v0 56)).2 : Int)) (bd_ (up_ M (M v0 56) v3 x18) fun (M20 : AwM) => (some (.inl ((w32 (v3 + 1)), (w32 (v4 + 1)), M20)))))))) else some (.inr M)))
def p_X9_reckons_L14 (Γ : AwC) (sh : AwS) (v0 : Int) (v2 : Int) (Q : State → Prop) (s : Int × Int × AwM) : Prop := AW Γ sh (s.2.2) 0 0 14 [some (.inr (.inr v0)), none, some (.inl v2), some (.inl (s.1)), some (.inl (s.2.1)), none] [] Q
def x_X9_reckons_L14 (Γ : AwC) (sh : AwS) (v0 : Int) (v2 : Int) (Q : State → Prop) : (AwM) → Prop := (fun (t : AwM) => AW Γ sh (t) 0 0 134 [some (.inr (.inr v0)), none, none, none, none, none] [] Q)
def fX9_reckons (sh : AwS) (M : AwM) (v0 : Int) (v1 : Int) (v2 : Int) : Option (Int × AwM) :=
  gd_ (kd_ sh v0 = (0, 9)) (pb (lp (u3 (fX9_reckons_L14 sh v0 v2)) FU (0, (w32 ((w32 (1600 * (M v0 13))) + v1)), M)) (u1 (fun (tq22 : AwM) => gd_ ((kd_ sh (tq22 v0 56)).1 = 2 ∧ (0 : Int) ≤ 0 ∧ 0 < ((kd_ sh (tq22 v0 56)).2 : Int)) (some ((tq22 (tq22 v0 56) 0), tq22)))))
set_option maxRecDepth 100000 in
set_option maxHeartbeats 4000000 in
theorem w_X9_reckons_L14 {Γ : AwC} (hC : AOK Γ RX9 cX9_reckons 6 3 0 0 "reckons" (some .long)) {sh : AwS} {v0 : Int} {v2 : Int} {Q : State → Prop} : ∀ s r, u3 (fX9_reckons_L14 sh v0 v2) s = some r → (∀ s', r = .inl s' → p_X9_reckons_L14 Γ sh v0 v2 Q s') → (∀ t, r = .inr t → x_X9_reckons_L14 Γ sh v0 v2 Q t) → p_X9_reckons_L14 Γ sh v0 v2 Q s := by
  intro s r h hL hX
  obtain ⟨v3, v4, M⟩ := s
  replace h := u3_s h
  unfold fX9_reckons_L14 at h
  show AW Γ sh M 0 0 14 [some (.inr (.inr v0)), none, some (.inl v2), some (.inl v3), some (.inl v4), none] [] Q
  refine aw_iload (pc' := 16) hC dX9_reckons_14 rfl rfl ?_
  refine aw_sipush (pc' := 19) hC dX9_reckons_16 rfl (by decide) ?_
  refine aw_aload_n (pc' := 20) (i := 0) hC dX9_reckons_19 rfl rfl rfl ?_
  obtain ⟨g2, h⟩ := gd_s h
  refine aw_getfield (pc' := 23) (v := (.inl (M v0 13))) hC dX9_reckons_20 rfl fl_X9_51 g2 rfl ?_
  refine aw_imul (pc' := 24) hC dX9_reckons_23 rfl  ?_
  refine aw_iload_n (pc' := 25) (i := 2) hC dX9_reckons_24 rfl rfl rfl ?_
  refine aw_iadd (pc' := 26) hC dX9_reckons_25 rfl  ?_
  refine aw_icmp_ge (tgt := 134) (pc' := 29) hC dX9_reckons_26 (by decide) rfl (fun c3 => ?_) (fun c3 => ?_)
  · replace h := it_n c3 h
    refine aw_sub hC [some (.inr (.inr v0)), none, none, none, none, none] ⟨rfl, trivial⟩ (Nat.le_of_ble_eq_true rfl) ?_
    cases h
    exact hX _ rfl
  · replace h := it_p c3 h
    refine aw_aload_n (pc' := 30) (i := 0) hC dX9_reckons_29 rfl rfl rfl ?_
    refine aw_getfield (pc' := 33) (v := (.inr (.inr (M v0 30)))) hC dX9_reckons_30 rfl fl_X9_102 g2 rfl ?_
    refine aw_iload (pc' := 35) hC dX9_reckons_33 rfl rfl ?_
    obtain ⟨g4, h⟩ := gd_s h
    refine aw_iaload (pc' := 36) hC dX9_reckons_35 rfl g4 ?_
    refine aw_istore (pc' := 38) (ls' := [some (.inr (.inr v0)), none, some (.inl v2), some (.inl v3), some (.inl v4), some (.inl (M (M v0 30) v4))]) hC dX9_reckons_36 rfl (Nat.le_of_ble_eq_true rfl) rfl rfl ?_
    refine aw_iload (pc' := 40) hC dX9_reckons_38 rfl rfl ?_
    refine aw_bipush (pc' := 42) hC dX9_reckons_40 rfl (by decide) ?_
    refine aw_icmp_gt (tgt := 70) (pc' := 45) hC dX9_reckons_42 (by decide) rfl (fun c5 => ?_) (fun c5 => ?_)
    · replace h := it_p c5 h
      refine aw_iload (pc' := 72) hC dX9_reckons_70 rfl rfl ?_
      refine aw_bipush (pc' := 74) hC dX9_reckons_72 rfl (by decide) ?_
      refine aw_icmp_ne (tgt := 98) (pc' := 77) hC dX9_reckons_74 (by decide) rfl (fun c6 => ?_) (fun c6 => ?_)
      · replace h := it_n c6 h
        refine aw_iinc (pc' := 101) (ls' := [some (.inr (.inr v0)), none, some (.inl v2), some (.inl (w32 (v3 + (-1)))), some (.inl v4), some (.inl (M (M v0 30) v4))]) hC dX9_reckons_98 rfl rfl rfl rfl ?_
        refine aw_aload_n (pc' := 102) (i := 0) hC dX9_reckons_101 rfl rfl rfl ?_
        refine aw_getfield (pc' := 105) (v := (.inr (.inr (M v0 56)))) hC dX9_reckons_102 rfl fl_X9_183 g2 rfl ?_
        refine aw_iload_n (pc' := 106) (i := 3) hC dX9_reckons_105 rfl rfl rfl ?_
        refine aw_iconst (pc' := 107) hC dX9_reckons_106 rfl (by decide) ?_
        refine aw_isub (pc' := 108) hC dX9_reckons_107 rfl  ?_
        refine aw_iload (pc' := 110) hC dX9_reckons_108 rfl rfl ?_
        refine aw_aload_n (pc' := 111) (i := 0) hC dX9_reckons_110 rfl rfl rfl ?_
        refine aw_getfield (pc' := 114) (v := (.inr (.inr (M v0 56)))) hC dX9_reckons_111 rfl fl_X9_183 g2 rfl ?_
        refine aw_iload_n (pc' := 115) (i := 3) hC dX9_reckons_114 rfl rfl rfl ?_
        refine aw_iconst (pc' := 116) hC dX9_reckons_115 rfl (by decide) ?_
        refine aw_isub (pc' := 117) hC dX9_reckons_116 rfl  ?_
        obtain ⟨g7, h⟩ := gd_s h
        refine aw_laload (pc' := 118) hC dX9_reckons_117 rfl g7 ?_
        refine aw_aload_n (pc' := 119) (i := 0) hC dX9_reckons_118 rfl rfl rfl ?_
        refine aw_getfield (pc' := 122) (v := (.inr (.inr (M v0 56)))) hC dX9_reckons_119 rfl fl_X9_183 g2 rfl ?_
        refine aw_iload_n (pc' := 123) (i := 3) hC dX9_reckons_122 rfl rfl rfl ?_
        obtain ⟨g8, h⟩ := gd_s h
        refine aw_laload (pc' := 124) hC dX9_reckons_123 rfl g8 ?_
        obtain ⟨x10, q9, h⟩ := pb_s h
        replace h := u1_s h
        refine aw_cS (pc' := 127) (k2 := 0) (n2 := 0) (st := [.inl (w32 ((w32 (v3 + (-1))) - 1)), .inr (.inr (M v0 56))]) (stN := [.inr (.inl x10), .inl (w32 ((w32 (v3 + (-1))) - 1)), .inr (.inr (M v0 56))]) hC [.inl (M (M v0 30) v4), .inr (.inl (M (M v0 56) (w32 ((w32 (v3 + (-1))) - 1)))), .inr (.inl (M (M v0 56) (w32 (v3 + (-1)))))] (mX9_two q9) lk_X9_438 dX9_reckons_124 rfl rfl (Nat.le_of_ble_eq_true rfl) (Nat.le_of_ble_eq_true rfl) (Nat.le_of_ble_eq_true rfl) rfl (Nat.le_of_ble_eq_true rfl) rfl rfl rfl ?_
        obtain ⟨M11, e12, h⟩ := bd_s h
        refine aw_las (pc' := 128) hC dX9_reckons_127 rfl g7 e12 ?_
        refine aw_iinc (pc' := 131) (ls' := [some (.inr (.inr v0)), none, some (.inl v2), some (.inl (w32 (v3 + (-1)))), some (.inl (w32 (v4 + 1))), some (.inl (M (M v0 30) v4))]) hC dX9_reckons_128 rfl rfl rfl rfl ?_
        refine aw_goto (tgt := 14) hC dX9_reckons_131 (by decide) ?_
        refine aw_sub hC [some (.inr (.inr v0)), none, some (.inl v2), some (.inl (w32 (v3 + (-1)))), some (.inl (w32 (v4 + 1))), none] ⟨rfl, ⟨rfl, ⟨rfl, ⟨rfl, trivial⟩⟩⟩⟩ (Nat.le_of_ble_eq_true rfl) ?_
        cases h
        exact hL _ rfl
      · replace h := it_p c6 h
        refine aw_aload_n (pc' := 78) (i := 0) hC dX9_reckons_77 rfl rfl rfl ?_
        refine aw_getfield (pc' := 81) (v := (.inr (.inr (M v0 56)))) hC dX9_reckons_78 rfl fl_X9_183 g2 rfl ?_
        refine aw_iload_n (pc' := 82) (i := 3) hC dX9_reckons_81 rfl rfl rfl ?_
        refine aw_iconst (pc' := 83) hC dX9_reckons_82 rfl (by decide) ?_
        refine aw_isub (pc' := 84) hC dX9_reckons_83 rfl  ?_
        refine aw_lconst (pc' := 85) (v := 1) hC dX9_reckons_84 rfl rfl (by decide) ?_
        refine aw_aload_n (pc' := 86) (i := 0) hC dX9_reckons_85 rfl rfl rfl ?_
        refine aw_getfield (pc' := 89) (v := (.inr (.inr (M v0 56)))) hC dX9_reckons_86 rfl fl_X9_183 g2 rfl ?_
        refine aw_iload_n (pc' := 90) (i := 3) hC dX9_reckons_89 rfl rfl rfl ?_
        refine aw_iconst (pc' := 91) hC dX9_reckons_90 rfl (by decide) ?_
        refine aw_isub (pc' := 92) hC dX9_reckons_91 rfl  ?_
        obtain ⟨g13, h⟩ := gd_s h
        refine aw_laload (pc' := 93) hC dX9_reckons_92 rfl g13 ?_
        refine aw_lsub (pc' := 94) hC dX9_reckons_93 rfl  ?_
        obtain ⟨M14, e15, h⟩ := bd_s h
        refine aw_las (pc' := 95) hC dX9_reckons_94 rfl g13 e15 ?_
        refine aw_goto (tgt := 128) hC dX9_reckons_95 (by decide) ?_
        refine aw_iinc (pc' := 131) (ls' := [some (.inr (.inr v0)), none, some (.inl v2), some (.inl v3), some (.inl (w32 (v4 + 1))), some (.inl (M (M v0 30) v4))]) hC dX9_reckons_128 rfl rfl rfl rfl ?_
        refine aw_goto (tgt := 14) hC dX9_reckons_131 (by decide) ?_
        refine aw_sub hC [some (.inr (.inr v0)), none, some (.inl v2), some (.inl v3), some (.inl (w32 (v4 + 1))), none] ⟨rfl, ⟨rfl, ⟨rfl, ⟨rfl, trivial⟩⟩⟩⟩ (Nat.le_of_ble_eq_true rfl) ?_
        cases h
        exact hL _ rfl
    · replace h := it_n c5 h
      refine aw_aload_n (pc' := 46) (i := 0) hC dX9_reckons_45 rfl rfl rfl ?_
      refine aw_getfield (pc' := 49) (v := (.inr (.inr (M v0 56)))) hC dX9_reckons_46 rfl fl_X9_183 g2 rfl ?_
      refine aw_iload_n (pc' := 50) (i := 3) hC dX9_reckons_49 rfl rfl rfl ?_
      refine aw_aload_n (pc' := 51) (i := 0) hC dX9_reckons_50 rfl rfl rfl ?_
      refine aw_iload (pc' := 53) hC dX9_reckons_51 rfl rfl ?_
      refine aw_aload_n (pc' := 54) (i := 0) hC dX9_reckons_53 rfl rfl rfl ?_
      refine aw_getfield (pc' := 57) (v := (.inr (.inr (M v0 31)))) hC dX9_reckons_54 rfl fl_X9_105 g2 rfl ?_
      refine aw_iload (pc' := 59) hC dX9_reckons_57 rfl rfl ?_
      obtain ⟨g16, h⟩ := gd_s h
      refine aw_iaload (pc' := 60) hC dX9_reckons_59 rfl g16 ?_
      obtain ⟨x18, q17, h⟩ := pb_s h
      replace h := u1_s h
      refine aw_cV (pc' := 63) (k2 := 0) (n2 := 0) (st := [.inl v3, .inr (.inr (M v0 56))]) (stN := [.inr (.inl x18), .inl v3, .inr (.inr (M v0 56))]) hC [.inl (M (M v0 30) v4), .inl (M (M v0 31) v4)] (mX9_part q17) lk_X9_434 g2 dX9_reckons_60 rfl rfl (Nat.le_of_ble_eq_true rfl) (Nat.le_of_ble_eq_true rfl) (Nat.le_of_ble_eq_true rfl) rfl (Nat.le_of_ble_eq_true rfl) rfl rfl rfl ?_
      obtain ⟨g19, h⟩ := gd_s h
      obtain ⟨M20, e21, h⟩ := bd_s h
      refine aw_las (pc' := 64) hC dX9_reckons_63 rfl g19 e21 ?_
      refine aw_iinc (pc' := 67) (ls' := [some (.inr (.inr v0)), none, some (.inl v2), some (.inl (w32 (v3 + 1))), some (.inl v4), some (.inl (M (M v0 30) v4))]) hC dX9_reckons_64 rfl rfl rfl rfl ?_
      refine aw_goto (tgt := 128) hC dX9_reckons_67 (by decide) ?_
      refine aw_iinc (pc' := 131) (ls' := [some (.inr (.inr v0)), none, some (.inl v2), some (.inl (w32 (v3 + 1))), some (.inl (w32 (v4 + 1))), some (.inl (M (M v0 30) v4))]) hC dX9_reckons_128 rfl rfl rfl rfl ?_
      refine aw_goto (tgt := 14) hC dX9_reckons_131 (by decide) ?_
      refine aw_sub hC [some (.inr (.inr v0)), none, some (.inl v2), some (.inl (w32 (v3 + 1))), some (.inl (w32 (v4 + 1))), none] ⟨rfl, ⟨rfl, ⟨rfl, ⟨rfl, trivial⟩⟩⟩⟩ (Nat.le_of_ble_eq_true rfl) ?_
      cases h
      exact hL _ rfl
set_option maxRecDepth 100000 in
set_option maxHeartbeats 4000000 in
theorem mX9_reckons {sh : AwS} {M : AwM} {v0 : Int} {v1 : Int} {v2 : Int} {r : Int} {M' : AwM} (h : fX9_reckons sh M v0 v1 v2 = some (r, M')) : AMet yX9_reckons cX9_reckons 6 (some .long) 3 0 0 [.inr (.inr v0), .inl v1, .inl v2] sh M (some (.inr (.inl r))) sh M' := by
  refine amet_of (by decide +kernel) (Nat.le_of_ble_eq_true rfl) (fun Γ hC => ?_)
  replace hC : AOK Γ RX9 cX9_reckons 6 3 0 0 "reckons" (some .long) := hC
  unfold fX9_reckons at h
  refine aw_sub hC [some (.inr (.inr v0)), some (.inl v1), some (.inl v2), none, none, none] ⟨rfl, ⟨rfl, ⟨rfl, trivial⟩⟩⟩ (Nat.le_of_ble_eq_true rfl) ?_
  refine aw_iconst (pc' := 1) hC dX9_reckons_0 rfl (by decide) ?_
  refine aw_istore_n (pc' := 2) (i := 3) (ls' := [some (.inr (.inr v0)), some (.inl v1), some (.inl v2), some (.inl 0), none, none]) hC dX9_reckons_1 rfl rfl (Nat.le_of_ble_eq_true rfl) rfl rfl ?_
  refine aw_sipush (pc' := 5) hC dX9_reckons_2 rfl (by decide) ?_
  refine aw_aload_n (pc' := 6) (i := 0) hC dX9_reckons_5 rfl rfl rfl ?_
  obtain ⟨g1, h⟩ := gd_s h
  refine aw_getfield (pc' := 9) (v := (.inl (M v0 13))) hC dX9_reckons_6 rfl fl_X9_51 g1 rfl ?_
  refine aw_imul (pc' := 10) hC dX9_reckons_9 rfl  ?_
  refine aw_iload_n (pc' := 11) (i := 1) hC dX9_reckons_10 rfl rfl rfl ?_
  refine aw_iadd (pc' := 12) hC dX9_reckons_11 rfl  ?_
  refine aw_istore (pc' := 14) (ls' := [some (.inr (.inr v0)), some (.inl v1), some (.inl v2), some (.inl 0), some (.inl (w32 ((w32 (1600 * (M v0 13))) + v1))), none]) hC dX9_reckons_12 rfl (Nat.le_of_ble_eq_true rfl) rfl rfl ?_
  obtain ⟨tq22, q22, h⟩ := pb_s h
  refine aw_sub hC [some (.inr (.inr v0)), none, some (.inl v2), some (.inl 0), some (.inl (w32 ((w32 (1600 * (M v0 13))) + v1))), none] ⟨rfl, ⟨rfl, ⟨rfl, ⟨rfl, trivial⟩⟩⟩⟩ (Nat.le_of_ble_eq_true rfl) ?_
  refine (lp_aw (p_X9_reckons_L14 Γ sh v0 v2 (fin_ Γ 0 0 (some (.inr (.inl r))) sh M')) (x_X9_reckons_L14 Γ sh v0 v2 (fin_ Γ 0 0 (some (.inr (.inl r))) sh M')) (w_X9_reckons_L14 hC ) FU _ _ q22 ?_ : p_X9_reckons_L14 Γ sh v0 v2 (fin_ Γ 0 0 (some (.inr (.inl r))) sh M') (0, (w32 ((w32 (1600 * (M v0 13))) + v1)), M))
  replace h := u1_s h
  show AW Γ sh tq22 0 0 134 [some (.inr (.inr v0)), none, none, none, none, none] [] _
  refine aw_aload_n (pc' := 135) (i := 0) hC dX9_reckons_134 rfl rfl rfl ?_
  refine aw_getfield (pc' := 138) (v := (.inr (.inr (tq22 v0 56)))) hC dX9_reckons_135 rfl fl_X9_183 g1 rfl ?_
  refine aw_iconst (pc' := 139) hC dX9_reckons_138 rfl (by decide) ?_
  obtain ⟨g23, h⟩ := gd_s h
  refine aw_laload (pc' := 140) hC dX9_reckons_139 rfl g23 ?_
  cases h
  exact aw_lret hC dX9_reckons_140 (Nat.le_of_ble_eq_true rfl) (Nat.le_of_ble_eq_true rfl)
